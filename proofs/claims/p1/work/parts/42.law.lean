/-! ===== the law, from behind the constructors ===== -/
def zl_X : List String := ["java/lang/IndexOutOfBoundsException", "java/lang/IllegalArgumentException", "java/lang/IllegalStateException", "java/util/NoSuchElementException"]
def zl_B : List Cond := [(Cond.castable "java/lang/IndexOutOfBoundsException" "java/lang/IndexOutOfBoundsException"), (Cond.declares ({ cls := "java/lang/RuntimeException", name := "<init>", desc := "()V" } : MethodName)), (Cond.declares ({ cls := "java/lang/RuntimeException", name := "<init>", desc := "(Ljava/lang/String;)V" } : MethodName)), (Cond.declares ({ cls := "java/lang/Exception", name := "<init>", desc := "()V" } : MethodName)), (Cond.declares ({ cls := "java/lang/Exception", name := "<init>", desc := "(Ljava/lang/String;)V" } : MethodName)), (Cond.declares ({ cls := "java/lang/Throwable", name := "<init>", desc := "()V" } : MethodName)), (Cond.declares ({ cls := "java/lang/Throwable", name := "<init>", desc := "(Ljava/lang/String;)V" } : MethodName)), (Cond.privateMethod ({ cls := "java/lang/Throwable", name := "fillInStackTrace", desc := "(I)Ljava/lang/Throwable;" } : MethodName)), (Cond.castable "java/lang/IllegalArgumentException" "java/lang/IllegalArgumentException"), (Cond.castable "java/lang/IllegalStateException" "java/lang/IllegalStateException"), (Cond.castable "java/util/NoSuchElementException" "java/util/NoSuchElementException")]
def zl_N : List (String × String) := [("java/lang/IllegalStateException", "java/lang/IllegalArgumentException")]
noncomputable def zl_t900 : List (Nat × zx_F) := [(7, zy_thr 0)]
noncomputable def zl_p900 (q : Nat) : Option Nat := match q with
  | 0 => some 12
  | _ => none
noncomputable def zl_f900 (o : zx_O) (as : List Value) (h : zx_H) (sl : Nat) : zx_R := zy_call0m (zu_P o) (zk_mm zA_l) 400000 9 (zm_58 o) zl_t900 as h sl
noncomputable def zl_c900 (o : zx_O) : List (Nat × zx_F) := [(4, zy_cc (zl_f900 o) 2 12 zl_p900 7)]
noncomputable def zl_h900 (o : zx_O) (as : List Value) (h : zx_H) (sl : Nat) : zx_R := zy_hcall (zu_P o) 400000 10 (zm_900 o) (zl_c900 o) as h sl
theorem zl_to900 {o : zx_O} {G : zx_G} (ho : zx_oo G.2.2.2.1 o) (hl : zx_ll G.2.2.2.1) (hA : zx_ad (zu_P o) G) (hO : zx_ho (zu_P o) G zu_O) (hX : ∀ s, G.2.2.2.2.2.2 s → zy_B zl_B zl_N G.2.2.2.2.1 G.2.2.2.2.2.1 s) (hlt : G.1.stackTraces = false) (k0 s0 : Nat) (res : zx_T) : ∀ q ∈ zl_t900, zx_okF (zu_P o) G (zm_58 o) (zy_EX zl_X (zu_P o) G k0 s0 res) 9 k0 s0 res q.1 q.2 := List.forall_mem_cons.mpr ⟨zy_thr_ok (X := zl_X) (cls := "java/lang/IndexOutOfBoundsException") (names := ["java/lang/RuntimeException", "java/lang/Exception"]) (ik := 105) (ic := 107) hX rfl hlt (by decide +kernel) (by decide +kernel) zu_m1715 zu_m1709 (by show ∀ w ∈ vx_at0 "ChainHouse" 107 "java/lang/IndexOutOfBoundsException" ["java/lang/RuntimeException", "java/lang/Exception"], w ∈ zu_ws ∨ w ∈ zl_B; decide +kernel) (by show ∀ w ∈ Cond.classLink "ChainHouse" 105 "java/lang/IndexOutOfBoundsException" :: Cond.initialized "java/lang/IndexOutOfBoundsException" :: vx_at0 "ChainHouse" 107 "java/lang/IndexOutOfBoundsException" ["java/lang/RuntimeException", "java/lang/Exception"], vx_ot w = true; decide +kernel) (by decide) (by decide) (by show decode prog_1_method_7_code _ = _; decide +kernel) (by show decode prog_1_method_7_code _ = _; decide +kernel) (by show decode prog_1_method_7_code _ = _; decide +kernel) (by show decode prog_1_method_7_code _ = _; decide +kernel),  fun _ h => absurd h List.not_mem_nil⟩
theorem zl_fo900 {o : zx_O} {G : zx_G} (ho : zx_oo G.2.2.2.1 o) (hl : zx_ll G.2.2.2.1) (hA : zx_ad (zu_P o) G) (hO : zx_ho (zu_P o) G zu_O) (hX : ∀ s, G.2.2.2.2.2.2 s → zy_B zl_B zl_N G.2.2.2.2.1 G.2.2.2.2.2.1 s) (hlt : G.1.stackTraces = false) : ∀ as h sl rr, zl_f900 o as h sl = some rr → zy_met zl_X (zu_P o) G 9 (zm_58 o) as h sl rr := fun _ _ _ _ hr => zy_call0m_ok (zo_all ho hl hA hO) (zA_mm hl hA hO) (zh_58 o) (zo_58 ho hl hA hO) (zl_to900 ho hl hA hO hX hlt) hr
theorem zl_ca900_0 {o : zx_O} {G : zx_G} (hX : ∀ s, G.2.2.2.2.2.2 s → zy_B zl_B zl_N G.2.2.2.2.1 G.2.2.2.2.2.1 s) : zy_cat (zu_P o) G (zm_900 o) [(0, 9, 12, 13), (0, 9, 15, 15)] 4 "java/lang/IndexOutOfBoundsException" 12 := by
  intro p l e R s m args below meth c C ht H locs cells slots Q ls rest ce a h1 h2 h3 k
  have hXs : zy_B zl_B zl_N G.2.2.2.2.1 G.2.2.2.2.2.1 s := hX s C.2.2.2.2.2.2.2.2.2.2.2.2.2.2
  have hw := hXs.1 (Cond.castable "java/lang/IndexOutOfBoundsException" "java/lang/IndexOutOfBoundsException") (by decide +kernel)
  exact vx_catch (own := "ChainHouseLaw") (name := "java/lang/IndexOutOfBoundsException") C.2.2.2.2.1 [] ⟨0, 9, 12, 13⟩ [⟨0, 9, 15, 15⟩] (by rw [ht]; rfl) (fun z hz => absurd hz List.not_mem_nil) (by decide) (by decide) (C.2.2.2.2.2.1 _ zu_m1713) (va_tabs hw.2.1 rfl hw.2.2) h1 h2 h3 k
theorem zl_co900 {o : zx_O} {G : zx_G} (ho : zx_oo G.2.2.2.1 o) (hl : zx_ll G.2.2.2.1) (hA : zx_ad (zu_P o) G) (hO : zx_ho (zu_P o) G zu_O) (hX : ∀ s, G.2.2.2.2.2.2 s → zy_B zl_B zl_N G.2.2.2.2.1 G.2.2.2.2.2.1 s) (hlt : G.1.stackTraces = false) (k0 s0 : Nat) (res : zx_T) : ∀ q ∈ zl_c900 o, zx_okF (zu_P o) G (zm_900 o) (zy_EH [(0, 9, 12, 13), (0, 9, 15, 15)] (zu_P o) G k0 s0 res) 10 k0 s0 res q.1 q.2 := by
  intro q hq
  obtain rfl := List.mem_singleton.mp hq
  refine zy_cc_ok (X := zl_X) (d2 := 9) (M2 := zm_58 o) (r := (RX12, TX12, 15)) (by decide) rfl (zh_58 o) zu_good zu_m1807 zu_m1808 zu_m292 (by show (parseMethodDescriptor "(I)I").map _ = _; decide +kernel) (by show decode method_3_code 4 = _; decide +kernel) (zl_fo900 ho hl hA hO hX hlt) ?_
  intro q t hq E hE
  unfold zl_p900 at hq
  split at hq
  · cases hq
    have hE2 : some "java/lang/IndexOutOfBoundsException" = some E := hE
    cases hE2
    exact zl_ca900_0 hX
  · cases hq
theorem zl_ho900 {o : zx_O} {G : zx_G} (ho : zx_oo G.2.2.2.1 o) (hl : zx_ll G.2.2.2.1) (hA : zx_ad (zu_P o) G) (hO : zx_ho (zu_P o) G zu_O) (hX : ∀ s, G.2.2.2.2.2.2 s → zy_B zl_B zl_N G.2.2.2.2.1 G.2.2.2.2.2.1 s) (hlt : G.1.stackTraces = false) : ∀ as h sl rr, zl_h900 o as h sl = some rr → zy_hmet [(0, 9, 12, 13), (0, 9, 15, 15)] (zu_P o) G 10 (zm_900 o) as h sl rr := fun _ _ _ _ hr => zy_hcall_ok (zo_all ho hl hA hO) (by show plainName "ChainHouseLaw" = true; decide +kernel) (zo_900 ho hl hA hO) (zl_co900 ho hl hA hO hX hlt) hr
noncomputable def zl_t901 : List (Nat × zx_F) := [(7, zy_thr 0)]
noncomputable def zl_p901 (q : Nat) : Option Nat := match q with
  | 0 => some 12
  | _ => none
noncomputable def zl_f901 (o : zx_O) (as : List Value) (h : zx_H) (sl : Nat) : zx_R := zy_call0 (zu_P o) 400000 9 (zm_68 o) zl_t901 as h sl
noncomputable def zl_c901 (o : zx_O) : List (Nat × zx_F) := [(4, zy_cc (zl_f901 o) 2 12 zl_p901 7)]
noncomputable def zl_h901 (o : zx_O) (as : List Value) (h : zx_H) (sl : Nat) : zx_R := zy_hcall (zu_P o) 400000 10 (zm_901 o) (zl_c901 o) as h sl
theorem zl_to901 {o : zx_O} {G : zx_G} (ho : zx_oo G.2.2.2.1 o) (hl : zx_ll G.2.2.2.1) (hA : zx_ad (zu_P o) G) (hO : zx_ho (zu_P o) G zu_O) (hX : ∀ s, G.2.2.2.2.2.2 s → zy_B zl_B zl_N G.2.2.2.2.1 G.2.2.2.2.2.1 s) (hlt : G.1.stackTraces = false) (k0 s0 : Nat) (res : zx_T) : ∀ q ∈ zl_t901, zx_okF (zu_P o) G (zm_68 o) (zy_EX zl_X (zu_P o) G k0 s0 res) 9 k0 s0 res q.1 q.2 := List.forall_mem_cons.mpr ⟨zy_thr_ok (X := zl_X) (cls := "java/lang/IndexOutOfBoundsException") (names := ["java/lang/RuntimeException", "java/lang/Exception"]) (ik := 105) (ic := 107) hX rfl hlt (by decide +kernel) (by decide +kernel) zu_m1715 zu_m1709 (by show ∀ w ∈ vx_at0 "ChainHouse" 107 "java/lang/IndexOutOfBoundsException" ["java/lang/RuntimeException", "java/lang/Exception"], w ∈ zu_ws ∨ w ∈ zl_B; decide +kernel) (by show ∀ w ∈ Cond.classLink "ChainHouse" 105 "java/lang/IndexOutOfBoundsException" :: Cond.initialized "java/lang/IndexOutOfBoundsException" :: vx_at0 "ChainHouse" 107 "java/lang/IndexOutOfBoundsException" ["java/lang/RuntimeException", "java/lang/Exception"], vx_ot w = true; decide +kernel) (by decide) (by decide) (by show decode prog_1_method_15_code _ = _; decide +kernel) (by show decode prog_1_method_15_code _ = _; decide +kernel) (by show decode prog_1_method_15_code _ = _; decide +kernel) (by show decode prog_1_method_15_code _ = _; decide +kernel),  fun _ h => absurd h List.not_mem_nil⟩
theorem zl_fo901 {o : zx_O} {G : zx_G} (ho : zx_oo G.2.2.2.1 o) (hl : zx_ll G.2.2.2.1) (hA : zx_ad (zu_P o) G) (hO : zx_ho (zu_P o) G zu_O) (hX : ∀ s, G.2.2.2.2.2.2 s → zy_B zl_B zl_N G.2.2.2.2.1 G.2.2.2.2.2.1 s) (hlt : G.1.stackTraces = false) : ∀ as h sl rr, zl_f901 o as h sl = some rr → zy_met zl_X (zu_P o) G 9 (zm_68 o) as h sl rr := fun _ _ _ _ hr => zy_call0_ok (zo_all ho hl hA hO) (zh_68 o) (zo_68 ho hl hA hO) (zl_to901 ho hl hA hO hX hlt) hr
theorem zl_ca901_0 {o : zx_O} {G : zx_G} (hX : ∀ s, G.2.2.2.2.2.2 s → zy_B zl_B zl_N G.2.2.2.2.1 G.2.2.2.2.2.1 s) : zy_cat (zu_P o) G (zm_901 o) [(0, 9, 12, 13)] 4 "java/lang/IndexOutOfBoundsException" 12 := by
  intro p l e R s m args below meth c C ht H locs cells slots Q ls rest ce a h1 h2 h3 k
  have hXs : zy_B zl_B zl_N G.2.2.2.2.1 G.2.2.2.2.2.1 s := hX s C.2.2.2.2.2.2.2.2.2.2.2.2.2.2
  have hw := hXs.1 (Cond.castable "java/lang/IndexOutOfBoundsException" "java/lang/IndexOutOfBoundsException") (by decide +kernel)
  exact vx_catch (own := "ChainHouseLaw") (name := "java/lang/IndexOutOfBoundsException") C.2.2.2.2.1 [] ⟨0, 9, 12, 13⟩ [] (by rw [ht]; rfl) (fun z hz => absurd hz List.not_mem_nil) (by decide) (by decide) (C.2.2.2.2.2.1 _ zu_m1713) (va_tabs hw.2.1 rfl hw.2.2) h1 h2 h3 k
theorem zl_co901 {o : zx_O} {G : zx_G} (ho : zx_oo G.2.2.2.1 o) (hl : zx_ll G.2.2.2.1) (hA : zx_ad (zu_P o) G) (hO : zx_ho (zu_P o) G zu_O) (hX : ∀ s, G.2.2.2.2.2.2 s → zy_B zl_B zl_N G.2.2.2.2.1 G.2.2.2.2.2.1 s) (hlt : G.1.stackTraces = false) (k0 s0 : Nat) (res : zx_T) : ∀ q ∈ zl_c901 o, zx_okF (zu_P o) G (zm_901 o) (zy_EH [(0, 9, 12, 13)] (zu_P o) G k0 s0 res) 10 k0 s0 res q.1 q.2 := by
  intro q hq
  obtain rfl := List.mem_singleton.mp hq
  refine zy_cc_ok (X := zl_X) (d2 := 9) (M2 := zm_68 o) (r := (RX12, TX12, 15)) (by decide) rfl (zh_68 o) zu_good zu_m1815 zu_m1816 zu_m294 (by show (parseMethodDescriptor "(I)I").map _ = _; decide +kernel) (by show decode method_5_code 4 = _; decide +kernel) (zl_fo901 ho hl hA hO hX hlt) ?_
  intro q t hq E hE
  unfold zl_p901 at hq
  split at hq
  · cases hq
    have hE2 : some "java/lang/IndexOutOfBoundsException" = some E := hE
    cases hE2
    exact zl_ca901_0 hX
  · cases hq
theorem zl_ho901 {o : zx_O} {G : zx_G} (ho : zx_oo G.2.2.2.1 o) (hl : zx_ll G.2.2.2.1) (hA : zx_ad (zu_P o) G) (hO : zx_ho (zu_P o) G zu_O) (hX : ∀ s, G.2.2.2.2.2.2 s → zy_B zl_B zl_N G.2.2.2.2.1 G.2.2.2.2.2.1 s) (hlt : G.1.stackTraces = false) : ∀ as h sl rr, zl_h901 o as h sl = some rr → zy_hmet [(0, 9, 12, 13)] (zu_P o) G 10 (zm_901 o) as h sl rr := fun _ _ _ _ hr => zy_hcall_ok (zo_all ho hl hA hO) (by show plainName "ChainHouseLaw" = true; decide +kernel) (zo_901 ho hl hA hO) (zl_co901 ho hl hA hO hX hlt) hr
noncomputable def zl_t903 : List (Nat × zx_F) := [(11, zy_thr 1), (43, zy_thr 2)]
noncomputable def zl_p903 (q : Nat) : Option Nat := match q with
  | 1 => some 13
  | 2 => some 17
  | _ => none
noncomputable def zl_f903 (o : zx_O) (as : List Value) (h : zx_H) (sl : Nat) : zx_R := zy_call0 (zu_P o) 400000 9 (zm_88 o) zl_t903 as h sl
noncomputable def zl_c903 (o : zx_O) : List (Nat × zx_F) := [(5, zy_cc (zl_f903 o) 3 12 zl_p903 8)]
noncomputable def zl_h903 (o : zx_O) (as : List Value) (h : zx_H) (sl : Nat) : zx_R := zy_hcall (zu_P o) 400000 10 (zm_903 o) (zl_c903 o) as h sl
theorem zl_to903 {o : zx_O} {G : zx_G} (ho : zx_oo G.2.2.2.1 o) (hl : zx_ll G.2.2.2.1) (hA : zx_ad (zu_P o) G) (hO : zx_ho (zu_P o) G zu_O) (hX : ∀ s, G.2.2.2.2.2.2 s → zy_B zl_B zl_N G.2.2.2.2.1 G.2.2.2.2.2.1 s) (hlt : G.1.stackTraces = false) (k0 s0 : Nat) (res : zx_T) : ∀ q ∈ zl_t903, zx_okF (zu_P o) G (zm_88 o) (zy_EX zl_X (zu_P o) G k0 s0 res) 9 k0 s0 res q.1 q.2 := List.forall_mem_cons.mpr ⟨zy_thr_ok (X := zl_X) (cls := "java/lang/IllegalArgumentException") (names := ["java/lang/RuntimeException", "java/lang/Exception"]) (ik := 125) (ic := 127) hX rfl hlt (by decide +kernel) (by decide +kernel) zu_m1763 zu_m1710 (by show ∀ w ∈ vx_at0 "ChainHouse" 127 "java/lang/IllegalArgumentException" ["java/lang/RuntimeException", "java/lang/Exception"], w ∈ zu_ws ∨ w ∈ zl_B; decide +kernel) (by show ∀ w ∈ Cond.classLink "ChainHouse" 125 "java/lang/IllegalArgumentException" :: Cond.initialized "java/lang/IllegalArgumentException" :: vx_at0 "ChainHouse" 127 "java/lang/IllegalArgumentException" ["java/lang/RuntimeException", "java/lang/Exception"], vx_ot w = true; decide +kernel) (by decide) (by decide) (by show decode prog_1_method_17_code _ = _; decide +kernel) (by show decode prog_1_method_17_code _ = _; decide +kernel) (by show decode prog_1_method_17_code _ = _; decide +kernel) (by show decode prog_1_method_17_code _ = _; decide +kernel), List.forall_mem_cons.mpr ⟨zy_thr_ok (X := zl_X) (cls := "java/lang/IllegalStateException") (names := ["java/lang/RuntimeException", "java/lang/Exception"]) (ik := 171) (ic := 173) hX rfl hlt (by decide +kernel) (by decide +kernel) zu_m1777 zu_m1711 (by show ∀ w ∈ vx_at0 "ChainHouse" 173 "java/lang/IllegalStateException" ["java/lang/RuntimeException", "java/lang/Exception"], w ∈ zu_ws ∨ w ∈ zl_B; decide +kernel) (by show ∀ w ∈ Cond.classLink "ChainHouse" 171 "java/lang/IllegalStateException" :: Cond.initialized "java/lang/IllegalStateException" :: vx_at0 "ChainHouse" 173 "java/lang/IllegalStateException" ["java/lang/RuntimeException", "java/lang/Exception"], vx_ot w = true; decide +kernel) (by decide) (by decide) (by show decode prog_1_method_17_code _ = _; decide +kernel) (by show decode prog_1_method_17_code _ = _; decide +kernel) (by show decode prog_1_method_17_code _ = _; decide +kernel) (by show decode prog_1_method_17_code _ = _; decide +kernel),  fun _ h => absurd h List.not_mem_nil⟩⟩
theorem zl_fo903 {o : zx_O} {G : zx_G} (ho : zx_oo G.2.2.2.1 o) (hl : zx_ll G.2.2.2.1) (hA : zx_ad (zu_P o) G) (hO : zx_ho (zu_P o) G zu_O) (hX : ∀ s, G.2.2.2.2.2.2 s → zy_B zl_B zl_N G.2.2.2.2.1 G.2.2.2.2.2.1 s) (hlt : G.1.stackTraces = false) : ∀ as h sl rr, zl_f903 o as h sl = some rr → zy_met zl_X (zu_P o) G 9 (zm_88 o) as h sl rr := fun _ _ _ _ hr => zy_call0_ok (zo_all ho hl hA hO) (zh_88 o) (zo_88 ho hl hA hO) (zl_to903 ho hl hA hO hX hlt) hr
theorem zl_ca903_1 {o : zx_O} {G : zx_G} (hX : ∀ s, G.2.2.2.2.2.2 s → zy_B zl_B zl_N G.2.2.2.2.1 G.2.2.2.2.2.1 s) : zy_cat (zu_P o) G (zm_903 o) [(0, 10, 13, 15), (0, 10, 17, 27)] 5 "java/lang/IllegalArgumentException" 13 := by
  intro p l e R s m args below meth c C ht H locs cells slots Q ls rest ce a h1 h2 h3 k
  have hXs : zy_B zl_B zl_N G.2.2.2.2.1 G.2.2.2.2.2.1 s := hX s C.2.2.2.2.2.2.2.2.2.2.2.2.2.2
  have hw := hXs.1 (Cond.castable "java/lang/IllegalArgumentException" "java/lang/IllegalArgumentException") (by decide +kernel)
  exact vx_catch (own := "ChainHouseLaw") (name := "java/lang/IllegalArgumentException") C.2.2.2.2.1 [] ⟨0, 10, 13, 15⟩ [⟨0, 10, 17, 27⟩] (by rw [ht]; rfl) (fun z hz => absurd hz List.not_mem_nil) (by decide) (by decide) (C.2.2.2.2.2.1 _ zu_m1714) (va_tabs hw.2.1 rfl hw.2.2) h1 h2 h3 k
theorem zl_ca903_2 {o : zx_O} {G : zx_G} (hX : ∀ s, G.2.2.2.2.2.2 s → zy_B zl_B zl_N G.2.2.2.2.1 G.2.2.2.2.2.1 s) : zy_cat (zu_P o) G (zm_903 o) [(0, 10, 13, 15), (0, 10, 17, 27)] 5 "java/lang/IllegalStateException" 17 := by
  intro p l e R s m args below meth c C ht H locs cells slots Q ls rest ce a h1 h2 h3 k
  have hXs : zy_B zl_B zl_N G.2.2.2.2.1 G.2.2.2.2.2.1 s := hX s C.2.2.2.2.2.2.2.2.2.2.2.2.2.2
  have hw := hXs.1 (Cond.castable "java/lang/IllegalStateException" "java/lang/IllegalStateException") (by decide +kernel)
  exact vx_catch (own := "ChainHouseLaw") (name := "java/lang/IllegalStateException") C.2.2.2.2.1 [⟨0, 10, 13, 15⟩] ⟨0, 10, 17, 27⟩ [] (by rw [ht]; rfl) (fun z hz => by
    obtain rfl := List.mem_singleton.mp hz
    exact Or.inr ⟨by decide, "java/lang/IllegalArgumentException", C.2.2.2.2.2.1 _ zu_m1714, hXs.2.2 ("java/lang/IllegalStateException", "java/lang/IllegalArgumentException") (by decide +kernel)⟩) (by decide) (by decide) (C.2.2.2.2.2.1 _ zu_m1776) (va_tabs hw.2.1 rfl hw.2.2) h1 h2 h3 k
theorem zl_co903 {o : zx_O} {G : zx_G} (ho : zx_oo G.2.2.2.1 o) (hl : zx_ll G.2.2.2.1) (hA : zx_ad (zu_P o) G) (hO : zx_ho (zu_P o) G zu_O) (hX : ∀ s, G.2.2.2.2.2.2 s → zy_B zl_B zl_N G.2.2.2.2.1 G.2.2.2.2.2.1 s) (hlt : G.1.stackTraces = false) (k0 s0 : Nat) (res : zx_T) : ∀ q ∈ zl_c903 o, zx_okF (zu_P o) G (zm_903 o) (zy_EH [(0, 10, 13, 15), (0, 10, 17, 27)] (zu_P o) G k0 s0 res) 10 k0 s0 res q.1 q.2 := by
  intro q hq
  obtain rfl := List.mem_singleton.mp hq
  refine zy_cc_ok (X := zl_X) (d2 := 9) (M2 := zm_88 o) (r := (RX12, TX12, 15)) (by decide) rfl (zh_88 o) zu_good zu_m1819 zu_m1820 zu_m295 (by show (parseMethodDescriptor "(IZ)I").map _ = _; decide +kernel) (by show decode method_6_code 5 = _; decide +kernel) (zl_fo903 ho hl hA hO hX hlt) ?_
  intro q t hq E hE
  unfold zl_p903 at hq
  split at hq
  · cases hq
    have hE2 : some "java/lang/IllegalArgumentException" = some E := hE
    cases hE2
    exact zl_ca903_1 hX
  · cases hq
    have hE2 : some "java/lang/IllegalStateException" = some E := hE
    cases hE2
    exact zl_ca903_2 hX
  · cases hq
theorem zl_ho903 {o : zx_O} {G : zx_G} (ho : zx_oo G.2.2.2.1 o) (hl : zx_ll G.2.2.2.1) (hA : zx_ad (zu_P o) G) (hO : zx_ho (zu_P o) G zu_O) (hX : ∀ s, G.2.2.2.2.2.2 s → zy_B zl_B zl_N G.2.2.2.2.1 G.2.2.2.2.2.1 s) (hlt : G.1.stackTraces = false) : ∀ as h sl rr, zl_h903 o as h sl = some rr → zy_hmet [(0, 10, 13, 15), (0, 10, 17, 27)] (zu_P o) G 10 (zm_903 o) as h sl rr := fun _ _ _ _ hr => zy_hcall_ok (zo_all ho hl hA hO) (by show plainName "ChainHouseLaw" = true; decide +kernel) (zo_903 ho hl hA hO) (zl_co903 ho hl hA hO hX hlt) hr
noncomputable def zl_t904 : List (Nat × zx_F) := [(7, zy_thr 0)]
noncomputable def zl_p904 (q : Nat) : Option Nat := match q with
  | 0 => some 12
  | _ => none
noncomputable def zl_f904 (o : zx_O) (as : List Value) (h : zx_H) (sl : Nat) : zx_R := zy_call0 (zu_P o) 400000 9 (zm_120 o) zl_t904 as h sl
noncomputable def zl_c904 (o : zx_O) : List (Nat × zx_F) := [(4, zy_cc (zl_f904 o) 2 12 zl_p904 7)]
noncomputable def zl_h904 (o : zx_O) (as : List Value) (h : zx_H) (sl : Nat) : zx_R := zy_hcall (zu_P o) 400000 10 (zm_904 o) (zl_c904 o) as h sl
theorem zl_to904 {o : zx_O} {G : zx_G} (ho : zx_oo G.2.2.2.1 o) (hl : zx_ll G.2.2.2.1) (hA : zx_ad (zu_P o) G) (hO : zx_ho (zu_P o) G zu_O) (hX : ∀ s, G.2.2.2.2.2.2 s → zy_B zl_B zl_N G.2.2.2.2.1 G.2.2.2.2.2.1 s) (hlt : G.1.stackTraces = false) (k0 s0 : Nat) (res : zx_T) : ∀ q ∈ zl_t904, zx_okF (zu_P o) G (zm_120 o) (zy_EX zl_X (zu_P o) G k0 s0 res) 9 k0 s0 res q.1 q.2 := List.forall_mem_cons.mpr ⟨zy_thr_ok (X := zl_X) (cls := "java/lang/IndexOutOfBoundsException") (names := ["java/lang/RuntimeException", "java/lang/Exception"]) (ik := 105) (ic := 107) hX rfl hlt (by decide +kernel) (by decide +kernel) zu_m1715 zu_m1709 (by show ∀ w ∈ vx_at0 "ChainHouse" 107 "java/lang/IndexOutOfBoundsException" ["java/lang/RuntimeException", "java/lang/Exception"], w ∈ zu_ws ∨ w ∈ zl_B; decide +kernel) (by show ∀ w ∈ Cond.classLink "ChainHouse" 105 "java/lang/IndexOutOfBoundsException" :: Cond.initialized "java/lang/IndexOutOfBoundsException" :: vx_at0 "ChainHouse" 107 "java/lang/IndexOutOfBoundsException" ["java/lang/RuntimeException", "java/lang/Exception"], vx_ot w = true; decide +kernel) (by decide) (by decide) (by show decode prog_1_method_9_code _ = _; decide +kernel) (by show decode prog_1_method_9_code _ = _; decide +kernel) (by show decode prog_1_method_9_code _ = _; decide +kernel) (by show decode prog_1_method_9_code _ = _; decide +kernel),  fun _ h => absurd h List.not_mem_nil⟩
theorem zl_fo904 {o : zx_O} {G : zx_G} (ho : zx_oo G.2.2.2.1 o) (hl : zx_ll G.2.2.2.1) (hA : zx_ad (zu_P o) G) (hO : zx_ho (zu_P o) G zu_O) (hX : ∀ s, G.2.2.2.2.2.2 s → zy_B zl_B zl_N G.2.2.2.2.1 G.2.2.2.2.2.1 s) (hlt : G.1.stackTraces = false) : ∀ as h sl rr, zl_f904 o as h sl = some rr → zy_met zl_X (zu_P o) G 9 (zm_120 o) as h sl rr := fun _ _ _ _ hr => zy_call0_ok (zo_all ho hl hA hO) (zh_120 o) (zo_120 ho hl hA hO) (zl_to904 ho hl hA hO hX hlt) hr
theorem zl_ca904_0 {o : zx_O} {G : zx_G} (hX : ∀ s, G.2.2.2.2.2.2 s → zy_B zl_B zl_N G.2.2.2.2.1 G.2.2.2.2.2.1 s) : zy_cat (zu_P o) G (zm_904 o) [(0, 9, 12, 13)] 4 "java/lang/IndexOutOfBoundsException" 12 := by
  intro p l e R s m args below meth c C ht H locs cells slots Q ls rest ce a h1 h2 h3 k
  have hXs : zy_B zl_B zl_N G.2.2.2.2.1 G.2.2.2.2.2.1 s := hX s C.2.2.2.2.2.2.2.2.2.2.2.2.2.2
  have hw := hXs.1 (Cond.castable "java/lang/IndexOutOfBoundsException" "java/lang/IndexOutOfBoundsException") (by decide +kernel)
  exact vx_catch (own := "ChainHouseLaw") (name := "java/lang/IndexOutOfBoundsException") C.2.2.2.2.1 [] ⟨0, 9, 12, 13⟩ [] (by rw [ht]; rfl) (fun z hz => absurd hz List.not_mem_nil) (by decide) (by decide) (C.2.2.2.2.2.1 _ zu_m1713) (va_tabs hw.2.1 rfl hw.2.2) h1 h2 h3 k
theorem zl_co904 {o : zx_O} {G : zx_G} (ho : zx_oo G.2.2.2.1 o) (hl : zx_ll G.2.2.2.1) (hA : zx_ad (zu_P o) G) (hO : zx_ho (zu_P o) G zu_O) (hX : ∀ s, G.2.2.2.2.2.2 s → zy_B zl_B zl_N G.2.2.2.2.1 G.2.2.2.2.2.1 s) (hlt : G.1.stackTraces = false) (k0 s0 : Nat) (res : zx_T) : ∀ q ∈ zl_c904 o, zx_okF (zu_P o) G (zm_904 o) (zy_EH [(0, 9, 12, 13)] (zu_P o) G k0 s0 res) 10 k0 s0 res q.1 q.2 := by
  intro q hq
  obtain rfl := List.mem_singleton.mp hq
  refine zy_cc_ok (X := zl_X) (d2 := 9) (M2 := zm_120 o) (r := (RX12, TX12, 15)) (by decide) rfl (zh_120 o) zu_good zu_m1811 zu_m1812 zu_m293 (by show (parseMethodDescriptor "(I)I").map _ = _; decide +kernel) (by show decode method_4_code 4 = _; decide +kernel) (zl_fo904 ho hl hA hO hX hlt) ?_
  intro q t hq E hE
  unfold zl_p904 at hq
  split at hq
  · cases hq
    have hE2 : some "java/lang/IndexOutOfBoundsException" = some E := hE
    cases hE2
    exact zl_ca904_0 hX
  · cases hq
theorem zl_ho904 {o : zx_O} {G : zx_G} (ho : zx_oo G.2.2.2.1 o) (hl : zx_ll G.2.2.2.1) (hA : zx_ad (zu_P o) G) (hO : zx_ho (zu_P o) G zu_O) (hX : ∀ s, G.2.2.2.2.2.2 s → zy_B zl_B zl_N G.2.2.2.2.1 G.2.2.2.2.2.1 s) (hlt : G.1.stackTraces = false) : ∀ as h sl rr, zl_h904 o as h sl = some rr → zy_hmet [(0, 9, 12, 13)] (zu_P o) G 10 (zm_904 o) as h sl rr := fun _ _ _ _ hr => zy_hcall_ok (zo_all ho hl hA hO) (by show plainName "ChainHouseLaw" = true; decide +kernel) (zo_904 ho hl hA hO) (zl_co904 ho hl hA hO hX hlt) hr
noncomputable def zl_t905 : List (Nat × zx_F) := [(16, zy_thr 3)]
noncomputable def zl_p905 (q : Nat) : Option Nat := match q with
  | 3 => some 14
  | _ => none
noncomputable def zl_f905 (o : zx_O) (as : List Value) (h : zx_H) (sl : Nat) : zx_R := zy_call0 (zu_P o) 400000 9 (zm_134 o) zl_t905 as h sl
noncomputable def zl_c905 (o : zx_O) : List (Nat × zx_F) := [(6, zy_cc (zl_f905 o) 3 12 zl_p905 9)]
noncomputable def zl_h905 (o : zx_O) (as : List Value) (h : zx_H) (sl : Nat) : zx_R := zy_hcall (zu_P o) 400000 10 (zm_905 o) (zl_c905 o) as h sl
theorem zl_to905 {o : zx_O} {G : zx_G} (ho : zx_oo G.2.2.2.1 o) (hl : zx_ll G.2.2.2.1) (hA : zx_ad (zu_P o) G) (hO : zx_ho (zu_P o) G zu_O) (hX : ∀ s, G.2.2.2.2.2.2 s → zy_B zl_B zl_N G.2.2.2.2.1 G.2.2.2.2.2.1 s) (hlt : G.1.stackTraces = false) (k0 s0 : Nat) (res : zx_T) : ∀ q ∈ zl_t905, zx_okF (zu_P o) G (zm_134 o) (zy_EX zl_X (zu_P o) G k0 s0 res) 9 k0 s0 res q.1 q.2 := List.forall_mem_cons.mpr ⟨zy_thr_ok (X := zl_X) (cls := "java/util/NoSuchElementException") (names := ["java/lang/RuntimeException", "java/lang/Exception"]) (ik := 191) (ic := 193) hX rfl hlt (by decide +kernel) (by decide +kernel) zu_m1791 zu_m1712 (by show ∀ w ∈ vx_at0 "ChainHouse" 193 "java/util/NoSuchElementException" ["java/lang/RuntimeException", "java/lang/Exception"], w ∈ zu_ws ∨ w ∈ zl_B; decide +kernel) (by show ∀ w ∈ Cond.classLink "ChainHouse" 191 "java/util/NoSuchElementException" :: Cond.initialized "java/util/NoSuchElementException" :: vx_at0 "ChainHouse" 193 "java/util/NoSuchElementException" ["java/lang/RuntimeException", "java/lang/Exception"], vx_ot w = true; decide +kernel) (by decide) (by decide) (by show decode prog_1_method_19_code _ = _; decide +kernel) (by show decode prog_1_method_19_code _ = _; decide +kernel) (by show decode prog_1_method_19_code _ = _; decide +kernel) (by show decode prog_1_method_19_code _ = _; decide +kernel),  fun _ h => absurd h List.not_mem_nil⟩
theorem zl_fo905 {o : zx_O} {G : zx_G} (ho : zx_oo G.2.2.2.1 o) (hl : zx_ll G.2.2.2.1) (hA : zx_ad (zu_P o) G) (hO : zx_ho (zu_P o) G zu_O) (hX : ∀ s, G.2.2.2.2.2.2 s → zy_B zl_B zl_N G.2.2.2.2.1 G.2.2.2.2.2.1 s) (hlt : G.1.stackTraces = false) : ∀ as h sl rr, zl_f905 o as h sl = some rr → zy_met zl_X (zu_P o) G 9 (zm_134 o) as h sl rr := fun _ _ _ _ hr => zy_call0_ok (zo_all ho hl hA hO) (zh_134 o) (zo_134 ho hl hA hO) (zl_to905 ho hl hA hO hX hlt) hr
theorem zl_ca905_3 {o : zx_O} {G : zx_G} (hX : ∀ s, G.2.2.2.2.2.2 s → zy_B zl_B zl_N G.2.2.2.2.1 G.2.2.2.2.2.1 s) : zy_cat (zu_P o) G (zm_905 o) [(0, 11, 14, 33)] 6 "java/util/NoSuchElementException" 14 := by
  intro p l e R s m args below meth c C ht H locs cells slots Q ls rest ce a h1 h2 h3 k
  have hXs : zy_B zl_B zl_N G.2.2.2.2.1 G.2.2.2.2.2.1 s := hX s C.2.2.2.2.2.2.2.2.2.2.2.2.2.2
  have hw := hXs.1 (Cond.castable "java/util/NoSuchElementException" "java/util/NoSuchElementException") (by decide +kernel)
  exact vx_catch (own := "ChainHouseLaw") (name := "java/util/NoSuchElementException") C.2.2.2.2.1 [] ⟨0, 11, 14, 33⟩ [] (by rw [ht]; rfl) (fun z hz => absurd hz List.not_mem_nil) (by decide) (by decide) (C.2.2.2.2.2.1 _ zu_m1790) (va_tabs hw.2.1 rfl hw.2.2) h1 h2 h3 k
theorem zl_co905 {o : zx_O} {G : zx_G} (ho : zx_oo G.2.2.2.1 o) (hl : zx_ll G.2.2.2.1) (hA : zx_ad (zu_P o) G) (hO : zx_ho (zu_P o) G zu_O) (hX : ∀ s, G.2.2.2.2.2.2 s → zy_B zl_B zl_N G.2.2.2.2.1 G.2.2.2.2.2.1 s) (hlt : G.1.stackTraces = false) (k0 s0 : Nat) (res : zx_T) : ∀ q ∈ zl_c905 o, zx_okF (zu_P o) G (zm_905 o) (zy_EH [(0, 11, 14, 33)] (zu_P o) G k0 s0 res) 10 k0 s0 res q.1 q.2 := by
  intro q hq
  obtain rfl := List.mem_singleton.mp hq
  refine zy_cc_ok (X := zl_X) (d2 := 9) (M2 := zm_134 o) (r := (RX12, TX12, 15)) (by decide) rfl (zh_134 o) zu_good zu_m1823 zu_m1824 zu_m296 (by show (parseMethodDescriptor "(JJ)I").map _ = _; decide +kernel) (by show decode method_7_code 6 = _; decide +kernel) (zl_fo905 ho hl hA hO hX hlt) ?_
  intro q t hq E hE
  unfold zl_p905 at hq
  split at hq
  · cases hq
    have hE2 : some "java/util/NoSuchElementException" = some E := hE
    cases hE2
    exact zl_ca905_3 hX
  · cases hq
theorem zl_ho905 {o : zx_O} {G : zx_G} (ho : zx_oo G.2.2.2.1 o) (hl : zx_ll G.2.2.2.1) (hA : zx_ad (zu_P o) G) (hO : zx_ho (zu_P o) G zu_O) (hX : ∀ s, G.2.2.2.2.2.2 s → zy_B zl_B zl_N G.2.2.2.2.1 G.2.2.2.2.2.1 s) (hlt : G.1.stackTraces = false) : ∀ as h sl rr, zl_h905 o as h sl = some rr → zy_hmet [(0, 11, 14, 33)] (zu_P o) G 10 (zm_905 o) as h sl rr := fun _ _ _ _ hr => zy_hcall_ok (zo_all ho hl hA hO) (by show plainName "ChainHouseLaw" = true; decide +kernel) (zo_905 ho hl hA hO) (zl_co905 ho hl hA hO hX hlt) hr
noncomputable def zl_xs (o : zx_O) : List (Nat × zx_F) := [(280, zy_hc (zl_h900 o) 3 283), (646, zy_hc (zl_h901 o) 3 649), (765, zy_hc (zl_h903 o) 4 768), (361, zy_hc (zl_h904 o) 3 364), (898, zy_hc (zl_h905 o) 4 901), (1414, zy_fin 300000 7000000)]
noncomputable def zl_U : zx_T := (some (.int 1), (300000, zx_e10 zx_A), 7000000)
theorem zl_xo {o : zx_O} {G : zx_G} {E : zx_E} {k0 s0 : Nat} (ho : zx_oo G.2.2.2.1 o) (hl : zx_ll G.2.2.2.1) (hA : zx_ad (zu_P o) G) (hO : zx_ho (zu_P o) G zu_O) (hX : ∀ s, G.2.2.2.2.2.2 s → zy_B zl_B zl_N G.2.2.2.2.1 G.2.2.2.2.2.1 s) (hlt : G.1.stackTraces = false) : ∀ q ∈ zl_xs o, zx_okF (zu_P o) G (zm_902 o) E 11 k0 s0 zl_U q.1 q.2 := List.forall_mem_cons.mpr ⟨zy_hc_ok (M2 := zm_900 o) (hh := [(0, 9, 12, 13), (0, 9, 15, 15)]) (d2 := 10) (by decide) (by show 4 ≤ 41; decide) zu_good zu_m305 zu_m1825 zu_m1806 zu_m1805 ⟨by show ("ChainHouseLaw" : String) ≠ _; decide +kernel, by show ("ChainHouseLaw" : String) ≠ _; decide +kernel⟩ (by show (parseMethodDescriptor "(LChainHouse;I[J)I").map _ = _; decide +kernel) (by show decode code 280 = _; decide +kernel) (zl_ho900 ho hl hA hO hX hlt), List.forall_mem_cons.mpr ⟨zy_hc_ok (M2 := zm_901 o) (hh := [(0, 9, 12, 13)]) (d2 := 10) (by decide) (by show 4 ≤ 41; decide) zu_good zu_m307 zu_m1825 zu_m1814 zu_m1813 ⟨by show ("ChainHouseLaw" : String) ≠ _; decide +kernel, by show ("ChainHouseLaw" : String) ≠ _; decide +kernel⟩ (by show (parseMethodDescriptor "(LChainHouse;I[J)I").map _ = _; decide +kernel) (by show decode code 646 = _; decide +kernel) (zl_ho901 ho hl hA hO hX hlt), List.forall_mem_cons.mpr ⟨zy_hc_ok (M2 := zm_903 o) (hh := [(0, 10, 13, 15), (0, 10, 17, 27)]) (d2 := 10) (by decide) (by show 5 ≤ 41; decide) zu_good zu_m308 zu_m1825 zu_m1818 zu_m1817 ⟨by show ("ChainHouseLaw" : String) ≠ _; decide +kernel, by show ("ChainHouseLaw" : String) ≠ _; decide +kernel⟩ (by show (parseMethodDescriptor "(LChainHouse;IZ[J)I").map _ = _; decide +kernel) (by show decode code 765 = _; decide +kernel) (zl_ho903 ho hl hA hO hX hlt), List.forall_mem_cons.mpr ⟨zy_hc_ok (M2 := zm_904 o) (hh := [(0, 9, 12, 13)]) (d2 := 10) (by decide) (by show 4 ≤ 41; decide) zu_good zu_m306 zu_m1825 zu_m1810 zu_m1809 ⟨by show ("ChainHouseLaw" : String) ≠ _; decide +kernel, by show ("ChainHouseLaw" : String) ≠ _; decide +kernel⟩ (by show (parseMethodDescriptor "(LChainHouse;I[J)I").map _ = _; decide +kernel) (by show decode code 361 = _; decide +kernel) (zl_ho904 ho hl hA hO hX hlt), List.forall_mem_cons.mpr ⟨zy_hc_ok (M2 := zm_905 o) (hh := [(0, 11, 14, 33)]) (d2 := 10) (by decide) (by show 7 ≤ 41; decide) zu_good zu_m309 zu_m1825 zu_m1822 zu_m1821 ⟨by show ("ChainHouseLaw" : String) ≠ _; decide +kernel, by show ("ChainHouseLaw" : String) ≠ _; decide +kernel⟩ (by show (parseMethodDescriptor "(LChainHouse;JJ[J)I").map _ = _; decide +kernel) (by show decode code 898 = _; decide +kernel) (zl_ho905 ho hl hA hO hX hlt), List.forall_mem_cons.mpr ⟨zy_fin_ok (ty := .boolean) rfl (by decide +kernel) (by show decode code 1414 = _; decide +kernel),  fun _ h => absurd h List.not_mem_nil⟩⟩⟩⟩⟩⟩
noncomputable def zl_r (L : zx_W) (o : zx_O) (pc : Nat) (xs : List (Nat × zx_F)) (Ls : zx_L) (h : zx_H) (sl : Nat) : zx_R := zx_run (zu_ms o) (fun _ _ _ _ _ => none) 400000 11 (xs ++ (zl_xs o ++ zc_902 o L)) pc Ls [] h sl
noncomputable def zl_e (t : zx_Tr zx_A) : Bool := match (show Option (Option zx_A × (zx_T9 zx_A × zx_T9 zx_A) × (zx_T9 zx_A × zx_T9 zx_A)) from t) with
  | none => true
  | some _ => false
theorem zl_e_in {t : zx_Tr zx_A} (h : zl_e t = true) : t = zx_e10 zx_A := by
  unfold zl_e at h
  split at h
  · next e => exact e
  · cases h
theorem zy_an {a b : Bool} : (a && b) = true ↔ a = true ∧ b = true := by cases a <;> cases b <;> simp
noncomputable def zy_al (x : Int32) (n s : Nat) (t : zx_Tr zx_A) : Bool := Nat.beq x.toBitVec.toNat 1 && (Nat.beq n 300000 && (Nat.beq s 7000000 && zl_e t))
theorem zy_1a : (1 : Int32).toBitVec.toNat = 1 := by decide
theorem zy_al_in {x : Int32} {n s : Nat} {t : zx_Tr zx_A} (h : zy_al x n s t = true) : x = 1 ∧ n = 300000 ∧ s = 7000000 ∧ t = zx_e10 zx_A := by
  unfold zy_al at h
  have h1 := zy_an.mp h
  have h2 := zy_an.mp h1.2
  have h3 := zy_an.mp h2.2
  exact ⟨Int32.toBitVec_inj.mp (BitVec.eq_of_toNat_eq ((Nat.eq_of_beq_eq_true h1.1).trans zy_1a.symm)), Nat.eq_of_beq_eq_true h2.1, Nat.eq_of_beq_eq_true h3.1, zl_e_in h3.2⟩
noncomputable def zy_vi (v : Option Value) : Option Int32 := match v with
  | some (.int x) => some x
  | _ => none
theorem zy_vi_in {v : Option Value} {x : Int32} (h : zy_vi v = some x) : v = some (.int x) := by
  unfold zy_vi at h
  split at h
  · cases h; rfl
  · cases h
noncomputable def zl_ok (r : zx_R) : Bool := match r with
  | none => false
  | some q => match zy_vi q.1 with
    | none => false
    | some x => zy_al x q.2.1.1 q.2.2 q.2.1.2
theorem zl_ok_in {r : zx_R} (h : zl_ok r = true) : r = some zl_U := by
  unfold zl_ok at h
  cases r with
  | none => exact nomatch h
  | some q =>
    obtain ⟨a, ⟨n, t⟩, s⟩ := q
    dsimp only at h
    cases e : zy_vi a with
    | none => rw [e] at h; exact nomatch h
    | some x =>
      rw [e] at h
      dsimp only at h
      obtain ⟨e1, e2, e3, e4⟩ := zy_al_in h
      rw [zy_vi_in e, e1, e2, e3, e4]
      unfold zl_U
      rfl
/-- a run of the law to its end, or to what is known -/
theorem zl_r_ok {o : zx_O} {G : zx_G} {E : zx_E} {L : zx_W} {k0 s0 pc sl : Nat} {xs : List (Nat × zx_F)} {Ls : zx_L} {h : zx_H} (ho : zx_oo G.2.2.2.1 o) (hl : zx_ll G.2.2.2.1) (hA : zx_ad (zu_P o) G) (hO : zx_ho (zu_P o) G zu_O) (hX : ∀ s, G.2.2.2.2.2.2 s → zy_B zl_B zl_N G.2.2.2.2.1 G.2.2.2.2.2.1 s) (hlt : G.1.stackTraces = false) (hOL : zx_ho (zu_P o) G (zu_OL L)) (hE : zx_EE (zu_P o) G E k0 s0 zl_U) (hxs : ∀ q ∈ xs, zx_okF (zu_P o) G (zm_902 o) E 11 k0 s0 zl_U q.1 q.2) (hr : zl_r L o pc xs Ls h sl = some zl_U) : h.1 ≤ 300000 ∧ sl ≤ 7000000 ∧ zx_w (zu_P o) G (zm_902 o) E 11 k0 s0 zl_U pc Ls [] h sl :=
  zx_runE_ok (zo_all ho hl hA hO) zy_nomm 400000 11 (zm_902 o) (xs ++ (zl_xs o ++ zc_902 o L)) E k0 s0 pc Ls [] h sl zl_U (fun q hq => (List.mem_append.mp hq).elim (hxs q) (fun z => (List.mem_append.mp z).elim (zl_xo ho hl hA hO hX hlt q) (fun y => zo_902 ho hl hA hOL q y _ _ _ _ _))) hE hr
