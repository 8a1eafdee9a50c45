/-! ===== one call, from behind the constructors ===== -/
noncomputable def zl_sh (L : Nat) : zx_W := (0, L, .float 0, ze10)
theorem zl_short0 : zl_ok (zl_r (zl_sh 0) zl_b 16 [] zL_L zL_h 875439) = true := by decide +kernel
theorem zl_short1 : zl_ok (zl_r (zl_sh 1) zl_b 16 [] zL_L zL_h 875439) = true := by decide +kernel
theorem zl_short2 : zl_ok (zl_r (zl_sh 2) zl_b 16 [] zL_L zL_h 875439) = true := by decide +kernel
theorem zl_short3 : zl_ok (zl_r (zl_sh 3) zl_b 16 [] zL_L zL_h 875439) = true := by decide +kernel
theorem zl_short4 : zl_ok (zl_r (zl_sh 4) zl_b 16 [] zL_L zL_h 875439) = true := by decide +kernel
theorem zl_short5 : zl_ok (zl_r (zl_sh 5) zl_b 16 [] zL_L zL_h 875439) = true := by decide +kernel
theorem zl_hO {G : zx_G} {sc : zx_W} (h : zx_ho (zu_P []) G (zu_OL sc)) : zx_ho (zu_P []) G zu_O := fun s hs i z hz => h s hs i z (by
  unfold zu_OL
  rw [List.getElem?_append_left (List.getElem?_eq_some_iff.mp hz).1]
  exact hz)
theorem zk_EE {a : List vw_C} {b : List FieldType} {c : List Cond} {ms ms2 : List zx_M} {r : _} {G : zx_G} {E : zx_E} {k0 s0 : Nat} {res : zx_T} (h : zx_EE (a, b, c, ms, r) G E k0 s0 res) : zx_EE (a, b, c, ms2, r) G E k0 s0 res := h
theorem zk_wt {a : List vw_C} {b : List FieldType} {c : List Cond} {ms ms2 : List zx_M} {r : _} {G : zx_G} {E : zx_E} {d k0 s0 pc sl : Nat} {res : zx_T} {L : zx_L} {st : List Value} {h : zx_H} {n : MethodName} {co : _} {ml : Nat} {re : _} {rows rows2 : List (Nat × zx_F)} (hw : zx_w (a, b, c, ms, r) G (n, co, ml, re, rows) E d k0 s0 res pc L st h sl) : zx_w (a, b, c, ms2, r) G (n, co, ml, re, rows2) E d k0 s0 res pc L st h sl := hw
theorem zl_leaf {G : zx_G} {E : zx_E} {sc : zx_W} (hb : zx_oo G.2.2.2.1 zl_b) (hl : zx_ll G.2.2.2.1) (hA : zx_ad (zu_P []) G) (hOL : zx_ho (zu_P []) G (zu_OL sc)) (hX : ∀ s, G.2.2.2.2.2.2 s → zy_B zl_B zl_N G.2.2.2.2.1 G.2.2.2.2.2.1 s) (hlt : G.1.stackTraces = false) (hE : zx_EE (zu_P []) G E 17 0 zl_U) {o : zx_O} (ho : zx_oo G.2.2.2.1 o) (h : zl_ok (zl_r sc o 16 [] zL_L zL_h 875439) = true) : zx_w (zu_P []) G (zm_902 []) E 11 17 0 zl_U 16 zL_L [] zL_h 875439 :=
  zk_wt (ms := zu_ms o) (ms2 := zu_ms []) (rows := []) (rows2 := []) (zl_r_ok (G := G) (E := E) (o := o) (L := sc) (k0 := 17) (s0 := 0) ho hl (zk_ad (ms := zu_ms []) (ms2 := zu_ms o) hA) (zk_ho (ms := zu_ms []) (ms2 := zu_ms o) (zl_hO hOL)) hX hlt (zk_ho (ms := zu_ms []) (ms2 := zu_ms o) hOL) (zk_EE (ms := zu_ms []) (ms2 := zu_ms o) hE) (fun _ h => absurd h List.not_mem_nil) (zl_ok_in h)).2.2
theorem zl_isome {α : Type} {r : Option α} (h : zl_some r = true) : ∃ x, r = some x := by
  cases r with
  | none => exact nomatch h
  | some x => exact ⟨x, rfl⟩
theorem zl_treeK {G : zx_G} {E : zx_E} {sc : zx_W} (hb : zx_oo G.2.2.2.1 zl_b) (hl : zx_ll G.2.2.2.1) (hA : zx_ad (zu_P []) G) (hOL : zx_ho (zu_P []) G (zu_OL sc)) (hX : ∀ s, G.2.2.2.2.2.2 s → zy_B zl_B zl_N G.2.2.2.2.1 G.2.2.2.2.2.1 s) (hlt : G.1.stackTraces = false) (hE : zx_EE (zu_P []) G E 17 0 zl_U) (hsc : sc = zl_s6) {K : zx_O → Bool} (hK : ∀ o, K o = true → zl_K o = true) {k : Nat} {ts : List zl_T} (hk : G.2.2.2.1.2.1 1 &&& 31 = nI k) (h : zl_some (zl_chk K 100 ts ((3, 1, 31, .int (nI k)) :: zl_b)) = true) : zx_w (zu_P []) G (zm_902 []) E 11 17 0 zl_U 16 zL_L [] zL_h 875439 := by
  subst hsc
  obtain ⟨r, hr⟩ := zl_isome h
  exact zl_sound (fun o ho h9 => zl_leaf hb hl hA hOL hX hlt hE ho (hK o h9)) 100 ts _ r hr (zl_oo_app (a := [(3, 1, 31, .int (nI k))]) (zl_oo_1 (by decide) hk) hb)
theorem zl_tree {G : zx_G} {E : zx_E} {sc : zx_W} (hb : zx_oo G.2.2.2.1 zl_b) (hl : zx_ll G.2.2.2.1) (hA : zx_ad (zu_P []) G) (hOL : zx_ho (zu_P []) G (zu_OL sc)) (hX : ∀ s, G.2.2.2.2.2.2 s → zy_B zl_B zl_N G.2.2.2.2.1 G.2.2.2.2.2.1 s) (hlt : G.1.stackTraces = false) (hE : zx_EE (zu_P []) G E 17 0 zl_U) (hsc : sc = zl_s6) {k : Nat} {ts : List zl_T} (hk : G.2.2.2.1.2.1 1 &&& 31 = nI k) (h : zl_some (zl_chk zl_K 100 ts ((3, 1, 31, .int (nI k)) :: zl_b)) = true) : zx_w (zu_P []) G (zm_902 []) E 11 17 0 zl_U 16 zL_L [] zL_h 875439 := zl_treeK hb hl hA hOL hX hlt hE hsc (fun _ h => h) hk h
theorem zl_six {G : zx_G} {E : zx_E} {sc : zx_W} (hb : zx_oo G.2.2.2.1 zl_b) (hl : zx_ll G.2.2.2.1) (hA : zx_ad (zu_P []) G) (hOL : zx_ho (zu_P []) G (zu_OL sc)) (hX : ∀ s, G.2.2.2.2.2.2 s → zy_B zl_B zl_N G.2.2.2.2.1 G.2.2.2.2.2.1 s) (hlt : G.1.stackTraces = false) (hE : zx_EE (zu_P []) G E 17 0 zl_U) (hsc : sc = zl_s6) : zx_w (zu_P []) G (zm_902 []) E 11 17 0 zl_U 16 zL_L [] zL_h 875439 := by
  obtain ⟨k, hk, e⟩ := zl_low5 (G.2.2.2.1.2.1 1)
  match k, hk with
  | 0, _ => exact zl_tree hb hl hA hOL hX hlt hE hsc e zl_op_0
  | 1, _ => exact zl_tree hb hl hA hOL hX hlt hE hsc e zl_op_1
  | 2, _ => exact zl_treeK hb hl hA hOL hX hlt hE hsc (fun o h => zlf_2 o (zk_any_in h)) e zl_op_2
  | 3, _ => exact zl_tree hb hl hA hOL hX hlt hE hsc e zl_op_3
  | 4, _ => exact zl_tree hb hl hA hOL hX hlt hE hsc e zl_op_4
  | 5, _ => exact zl_treeK hb hl hA hOL hX hlt hE hsc (fun o h => zlf_5 o (zk_any_in h)) e zl_op_5
  | 6, _ => exact zl_tree hb hl hA hOL hX hlt hE hsc e zl_op_6
  | 7, _ => exact zl_tree hb hl hA hOL hX hlt hE hsc e zl_op_7
  | 8, _ => exact zl_tree hb hl hA hOL hX hlt hE hsc e zl_op_8
  | 9, _ => exact zl_tree hb hl hA hOL hX hlt hE hsc e zl_op_9
  | 10, _ => exact zl_tree hb hl hA hOL hX hlt hE hsc e zl_op_10
  | 11, _ => exact zl_tree hb hl hA hOL hX hlt hE hsc e zl_op_11
  | 12, _ => exact zl_treeK hb hl hA hOL hX hlt hE hsc (fun o h => zlf_12 o (zk_any_in h)) e zl_op_12
  | 13, _ => exact zl_tree hb hl hA hOL hX hlt hE hsc e zl_op_13
  | 14, _ => exact zl_tree hb hl hA hOL hX hlt hE hsc e zl_op_14
  | 15, _ => exact zl_tree hb hl hA hOL hX hlt hE hsc e zl_op_15
  | 16, _ => exact zl_tree hb hl hA hOL hX hlt hE hsc e zl_op_16
  | 17, _ => exact zl_tree hb hl hA hOL hX hlt hE hsc e zl_op_17
  | 18, _ => exact zl_tree hb hl hA hOL hX hlt hE hsc e zl_op_18
  | 19, _ => exact zl_tree hb hl hA hOL hX hlt hE hsc e zl_op_19
  | 20, _ => exact zl_tree hb hl hA hOL hX hlt hE hsc e zl_op_20
  | 21, _ => exact zl_tree hb hl hA hOL hX hlt hE hsc e zl_op_21
  | 22, _ => exact zl_tree hb hl hA hOL hX hlt hE hsc e zl_op_22
  | 23, _ => exact zl_tree hb hl hA hOL hX hlt hE hsc e zl_op_23
  | 24, _ => exact zl_tree hb hl hA hOL hX hlt hE hsc e zl_op_24
  | 25, _ => exact zl_tree hb hl hA hOL hX hlt hE hsc e zl_op_25
  | 26, _ => exact zl_tree hb hl hA hOL hX hlt hE hsc e zl_op_26
  | 27, _ => exact zl_tree hb hl hA hOL hX hlt hE hsc e zl_op_27
  | 28, _ => exact zl_treeK hb hl hA hOL hX hlt hE hsc (fun o h => zlf_28 o (zk_any_in h)) e zl_op_28
  | 29, _ => exact zl_tree hb hl hA hOL hX hlt hE hsc e zl_op_29
  | 30, _ => exact zl_tree hb hl hA hOL hX hlt hE hsc e zl_op_30
  | 31, _ => exact zl_tree hb hl hA hOL hX hlt hE hsc e zl_op_31
  | k + 32, hk => exact absurd hk (by omega)
