/-! ===== known calls within known calls, within the law's helpers; leaves one by one ===== -/
theorem zk_kn {P : zx_P} {G : zx_G} {q : zk_Q} {l : List zk_Q} {f : Nat} (hok : zx_all P G) (hl : ∀ q ∈ l, zx_met P G (q.1 + 1) q.2.1 q.2.2.1 q.2.2.2.1 q.2.2.2.2.1 q.2.2.2.2.2) (hr : zk_er (zx_call0 P (zk_mm l) f q.1 q.2.1 q.2.2.1 q.2.2.2.1 q.2.2.2.2.1) q.2.2.2.2.2 = true) : zx_met P G (q.1 + 1) q.2.1 q.2.2.1 q.2.2.2.1 q.2.2.2.2.1 q.2.2.2.2.2 := zx_call0_ok hok (zk_mm_ok hl) (zk_er_in hr)
theorem zk_tr {a : List vw_C} {b : List FieldType} {c : List Cond} {ms ms2 : List zx_M} {r : _} {G : zx_G} {d mi : Nat} {as : List Value} {h : zx_H} {sl : Nat} {res : zx_T} (hm : zx_met (a, b, c, ms, r) G d mi as h sl res) (hM : ∀ M, ms[mi]? = some M → ∃ M2, ms2[mi]? = some M2 ∧ M2.1 = M.1 ∧ M2.2.1 = M.2.1 ∧ M2.2.2.1 = M.2.2.1 ∧ M2.2.2.2.1 = M.2.2.2.1) : zx_met (a, b, c, ms2, r) G d mi as h sl res := by
  obtain ⟨a1, a2, d2, hd, M, hM1, hm1⟩ := hm
  obtain ⟨M2, h1, e1, e2, e3, e4⟩ := hM M hM1
  refine ⟨a1, a2, d2, hd, M2, h1, ?_⟩
  have e : zx_ws (a, b, c, ms2, r) M2 = zx_ws (a, b, c, ms, r) M := by
    unfold zx_ws
    rw [e1, e2, e3, e4]
  rw [e1, e]
  exact hm1
noncomputable def zy_call0m (P : zx_P) (mm : Nat → zx_C) (f d : Nat) (M : zx_M) (thr : List (Nat × zx_F)) (as : List Value) (h : zx_H) (sl : Nat) : zx_R := match Nat.blt h.1 300000 && Nat.ble (zx_cats as) M.2.2.1 with
  | true => zx_run P.2.2.2.1 mm f d (thr ++ M.2.2.2.2) 0 (lv_args 0 as) [] h sl
  | false => none
theorem zy_call0m_ok {X : List String} {P : zx_P} {G : zx_G} {mm : Nat → zx_C} {f d : Nat} {M : zx_M} {thr : List (Nat × zx_F)} {as : List Value} {h : zx_H} {sl : Nat} {r : zx_T} (hok : zx_all P G) (hmm : zx_mem P G mm) (hm : zx_mok P M) (hM : ∀ q ∈ M.2.2.2.2, zx_ok P G M q.1 q.2) (ht : ∀ (k0 s0 : Nat) (res : zx_T), ∀ q ∈ thr, zx_okF P G M (zy_EX X P G k0 s0 res) d k0 s0 res q.1 q.2)
    (hr : zy_call0m P mm f d M thr as h sl = some r) : zy_met X P G d M as h sl r := by
  unfold zy_call0m at hr
  split at hr
  · next e =>
    simp only [Bool.and_eq_true] at e
    obtain ⟨a1, a2, a3⟩ := zx_runE_ok hok hmm f d M _ (zy_EX X P G h.1 sl r) h.1 sl 0 _ _ h sl r (fun q hq => (List.mem_append.mp hq).elim (fun z => ht _ _ _ q z) (fun z => hM q z _ _ _ _ _)) zy_EX_EE hr
    exact ⟨a1, a2, zy_entry hm (Nat.le_of_ble_eq_true e.2) (Nat.le_of_ble_eq_true e.1) a3⟩
  · cases hr
noncomputable def zk_qe (a b : Nat × UInt32 × Int32 × Value) : Bool := Nat.beq a.1 b.1 && (Nat.beq a.2.1.toNat b.2.1.toNat && (Nat.beq a.2.2.1.toBitVec.toNat b.2.2.1.toBitVec.toNat && zy_v a.2.2.2 b.2.2.2))
theorem zk_qe_in {a b : Nat × UInt32 × Int32 × Value} (h : zk_qe a b = true) : a = b := by
  obtain ⟨p, q, c, v⟩ := a
  obtain ⟨p2, q2, c2, v2⟩ := b
  have h9 : (Nat.beq p p2 && (Nat.beq q.toNat q2.toNat && (Nat.beq c.toBitVec.toNat c2.toBitVec.toNat && zy_v v v2))) = true := h
  simp only [Bool.and_eq_true] at h9
  obtain ⟨a1, a2, a3, a4⟩ := h9
  have e2 : q = q2 := UInt32.toNat_inj.mp (Nat.eq_of_beq_eq_true a2)
  have e3 : c = c2 := Int32.toBitVec_inj.mp (BitVec.eq_of_toNat_eq (Nat.eq_of_beq_eq_true a3))
  rw [Nat.eq_of_beq_eq_true a1, e2, e3, zy_v_in a4]
noncomputable def zk_oe : zx_O → zx_O → Bool
  | [], [] => true
  | a :: r, b :: s => zk_qe a b && zk_oe r s
  | _, _ => false
theorem zk_oe_in : ∀ {a b : zx_O}, zk_oe a b = true → a = b
  | [], [], _ => rfl
  | [], _ :: _, h => nomatch h
  | _ :: _, [], h => nomatch h
  | a :: r, b :: s, h => by
    have h9 : (zk_qe a b && zk_oe r s) = true := h
    simp only [Bool.and_eq_true] at h9
    rw [zk_qe_in h9.1, zk_oe_in h9.2]
noncomputable def zk_any : List zx_O → zx_O → Bool
  | [], _ => false
  | p :: l, o => match zk_oe o p with
    | true => true
    | false => zk_any l o
theorem zk_any_in : ∀ {l : List zx_O} {o : zx_O}, zk_any l o = true → o ∈ l
  | [], _, h => nomatch h
  | p :: l, o, h => by
    have h9 : (match zk_oe o p with | true => true | false => zk_any l o) = true := h
    cases e : zk_oe o p with
    | true => exact List.mem_cons.mpr (Or.inl (zk_oe_in e))
    | false =>
      rw [e] at h9
      exact List.mem_cons_of_mem _ (zk_any_in h9)
theorem zk_ad {a : List vw_C} {b : List FieldType} {c : List Cond} {ms ms2 : List zx_M} {r : _} {G : zx_G} (h : zx_ad (a, b, c, ms, r) G) : zx_ad (a, b, c, ms2, r) G := h
theorem zk_ho {a : List vw_C} {b : List FieldType} {c : List Cond} {ms ms2 : List zx_M} {r : _} {G : zx_G} {O : List zx_W} (h : zx_ho (a, b, c, ms, r) G O) : zx_ho (a, b, c, ms2, r) G O := h
