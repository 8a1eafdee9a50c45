/-! ===== known calls: what one call does on one heap, once for all ===== -/
noncomputable def zk_er (a : zx_R) (r : zx_T) : Bool := match a with
  | none => false
  | some q => zy_oe zy_v q.1 r.1 && (Nat.beq q.2.1.1 r.2.1.1 && (Nat.beq q.2.2 r.2.2 && zy_e10 zy_a q.2.1.2 r.2.1.2))
theorem zk_er_in {a : zx_R} {r : zx_T} (h : zk_er a r = true) : a = some r := by
  cases a with
  | none => exact nomatch h
  | some q =>
    obtain ⟨v, ⟨n, t⟩, s⟩ := q
    obtain ⟨v2, ⟨n2, t2⟩, s2⟩ := r
    have h9 : (zy_oe zy_v v v2 && (Nat.beq n n2 && (Nat.beq s s2 && zy_e10 zy_a t t2))) = true := h
    simp only [Bool.and_eq_true] at h9
    obtain ⟨a1, a2, a3, a4⟩ := h9
    rw [zy_oe_in (fun _ _ => zy_v_in) a1, Nat.eq_of_beq_eq_true a2, Nat.eq_of_beq_eq_true a3, zy_f10 zy_a_in _ _ a4]
/-- depth, method, arguments, heap, room, what comes -/
abbrev zk_Q := Nat × Nat × List Value × zx_H × Nat × zx_T
noncomputable def zk_qm (q : zk_Q) (d2 mi : Nat) (as : List Value) (h : zx_H) (s : Nat) : Bool := Nat.beq mi q.2.1 && (Nat.beq d2 q.1 && (Nat.beq s q.2.2.2.2.1 && (Nat.beq h.1 q.2.2.2.1.1 && (zy_k as q.2.2.1 && zy_e10 zy_a h.2 q.2.2.2.1.2))))
noncomputable def zk_mm : List zk_Q → Nat → zx_C
  | [], _, _, _, _, _ => none
  | q :: l, d2, mi, as, h, s => match zk_qm q d2 mi as h s with
    | true => some q.2.2.2.2.2
    | false => zk_mm l d2 mi as h s
theorem zk_mm_ok {P : zx_P} {G : zx_G} : ∀ {l : List zk_Q}, (∀ q ∈ l, zx_met P G (q.1 + 1) q.2.1 q.2.2.1 q.2.2.2.1 q.2.2.2.2.1 q.2.2.2.2.2) → zx_mem P G (zk_mm l)
  | [], _ => fun _ _ _ _ _ _ h => nomatch h
  | q :: l, hl => fun d2 mi as h s r hr => by
    have hr9 : (match zk_qm q d2 mi as h s with | true => some q.2.2.2.2.2 | false => zk_mm l d2 mi as h s) = some r := hr
    cases e : zk_qm q d2 mi as h s with
    | false =>
      rw [e] at hr9
      exact zk_mm_ok (fun q hq => hl q (List.mem_cons_of_mem _ hq)) d2 mi as h s r hr9
    | true =>
      rw [e] at hr9
      cases hr9
      unfold zk_qm at e
      simp only [Bool.and_eq_true] at e
      obtain ⟨a1, a2, a3, a4, a5, a6⟩ := e
      have b6 := zy_f10 zy_a_in _ _ a6
      have bh : h = q.2.2.2.1 := Prod.ext (Nat.eq_of_beq_eq_true a4) b6
      rw [Nat.eq_of_beq_eq_true a1, Nat.eq_of_beq_eq_true a2, Nat.eq_of_beq_eq_true a3, zy_k_in a5, bh]
      exact hl q List.mem_cons_self
/-- a stop at one state alone; any other state goes on -/
noncomputable def zk_stp (L0 : zx_L) (h0 : zx_H) (s0 : Nat) (r : zx_T) (F : zx_F) : zx_F := fun rec L st h sl k => match zy_l L L0 with
  | true => zy_stop L0 [] h0 s0 r rec L st h sl k
  | false => F rec L st h sl k
theorem zk_stp_ok {P : zx_P} {G : zx_G} {M : zx_M} {E : zx_E} {d k0 s0 pc : Nat} {L0 : zx_L} {h0 : zx_H} {sl0 : Nat} {r : zx_T} {F : zx_F} (hr : h0.1 ≤ r.2.1.1 ∧ sl0 ≤ r.2.2) (hw : zx_w P G M E d k0 s0 r pc L0 [] h0 sl0) (hF : zx_okF P G M E d k0 s0 r pc F) : zx_okF P G M E d k0 s0 r pc (zk_stp L0 h0 sl0 r F) := by
  intro rec k L st h sl hE hf hrec hk
  unfold zk_stp at hf
  cases e : zy_l L L0 with
  | true =>
    rw [e] at hf
    exact zy_stop_ok hr hw rec k L st h sl hE hf hrec hk
  | false =>
    rw [e] at hf
    exact hF rec k L st h sl hE hf hrec hk
/-- a piece of a method's run, from one such state on -/
theorem zk_piece {P : zx_P} {G : zx_G} {M : zx_M} {f d k0 s0 pc sl : Nat} {xs : List (Nat × zx_F)} {L : zx_L} {h : zx_H} {r : zx_T} (hok : zx_all P G) (hM : ∀ q ∈ M.2.2.2.2, zx_ok P G M q.1 q.2) (hxs : ∀ q ∈ xs, zx_okF P G M (zx_EM P G k0 s0 r) d k0 s0 r q.1 q.2) (hr : zk_er (zx_run P.2.2.2.1 (fun _ _ _ _ _ => none) f d (xs ++ M.2.2.2.2) pc L [] h sl) r = true) : h.1 ≤ r.2.1.1 ∧ sl ≤ r.2.2 ∧ zx_w P G M (zx_EM P G k0 s0 r) d k0 s0 r pc L [] h sl :=
  zx_runE_ok hok zy_nomm f d M (xs ++ M.2.2.2.2) (zx_EM P G k0 s0 r) k0 s0 pc L [] h sl r (fun q hq => (List.mem_append.mp hq).elim (hxs q) (fun z => hM q z _ _ _ _ _)) (fun _ _ _ _ _ _ _ _ _ z => z) (zk_er_in hr)
theorem zk_whole {P : zx_P} {G : zx_G} {M : zx_M} {d mi sl : Nat} {as : List Value} {h : zx_H} {r : zx_T} (hM : P.2.2.2.1[mi]? = some M) (hm : zx_mok P M) (ha : zx_cats as ≤ M.2.2.1) (hw : h.1 ≤ r.2.1.1 ∧ sl ≤ r.2.2 ∧ zx_w P G M (zx_EM P G h.1 sl r) d h.1 sl r 0 (lv_args 0 as) [] h sl) : zx_met P G (d + 1) mi as h sl r := ⟨hw.1, hw.2.1, d, Nat.lt_succ_self d, M, hM, zx_entry hm ha hw.2.2⟩
