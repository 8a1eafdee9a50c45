/-! ===== loops that ask about what isn't known: both branches ===== -/
theorem zk_oneR {P : zx_P} {G : zx_G} {M : zx_M} {E : zx_E} {d k0 s0 : Nat} {res : zx_T} {rec : zx_C} {pc : Nat} {f : zx_F} {L : zx_L} {st : List Value} {h : zx_H} {sl pc2 : Nat} {L2 : zx_L} {st2 : List Value} {h2 : zx_H} {sl2 : Nat} (hE : zx_EE P G E k0 s0 res) (hrec : ∀ mi as h1 s1 r, rec mi as h1 s1 = some r → zx_met P G d mi as h1 s1 r) (hok : zx_ok P G M pc f) (hf : ∀ (k : zx_K), f rec L st h sl k = k pc2 L2 st2 h2 sl2)
    (hw : h2.1 ≤ res.2.1.1 ∧ sl2 ≤ res.2.2 ∧ zx_w P G M E d k0 s0 res pc2 L2 st2 h2 sl2) : h.1 ≤ res.2.1.1 ∧ sl ≤ res.2.2 ∧ zx_w P G M E d k0 s0 res pc L st h sl := by
  classical
  have key := hok E d k0 s0 res rec (fun pc3 L3 st3 h3 s3 => if (pc3 = pc2 ∧ L3 = L2 ∧ st3 = st2 ∧ h3 = h2 ∧ s3 = sl2) then some res else none) L st h sl hE
  refine key ?_ hrec (fun pc3 L3 st3 h3 s3 h9 => ?_)
  · rw [hf]
    exact if_pos ⟨rfl, rfl, rfl, rfl, rfl⟩
  · by_cases e : pc3 = pc2 ∧ L3 = L2 ∧ st3 = st2 ∧ h3 = h2 ∧ s3 = sl2
    · obtain ⟨rfl, rfl, rfl, rfl, rfl⟩ := e
      exact hw
    · rw [if_neg e] at h9
      exact nomatch h9
theorem zk_pick {P : zx_P} {G : zx_G} {M : zx_M} {E : zx_E} {d k0 s0 : Nat} {res : zx_T} {pc sl : Nat} {L L2 : zx_L} {st : List Value} {h : zx_H} (hL : ∀ (D : zx_D) (CL : zx_L), zx_lv D L CL → ∃ C2, zx_lv D L2 C2 ∧ ∀ q ∈ C2, q ∈ CL) (hw : h.1 ≤ res.2.1.1 ∧ sl ≤ res.2.2 ∧ zx_w P G M E d k0 s0 res pc L2 st h sl) : h.1 ≤ res.2.1.1 ∧ sl ≤ res.2.2 ∧ zx_w P G M E d k0 s0 res pc L st h sl := by
  refine ⟨hw.1, hw.2.1, fun p e9 s m args below meth c C H locs ls CL cst hh hl g1 g2 g3 hk0 hs0 => ?_⟩
  obtain ⟨C2, q1, q2⟩ := hL _ CL g2
  exact hw.2.2 p e9 s m args below meth c C H locs ls C2 cst hh hl ⟨g1.1, g1.2.1, fun q hq => g1.2.2 q (q2 q hq)⟩ q1 g3 hk0 hs0
theorem zk_pickR {P : zx_P} {G : zx_G} {M : zx_M} {E : zx_E} {d k0 s0 : Nat} {res : zx_T} {pc sl : Nat} {L L2 : zx_L} {st : List Value} {h : zx_H} (hw : h.1 ≤ res.2.1.1 ∧ sl ≤ res.2.2 ∧ zx_w P G M E d k0 s0 res pc L2 st h sl) (hL : ∀ (D : zx_D) (CL : zx_L), zx_lv D L CL → ∃ C2, zx_lv D L2 C2 ∧ ∀ q ∈ C2, q ∈ CL) : h.1 ≤ res.2.1.1 ∧ sl ≤ res.2.2 ∧ zx_w P G M E d k0 s0 res pc L st h sl := zk_pick hL hw
theorem zk_p0 {D : zx_D} {CL : zx_L} : ∃ C2, zx_lv D [] C2 ∧ ∀ q ∈ C2, q ∈ CL := ⟨[], trivial, fun _ h => absurd h List.not_mem_nil⟩
theorem zk_pc {D : zx_D} {L CL R : zx_L} {i : Nat} {v v2 : Value} (hl : zx_lv D L CL) (hm : (i, v) ∈ L) (hv : ∀ w, zx_v D v w → zx_v D v2 w) (ih : ∃ C2, zx_lv D R C2 ∧ ∀ q ∈ C2, q ∈ CL) : ∃ C2, zx_lv D ((i, v2) :: R) C2 ∧ ∀ q ∈ C2, q ∈ CL := by
  obtain ⟨C2, a1, a2⟩ := ih
  obtain ⟨w, b1, b2⟩ := zx_lv_mem hl hm
  refine ⟨(i, w) :: C2, ⟨⟨rfl, hv w b2⟩, a1⟩, fun q hq => ?_⟩
  rcases List.mem_cons.mp hq with e | e
  · rw [e]; exact b1
  · exact a2 q e
noncomputable def zk_jj (v : Option Value) : Bool := match v with
  | some (.long _) => true
  | some (.double _) => true
  | _ => false
noncomputable def zk_ii (v : Option Value) : Bool := match v with
  | some (.int _) => true
  | some (.float _) => true
  | _ => false
noncomputable def zk_rf (v : Option Value) : Option Nat := match v with
  | some (.ref i) => some i
  | _ => none
noncomputable def zk_in (v : Option Value) : Option Int32 := match v with
  | some (.int x) => some x
  | _ => none
noncomputable def zk_nil (v : List Value) : Bool := match v with
  | [] => true
  | _ => false
noncomputable def zk_f0 (v : Option Value) : Bool := match v with
  | some (.float q) => Nat.beq q.toNat 0
  | _ => false
theorem zk_nil_in {st : List Value} (h : zk_nil st = true) : st = [] := by
  cases st with
  | nil => rfl
  | cons => exact nomatch h
theorem zk_rf_in {v : Option Value} {i : Nat} (h : zk_rf v = some i) : v = some (.ref i) := by
  unfold zk_rf at h
  split at h
  · cases h; rfl
  · cases h
theorem zk_in_in {v : Option Value} {x : Int32} (h : zk_in v = some x) : v = some (.int x) := by
  unfold zk_in at h
  split at h
  · cases h; rfl
  · cases h
theorem zk_f0_in {v : Option Value} (h : zk_f0 v = true) : v = some (.float 0) := by
  unfold zk_f0 at h
  split at h
  · next q =>
    have : q = 0 := UInt32.toNat_inj.mp (Nat.eq_of_beq_eq_true h)
    rw [this]
  · cases h
theorem zk_pv {D : zx_D} {L CL R : zx_L} {i : Nat} {v : Value} (hl : zx_lv D L CL) (hm : zx_ld L i = some v) (ih : ∃ C2, zx_lv D R C2 ∧ ∀ q ∈ C2, q ∈ CL) : ∃ C2, zx_lv D ((i, v) :: R) C2 ∧ ∀ q ∈ C2, q ∈ CL := zk_pc hl (zx_ld_mem hm) (fun _ h => h) ih
theorem zk_pj {D : zx_D} {L CL R : zx_L} {i : Nat} (hl : zx_lv D L CL) (hm : zk_jj (zx_ld L i) = true) (ih : ∃ C2, zx_lv D R C2 ∧ ∀ q ∈ C2, q ∈ CL) : ∃ C2, zx_lv D ((i, .double 0) :: R) C2 ∧ ∀ q ∈ C2, q ∈ CL := by
  unfold zk_jj at hm
  split at hm
  · next x e => exact zk_pc hl (zx_ld_mem e) (fun w h => by cases h; exact zx_dz _) ih
  · next b e => exact zk_pc hl (zx_ld_mem e) (fun w h => by obtain ⟨x, rfl, -⟩ := h; exact zx_dz _) ih
  · cases hm
theorem zk_pi {D : zx_D} {L CL R : zx_L} {i : Nat} (hl : zx_lv D L CL) (hm : zk_ii (zx_ld L i) = true) (ih : ∃ C2, zx_lv D R C2 ∧ ∀ q ∈ C2, q ∈ CL) : ∃ C2, zx_lv D ((i, .float 0) :: R) C2 ∧ ∀ q ∈ C2, q ∈ CL := by
  unfold zk_ii at hm
  split at hm
  · next x e => exact zk_pc hl (zx_ld_mem e) (fun w h => by cases h; exact zx_fz _) ih
  · next b e => exact zk_pc hl (zx_ld_mem e) (fun w h => by obtain ⟨x, rfl, -⟩ := h; exact zx_fz _) ih
  · cases hm

theorem zk_ifeq2 {P : zx_P} {G : zx_G} {M : zx_M} {E : zx_E} {d k0 s0 : Nat} {res : zx_T} {pc sl : Nat} {L : zx_L} {st : List Value} {h : zx_H} {off : Int} {tgt : Nat} {b : UInt32} (hd : decode M.2.1 pc = .ok (.ifCond .eq off, 3)) (ht : (pc : Int) + off = (tgt : Int)) (h1 : h.1 ≤ res.2.1.1 ∧ sl ≤ res.2.2 ∧ zx_w P G M E d k0 s0 res tgt L st h sl) (h2 : h.1 ≤ res.2.1.1 ∧ sl ≤ res.2.2 ∧ zx_w P G M E d k0 s0 res (pc + 3) L st h sl) : h.1 ≤ res.2.1.1 ∧ sl ≤ res.2.2 ∧ zx_w P G M E d k0 s0 res pc L (.float b :: st) h sl := by
  refine ⟨h1.1, h1.2.1, fun p e9 s m args below meth c C H locs ls CL cst hh hl g1 g2 g3 hk0 hs0 => ?_⟩
  obtain ⟨v, vs, rfl, hv, hvs⟩ := zx_vs_cons g3
  obtain ⟨x, rfl, -⟩ := hv
  exact lv_if_eq C.1 C.2.1 hd ht (fun _ => h1.2.2 p e9 s m args below meth c C H locs ls CL vs hh hl g1 g2 hvs hk0 hs0) (fun _ => h2.2.2 p e9 s m args below meth c C H locs ls CL vs hh hl g1 g2 hvs hk0 hs0)
theorem zk_ifne2 {P : zx_P} {G : zx_G} {M : zx_M} {E : zx_E} {d k0 s0 : Nat} {res : zx_T} {pc sl : Nat} {L : zx_L} {st : List Value} {h : zx_H} {off : Int} {tgt : Nat} {b : UInt32} (hd : decode M.2.1 pc = .ok (.ifCond .ne off, 3)) (ht : (pc : Int) + off = (tgt : Int)) (h1 : h.1 ≤ res.2.1.1 ∧ sl ≤ res.2.2 ∧ zx_w P G M E d k0 s0 res tgt L st h sl) (h2 : h.1 ≤ res.2.1.1 ∧ sl ≤ res.2.2 ∧ zx_w P G M E d k0 s0 res (pc + 3) L st h sl) : h.1 ≤ res.2.1.1 ∧ sl ≤ res.2.2 ∧ zx_w P G M E d k0 s0 res pc L (.float b :: st) h sl := by
  refine ⟨h1.1, h1.2.1, fun p e9 s m args below meth c C H locs ls CL cst hh hl g1 g2 g3 hk0 hs0 => ?_⟩
  obtain ⟨v, vs, rfl, hv, hvs⟩ := zx_vs_cons g3
  obtain ⟨x, rfl, -⟩ := hv
  exact lv_if_ne C.1 C.2.1 hd ht (fun _ => h1.2.2 p e9 s m args below meth c C H locs ls CL vs hh hl g1 g2 hvs hk0 hs0) (fun _ => h2.2.2 p e9 s m args below meth c C H locs ls CL vs hh hl g1 g2 hvs hk0 hs0)
theorem zk_icge2 {P : zx_P} {G : zx_G} {M : zx_M} {E : zx_E} {d k0 s0 : Nat} {res : zx_T} {pc sl : Nat} {L : zx_L} {st : List Value} {h : zx_H} {off : Int} {tgt : Nat} {b : UInt32} {y : Int32} (hd : decode M.2.1 pc = .ok (.if_icmp .ge off, 3)) (ht : (pc : Int) + off = (tgt : Int)) (h1 : h.1 ≤ res.2.1.1 ∧ sl ≤ res.2.2 ∧ zx_w P G M E d k0 s0 res tgt L st h sl) (h2 : h.1 ≤ res.2.1.1 ∧ sl ≤ res.2.2 ∧ zx_w P G M E d k0 s0 res (pc + 3) L st h sl) : h.1 ≤ res.2.1.1 ∧ sl ≤ res.2.2 ∧ zx_w P G M E d k0 s0 res pc L (.int y :: .float b :: st) h sl := by
  refine ⟨h1.1, h1.2.1, fun p e9 s m args below meth c C H locs ls CL cst hh hl g1 g2 g3 hk0 hs0 => ?_⟩
  obtain ⟨v, vs, rfl, hv, hvs⟩ := zx_vs_cons g3
  obtain ⟨v2, vs2, rfl, hv2, hvs2⟩ := zx_vs_cons hvs
  cases hv
  obtain ⟨x, rfl, -⟩ := hv2
  exact lv_icmp_ge C.1 C.2.1 hd ht (fun _ => h1.2.2 p e9 s m args below meth c C H locs ls CL vs2 hh hl g1 g2 hvs2 hk0 hs0) (fun _ => h2.2.2 p e9 s m args below meth c C H locs ls CL vs2 hh hl g1 g2 hvs2 hk0 hs0)
noncomputable def zk_Lc (i : Nat) (x : Value) : zx_L := [(10, x), (9, .float 0), (7, .double 0), (5, .double 0), (3, .double 0), (1, .double 0), (0, .ref i)]
/-- one round of the loop; the call is the run's own -/
noncomputable def zx_scC (mi : Nat) : zx_F := fun rec L st h sl kk => match zk_nil st && (zk_jj (zx_ld L 1) && (zk_jj (zx_ld L 3) && (zk_jj (zx_ld L 5) && (zk_jj (zx_ld L 7) && zk_ii (zx_ld L 9))))) with
  | false => none
  | true => match zk_rf (zx_ld L 0) with
    | none => none
    | some i => match zk_in (zx_ld L 10) with
      | none => none
      | some x => match decide (nI 16 ≤ x) with
        | true => kk 102 (zk_Lc i (.int x)) [] h sl
        | false => match rec mi [.double 0, .double 0, .int x] h sl with
          | none => none
          | some r => match zk_f0 r.1 with
            | false => none
            | true => kk 12 (zk_Lc i (zx_i (x + nI 1))) [] r.2.1 r.2.2
theorem zk_scanC {P : zx_P} {G : zx_G} {M : zx_M} {o : zx_O} {mi : Nat} {OK : List Value → zx_H → Bool} (hOK : ∀ as h, OK as h = true) (ho : zx_oo G.2.2.2.1 o) (d33 : decode M.2.1 33 = .ok (.ifCond .eq 63, 3)) (d42 : decode M.2.1 42 = .ok (.if_icmp .ge 17, 3)) (d69 : decode M.2.1 69 = .ok (.if_icmp .ge 7, 3)) (r12 : zx_ok P G M 12 (zx_loI 10 14)) (r14 : zx_ok P G M 14 (zx_ci (.int (nI 16)) 16)) (r16 : zx_ok P G M 16 (zx_icge o 102 19)) (r19 : zx_ok P G M 19 (zx_loJ 1 20)) (r20 : zx_ok P G M 20 (zx_loJ 3 21)) (r21 : zx_ok P G M 21 (zx_loI 10 23)) (r23 : zx_ok P G M 23 (zx_call mi 3 OK 26)) (r26 : zx_ok P G M 26 (zx_i2lN 27)) (r27 : zx_ok P G M 27 (zx_soJ 11 29)) (r29 : zx_ok P G M 29 (zx_loJ 11 31)) (r31 : zx_ok P G M 31 (zx_ci (.long (lN 0)) 32)) (r32 : zx_ok P G M 32 (zx_lcmpN o 33)) (r36 : zx_ok P G M 36 (zx_loJ 5 38)) (r38 : zx_ok P G M 38 (zx_loI 9 40)) (r40 : zx_ok P G M 40 (zx_ci (.int (nI 8)) 42)) (r45 : zx_ok P G M 45 (zx_loJ 11 47)) (r47 : zx_ok P G M 47 (zx_ci (.int (nI 56)) 49)) (r49 : zx_ok P G M 49 (zx_ci (.int (nI 8)) 51)) (r51 : zx_ok P G M 51 (zx_loI 9 53)) (r53 : zx_ok P G M 53 (zx_imulN 54)) (r54 : zx_ok P G M 54 (zx_isub o 55)) (r55 : zx_ok P G M 55 (zx_lshl 56)) (r56 : zx_ok P G M 56 (zx_goto 60)) (r59 : zx_ok P G M 59 (zx_ci (.long (lN 0)) 60)) (r60 : zx_ok P G M 60 (zx_lor 61)) (r61 : zx_ok P G M 61 (zx_soJ 5 63)) (r63 : zx_ok P G M 63 (zx_loJ 7 65)) (r65 : zx_ok P G M 65 (zx_loI 9 67)) (r67 : zx_ok P G M 67 (zx_ci (.int (nI 8)) 69)) (r72 : zx_ok P G M 72 (zx_ci (.long (lN 0)) 73)) (r73 : zx_ok P G M 73 (zx_goto 90)) (r76 : zx_ok P G M 76 (zx_loJ 11 78)) (r78 : zx_ok P G M 78 (zx_ci (.int (nI 56)) 80)) (r80 : zx_ok P G M 80 (zx_ci (.int (nI 8)) 82)) (r82 : zx_ok P G M 82 (zx_loI 9 84)) (r84 : zx_ok P G M 84 (zx_ci (.int (nI 7)) 86)) (r86 : zx_ok P G M 86 (zx_iandN o 87)) (r87 : zx_ok P G M 87 (zx_imulN 88)) (r88 : zx_ok P G M 88 (zx_isub o 89)) (r89 : zx_ok P G M 89 (zx_lshl 90)) (r90 : zx_ok P G M 90 (zx_lor 91)) (r91 : zx_ok P G M 91 (zx_soJ 7 93)) (r93 : zx_ok P G M 93 (zx_inc 9 (nI 1) 96)) (r96 : zx_ok P G M 96 (zx_inc 10 (nI 1) 99)) (r99 : zx_ok P G M 99 (zx_goto 12)) : zx_ok P G M 12 (zx_scC mi) := by
  have hask : ∀ b, zx_ask o 3 0 b = none := fun b => by
    cases e : zx_ask o 3 0 b with
    | none => rfl
    | some v => exact absurd rfl (zx_ask_ok ho e).1
  intro E d k0 s0 res rec kk L st h sl hE hr hrec hk
  unfold zx_scC at hr
  cases e0 : zk_nil st && (zk_jj (zx_ld L 1) && (zk_jj (zx_ld L 3) && (zk_jj (zx_ld L 5) && (zk_jj (zx_ld L 7) && zk_ii (zx_ld L 9))))) with
  | false => rw [e0] at hr; exact nomatch hr
  | true =>
  rw [e0] at hr
  dsimp only at hr
  simp only [Bool.and_eq_true] at e0
  obtain ⟨a0, a1, a3, a5, a7, a9⟩ := e0
  have hst := zk_nil_in a0
  subst hst
  cases e1 : zk_rf (zx_ld L 0) with
  | none => rw [e1] at hr; exact nomatch hr
  | some i =>
  rw [e1] at hr
  dsimp only at hr
  cases e2 : zk_in (zx_ld L 10) with
  | none => rw [e2] at hr; exact nomatch hr
  | some x =>
  rw [e2] at hr
  dsimp only at hr
  refine zk_pick (L2 := zk_Lc i (.int x)) (fun D CL hl => zk_pv hl (zk_in_in e2) (zk_pi hl a9 (zk_pj hl a7 (zk_pj hl a5 (zk_pj hl a3 (zk_pj hl a1 (zk_pv hl (zk_rf_in e1) zk_p0))))))) ?_
  unfold zk_Lc at hr ⊢
  refine zk_oneR hE hrec r12 (pc2 := 14) (L2 := [(10, .int x), (9, .float 0), (7, .double 0), (5, .double 0), (3, .double 0), (1, .double 0), (0, .ref i)]) (st2 := [.int x]) (h2 := h) (sl2 := sl) (fun k => rfl) ?_
  refine zk_oneR hE hrec r14 (pc2 := 16) (L2 := [(10, .int x), (9, .float 0), (7, .double 0), (5, .double 0), (3, .double 0), (1, .double 0), (0, .ref i)]) (st2 := [.int (nI 16), .int x]) (h2 := h) (sl2 := sl) (fun k => rfl) ?_
  cases e3 : decide (nI 16 ≤ x) with
  | true =>
    rw [e3] at hr
    dsimp only at hr
    refine zk_oneR hE hrec r16 (pc2 := 102) (L2 := [(10, .int x), (9, .float 0), (7, .double 0), (5, .double 0), (3, .double 0), (1, .double 0), (0, .ref i)]) (st2 := []) (h2 := h) (sl2 := sl) (fun k => ?_) (hk _ _ _ _ _ hr)
    show (match decide (nI 16 ≤ x) with | true => k 102 [(10, .int x), (9, .float 0), (7, .double 0), (5, .double 0), (3, .double 0), (1, .double 0), (0, .ref i)] [] h sl | false => k 19 [(10, .int x), (9, .float 0), (7, .double 0), (5, .double 0), (3, .double 0), (1, .double 0), (0, .ref i)] [] h sl) = _
    rw [e3]
  | false =>
  rw [e3] at hr
  dsimp only at hr
  refine zk_oneR hE hrec r16 (pc2 := 19) (L2 := [(10, .int x), (9, .float 0), (7, .double 0), (5, .double 0), (3, .double 0), (1, .double 0), (0, .ref i)]) (st2 := []) (h2 := h) (sl2 := sl) (fun k => ?_) ?_
  · show (match decide (nI 16 ≤ x) with | true => k 102 [(10, .int x), (9, .float 0), (7, .double 0), (5, .double 0), (3, .double 0), (1, .double 0), (0, .ref i)] [] h sl | false => k 19 [(10, .int x), (9, .float 0), (7, .double 0), (5, .double 0), (3, .double 0), (1, .double 0), (0, .ref i)] [] h sl) = _
    rw [e3]
  cases e4 : rec mi [.double 0, .double 0, .int x] h sl with
  | none => rw [e4] at hr; exact nomatch hr
  | some r =>
  obtain ⟨v4, h4, s4⟩ := r
  rw [e4] at hr
  dsimp only at hr
  cases e5 : zk_f0 v4 with
  | false => rw [e5] at hr; exact nomatch hr
  | true =>
  rw [e5] at hr
  dsimp only at hr
  have e6 := zk_f0_in e5
  subst e6
  have hend := hk _ _ _ _ _ hr
  refine zk_oneR hE hrec r19 (pc2 := 20) (L2 := [(10, .int x), (9, .float 0), (7, .double 0), (5, .double 0), (3, .double 0), (1, .double 0), (0, .ref i)]) (st2 := [.double 0]) (h2 := h) (sl2 := sl) (fun k => rfl) ?_
  refine zk_oneR hE hrec r20 (pc2 := 21) (L2 := [(10, .int x), (9, .float 0), (7, .double 0), (5, .double 0), (3, .double 0), (1, .double 0), (0, .ref i)]) (st2 := [.double 0, .double 0]) (h2 := h) (sl2 := sl) (fun k => rfl) ?_
  refine zk_oneR hE hrec r21 (pc2 := 23) (L2 := [(10, .int x), (9, .float 0), (7, .double 0), (5, .double 0), (3, .double 0), (1, .double 0), (0, .ref i)]) (st2 := [.int x, .double 0, .double 0]) (h2 := h) (sl2 := sl) (fun k => rfl) ?_
  refine zk_oneR hE hrec r23 (pc2 := 26) (L2 := [(10, .int x), (9, .float 0), (7, .double 0), (5, .double 0), (3, .double 0), (1, .double 0), (0, .ref i)]) (st2 := [.float 0]) (h2 := h4) (sl2 := s4) (fun k => ?_) ?_
  · show (match OK [.double 0, .double 0, .int x] h && true with | true => (match rec mi [.double 0, .double 0, .int x] h sl with | some (v, h2, s2) => k 26 [(10, .int x), (9, .float 0), (7, .double 0), (5, .double 0), (3, .double 0), (1, .double 0), (0, .ref i)] (v.toList ++ []) h2 s2 | none => none) | false => none) = _
    rw [hOK, e4]
    rfl
  have w96 : h4.1 ≤ res.2.1.1 ∧ s4 ≤ res.2.2 ∧ zx_w P G M E d k0 s0 res 96 [(10, .int x), (9, .float 0), (7, .double 0), (5, .double 0), (3, .double 0), (1, .double 0), (0, .ref i)] [] h4 s4 := by
    refine zk_oneR hE hrec r96 (pc2 := 99) (L2 := [(10, zx_i (x + nI 1)), (9, .float 0), (7, .double 0), (5, .double 0), (3, .double 0), (1, .double 0), (0, .ref i)]) (st2 := []) (h2 := h4) (sl2 := s4) (fun k => rfl) ?_
    refine zk_oneR hE hrec r99 (pc2 := 12) (L2 := [(10, zx_i (x + nI 1)), (9, .float 0), (7, .double 0), (5, .double 0), (3, .double 0), (1, .double 0), (0, .ref i)]) (st2 := []) (h2 := h4) (sl2 := s4) (fun k => rfl) ?_
    exact hend
  refine zk_oneR hE hrec r26 (pc2 := 27) (L2 := [(10, .int x), (9, .float 0), (7, .double 0), (5, .double 0), (3, .double 0), (1, .double 0), (0, .ref i)]) (st2 := [.double 0]) (h2 := h4) (sl2 := s4) (fun k => rfl) ?_
  refine zk_oneR hE hrec r27 (pc2 := 29) (L2 := [(11, .double 0), (10, .int x), (9, .float 0), (7, .double 0), (5, .double 0), (3, .double 0), (1, .double 0), (0, .ref i)]) (st2 := []) (h2 := h4) (sl2 := s4) (fun k => rfl) ?_
  refine zk_oneR hE hrec r29 (pc2 := 31) (L2 := [(11, .double 0), (10, .int x), (9, .float 0), (7, .double 0), (5, .double 0), (3, .double 0), (1, .double 0), (0, .ref i)]) (st2 := [.double 0]) (h2 := h4) (sl2 := s4) (fun k => rfl) ?_
  refine zk_oneR hE hrec r31 (pc2 := 32) (L2 := [(11, .double 0), (10, .int x), (9, .float 0), (7, .double 0), (5, .double 0), (3, .double 0), (1, .double 0), (0, .ref i)]) (st2 := [.long (lN 0), .double 0]) (h2 := h4) (sl2 := s4) (fun k => rfl) ?_
  refine zk_oneR hE hrec r32 (pc2 := 33) (L2 := [(11, .double 0), (10, .int x), (9, .float 0), (7, .double 0), (5, .double 0), (3, .double 0), (1, .double 0), (0, .ref i)]) (st2 := [.float 0]) (h2 := h4) (sl2 := s4) (fun k => rfl) ?_
  refine zk_ifeq2 (tgt := 96) d33 (by decide) (zk_pickR w96 (fun D CL hl => zk_pv hl rfl (zk_pv hl rfl (zk_pv hl rfl (zk_pv hl rfl (zk_pv hl rfl (zk_pv hl rfl (zk_pv hl rfl (zk_p0))))))))) ?_
  refine zk_oneR hE hrec r36 (pc2 := 38) (L2 := [(11, .double 0), (10, .int x), (9, .float 0), (7, .double 0), (5, .double 0), (3, .double 0), (1, .double 0), (0, .ref i)]) (st2 := [.double 0]) (h2 := h4) (sl2 := s4) (fun k => rfl) ?_
  refine zk_oneR hE hrec r38 (pc2 := 40) (L2 := [(11, .double 0), (10, .int x), (9, .float 0), (7, .double 0), (5, .double 0), (3, .double 0), (1, .double 0), (0, .ref i)]) (st2 := [.float 0, .double 0]) (h2 := h4) (sl2 := s4) (fun k => rfl) ?_
  refine zk_oneR hE hrec r40 (pc2 := 42) (L2 := [(11, .double 0), (10, .int x), (9, .float 0), (7, .double 0), (5, .double 0), (3, .double 0), (1, .double 0), (0, .ref i)]) (st2 := [.int (nI 8), .float 0, .double 0]) (h2 := h4) (sl2 := s4) (fun k => rfl) ?_
  have w61 : h4.1 ≤ res.2.1.1 ∧ s4 ≤ res.2.2 ∧ zx_w P G M E d k0 s0 res 61 [(11, .double 0), (10, .int x), (9, .float 0), (7, .double 0), (5, .double 0), (3, .double 0), (1, .double 0), (0, .ref i)] [.double 0] h4 s4 := by
    refine zk_oneR hE hrec r61 (pc2 := 63) (L2 := [(5, .double 0), (11, .double 0), (10, .int x), (9, .float 0), (7, .double 0), (3, .double 0), (1, .double 0), (0, .ref i)]) (st2 := []) (h2 := h4) (sl2 := s4) (fun k => rfl) ?_
    refine zk_oneR hE hrec r63 (pc2 := 65) (L2 := [(5, .double 0), (11, .double 0), (10, .int x), (9, .float 0), (7, .double 0), (3, .double 0), (1, .double 0), (0, .ref i)]) (st2 := [.double 0]) (h2 := h4) (sl2 := s4) (fun k => rfl) ?_
    refine zk_oneR hE hrec r65 (pc2 := 67) (L2 := [(5, .double 0), (11, .double 0), (10, .int x), (9, .float 0), (7, .double 0), (3, .double 0), (1, .double 0), (0, .ref i)]) (st2 := [.float 0, .double 0]) (h2 := h4) (sl2 := s4) (fun k => rfl) ?_
    refine zk_oneR hE hrec r67 (pc2 := 69) (L2 := [(5, .double 0), (11, .double 0), (10, .int x), (9, .float 0), (7, .double 0), (3, .double 0), (1, .double 0), (0, .ref i)]) (st2 := [.int (nI 8), .float 0, .double 0]) (h2 := h4) (sl2 := s4) (fun k => rfl) ?_
    have w91 : h4.1 ≤ res.2.1.1 ∧ s4 ≤ res.2.2 ∧ zx_w P G M E d k0 s0 res 91 [(5, .double 0), (11, .double 0), (10, .int x), (9, .float 0), (7, .double 0), (3, .double 0), (1, .double 0), (0, .ref i)] [.double 0] h4 s4 := by
      refine zk_oneR hE hrec r91 (pc2 := 93) (L2 := [(7, .double 0), (5, .double 0), (11, .double 0), (10, .int x), (9, .float 0), (3, .double 0), (1, .double 0), (0, .ref i)]) (st2 := []) (h2 := h4) (sl2 := s4) (fun k => rfl) ?_
      refine zk_oneR hE hrec r93 (pc2 := 96) (L2 := [(9, .float 0), (7, .double 0), (5, .double 0), (11, .double 0), (10, .int x), (3, .double 0), (1, .double 0), (0, .ref i)]) (st2 := []) (h2 := h4) (sl2 := s4) (fun k => rfl) ?_
      exact zk_pickR w96 (fun D CL hl => zk_pv hl rfl (zk_pv hl rfl (zk_pv hl rfl (zk_pv hl rfl (zk_pv hl rfl (zk_pv hl rfl (zk_pv hl rfl (zk_p0))))))))
    refine zk_icge2 (tgt := 76) d69 (by decide) ?_ ?_
    · refine zk_oneR hE hrec r76 (pc2 := 78) (L2 := [(5, .double 0), (11, .double 0), (10, .int x), (9, .float 0), (7, .double 0), (3, .double 0), (1, .double 0), (0, .ref i)]) (st2 := [.double 0, .double 0]) (h2 := h4) (sl2 := s4) (fun k => rfl) ?_
      refine zk_oneR hE hrec r78 (pc2 := 80) (L2 := [(5, .double 0), (11, .double 0), (10, .int x), (9, .float 0), (7, .double 0), (3, .double 0), (1, .double 0), (0, .ref i)]) (st2 := [.int (nI 56), .double 0, .double 0]) (h2 := h4) (sl2 := s4) (fun k => rfl) ?_
      refine zk_oneR hE hrec r80 (pc2 := 82) (L2 := [(5, .double 0), (11, .double 0), (10, .int x), (9, .float 0), (7, .double 0), (3, .double 0), (1, .double 0), (0, .ref i)]) (st2 := [.int (nI 8), .int (nI 56), .double 0, .double 0]) (h2 := h4) (sl2 := s4) (fun k => rfl) ?_
      refine zk_oneR hE hrec r82 (pc2 := 84) (L2 := [(5, .double 0), (11, .double 0), (10, .int x), (9, .float 0), (7, .double 0), (3, .double 0), (1, .double 0), (0, .ref i)]) (st2 := [.float 0, .int (nI 8), .int (nI 56), .double 0, .double 0]) (h2 := h4) (sl2 := s4) (fun k => rfl) ?_
      refine zk_oneR hE hrec r84 (pc2 := 86) (L2 := [(5, .double 0), (11, .double 0), (10, .int x), (9, .float 0), (7, .double 0), (3, .double 0), (1, .double 0), (0, .ref i)]) (st2 := [.int (nI 7), .float 0, .int (nI 8), .int (nI 56), .double 0, .double 0]) (h2 := h4) (sl2 := s4) (fun k => rfl) ?_
      refine zk_oneR hE hrec r86 (pc2 := 87) (L2 := [(5, .double 0), (11, .double 0), (10, .int x), (9, .float 0), (7, .double 0), (3, .double 0), (1, .double 0), (0, .ref i)]) (st2 := [.float 0, .int (nI 8), .int (nI 56), .double 0, .double 0]) (h2 := h4) (sl2 := s4) (fun k => by show (match zx_ask o 3 0 (nI 7) with | some v => k 87 [(5, .double 0), (11, .double 0), (10, .int x), (9, .float 0), (7, .double 0), (3, .double 0), (1, .double 0), (0, .ref i)] (v :: [.int (nI 8), .int (nI 56), .double 0, .double 0]) h4 s4 | none => k 87 [(5, .double 0), (11, .double 0), (10, .int x), (9, .float 0), (7, .double 0), (3, .double 0), (1, .double 0), (0, .ref i)] (.float 0 :: [.int (nI 8), .int (nI 56), .double 0, .double 0]) h4 s4) = _; rw [hask]) ?_
      refine zk_oneR hE hrec r87 (pc2 := 88) (L2 := [(5, .double 0), (11, .double 0), (10, .int x), (9, .float 0), (7, .double 0), (3, .double 0), (1, .double 0), (0, .ref i)]) (st2 := [.float 0, .int (nI 56), .double 0, .double 0]) (h2 := h4) (sl2 := s4) (fun k => rfl) ?_
      refine zk_oneR hE hrec r88 (pc2 := 89) (L2 := [(5, .double 0), (11, .double 0), (10, .int x), (9, .float 0), (7, .double 0), (3, .double 0), (1, .double 0), (0, .ref i)]) (st2 := [.float 0, .double 0, .double 0]) (h2 := h4) (sl2 := s4) (fun k => rfl) ?_
      refine zk_oneR hE hrec r89 (pc2 := 90) (L2 := [(5, .double 0), (11, .double 0), (10, .int x), (9, .float 0), (7, .double 0), (3, .double 0), (1, .double 0), (0, .ref i)]) (st2 := [.double 0, .double 0]) (h2 := h4) (sl2 := s4) (fun k => rfl) ?_
      refine zk_oneR hE hrec r90 (pc2 := 91) (L2 := [(5, .double 0), (11, .double 0), (10, .int x), (9, .float 0), (7, .double 0), (3, .double 0), (1, .double 0), (0, .ref i)]) (st2 := [.double 0]) (h2 := h4) (sl2 := s4) (fun k => rfl) ?_
      exact w91
    · refine zk_oneR hE hrec r72 (pc2 := 73) (L2 := [(5, .double 0), (11, .double 0), (10, .int x), (9, .float 0), (7, .double 0), (3, .double 0), (1, .double 0), (0, .ref i)]) (st2 := [.long (lN 0), .double 0]) (h2 := h4) (sl2 := s4) (fun k => rfl) ?_
      refine zk_oneR hE hrec r73 (pc2 := 90) (L2 := [(5, .double 0), (11, .double 0), (10, .int x), (9, .float 0), (7, .double 0), (3, .double 0), (1, .double 0), (0, .ref i)]) (st2 := [.long (lN 0), .double 0]) (h2 := h4) (sl2 := s4) (fun k => rfl) ?_
      refine zk_oneR hE hrec r90 (pc2 := 91) (L2 := [(5, .double 0), (11, .double 0), (10, .int x), (9, .float 0), (7, .double 0), (3, .double 0), (1, .double 0), (0, .ref i)]) (st2 := [.double 0]) (h2 := h4) (sl2 := s4) (fun k => rfl) ?_
      exact w91
  refine zk_icge2 (tgt := 59) d42 (by decide) ?_ ?_
  · refine zk_oneR hE hrec r59 (pc2 := 60) (L2 := [(11, .double 0), (10, .int x), (9, .float 0), (7, .double 0), (5, .double 0), (3, .double 0), (1, .double 0), (0, .ref i)]) (st2 := [.long (lN 0), .double 0]) (h2 := h4) (sl2 := s4) (fun k => rfl) ?_
    refine zk_oneR hE hrec r60 (pc2 := 61) (L2 := [(11, .double 0), (10, .int x), (9, .float 0), (7, .double 0), (5, .double 0), (3, .double 0), (1, .double 0), (0, .ref i)]) (st2 := [.double 0]) (h2 := h4) (sl2 := s4) (fun k => rfl) ?_
    exact w61
  · refine zk_oneR hE hrec r45 (pc2 := 47) (L2 := [(11, .double 0), (10, .int x), (9, .float 0), (7, .double 0), (5, .double 0), (3, .double 0), (1, .double 0), (0, .ref i)]) (st2 := [.double 0, .double 0]) (h2 := h4) (sl2 := s4) (fun k => rfl) ?_
    refine zk_oneR hE hrec r47 (pc2 := 49) (L2 := [(11, .double 0), (10, .int x), (9, .float 0), (7, .double 0), (5, .double 0), (3, .double 0), (1, .double 0), (0, .ref i)]) (st2 := [.int (nI 56), .double 0, .double 0]) (h2 := h4) (sl2 := s4) (fun k => rfl) ?_
    refine zk_oneR hE hrec r49 (pc2 := 51) (L2 := [(11, .double 0), (10, .int x), (9, .float 0), (7, .double 0), (5, .double 0), (3, .double 0), (1, .double 0), (0, .ref i)]) (st2 := [.int (nI 8), .int (nI 56), .double 0, .double 0]) (h2 := h4) (sl2 := s4) (fun k => rfl) ?_
    refine zk_oneR hE hrec r51 (pc2 := 53) (L2 := [(11, .double 0), (10, .int x), (9, .float 0), (7, .double 0), (5, .double 0), (3, .double 0), (1, .double 0), (0, .ref i)]) (st2 := [.float 0, .int (nI 8), .int (nI 56), .double 0, .double 0]) (h2 := h4) (sl2 := s4) (fun k => rfl) ?_
    refine zk_oneR hE hrec r53 (pc2 := 54) (L2 := [(11, .double 0), (10, .int x), (9, .float 0), (7, .double 0), (5, .double 0), (3, .double 0), (1, .double 0), (0, .ref i)]) (st2 := [.float 0, .int (nI 56), .double 0, .double 0]) (h2 := h4) (sl2 := s4) (fun k => rfl) ?_
    refine zk_oneR hE hrec r54 (pc2 := 55) (L2 := [(11, .double 0), (10, .int x), (9, .float 0), (7, .double 0), (5, .double 0), (3, .double 0), (1, .double 0), (0, .ref i)]) (st2 := [.float 0, .double 0, .double 0]) (h2 := h4) (sl2 := s4) (fun k => rfl) ?_
    refine zk_oneR hE hrec r55 (pc2 := 56) (L2 := [(11, .double 0), (10, .int x), (9, .float 0), (7, .double 0), (5, .double 0), (3, .double 0), (1, .double 0), (0, .ref i)]) (st2 := [.double 0, .double 0]) (h2 := h4) (sl2 := s4) (fun k => rfl) ?_
    refine zk_oneR hE hrec r56 (pc2 := 60) (L2 := [(11, .double 0), (10, .int x), (9, .float 0), (7, .double 0), (5, .double 0), (3, .double 0), (1, .double 0), (0, .ref i)]) (st2 := [.double 0, .double 0]) (h2 := h4) (sl2 := s4) (fun k => rfl) ?_
    refine zk_oneR hE hrec r60 (pc2 := 61) (L2 := [(11, .double 0), (10, .int x), (9, .float 0), (7, .double 0), (5, .double 0), (3, .double 0), (1, .double 0), (0, .ref i)]) (st2 := [.double 0]) (h2 := h4) (sl2 := s4) (fun k => rfl) ?_
    exact w61
noncomputable def zk_z0 (v : Option Value) : Bool := match v with
  | some (.int x) => Nat.beq x.toBitVec.toNat 0
  | _ => false
theorem zk_z0_in {v : Option Value} (h : zk_z0 v = true) : v = some (.int (nI 0)) := by
  unfold zk_z0 at h
  split at h
  · next x =>
    have : x = nI 0 := Int32.toBitVec_inj.mp (BitVec.eq_of_toNat_eq (Nat.eq_of_beq_eq_true h))
    rw [this]
  · cases h
theorem zk_anon {P : zx_P} {G : zx_G} {h : zx_H} {H : Heap} {r ty n : Nat} {y : Int32} {u : zx_Tr Value} (hr : zx_hg h r = some (.inr (ty, n, .int y, u))) (hr3 : r < 300000) (hu : u = zx_e10 Value) (hh : zx_hp P G h H) : zx_hp P G (zx_hs h r (.inr (ty, n, .float 0, u))) H := by
  obtain ⟨b1, b9, b2, b3, b4⟩ := hh
  refine ⟨b1, b9, b2, fun i a hi => ?_, b4⟩
  rw [zx_hg_hs _ _ _ _ hr3] at hi
  by_cases e : i = r
  · rw [if_pos e] at hi
    subst e
    cases hi
    have h9 := b3 i _ hr
    refine ⟨h9.1, ?_⟩
    obtain ⟨q, a1, f, a2, a3⟩ := h9.2
    refine ⟨q, a1, f, a2, fun j hj => ?_⟩
    have h8 : zx_v G.2.2.2.1 (zx_rd (.int y) u j) (f j) := a3 j hj
    show zx_v G.2.2.2.1 (zx_rd (.float 0) u j) (f j)
    rw [hu, zx_rd_e] at h8 ⊢
    have h7 : f j = .int y := h8
    rw [h7]
    exact zx_fz _
  · rw [if_neg e] at hi
    exact b3 i a hi
noncomputable def zk_Lm (i : Nat) (j n : Value) : zx_L := [(6, j), (5, n), (3, .double 0), (1, .double 0), (0, .ref i)]
/-- the whole loop -/
noncomputable def zx_scM (ci kf ty K0 : Nat) : zx_F := fun _ L st h sl kk => match zk_nil st && (zk_jj (zx_ld L 1) && (zk_jj (zx_ld L 3) && (zk_z0 (zx_ld L 5) && zk_z0 (zx_ld L 6)))) with
  | false => none
  | true => match zk_rf (zx_ld L 0) with
    | none => none
    | some i => match zx_go h i ci with
      | none => none
      | some fs => match zk_rf (zx_g10 fs kf) with
        | none => none
        | some r => match zx_ga h r ty with
          | none => none
          | some z => match zx_em z.2.2 && (Nat.beq z.1 16 && (Nat.ble K0 r && Nat.blt r 300000)) with
            | false => none
            | true => match zk_in (some z.2.1) with
              | none => none
              | some _ => zx_hsC h r (.inr (ty, z.1, .float 0, z.2.2)) (fun h2 => kk 70 (zk_Lm i (.int (nI 16)) (.float 0)) [] h2 sl)
theorem zk_scanM {P : zx_P} {G : zx_G} {M : zx_M} {o : zx_O} {ci kf ty K0 : Nat} (d46 : decode M.2.1 46 = .ok (.ifCond .ne 6, 3)) (r6 : zx_ok P G M 6 (zx_loI 6 8)) (r8 : zx_ok P G M 8 (zx_ci (.int (nI 16)) 10)) (r10 : zx_ok P G M 10 (zx_icge o 70 13)) (r13 : zx_ok P G M 13 (zx_loI 6 15)) (r15 : zx_ok P G M 15 (zx_ci (.int (nI 8)) 17)) (r17 : zx_ok P G M 17 (zx_icge o 24 20)) (r20 : zx_ok P G M 20 (zx_loJ 1 21)) (r21 : zx_ok P G M 21 (zx_goto 25)) (r24 : zx_ok P G M 24 (zx_loJ 3 25)) (r25 : zx_ok P G M 25 (zx_ci (.int (nI 56)) 27)) (r27 : zx_ok P G M 27 (zx_ci (.int (nI 8)) 29)) (r29 : zx_ok P G M 29 (zx_loI 6 31)) (r31 : zx_ok P G M 31 (zx_ci (.int (nI 8)) 33)) (r33 : zx_ok P G M 33 (zx_irem o 34)) (r34 : zx_ok P G M 34 (zx_imulN 35)) (r35 : zx_ok P G M 35 (zx_isub o 36)) (r36 : zx_ok P G M 36 (zx_lshr 37)) (r37 : zx_ok P G M 37 (zx_ci (.long (lN 255)) 40)) (r40 : zx_ok P G M 40 (zx_land 41)) (r41 : zx_ok P G M 41 (zx_l2iN 42)) (r42 : zx_ok P G M 42 (zx_soI 7 44)) (r44 : zx_ok P G M 44 (zx_loI 7 46)) (r49 : zx_ok P G M 49 (zx_goto 64)) (r52 : zx_ok P G M 52 (zx_loA 0 53)) (r53 : zx_ok P G M 53 (zx_getf ci kf 56)) (r56 : zx_ok P G M 56 (zx_loI 5 58)) (r58 : zx_ok P G M 58 (zx_loI 7 60)) (r60 : zx_ok P G M 60 (zx_ast K0 ty zx_cvI 61)) (r61 : zx_ok P G M 61 (zx_inc 5 (nI 1) 64)) (r64 : zx_ok P G M 64 (zx_inc 6 (nI 1) 67)) (r67 : zx_ok P G M 67 (zx_goto 6)) : zx_ok P G M 6 (zx_scM ci kf ty K0) := by
  intro E d k0 s0 res rec kk L st h sl hE hr hrec hk
  unfold zx_scM at hr
  cases e0 : zk_nil st && (zk_jj (zx_ld L 1) && (zk_jj (zx_ld L 3) && (zk_z0 (zx_ld L 5) && zk_z0 (zx_ld L 6)))) with
  | false => rw [e0] at hr; exact nomatch hr
  | true =>
  rw [e0] at hr
  dsimp only at hr
  simp only [Bool.and_eq_true] at e0
  obtain ⟨a0, a1, a3, a5, a6⟩ := e0
  have hst := zk_nil_in a0
  subst hst
  cases e1 : zk_rf (zx_ld L 0) with
  | none => rw [e1] at hr; exact nomatch hr
  | some i =>
  rw [e1] at hr
  dsimp only at hr
  cases e2 : zx_go h i ci with
  | none => rw [e2] at hr; exact nomatch hr
  | some fs =>
  rw [e2] at hr
  dsimp only at hr
  cases e3 : zk_rf (zx_g10 fs kf) with
  | none => rw [e3] at hr; exact nomatch hr
  | some r =>
  rw [e3] at hr
  dsimp only at hr
  cases e4 : zx_ga h r ty with
  | none => rw [e4] at hr; exact nomatch hr
  | some z =>
  obtain ⟨n9, dv, u⟩ := z
  rw [e4] at hr
  dsimp only at hr
  cases e5 : zx_em u && (Nat.beq n9 16 && (Nat.ble K0 r && Nat.blt r 300000)) with
  | false => rw [e5] at hr; exact nomatch hr
  | true =>
  rw [e5] at hr
  dsimp only at hr
  simp only [Bool.and_eq_true] at e5
  obtain ⟨c1, c2, c3, c4⟩ := e5
  have hu := zx_em_in c1
  have hn9 : n9 = 16 := Nat.eq_of_beq_eq_true c2
  subst hn9
  have hr3 : r < 300000 := Nat.le_of_ble_eq_true c4
  cases e6 : zk_in (some dv) with
  | none => rw [e6] at hr; exact nomatch hr
  | some y =>
  rw [e6] at hr
  dsimp only at hr
  rw [zx_hsC_eq] at hr
  have e7 : dv = .int y := Option.some.inj (zk_in_in e6)
  subst e7
  have hend := hk _ _ _ _ _ hr
  have hg := zx_ga_in e4
  have hne : i ≠ r := fun e => by
    subst e
    rw [zx_go_in e2] at hg
    cases hg
  have hgf := zk_rf_in e3
  refine zk_pick (L2 := zk_Lm i (.int (nI 0)) (.int (nI 0))) (fun D CL hl => zk_pv hl (zk_z0_in a6) (zk_pv hl (zk_z0_in a5) (zk_pj hl a3 (zk_pj hl a1 (zk_pv hl (zk_rf_in e1) zk_p0))))) ?_
  refine zk_w (h := zx_hs h r (.inr (ty, 16, .float 0, u))) rfl (fun H hH => zk_anon hg hr3 hu hH) ?_
  have hgA : zx_hg (zx_hs h r (.inr (ty, 16, .float 0, u))) r = some (.inr (ty, 16, .float 0, u)) := by rw [zx_hg_hs _ _ _ _ hr3, if_pos rfl]
  have hgo : zx_go (zx_hs h r (.inr (ty, 16, .float 0, u))) i ci = some fs := by
    have h7 := e2
    unfold zx_go at h7 ⊢
    rw [zx_hg_hs _ _ _ _ hr3, if_neg hne]
    exact h7
  have hga : zx_ga (zx_hs h r (.inr (ty, 16, .float 0, u))) r ty = some (16, .float 0, u) := by
    have h7 := e4
    unfold zx_ga at h7 ⊢
    rw [hgA]
    rw [hg] at h7
    dsimp only at h7 ⊢
    cases h8 : Nat.beq ty ty with
    | true => rfl
    | false => rw [h8] at h7; cases h7
  generalize hA : zx_hs h r (.inr (ty, 16, .float 0, u)) = A at hend hgA hgo hga ⊢
  have claim : ∀ m j n : Nat, j + m = 16 → n ≤ j → A.1 ≤ res.2.1.1 ∧ sl ≤ res.2.2 ∧ zx_w P G M E d k0 s0 res 6 (zk_Lm i (.int (nI j)) (.int (nI n))) [] A sl := by
    intro m
    induction m with
    | zero =>
      intro j n hj hn
      obtain rfl : j = 16 := by omega
      unfold zk_Lm at hend ⊢
      refine zk_oneR hE hrec r6 (pc2 := 8) (L2 := [(6, .int (nI 16)), (5, .int (nI n)), (3, .double 0), (1, .double 0), (0, .ref i)]) (st2 := [.int (nI 16)]) (h2 := A) (sl2 := sl) (fun k => rfl) ?_
      refine zk_oneR hE hrec r8 (pc2 := 10) (L2 := [(6, .int (nI 16)), (5, .int (nI n)), (3, .double 0), (1, .double 0), (0, .ref i)]) (st2 := [.int (nI 16), .int (nI 16)]) (h2 := A) (sl2 := sl) (fun k => rfl) ?_
      refine zk_oneR hE hrec r10 (pc2 := 70) (L2 := [(6, .int (nI 16)), (5, .int (nI n)), (3, .double 0), (1, .double 0), (0, .ref i)]) (st2 := []) (h2 := A) (sl2 := sl) (fun k => ?_) (zk_pickR hend (fun D CL hl => zk_pv hl rfl (zk_pi hl rfl (zk_pv hl rfl (zk_pv hl rfl (zk_pv hl rfl zk_p0))))))
      show (match decide (nI 16 ≤ nI 16) with | true => k 70 [(6, .int (nI 16)), (5, .int (nI n)), (3, .double 0), (1, .double 0), (0, .ref i)] [] A sl | false => k 13 [(6, .int (nI 16)), (5, .int (nI n)), (3, .double 0), (1, .double 0), (0, .ref i)] [] A sl) = _
      rw [decide_eq_true (nI_le (Nat.le_refl 16) (by omega))]
    | succ m ih =>
      intro j n hj hn
      have ih0 := ih (j + 1) n (by omega) (by omega)
      have ih1 := ih (j + 1) (n + 1) (by omega) (by omega)
      unfold zk_Lm at ih0 ih1 ⊢
      refine zk_oneR hE hrec r6 (pc2 := 8) (L2 := [(6, .int (nI j)), (5, .int (nI n)), (3, .double 0), (1, .double 0), (0, .ref i)]) (st2 := [.int (nI j)]) (h2 := A) (sl2 := sl) (fun k => rfl) ?_
      refine zk_oneR hE hrec r8 (pc2 := 10) (L2 := [(6, .int (nI j)), (5, .int (nI n)), (3, .double 0), (1, .double 0), (0, .ref i)]) (st2 := [.int (nI 16), .int (nI j)]) (h2 := A) (sl2 := sl) (fun k => rfl) ?_
      refine zk_oneR hE hrec r10 (pc2 := 13) (L2 := [(6, .int (nI j)), (5, .int (nI n)), (3, .double 0), (1, .double 0), (0, .ref i)]) (st2 := []) (h2 := A) (sl2 := sl) (fun k => ?_) ?_
      · show (match decide (nI 16 ≤ nI j) with | true => k 70 [(6, .int (nI j)), (5, .int (nI n)), (3, .double 0), (1, .double 0), (0, .ref i)] [] A sl | false => k 13 [(6, .int (nI j)), (5, .int (nI n)), (3, .double 0), (1, .double 0), (0, .ref i)] [] A sl) = _
        rw [decide_eq_false (nI_ge (by omega) (by omega))]
      have w64 : ∀ q : Nat, A.1 ≤ res.2.1.1 ∧ sl ≤ res.2.2 ∧ zx_w P G M E d k0 s0 res 6 [(6, .int (nI (j + 1))), (5, .int (nI q)), (3, .double 0), (1, .double 0), (0, .ref i)] [] A sl → A.1 ≤ res.2.1.1 ∧ sl ≤ res.2.2 ∧ zx_w P G M E d k0 s0 res 64 [(6, .int (nI j)), (5, .int (nI q)), (3, .double 0), (1, .double 0), (0, .ref i)] [] A sl := by
        intro q hq
        refine zk_oneR hE hrec r64 (pc2 := 67) (L2 := [(6, .int (nI (j + 1))), (5, .int (nI q)), (3, .double 0), (1, .double 0), (0, .ref i)]) (st2 := []) (h2 := A) (sl2 := sl) (fun k => ?_) ?_
        · show k 67 [(6, zx_i (nI j + nI 1)), (5, .int (nI q)), (3, .double 0), (1, .double 0), (0, .ref i)] [] A sl = _
          rw [zx_i_eq, nI_add]
        exact zk_oneR hE hrec r67 (pc2 := 6) (L2 := [(6, .int (nI (j + 1))), (5, .int (nI q)), (3, .double 0), (1, .double 0), (0, .ref i)]) (st2 := []) (h2 := A) (sl2 := sl) (fun k => rfl) hq
      have w25 : A.1 ≤ res.2.1.1 ∧ sl ≤ res.2.2 ∧ zx_w P G M E d k0 s0 res 25 [(6, .int (nI j)), (5, .int (nI n)), (3, .double 0), (1, .double 0), (0, .ref i)] [.double 0] A sl := by
        refine zk_oneR hE hrec r25 (pc2 := 27) (L2 := [(6, .int (nI j)), (5, .int (nI n)), (3, .double 0), (1, .double 0), (0, .ref i)]) (st2 := [.int (nI 56), .double 0]) (h2 := A) (sl2 := sl) (fun k => rfl) ?_
        refine zk_oneR hE hrec r27 (pc2 := 29) (L2 := [(6, .int (nI j)), (5, .int (nI n)), (3, .double 0), (1, .double 0), (0, .ref i)]) (st2 := [.int (nI 8), .int (nI 56), .double 0]) (h2 := A) (sl2 := sl) (fun k => rfl) ?_
        refine zk_oneR hE hrec r29 (pc2 := 31) (L2 := [(6, .int (nI j)), (5, .int (nI n)), (3, .double 0), (1, .double 0), (0, .ref i)]) (st2 := [.int (nI j), .int (nI 8), .int (nI 56), .double 0]) (h2 := A) (sl2 := sl) (fun k => rfl) ?_
        refine zk_oneR hE hrec r31 (pc2 := 33) (L2 := [(6, .int (nI j)), (5, .int (nI n)), (3, .double 0), (1, .double 0), (0, .ref i)]) (st2 := [.int (nI 8), .int (nI j), .int (nI 8), .int (nI 56), .double 0]) (h2 := A) (sl2 := sl) (fun k => rfl) ?_
        refine zk_oneR hE hrec r33 (pc2 := 34) (L2 := [(6, .int (nI j)), (5, .int (nI n)), (3, .double 0), (1, .double 0), (0, .ref i)]) (st2 := [.int (nI j - nI j / nI 8 * nI 8), .int (nI 8), .int (nI 56), .double 0]) (h2 := A) (sl2 := sl) (fun k => ?_) ?_
        · show (if nI 8 = 0 then none else k 34 [(6, .int (nI j)), (5, .int (nI n)), (3, .double 0), (1, .double 0), (0, .ref i)] (zx_i (nI j - nI j / nI 8 * nI 8) :: [.int (nI 8), .int (nI 56), .double 0]) A sl) = _
          rw [if_neg (by decide), zx_i_eq]
        generalize nI j - nI j / nI 8 * nI 8 = y1
        refine zk_oneR hE hrec r34 (pc2 := 35) (L2 := [(6, .int (nI j)), (5, .int (nI n)), (3, .double 0), (1, .double 0), (0, .ref i)]) (st2 := [.int (nI 8 * y1), .int (nI 56), .double 0]) (h2 := A) (sl2 := sl) (fun k => ?_) ?_
        · show k 35 [(6, .int (nI j)), (5, .int (nI n)), (3, .double 0), (1, .double 0), (0, .ref i)] (zx_i (nI 8 * y1) :: [.int (nI 56), .double 0]) A sl = _
          rw [zx_i_eq]
        generalize nI 8 * y1 = y2
        refine zk_oneR hE hrec r35 (pc2 := 36) (L2 := [(6, .int (nI j)), (5, .int (nI n)), (3, .double 0), (1, .double 0), (0, .ref i)]) (st2 := [.int (nI 56 - y2), .double 0]) (h2 := A) (sl2 := sl) (fun k => ?_) ?_
        · show k 36 [(6, .int (nI j)), (5, .int (nI n)), (3, .double 0), (1, .double 0), (0, .ref i)] (zx_i (nI 56 - y2) :: [.double 0]) A sl = _
          rw [zx_i_eq]
        generalize nI 56 - y2 = y3
        refine zk_oneR hE hrec r36 (pc2 := 37) (L2 := [(6, .int (nI j)), (5, .int (nI n)), (3, .double 0), (1, .double 0), (0, .ref i)]) (st2 := [.double 0]) (h2 := A) (sl2 := sl) (fun k => rfl) ?_
        refine zk_oneR hE hrec r37 (pc2 := 40) (L2 := [(6, .int (nI j)), (5, .int (nI n)), (3, .double 0), (1, .double 0), (0, .ref i)]) (st2 := [.long (lN 255), .double 0]) (h2 := A) (sl2 := sl) (fun k => rfl) ?_
        refine zk_oneR hE hrec r40 (pc2 := 41) (L2 := [(6, .int (nI j)), (5, .int (nI n)), (3, .double 0), (1, .double 0), (0, .ref i)]) (st2 := [.double 0]) (h2 := A) (sl2 := sl) (fun k => rfl) ?_
        refine zk_oneR hE hrec r41 (pc2 := 42) (L2 := [(6, .int (nI j)), (5, .int (nI n)), (3, .double 0), (1, .double 0), (0, .ref i)]) (st2 := [.float 0]) (h2 := A) (sl2 := sl) (fun k => rfl) ?_
        refine zk_oneR hE hrec r42 (pc2 := 44) (L2 := [(7, .float 0), (6, .int (nI j)), (5, .int (nI n)), (3, .double 0), (1, .double 0), (0, .ref i)]) (st2 := []) (h2 := A) (sl2 := sl) (fun k => rfl) ?_
        refine zk_oneR hE hrec r44 (pc2 := 46) (L2 := [(7, .float 0), (6, .int (nI j)), (5, .int (nI n)), (3, .double 0), (1, .double 0), (0, .ref i)]) (st2 := [.float 0]) (h2 := A) (sl2 := sl) (fun k => rfl) ?_
        refine zk_ifne2 (tgt := 52) d46 (by decide) ?_ ?_
        · refine zk_oneR hE hrec r52 (pc2 := 53) (L2 := [(7, .float 0), (6, .int (nI j)), (5, .int (nI n)), (3, .double 0), (1, .double 0), (0, .ref i)]) (st2 := [.ref i]) (h2 := A) (sl2 := sl) (fun k => rfl) ?_
          refine zk_oneR hE hrec r53 (pc2 := 56) (L2 := [(7, .float 0), (6, .int (nI j)), (5, .int (nI n)), (3, .double 0), (1, .double 0), (0, .ref i)]) (st2 := [.ref r]) (h2 := A) (sl2 := sl) (fun k => ?_) ?_
          · unfold zx_getf
            dsimp only
            rw [hgo]
            dsimp only
            rw [hgf]
          refine zk_oneR hE hrec r56 (pc2 := 58) (L2 := [(7, .float 0), (6, .int (nI j)), (5, .int (nI n)), (3, .double 0), (1, .double 0), (0, .ref i)]) (st2 := [.int (nI n), .ref r]) (h2 := A) (sl2 := sl) (fun k => rfl) ?_
          refine zk_oneR hE hrec r58 (pc2 := 60) (L2 := [(7, .float 0), (6, .int (nI j)), (5, .int (nI n)), (3, .double 0), (1, .double 0), (0, .ref i)]) (st2 := [.float 0, .int (nI n), .ref r]) (h2 := A) (sl2 := sl) (fun k => rfl) ?_
          refine zk_oneR hE hrec r60 (pc2 := 61) (L2 := [(7, .float 0), (6, .int (nI j)), (5, .int (nI n)), (3, .double 0), (1, .double 0), (0, .ref i)]) (st2 := []) (h2 := zx_hs A r (.inr (ty, 16, .float 0, zx_s10 (.float 0) u n))) (sl2 := sl) (fun k => ?_) ?_
          · unfold zx_ast
            dsimp only
            rw [c3, decide_eq_true (nI_pos' (by omega) : 0 ≤ nI n)]
            rw [Bool.and_self]
            dsimp only
            rw [hga]
            dsimp only
            rw [zx_fn_eq, nI_clamp (by omega)]
            have hb2 : Nat.blt n 16 = true := Nat.ble_eq_true_of_le (by omega)
            have hb3 : Nat.blt n 300000 = true := Nat.ble_eq_true_of_le (by omega)
            rw [hb2, hb3]
            rfl
          refine zk_w (h := zx_hs A r (.inr (ty, 16, .float 0, zx_s10 (.float 0) u n))) (h2 := zx_hs A r (.inr (ty, 16, .float 0, zx_s10 (.float 0) u n))) rfl (fun H hH => hH) ?_
          refine zk_w (h := A) rfl (fun H hH => zk_weak hgA hr3 hu (by omega) hH) ?_
          refine zk_oneR hE hrec r61 (pc2 := 64) (L2 := [(5, .int (nI (n + 1))), (7, .float 0), (6, .int (nI j)), (3, .double 0), (1, .double 0), (0, .ref i)]) (st2 := []) (h2 := A) (sl2 := sl) (fun k => ?_) (zk_pickR (w64 (n + 1) ih1) (fun D CL hl => zk_pv hl rfl (zk_pv hl rfl (zk_pv hl rfl (zk_pv hl rfl (zk_pv hl rfl zk_p0))))))
          show k 64 [(5, zx_i (nI n + nI 1)), (7, .float 0), (6, .int (nI j)), (3, .double 0), (1, .double 0), (0, .ref i)] [] A sl = _
          rw [zx_i_eq, nI_add]
        · exact zk_oneR hE hrec r49 (pc2 := 64) (L2 := [(7, .float 0), (6, .int (nI j)), (5, .int (nI n)), (3, .double 0), (1, .double 0), (0, .ref i)]) (st2 := []) (h2 := A) (sl2 := sl) (fun k => rfl) (zk_pickR (w64 n ih0) (fun D CL hl => zk_pv hl rfl (zk_pv hl rfl (zk_pv hl rfl (zk_pv hl rfl (zk_pv hl rfl zk_p0))))))
      refine zk_oneR hE hrec r13 (pc2 := 15) (L2 := [(6, .int (nI j)), (5, .int (nI n)), (3, .double 0), (1, .double 0), (0, .ref i)]) (st2 := [.int (nI j)]) (h2 := A) (sl2 := sl) (fun k => rfl) ?_
      refine zk_oneR hE hrec r15 (pc2 := 17) (L2 := [(6, .int (nI j)), (5, .int (nI n)), (3, .double 0), (1, .double 0), (0, .ref i)]) (st2 := [.int (nI 8), .int (nI j)]) (h2 := A) (sl2 := sl) (fun k => rfl) ?_
      cases e8 : decide (nI 8 ≤ nI j) with
      | true =>
        refine zk_oneR hE hrec r17 (pc2 := 24) (L2 := [(6, .int (nI j)), (5, .int (nI n)), (3, .double 0), (1, .double 0), (0, .ref i)]) (st2 := []) (h2 := A) (sl2 := sl) (fun k => ?_) ?_
        · show (match decide (nI 8 ≤ nI j) with | true => k 24 [(6, .int (nI j)), (5, .int (nI n)), (3, .double 0), (1, .double 0), (0, .ref i)] [] A sl | false => k 20 [(6, .int (nI j)), (5, .int (nI n)), (3, .double 0), (1, .double 0), (0, .ref i)] [] A sl) = _
          rw [e8]
        exact zk_oneR hE hrec r24 (pc2 := 25) (L2 := [(6, .int (nI j)), (5, .int (nI n)), (3, .double 0), (1, .double 0), (0, .ref i)]) (st2 := [.double 0]) (h2 := A) (sl2 := sl) (fun k => rfl) w25
      | false =>
        refine zk_oneR hE hrec r17 (pc2 := 20) (L2 := [(6, .int (nI j)), (5, .int (nI n)), (3, .double 0), (1, .double 0), (0, .ref i)]) (st2 := []) (h2 := A) (sl2 := sl) (fun k => ?_) ?_
        · show (match decide (nI 8 ≤ nI j) with | true => k 24 [(6, .int (nI j)), (5, .int (nI n)), (3, .double 0), (1, .double 0), (0, .ref i)] [] A sl | false => k 20 [(6, .int (nI j)), (5, .int (nI n)), (3, .double 0), (1, .double 0), (0, .ref i)] [] A sl) = _
          rw [e8]
        refine zk_oneR hE hrec r20 (pc2 := 21) (L2 := [(6, .int (nI j)), (5, .int (nI n)), (3, .double 0), (1, .double 0), (0, .ref i)]) (st2 := [.double 0]) (h2 := A) (sl2 := sl) (fun k => rfl) ?_
        refine zk_oneR hE hrec r21 (pc2 := 25) (L2 := [(6, .int (nI j)), (5, .int (nI n)), (3, .double 0), (1, .double 0), (0, .ref i)]) (st2 := [.double 0]) (h2 := A) (sl2 := sl) (fun k => rfl) ?_
        exact w25
  exact claim 16 0 0 rfl (Nat.le_refl 0)
