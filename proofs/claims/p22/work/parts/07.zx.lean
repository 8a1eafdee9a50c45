/-! ===== rows of rows; references into rows ===== -/
theorem zx_outer (c : ClassId) (N h0 : Nat) : ∀ i : Nat, Multi.outerC c N h0 i = arrV c N (fun j => if j < i then .ref (h0 + 1 + j) else .null)
  | 0 => by
    show ({ cls := c, slots := Array.replicate N .null, vm := .none } : Cell) = _
    rw [arrV_new]
    refine congrArg (arrV c N) (funext fun j => ?_)
    simp
  | i + 1 => by
    show (Multi.outerC c N h0 i).setSlot i (.ref (h0 + 1 + i)) = _
    rw [zx_outer c N h0 i, arrV_store]
    refine congrArg (arrV c N) (funext fun j => ?_)
    by_cases e : j = i
    · subst e
      simp [updV]
    · by_cases h : j < i
      · simp [updV, e, h, Nat.lt_succ_of_lt h]
      · simp [updV, e, h, show ¬ j < i + 1 by omega]
/-- the outer row's places -/
noncomputable def zx_refs (q : Nat) : Nat → zx_Tr Value
  | 0 => zx_e10 Value
  | n + 1 => zx_s10 (.ref (q + 1 + n)) (zx_refs q n) n
theorem zx_refs_rd (q j : Nat) : ∀ n, n ≤ 300000 → zx_rd .null (zx_refs q n) j = if j < n then .ref (q + 1 + j) else .null
  | 0, _ => by
    unfold zx_refs
    rw [zx_rd_e, if_neg (Nat.not_lt_zero _)]
  | n + 1, hn => by
    unfold zx_refs
    rw [zx_rd_put _ _ _ _ _ (by omega), zx_refs_rd q j n (by omega)]
    by_cases e : j = n
    · subst e
      simp
    · by_cases h : j < n
      · simp [e, h, Nat.lt_succ_of_lt h]
      · simp [e, h, show ¬ j < n + 1 by omega]
noncomputable def zx_reps {β : Type} (a : zx_A) : Nat → List zx_A → (List zx_A → β) → β
  | 0, l, k => k l
  | n + 1, l, k => zx_reps a n (a :: l) k
theorem zx_reps_eq {β : Type} (a : zx_A) : ∀ (n : Nat) (l : List zx_A) (k : List zx_A → β), zx_reps a n l k = k (List.replicate n a ++ l)
  | 0, l, k => rfl
  | n + 1, l, k => by
    unfold zx_reps
    rw [zx_reps_eq a n, List.replicate_succ']
    simp
noncomputable def zx_mna (to ti cb : Nat) (dv : Value) (npc : Nat) : zx_F := fun _ L st h sl kk => match st with
  | .int k :: .int n :: r => match decide (0 ≤ k) && decide (0 ≤ n) with
    | true => zx_fn n.toNatClampNeg (fun N => zx_fn k.toNatClampNeg (fun K => zx_fn h.1 (fun q => zx_fn (sl + (N + N * K)) (fun s2 => match Nat.ble (q + (1 + N)) 300000 && (Nat.ble (N * 4) 536870912 && (Nat.ble (K * cb) 536870912 && Nat.ble K 536870912)) with
      | true => zx_reps (.inr (ti, K, dv, zx_e10 Value)) N [] (fun l => zx_haL (.inr (to, N, .null, zx_refs q N) :: l) h (fun h2 => kk npc L (.ref q :: r) h2 s2))
      | false => none))))
    | false => none
  | _ => none
theorem zx_multianewarray_ok {P : zx_P} {G : zx_G} {M : zx_M} {pc to ti cb index : Nat} {ty : FieldType} {dv : Value} (hA : zx_ad P G) (hto : P.2.1[to]? = some (.array ty)) (hti : P.2.1[ti]? = some ty) (hcb : componentBytes ty = cb) (hdv : defaultValue ty = dv) (hdd : zx_isd dv = true) (hdf : fits ty (defaultValue ty) = true) (hd2 : (defaultValue ty).isDefault = true)
    (hraO : ∀ U cA, va_RA U cA (.array ty) = (U.vm.findClass ("[" ++ (FieldType.array ty).toString) = some cA)) (hraI : ∀ U cA, va_RA U cA ty = (U.vm.findClass ("[" ++ ty.toString) = some cA)) (hstr : ("[" ++ ty.toString) = (FieldType.array ty).toString)
    (hw1 : Cond.classLink M.1.cls index ("[" ++ (FieldType.array ty).toString) ∈ P.2.2.1) (hw2 : FieldType.array ty ∈ P.2.2.2.2.2.2.2.1) (hw3 : Cond.arrayClass ty ∈ P.2.2.1) (hd : decode M.2.1 pc = .ok (.multianewarray index 2, 4)) : zx_ok P G M pc (zx_mna to ti cb dv (pc + 4)) := by
  refine zx_grow hA (fun rec kk L st h sl res hr => ?_)
  unfold zx_mna at hr
  split at hr
  · next k n r =>
    split at hr
    · next e1 =>
      simp only [Bool.and_eq_true] at e1
      rw [zx_fn_eq, zx_fn_eq, zx_fn_eq, zx_fn_eq] at hr
      split at hr
      · next e2 =>
        simp only [Bool.and_eq_true] at e2
        rw [zx_reps_eq, zx_haL_eq, List.append_nil] at hr
        have b1 := Nat.le_of_ble_eq_true e2.1
        have b2 := Nat.le_of_ble_eq_true e2.2.1
        have b3 := Nat.le_of_ble_eq_true e2.2.2.1
        have b4 := Nat.le_of_ble_eq_true e2.2.2.2
        refine ⟨_, _, .inr (to, n.toNatClampNeg, .null, zx_refs h.1 n.toNatClampNeg) :: List.replicate n.toNatClampNeg (.inr (ti, k.toNatClampNeg, dv, zx_e10 Value)), n.toNatClampNeg + n.toNatClampNeg * k.toNatClampNeg, by rw [List.length_cons, List.length_replicate]; omega, hr, fun p e R s m args below meth c H locs cells slots Q X hh hcel hslo hq ls cst g3 kk => ?_⟩
        obtain ⟨hx, hb, -, -, hown, hts, -, hK, -, hxx⟩ := X
        obtain ⟨cv, vs, rfl, hv, hvs⟩ := zx_vs_cons g3
        obtain ⟨cv2, vs2, rfl, hv2, hvs2⟩ := zx_vs_cons hvs
        cases hv
        cases hv2
        rw [List.length_cons, List.length_replicate] at hcel hq kk
        obtain ⟨cO, hcO⟩ := zx_tl hA hto
        obtain ⟨cI, hcI⟩ := zx_tl hA hti
        have hO := (hK.2 to _ hcO).2
        have hI := (hK.2 ti _ hcI).2
        rw [hraO] at hO
        rw [hraI, hstr] at hI
        intro T hT Xs
        obtain ⟨vm₁, cA, comp, -, fA, fC, -, -, X', step⟩ := Xs.multianewarray2F hx hown (hts _ hw1) (zx_AO_use (hxx.2.2.1 _ hw2)) (hts _ hw3) (g := F0 m pc ls (.int k :: .int n :: vs2)) rfl (by rw [hb]; exact hd) rfl (zx_not_neg e1.2) (zx_not_neg e1.1) b2 (by rw [hcb]; exact b3) b4 hdf hd2 (by omega) hslo
        have ec : some cI = some comp := hI.symm.trans fC
        cases ec
        have eo : some cO = some cA := hO.symm.trans fA
        cases eo
        generalize hF : Multi.fill (T.setVm vm₁) cO cI n.toNatClampNeg k.toNatClampNeg (defaultValue ty) n.toNatClampNeg = F at X' step
        have hTh : (T.setVm vm₁).heap = H := hT
        obtain ⟨f1, f2, -, -⟩ := Multi.fill_facts (T.setVm vm₁) cO cI n.toNatClampNeg k.toNatClampNeg (defaultValue ty) n.toNatClampNeg
        rw [hF, hTh] at f1 f2
        have hold : ∀ x : Nat, x < H.size → F.heap[x]? = H[x]? := fun x hx => by
          have := Multi.fill_old (T.setVm vm₁) cO cI n.toNatClampNeg k.toNatClampNeg (defaultValue ty) (a := x) (by rw [hTh]; exact hx) n.toNatClampNeg
          rw [hF, hTh] at this
          exact this
        have hrow : ∀ j : Nat, j < n.toNatClampNeg → F.heap[H.size + 1 + j]? = some (Multi.innerC cI k.toNatClampNeg (defaultValue ty)) := fun j hj => by
          have := Multi.fill_inner (T.setVm vm₁) cO cI n.toNatClampNeg k.toNatClampNeg (defaultValue ty) n.toNatClampNeg j hj
          rw [hF, hTh] at this
          exact this
        have hcl : ∀ (j : Nat) (a : zx_A), (.inr (to, n.toNatClampNeg, .null, zx_refs h.1 n.toNatClampNeg) :: List.replicate n.toNatClampNeg (.inr (ti, k.toNatClampNeg, dv, zx_e10 Value)) : List zx_A)[j]? = some a → zx_at P G a (H.size + j) F.heap := fun j a hj => ?_
        · obtain ⟨t, a1, a2⟩ := kk F.heap (.ref H.size :: vs2) (by rw [f1]; omega) hold hcl ⟨by show Value.ref H.size = .ref _; rw [show h.1 = h.1 + 0 from rfl, hq 0 (Nat.succ_pos _)]; rfl, hvs2⟩ F rfl (by
            have e9 : cells + (n.toNatClampNeg + 1) = cells + 1 + n.toNatClampNeg := by omega
            have e8 : slots + (n.toNatClampNeg + n.toNatClampNeg * k.toNatClampNeg) = slots + n.toNatClampNeg + n.toNatClampNeg * k.toNatClampNeg := by omega
            rw [e9, e8]
            exact X')
          refine ⟨t, step t ?_, a2⟩
          rw [hT]
          exact a1
        · cases j with
          | zero =>
            cases hj
            refine ⟨_, hcO, _, by rw [Nat.add_zero, f2, zx_outer], fun j hj => ?_⟩
            show zx_v _ (zx_rd .null (zx_refs h.1 n.toNatClampNeg) j) _
            rw [zx_refs_rd _ _ _ (by omega), if_pos hj, if_pos hj]
            show Value.ref _ = .ref _
            rw [show h.1 + 1 + j = h.1 + (j + 1) by omega, hq (j + 1) (Nat.succ_lt_succ hj)]
            exact congrArg Value.ref (show (H.size + 1 + j : Nat) = H.size + (j + 1) by omega)
          | succ j =>
            rw [List.getElem?_cons_succ, List.getElem?_replicate] at hj
            split at hj
            · next hjn =>
              cases hj
              refine ⟨_, hcI, fun _ => dv, ?_, fun j hj => zx_dfl (zx_rd_e _ _) hdd⟩
              rw [show H.size + (j + 1) = H.size + 1 + j by omega, hrow j hjn, ← hdv]
              show some ({ cls := cI, slots := Array.replicate _ _, vm := .none } : Cell) = _
              rw [arrV_new]
            · cases hj
      · cases hr
    · cases hr
  · cases hr
noncomputable def zx_cvR (v : Value) : Option Value := match v with
  | .ref i => some (.ref i)
  | _ => none
/-- an object of just the row's class is put in -/
noncomputable def zx_aast (K0 ty ci : Nat) (npc : Nat) : zx_F := fun _ L st h sl kk => match st with
  | .ref iv :: .int j :: .ref i :: r => match Nat.ble K0 i && decide (0 ≤ j) with
    | true => match zx_go h iv ci with
      | none => none
      | some _ => match zx_ga h i ty with
        | none => none
        | some x => zx_fn j.toNatClampNeg (fun q => match Nat.blt q x.1 && Nat.blt q 300000 with
          | true => zx_hsC h i (.inr (ty, x.1, x.2.1, zx_s10 (.ref iv) x.2.2 q)) (fun h2 => kk npc L r h2 sl)
          | false => none)
    | false => none
  | _ => none
theorem zx_aastore_ok {P : zx_P} {G : zx_G} {M : zx_M} {pc ty K0 ci : Nat} {r : vw_C} (hA : zx_ad P G) (hK0 : K0 = P.2.2.2.2.1) (hty : P.2.1[ty]? = some (.object r.1)) (hci : P.1[ci]? = some r) (hd : decode M.2.1 pc = .ok (.aastore, 1)) : zx_ok P G M pc (zx_aast K0 ty ci (pc + 1)) := by
  refine zx_write hA (fun rec kk L st h sl res hr => ?_)
  unfold zx_aast at hr
  split at hr
  · next iv j i rr =>
    cases e2 : Nat.ble K0 i && decide (0 ≤ j) with
    | false => rw [e2] at hr; exact nomatch hr
    | true =>
      rw [e2] at hr
      dsimp only at hr
      cases e0 : zx_go h iv ci with
      | none => rw [e0] at hr; exact nomatch hr
      | some fs =>
        rw [e0] at hr
        dsimp only at hr
        cases e1 : zx_ga h i ty with
        | none => rw [e1] at hr; exact nomatch hr
        | some x =>
          rw [e1] at hr
          dsimp only at hr
          rw [zx_fn_eq] at hr
          cases e3 : Nat.blt j.toNatClampNeg x.1 && Nat.blt j.toNatClampNeg 300000 with
          | false => rw [e3] at hr; exact nomatch hr
          | true =>
            rw [e3] at hr
            dsimp only at hr
            rw [zx_hsC_eq] at hr
            have e1v := zx_go_in e0
            have e4 := zx_ga_in e1
            simp only [Bool.and_eq_true] at e2 e3
            have hlt : j.toNatClampNeg < x.1 := Nat.le_of_ble_eq_true e3.1
            have hl3 : j.toNatClampNeg < 300000 := Nat.le_of_ble_eq_true e3.2
            refine ⟨_, _, i, _, by rw [← hK0]; exact Nat.le_of_ble_eq_true e2.1, ⟨_, e4⟩, hr, fun p l e R s m args below meth c H locs cells slots Q X hh ls cst g3 kk => ?_⟩
            obtain ⟨cv1, vs, rfl, hv, hvs⟩ := zx_vs_cons g3
            obtain ⟨cv2, vs2, rfl, hv2, hvs2⟩ := zx_vs_cons hvs
            obtain ⟨cv3, vs3, rfl, hv3, hvs3⟩ := zx_vs_cons hvs2
            cases hv
            cases hv2
            cases hv3
            obtain ⟨q, a1, f, a2, a3⟩ := (hh.2.2.2.1 i _ e4).2
            obtain ⟨cA, hcA⟩ := zx_tl hA hty
            obtain rfl : q = (cA, .object r.1) := Option.some.inj (a1.symm.trans hcA)
            obtain ⟨q, b1, V, ⟨cellV, q1, q2, q3, q4⟩, b4⟩ := (hh.2.2.2.1 iv _ e1v).2
            obtain rfl : q = r := Option.some.inj (b1.symm.trans hci)
            obtain ⟨hx, hb, -, -, hown, hts, -, hK, -⟩ := X
            have hcls := (hK.1 ci _ hci).2
            obtain ⟨kA, comp, k1, k2, k3, -⟩ := (hK.2 ty _ hcA).2
            have hcomp : comp = G.2.1.1 ci := Option.some.inj (k3.symm.trans hcls.1)
            subst hcomp
            obtain ⟨kC, hkC, -⟩ := hcls.2
            refine W.aast hx hb a2 (fun q h => by cases h) (fun h => by cases h) k1 k2 rfl hkC ⟨zx_not_neg e2.2, by rw [arrV_size]; exact hlt⟩ q1 (fun q h => by rw [q3] at h; cases h) (by rw [q2]; exact hkC) (by rw [q2]; exact va_assign hcls) rfl rfl hd fun H1 z1 z2 z3 => ?_
            rw [arrV_store] at z1
            refine kk H1 _ vs3 z2 z3 ⟨_, hcA, updV f j.toNatClampNeg _, z1, fun q hq => ?_⟩ hvs3
            show zx_v _ (zx_rd x.2.1 (zx_s10 (.ref iv) x.2.2 j.toNatClampNeg) q) _
            rw [zx_rd_put _ _ _ _ _ hl3]
            by_cases e : q = j.toNatClampNeg
            · rw [if_pos e]
              simp only [updV, if_pos e]
              rfl
            · rw [if_neg e]
              simp only [updV, if_neg e]
              exact a3 q hq
  · exact nomatch hr
