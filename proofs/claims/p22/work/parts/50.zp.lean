/-! ===== what is told, and states, laid down in numbers: read out by these ===== -/
/-- a number, and what is left: one byte, or two, four, sixteen behind a mark -/
noncomputable def zp_n (N : Nat) : Nat × Nat := match Nat.blt (Nat.mod N 256) 252 with
  | true => (Nat.mod N 256, Nat.div N 256)
  | false => match Nat.blt (Nat.mod N 256) 253 with
    | true => (Nat.mod (Nat.div N 256) 65536, Nat.div N 16777216)
    | false => match Nat.blt (Nat.mod N 256) 254 with
      | true => (Nat.mod (Nat.div N 256) 4294967296, Nat.div N 1099511627776)
      | false => match Nat.blt (Nat.mod N 256) 255 with
        | true => (Nat.mod (Nat.div N 256) 340282366920938463463374607431768211456, Nat.div N 87112285931760246646623899502532662132736)
        | false => (Nat.mod (Nat.div N 65536) (Nat.pow 256 (Nat.mod (Nat.div N 256) 256)), Nat.div N (Nat.pow 256 (Nat.add (Nat.mod (Nat.div N 256) 256) 2)))
noncomputable def zp_z (x : Nat) : Int := match Nat.beq (Nat.mod x 2) 0 with
  | true => Int.ofNat (Nat.div x 2)
  | false => Int.negSucc (Nat.div x 2)
noncomputable def zp_lk {α : Type} (f : Nat → α × Nat) (k : Nat) : Nat → List α × Nat := Nat.rec (motive := fun _ => Nat → List α × Nat) (fun N => ([], N)) (fun _ ih N => match f N with
  | (a, N1) => match ih N1 with
    | (l, N2) => (a :: l, N2)) k
noncomputable def zp_l {α : Type} (f : Nat → α × Nat) (N : Nat) : List α × Nat := match zp_n N with
  | (k, N1) => zp_lk f k N1
noncomputable def zp_t (N : Nat) : zt_T × Nat := match zp_n N with
  | (s, N1) => match zp_n N1 with
    | (q, N2) => ((s, zp_z q), N2)
/-- 0: a linear thing as it is; else a name, a number, a number and a name, a number less a name -/
noncomputable def zp_E (N : Nat) : zt_E × Nat := match zp_n N with
  | (c, N1) => match Nat.beq c 0 with
    | true => (match zp_n N1 with
      | (c, N2) => match zp_l zp_t N2 with
        | (l, N3) => ((zp_z c, l), N3))
    | false => match Nat.ble 2 (Nat.mod (Nat.sub c 1) 4) with
      | false => (match Nat.beq (Nat.mod (Nat.sub c 1) 4) 0 with
        | true => ((0, [(Nat.div (Nat.sub c 1) 4, 1)]), N1)
        | false => ((Int.ofNat (Nat.div (Nat.sub c 1) 4), []), N1))
      | true => (match zp_n N1 with
        | (z, N2) => match Nat.beq (Nat.mod (Nat.sub c 1) 4) 2 with
          | true => ((zp_z z, [(Nat.div (Nat.sub c 1) 4, 1)]), N2)
          | false => ((zp_z z, [(Nat.div (Nat.sub c 1) 4, -1)]), N2))
noncomputable def zp_V (N : Nat) : zt_V × Nat := match zp_n N with
  | (t, N1) => match Nat.beq t 2 with
    | true => (match zp_n N1 with
      | (a, N2) => ((2, (0, []), a), N2))
    | false => (match zp_E N1 with
      | (e, N2) => ((t, e, 0), N2))
noncomputable def zp_P (N : Nat) : ze_P × Nat := match zp_n N with
  | (w, N1) => match zp_l zp_n N1 with
    | (l, N2) => match zp_l zp_E N2 with
      | (es, N3) => ((w, l, es), N3)
noncomputable def zp_2 {α : Type} (f : Nat → α × Nat) (N : Nat) : (Nat × α) × Nat := match zp_n N with
  | (a, N1) => match f N1 with
    | (b, N2) => ((a, b), N2)
noncomputable def zp_q (N : Nat) : ((Nat × zt_E) × zt_V) × Nat := match zp_2 zp_E N with
  | (a, N1) => match zp_V N1 with
    | (b, N2) => ((a, b), N2)
noncomputable def zp_X (N : Nat) : ze_X × Nat := match zp_n N with
  | (n, N1) => match zp_l (zp_2 zp_n) N1 with
    | (m, N2) => match zp_l (zp_2 zp_E) N2 with
      | (gi, N3) => match zp_l (zp_2 zp_n) N3 with
        | (gr, N4) => match zp_l zp_P N4 with
          | (pr, N5) => ((n, m, gi, gr, pr), N5)
noncomputable def zp_S (N : Nat) : ze_S × Nat := match zp_n N with
  | (n, N1) => match zp_l (zp_2 zp_V) N1 with
    | (L, N2) => match zp_l zp_V N2 with
      | (st, N3) => match zp_l zp_q N3 with
        | (pl, N4) => match zp_l zp_E N4 with
          | (F, N5) => match zp_X N5 with
            | (X, N6) => (((n, L, st, pl, F), X), N6)
/-- a cut: a state, numbers that fall -/
noncomputable def zp_T (N : Nat) : ze_T := match zp_S N with
  | (S, N1) => match zp_l zp_E N1 with
    | (es, _) => (S, es)
/-- a contract -/
noncomputable def zp_K (N : Nat) : ze_K := match zp_n N with
  | (i, N1) => match zp_n N1 with
    | (h, N2) => match zp_S N2 with
      | (S, N3) => match zp_l zp_S N3 with
        | (ps, N4) => match zp_l (zp_2 zp_n) N4 with
          | (md, _) => (i, h, S, ps, md)
noncomputable def zp_rep : Nat → List ze_J → List ze_J
  | 0, l => l
  | n + 1, l => (0, [], [], []) :: zp_rep n l
/-- what is told: 0 ends, 1 goes on so many times, 2 to 4 masks, 5 a call or an end, else a sort and what belongs to it -/
noncomputable def zp_j1 (h N : Nat) : ze_J × Nat := match zp_l zp_n N with
  | (a, N2) => match zp_l zp_E N2 with
    | (es, N3) => match Nat.beq h 5 with
      | true => ((0, a, es, []), N3)
      | false => match zp_l zp_P N3 with
        | (ps, N4) => ((Nat.sub h 6, a, es, ps), N4)
noncomputable def zp_j0 (rec : Nat → List ze_J) (l : List ze_J) (h N : Nat) : List ze_J := match Nat.ble h 4 with
  | true => (match Nat.beq h 0 with
    | true => l
    | false => match zp_n N with
      | (n, N2) => match Nat.beq h 1 with
        | true => zp_rep n (rec N2)
        | false => (match Nat.beq h 2 with | true => 28 | false => (match Nat.beq h 3 with | true => 30 | false => 31), [n], [], []) :: rec N2)
  | false => match zp_j1 h N with
    | (j, N2) => j :: rec N2
noncomputable def zp_js (f : Nat) (l : List ze_J) : Nat → List ze_J := Nat.rec (motive := fun _ => Nat → List ze_J) (fun _ => l) (fun _ ih N => match zp_n N with
  | (h, N1) => zp_j0 ih l h N1) f
noncomputable def zp_jl : List Nat → List ze_J
  | [] => []
  | N :: l => zp_js 100000 (zp_jl l) N
