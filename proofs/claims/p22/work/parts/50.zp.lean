/-! ===== what is told, and states, laid down in numbers: read out by these ===== -/
/-- a number, and what is left: one byte, or two, four, sixteen behind a mark -/
noncomputable def zp_n2 (N : Nat) : Nat × Nat := match Nat.blt (Nat.mod N 256) 252 with
  | true => (Nat.mod N 256, Nat.div N 256)
  | false => match Nat.blt (Nat.mod N 256) 253 with
    | true => (Nat.mod (Nat.div N 256) 65536, Nat.div N 16777216)
    | false => match Nat.blt (Nat.mod N 256) 254 with
      | true => (Nat.mod (Nat.div N 256) 4294967296, Nat.div N 1099511627776)
      | false => match Nat.blt (Nat.mod N 256) 255 with
        | true => (Nat.mod (Nat.div N 256) 340282366920938463463374607431768211456, Nat.div N 87112285931760246646623899502532662132736)
        | false => (Nat.mod (Nat.div N 65536) (Nat.pow 256 (Nat.mod (Nat.div N 256) 256)), Nat.div N (Nat.pow 256 (Nat.add (Nat.mod (Nat.div N 256) 256) 2)))
noncomputable def zp_n (N : Nat) : Nat × Nat := Bool.rec (motive := fun _ => Nat × Nat) (zp_n2 N) ((Nat.mod N 256, Nat.div N 256)) (Nat.ble (Nat.mod N 256) 251)
noncomputable def zp_z (x : Nat) : Int := Bool.rec (motive := fun _ => Int) (Int.negSucc (Nat.div x 2)) (Int.ofNat (Nat.div x 2)) (Nat.beq (Nat.mod x 2) 0)
noncomputable def zp_lk {α : Type} (f : Nat → α × Nat) (k : Nat) : Nat → List α × Nat := Nat.rec (motive := fun _ => Nat → List α × Nat) (fun N => ([], N)) (fun _ ih N => Prod.rec (motive := fun _ => List α × Nat) (fun a N1 => Prod.rec (motive := fun _ => List α × Nat) (fun l N2 => (a :: l, N2)) (ih N1)) (f N)) k
noncomputable def zp_l {α : Type} (f : Nat → α × Nat) (N : Nat) : List α × Nat := Prod.rec (motive := fun _ => List α × Nat) (fun k N1 => zp_lk f k N1) (zp_n N)
noncomputable def zp_t (N : Nat) : zt_T × Nat := Prod.rec (motive := fun _ => zt_T × Nat) (fun s N1 => Prod.rec (motive := fun _ => zt_T × Nat) (fun q N2 => ((s, zp_z q), N2)) (zp_n N1)) (zp_n N)
/-- 0: a linear thing as it is; else a name, a number, a number and a name, a number less a name -/
noncomputable def zp_E (N : Nat) : zt_E × Nat := Prod.rec (motive := fun _ => zt_E × Nat) (fun c N1 => Bool.rec (motive := fun _ => zt_E × Nat) (Bool.rec (motive := fun _ => zt_E × Nat) (Bool.rec (motive := fun _ => zt_E × Nat) (((Int.ofNat (Nat.div (Nat.sub c 1) 4), []), N1)) (((Int.ofNat 0, [(Nat.div (Nat.sub c 1) 4, Int.ofNat 1)]), N1)) (Nat.beq (Nat.mod (Nat.sub c 1) 4) 0)) (Prod.rec (motive := fun _ => zt_E × Nat) (fun z N2 => Bool.rec (motive := fun _ => zt_E × Nat) (((zp_z z, [(Nat.div (Nat.sub c 1) 4, Int.negSucc 0)]), N2)) (((zp_z z, [(Nat.div (Nat.sub c 1) 4, Int.ofNat 1)]), N2)) (Nat.beq (Nat.mod (Nat.sub c 1) 4) 2)) (zp_n N1)) (Nat.ble 2 (Nat.mod (Nat.sub c 1) 4))) (Prod.rec (motive := fun _ => zt_E × Nat) (fun c N2 => Prod.rec (motive := fun _ => zt_E × Nat) (fun l N3 => ((zp_z c, l), N3)) (zp_l zp_t N2)) (zp_n N1)) (Nat.beq c 0)) (zp_n N)
noncomputable def zp_V (N : Nat) : zt_V × Nat := Prod.rec (motive := fun _ => zt_V × Nat) (fun t N1 => Bool.rec (motive := fun _ => zt_V × Nat) (Prod.rec (motive := fun _ => zt_V × Nat) (fun e N2 => ((t, e, 0), N2)) (zp_E N1)) (Prod.rec (motive := fun _ => zt_V × Nat) (fun a N2 => ((2, (Int.ofNat 0, []), a), N2)) (zp_n N1)) (Nat.beq t 2)) (zp_n N)
noncomputable def zp_P (N : Nat) : ze_P × Nat := Prod.rec (motive := fun _ => ze_P × Nat) (fun w N1 => Prod.rec (motive := fun _ => ze_P × Nat) (fun l N2 => Prod.rec (motive := fun _ => ze_P × Nat) (fun es N3 => ((w, l, es), N3)) (zp_l zp_E N2)) (zp_l zp_n N1)) (zp_n N)
noncomputable def zp_2 {α : Type} (f : Nat → α × Nat) (N : Nat) : (Nat × α) × Nat := Prod.rec (motive := fun _ => (Nat × α) × Nat) (fun a N1 => Prod.rec (motive := fun _ => (Nat × α) × Nat) (fun b N2 => ((a, b), N2)) (f N1)) (zp_n N)
noncomputable def zp_q (N : Nat) : ((Nat × zt_E) × zt_V) × Nat := Prod.rec (motive := fun _ => ((Nat × zt_E) × zt_V) × Nat) (fun a N1 => Prod.rec (motive := fun _ => ((Nat × zt_E) × zt_V) × Nat) (fun b N2 => ((a, b), N2)) (zp_V N1)) (zp_2 zp_E N)
noncomputable def zp_X (N : Nat) : ze_X × Nat := match zp_n N with
  | (n, N1) => match zp_l (zp_2 zp_n) N1 with
    | (m, N2) => match zp_l (zp_2 zp_E) N2 with
      | (gi, N3) => match zp_l (zp_2 zp_n) N3 with
        | (gr, N4) => match zp_l zp_P N4 with
          | (pr, N5) => ((n, m, gi, gr, pr), N5)
noncomputable def zp_S (N : Nat) : ze_S × Nat := match zp_n N with
  | (n, N1) => match zp_l (zp_2 zp_V) N1 with
    | (L, N2) => match zp_l zp_V N2 with
      | (st, N3) => match zp_l zp_q N3 with
        | (pl, N4) => match zp_l zp_E N4 with
          | (F, N5) => match zp_X N5 with
            | (X, N6) => (((n, L, st, pl, F), X), N6)
/-- a cut: a state, numbers that fall -/
noncomputable def zp_T (N : Nat) : ze_T := match zp_S N with
  | (S, N1) => match zp_l zp_E N1 with
    | (es, _) => (S, es)
/-- a contract -/
noncomputable def zp_K (N : Nat) : ze_K := match zp_n N with
  | (i, N1) => match zp_n N1 with
    | (h, N2) => match zp_S N2 with
      | (S, N3) => match zp_l zp_S N3 with
        | (ps, N4) => match zp_l (zp_2 zp_n) N4 with
          | (md, _) => (i, h, S, ps, md)
noncomputable def zp_rep (n : Nat) (l : List ze_J) : List ze_J := Nat.rec (motive := fun _ => List ze_J) l (fun _ ih => (0, [], [], []) :: ih) n
/-- what is told: 0 ends, 1 goes on so many times, 2 to 4 masks, 5 a call or an end, 250 a step that looks at a few facts, else a sort and what belongs to it -/
noncomputable def zp_j1 (h N : Nat) : ze_J × Nat := match zp_l zp_n N with
  | (a, N2) => match zp_l zp_E N2 with
    | (es, N3) => match Nat.beq h 5 with
      | true => ((0, a, es, []), N3)
      | false => match zp_l zp_P N3 with
        | (ps, N4) => ((Nat.sub h 6, a, es, ps), N4)
noncomputable def zp_j0 (rec : Nat → List ze_J) (l : List ze_J) (h N : Nat) : List ze_J := Bool.rec (motive := fun _ => List ze_J) (Bool.rec (motive := fun _ => List ze_J) (Prod.rec (motive := fun _ => List ze_J) (fun j N2 => j :: rec N2) (zp_j1 h N)) (Prod.rec (motive := fun _ => List ze_J) (fun m N2 => Prod.rec (motive := fun _ => List ze_J) (fun k N3 => (0, [m, k], [], []) :: rec N3) (zp_n N2)) (zp_n N)) (Nat.beq h 250)) (Bool.rec (motive := fun _ => List ze_J) (Prod.rec (motive := fun _ => List ze_J) (fun n N2 => Bool.rec (motive := fun _ => List ze_J) ((Bool.rec (motive := fun _ => Nat) (Bool.rec (motive := fun _ => Nat) (31) (30) (Nat.beq h 3)) (28) (Nat.beq h 2), [n], [], []) :: rec N2) (zp_rep n (rec N2)) (Nat.beq h 1)) (zp_n N)) (l) (Nat.beq h 0)) (Nat.ble h 4)
noncomputable def zp_js (f : Nat) (l : List ze_J) : Nat → List ze_J := Nat.rec (motive := fun _ => Nat → List ze_J) (fun _ => l) (fun _ ih N => Prod.rec (motive := fun _ => List ze_J) (fun h N1 => zp_j0 ih l h N1) (zp_n N)) f
noncomputable def zp_jl (l : List Nat) : List ze_J := List.rec (motive := fun _ => List ze_J) [] (fun N _ ih => zp_js 100000 ih N) l
