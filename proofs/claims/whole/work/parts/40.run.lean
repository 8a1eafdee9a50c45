/-! ===== the constructors' runs ===== -/
noncomputable def zt_r (r : zx_R) (n s : Nat) : Bool := match r with
  | some (none, (m, _), t) => Nat.beq n m && Nat.beq s t
  | _ => false
theorem zt_x : zt_r (zx_call0 (zu_P []) (fun _ _ _ _ _ => none) 100000 10 12 [.ref 17] (18, zx_s10 (.inl (12, zx_of zd_12)) (zx_e10 zx_A) 17) 15) 592 300958 = true := by decide +kernel
theorem zt_m : zt_r (zx_call0 (zu_P []) (fun _ _ _ _ _ => none) 200000 10 166 [.ref 17] (18, zx_s10 (.inl (19, zx_of zd_19)) (zx_e10 zx_A) 17) 119) 227 574481 = true := by decide +kernel
