/-! methods of the class: Table.rows -/
set_option maxRecDepth 100000 in
theorem qd_34_0 : decode qm34.2.2.1 0 = .ok (.aload_n 0, 1) := rfl
set_option maxRecDepth 100000 in
theorem qd_34_1 : decode qm34.2.2.1 1 = .ok (.getfield 19, 3) := rfl
set_option maxRecDepth 100000 in
theorem qd_34_4 : decode qm34.2.2.1 4 = .ok (.ireturn, 1) := rfl
set_option maxRecDepth 100000 in
theorem qf_3_19 : qfind (qfl ++ qfn) 3 19 = some (3, 2) := by decide +kernel
theorem zgetf_of {fl : Nat → Option (Nat × Nat)} {ix ci j a : Nat} {h : zH} {fs st : List Value} {v : Value} (h1 : fl ix = some (ci, j)) (h2 : h[a]? = some (.inr (ci, fs))) (h3 : fs[j]? = some v) : zgetf fl ix h (.ref a :: st) = some (v :: st) := by
  unfold zgetf
  simp [h1, h2, h3]
theorem qx_34 {L : Nat} {xs : Nat → Int32} {fv : Value} {d i : Nat} {h : zH} {w c : Value} {n : Int32} (hh : h[i]? = some (.inr (3, [w, c, .int n]))) : zX (qTT L xs fv) (d + 1) 34 [.ref i] h (.inl (some (.int n)), h, 0, 0) := by
  refine zX.of_R (M := qm34) rfl (Nat.le_of_ble_eq_true rfl) ?_
  refine zR.on (zS_pure (l' := [(0, .ref i)]) (st' := [.ref i]) qd_34_0 rfl rfl rfl) ?_
  refine zR.on (zS_mem (st' := [.int n]) qd_34_1 rfl rfl rfl (zgetf_of (ci := 3) (j := 2) qf_3_19 hh rfl)) ?_
  exact zR.ret (zS_rt (v := some (.int n)) qd_34_4 rfl rfl rfl rfl rfl rfl rfl rfl rfl rfl)
