/-! THE LAW'S HELPERS (printed by a program of mine: wip/whole/gen_help.py) -/
theorem qd_195_0 : decode qm195.2.2.1 0 = .ok (.aload_n 1, 1) := by decide +kernel
theorem qd_195_1 : decode qm195.2.2.1 1 = .ok (.iconst 0, 1) := by decide +kernel
theorem qd_195_2 : decode qm195.2.2.1 2 = .ok (.aload_n 0, 1) := by decide +kernel
theorem qd_195_3 : decode qm195.2.2.1 3 = .ok (.invokevirtual 7, 3) := by decide +kernel
theorem qd_195_6 : decode qm195.2.2.1 6 = .ok (.i2l, 1) := by decide +kernel
theorem qd_195_7 : decode qm195.2.2.1 7 = .ok (.lastore, 1) := by decide +kernel
theorem qd_195_8 : decode qm195.2.2.1 8 = .ok (.goto 9, 3) := by decide +kernel
theorem qd_195_11 : decode qm195.2.2.1 11 = .ok (.astore_n 2, 1) := by decide +kernel
theorem qd_195_12 : decode qm195.2.2.1 12 = .ok (.iconst 1, 1) := by decide +kernel
theorem qd_195_13 : decode qm195.2.2.1 13 = .ok (.ireturn, 1) := by decide +kernel
theorem qd_195_14 : decode qm195.2.2.1 14 = .ok (.astore_n 2, 1) := by decide +kernel
theorem qd_195_15 : decode qm195.2.2.1 15 = .ok (.iconst 2, 1) := by decide +kernel
theorem qd_195_16 : decode qm195.2.2.1 16 = .ok (.ireturn, 1) := by decide +kernel
theorem qd_195_17 : decode qm195.2.2.1 17 = .ok (.iconst 0, 1) := by decide +kernel
theorem qd_195_18 : decode qm195.2.2.1 18 = .ok (.ireturn, 1) := by decide +kernel
theorem qtm_195 {w : qE} : zTms w.T 195 = some qm195 := rfl
theorem qd_196_0 : decode qm196.2.2.1 0 = .ok (.aload_n 3, 1) := by decide +kernel
theorem qd_196_1 : decode qm196.2.2.1 1 = .ok (.iconst 0, 1) := by decide +kernel
theorem qd_196_2 : decode qm196.2.2.1 2 = .ok (.aload_n 0, 1) := by decide +kernel
theorem qd_196_3 : decode qm196.2.2.1 3 = .ok (.iload_n 1, 1) := by decide +kernel
theorem qd_196_4 : decode qm196.2.2.1 4 = .ok (.iload_n 2, 1) := by decide +kernel
theorem qd_196_5 : decode qm196.2.2.1 5 = .ok (.invokevirtual 17, 3) := by decide +kernel
theorem qd_196_8 : decode qm196.2.2.1 8 = .ok (.i2l, 1) := by decide +kernel
theorem qd_196_9 : decode qm196.2.2.1 9 = .ok (.lastore, 1) := by decide +kernel
theorem qd_196_10 : decode qm196.2.2.1 10 = .ok (.goto 7, 3) := by decide +kernel
theorem qd_196_13 : decode qm196.2.2.1 13 = .ok (.astore 4, 2) := by decide +kernel
theorem qd_196_15 : decode qm196.2.2.1 15 = .ok (.iconst 1, 1) := by decide +kernel
theorem qd_196_16 : decode qm196.2.2.1 16 = .ok (.ireturn, 1) := by decide +kernel
theorem qd_196_17 : decode qm196.2.2.1 17 = .ok (.iconst 0, 1) := by decide +kernel
theorem qd_196_18 : decode qm196.2.2.1 18 = .ok (.ireturn, 1) := by decide +kernel
theorem qtm_196 {w : qE} : zTms w.T 196 = some qm196 := rfl
theorem qd_197_0 : decode qm197.2.2.1 0 = .ok (.aload_n 2, 1) := by decide +kernel
theorem qd_197_1 : decode qm197.2.2.1 1 = .ok (.iconst 0, 1) := by decide +kernel
theorem qd_197_2 : decode qm197.2.2.1 2 = .ok (.aload_n 0, 1) := by decide +kernel
theorem qd_197_3 : decode qm197.2.2.1 3 = .ok (.iload_n 1, 1) := by decide +kernel
theorem qd_197_4 : decode qm197.2.2.1 4 = .ok (.invokevirtual 23, 3) := by decide +kernel
theorem qd_197_7 : decode qm197.2.2.1 7 = .ok (.dastore, 1) := by decide +kernel
theorem qd_197_8 : decode qm197.2.2.1 8 = .ok (.goto 9, 3) := by decide +kernel
theorem qd_197_11 : decode qm197.2.2.1 11 = .ok (.astore_n 3, 1) := by decide +kernel
theorem qd_197_12 : decode qm197.2.2.1 12 = .ok (.iconst 1, 1) := by decide +kernel
theorem qd_197_13 : decode qm197.2.2.1 13 = .ok (.ireturn, 1) := by decide +kernel
theorem qd_197_14 : decode qm197.2.2.1 14 = .ok (.astore_n 3, 1) := by decide +kernel
theorem qd_197_15 : decode qm197.2.2.1 15 = .ok (.iconst 2, 1) := by decide +kernel
theorem qd_197_16 : decode qm197.2.2.1 16 = .ok (.ireturn, 1) := by decide +kernel
theorem qd_197_17 : decode qm197.2.2.1 17 = .ok (.iconst 0, 1) := by decide +kernel
theorem qd_197_18 : decode qm197.2.2.1 18 = .ok (.ireturn, 1) := by decide +kernel
theorem qtm_197 {w : qE} : zTms w.T 197 = some qm197 := rfl
theorem qd_198_0 : decode qm198.2.2.1 0 = .ok (.aload_n 3, 1) := by decide +kernel
theorem qd_198_1 : decode qm198.2.2.1 1 = .ok (.iconst 0, 1) := by decide +kernel
theorem qd_198_2 : decode qm198.2.2.1 2 = .ok (.aload_n 0, 1) := by decide +kernel
theorem qd_198_3 : decode qm198.2.2.1 3 = .ok (.iload_n 1, 1) := by decide +kernel
theorem qd_198_4 : decode qm198.2.2.1 4 = .ok (.iload_n 2, 1) := by decide +kernel
theorem qd_198_5 : decode qm198.2.2.1 5 = .ok (.invokevirtual 29, 3) := by decide +kernel
theorem qd_198_8 : decode qm198.2.2.1 8 = .ok (.i2l, 1) := by decide +kernel
theorem qd_198_9 : decode qm198.2.2.1 9 = .ok (.lastore, 1) := by decide +kernel
theorem qd_198_10 : decode qm198.2.2.1 10 = .ok (.goto 7, 3) := by decide +kernel
theorem qd_198_13 : decode qm198.2.2.1 13 = .ok (.astore 4, 2) := by decide +kernel
theorem qd_198_15 : decode qm198.2.2.1 15 = .ok (.iconst 1, 1) := by decide +kernel
theorem qd_198_16 : decode qm198.2.2.1 16 = .ok (.ireturn, 1) := by decide +kernel
theorem qd_198_17 : decode qm198.2.2.1 17 = .ok (.iconst 0, 1) := by decide +kernel
theorem qd_198_18 : decode qm198.2.2.1 18 = .ok (.ireturn, 1) := by decide +kernel
theorem qtm_198 {w : qE} : zTms w.T 198 = some qm198 := rfl
theorem qd_199_0 : decode qm199.2.2.1 0 = .ok (.aload_n 3, 1) := by decide +kernel
theorem qd_199_1 : decode qm199.2.2.1 1 = .ok (.iconst 0, 1) := by decide +kernel
theorem qd_199_2 : decode qm199.2.2.1 2 = .ok (.aload_n 0, 1) := by decide +kernel
theorem qd_199_3 : decode qm199.2.2.1 3 = .ok (.iload_n 1, 1) := by decide +kernel
theorem qd_199_4 : decode qm199.2.2.1 4 = .ok (.iload_n 2, 1) := by decide +kernel
theorem qd_199_5 : decode qm199.2.2.1 5 = .ok (.invokevirtual 32, 3) := by decide +kernel
theorem qd_199_8 : decode qm199.2.2.1 8 = .ok (.i2l, 1) := by decide +kernel
theorem qd_199_9 : decode qm199.2.2.1 9 = .ok (.lastore, 1) := by decide +kernel
theorem qd_199_10 : decode qm199.2.2.1 10 = .ok (.goto 7, 3) := by decide +kernel
theorem qd_199_13 : decode qm199.2.2.1 13 = .ok (.astore 4, 2) := by decide +kernel
theorem qd_199_15 : decode qm199.2.2.1 15 = .ok (.iconst 1, 1) := by decide +kernel
theorem qd_199_16 : decode qm199.2.2.1 16 = .ok (.ireturn, 1) := by decide +kernel
theorem qd_199_17 : decode qm199.2.2.1 17 = .ok (.iconst 0, 1) := by decide +kernel
theorem qd_199_18 : decode qm199.2.2.1 18 = .ok (.ireturn, 1) := by decide +kernel
theorem qtm_199 {w : qE} : zTms w.T 199 = some qm199 := rfl
theorem qd_200_0 : decode qm200.2.2.1 0 = .ok (.aload_n 2, 1) := by decide +kernel
theorem qd_200_1 : decode qm200.2.2.1 1 = .ok (.iconst 0, 1) := by decide +kernel
theorem qd_200_2 : decode qm200.2.2.1 2 = .ok (.aload_n 0, 1) := by decide +kernel
theorem qd_200_3 : decode qm200.2.2.1 3 = .ok (.iload_n 1, 1) := by decide +kernel
theorem qd_200_4 : decode qm200.2.2.1 4 = .ok (.invokevirtual 35, 3) := by decide +kernel
theorem qd_200_7 : decode qm200.2.2.1 7 = .ok (.i2l, 1) := by decide +kernel
theorem qd_200_8 : decode qm200.2.2.1 8 = .ok (.lastore, 1) := by decide +kernel
theorem qd_200_9 : decode qm200.2.2.1 9 = .ok (.goto 6, 3) := by decide +kernel
theorem qd_200_12 : decode qm200.2.2.1 12 = .ok (.astore_n 3, 1) := by decide +kernel
theorem qd_200_13 : decode qm200.2.2.1 13 = .ok (.iconst 1, 1) := by decide +kernel
theorem qd_200_14 : decode qm200.2.2.1 14 = .ok (.ireturn, 1) := by decide +kernel
theorem qd_200_15 : decode qm200.2.2.1 15 = .ok (.iconst 0, 1) := by decide +kernel
theorem qd_200_16 : decode qm200.2.2.1 16 = .ok (.ireturn, 1) := by decide +kernel
theorem qtm_200 {w : qE} : zTms w.T 200 = some qm200 := rfl
theorem qd_201_0 : decode qm201.2.2.1 0 = .ok (.aload 4, 2) := by decide +kernel
theorem qd_201_2 : decode qm201.2.2.1 2 = .ok (.iconst 0, 1) := by decide +kernel
theorem qd_201_3 : decode qm201.2.2.1 3 = .ok (.aload_n 0, 1) := by decide +kernel
theorem qd_201_4 : decode qm201.2.2.1 4 = .ok (.iload_n 1, 1) := by decide +kernel
theorem qd_201_5 : decode qm201.2.2.1 5 = .ok (.iload_n 2, 1) := by decide +kernel
theorem qd_201_6 : decode qm201.2.2.1 6 = .ok (.iload_n 3, 1) := by decide +kernel
theorem qd_201_7 : decode qm201.2.2.1 7 = .ok (.invokevirtual 39, 3) := by decide +kernel
theorem qd_201_10 : decode qm201.2.2.1 10 = .ok (.i2l, 1) := by decide +kernel
theorem qd_201_11 : decode qm201.2.2.1 11 = .ok (.lastore, 1) := by decide +kernel
theorem qd_201_12 : decode qm201.2.2.1 12 = .ok (.goto 7, 3) := by decide +kernel
theorem qd_201_15 : decode qm201.2.2.1 15 = .ok (.astore 5, 2) := by decide +kernel
theorem qd_201_17 : decode qm201.2.2.1 17 = .ok (.iconst 1, 1) := by decide +kernel
theorem qd_201_18 : decode qm201.2.2.1 18 = .ok (.ireturn, 1) := by decide +kernel
theorem qd_201_19 : decode qm201.2.2.1 19 = .ok (.iconst 0, 1) := by decide +kernel
theorem qd_201_20 : decode qm201.2.2.1 20 = .ok (.ireturn, 1) := by decide +kernel
theorem qtm_201 {w : qE} : zTms w.T 201 = some qm201 := rfl
theorem qd_202_0 : decode qm202.2.2.1 0 = .ok (.aload_n 3, 1) := by decide +kernel
theorem qd_202_1 : decode qm202.2.2.1 1 = .ok (.iconst 0, 1) := by decide +kernel
theorem qd_202_2 : decode qm202.2.2.1 2 = .ok (.aload_n 0, 1) := by decide +kernel
theorem qd_202_3 : decode qm202.2.2.1 3 = .ok (.iload_n 1, 1) := by decide +kernel
theorem qd_202_4 : decode qm202.2.2.1 4 = .ok (.iload_n 2, 1) := by decide +kernel
theorem qd_202_5 : decode qm202.2.2.1 5 = .ok (.invokevirtual 43, 3) := by decide +kernel
theorem qd_202_8 : decode qm202.2.2.1 8 = .ok (.i2l, 1) := by decide +kernel
theorem qd_202_9 : decode qm202.2.2.1 9 = .ok (.lastore, 1) := by decide +kernel
theorem qd_202_10 : decode qm202.2.2.1 10 = .ok (.goto 7, 3) := by decide +kernel
theorem qd_202_13 : decode qm202.2.2.1 13 = .ok (.astore 4, 2) := by decide +kernel
theorem qd_202_15 : decode qm202.2.2.1 15 = .ok (.iconst 1, 1) := by decide +kernel
theorem qd_202_16 : decode qm202.2.2.1 16 = .ok (.ireturn, 1) := by decide +kernel
theorem qd_202_17 : decode qm202.2.2.1 17 = .ok (.iconst 0, 1) := by decide +kernel
theorem qd_202_18 : decode qm202.2.2.1 18 = .ok (.ireturn, 1) := by decide +kernel
theorem qtm_202 {w : qE} : zTms w.T 202 = some qm202 := rfl
theorem qml_11_7 (w : qE) : zTml w.T 11 7 = some (16, 1, 0) := by show qfind qml 11 7 = _; decide +kernel
theorem qml_11_17 (w : qE) : zTml w.T 11 17 = some (94, 1, 2) := by show qfind qml 11 17 = _; decide +kernel
theorem qml_11_23 (w : qE) : zTml w.T 11 23 = some (97, 1, 1) := by show qfind qml 11 23 = _; decide +kernel
theorem qml_11_29 (w : qE) : zTml w.T 11 29 = some (103, 1, 2) := by show qfind qml 11 29 = _; decide +kernel
theorem qml_11_32 (w : qE) : zTml w.T 11 32 = some (105, 1, 2) := by show qfind qml 11 32 = _; decide +kernel
theorem qml_11_35 (w : qE) : zTml w.T 11 35 = some (117, 1, 1) := by show qfind qml 11 35 = _; decide +kernel
theorem qml_11_39 (w : qE) : zTml w.T 11 39 = some (119, 1, 3) := by show qfind qml 11 39 = _; decide +kernel
theorem qml_11_43 (w : qE) : zTml w.T 11 43 = some (120, 1, 2) := by show qfind qml 11 43 = _; decide +kernel
set_option maxRecDepth 100000 in
theorem h195 {w : qE} {s : qS} {A : Nat → Int64} {D : Nat → UInt64}  {P : Int → qS → (Nat → Int64) → (Nat → UInt64) → Prop} (H : qW (wx w (xo A D)) 10 16 [.ref 0] s (qPI (fun v s' => P 0 s' (vp_updL A 0 ((Int32.ofInt v).toInt64)) D) (fun k s' => (k = 0 ∧ P 1 s' A D) ∨ (k = 1 ∧ P 2 s' A D)))) : hW w 11 195 [.ref 0, .ref 41] s A D P := by
  refine yR.hW (M := qm195) (l := [(0, .ref 0), (1, .ref 41)]) qtm_195 rfl (Nat.le_of_ble_eq_true rfl) (zsub_c rfl (zsub_c rfl zsub_n)) ?_
  refine yS_aload_n qd_195_0 rfl ?_
  refine yS_iconst qd_195_1 ?_
  refine yS_aload_n qd_195_2 rfl ?_
  refine yS_vI qd_195_3 (qml_11_7 w) rfl qtm_16 (hpc_0 _ _) (Nat.le_of_ble_eq_true rfl) (Nat.le_of_ble_eq_true rfl) H (fun v s1 H => ?_) (fun xn s1 H => ?_)
  · refine yS_p1 (u := .long ((Int32.ofInt v).toInt64)) qd_195_6 rfl rfl (fun _ => rfl) ?_
    refine yS_lastore qd_195_7 ?_
    refine yS_goto qd_195_8 rfl ?_
    refine yS_iconst qd_195_17 ?_
    exact yS_ireturn qd_195_18 rfl ⟨0, s1, _, _, 0, by decide, H, rfl⟩
  · rcases H with ⟨rfl, H⟩ | ⟨rfl, H⟩
    · refine ⟨11, rfl, ?_⟩
      refine yS_ostore_n (a := []) qd_195_11 (Nat.le_of_ble_eq_true rfl) zsub_n rfl ?_
      refine yS_iconst qd_195_12 ?_
      exact yS_ireturn qd_195_13 rfl ⟨1, s1, A, D, 1, by decide, H, rfl⟩
    · refine ⟨14, rfl, ?_⟩
      refine yS_ostore_n (a := []) qd_195_14 (Nat.le_of_ble_eq_true rfl) zsub_n rfl ?_
      refine yS_iconst qd_195_15 ?_
      exact yS_ireturn qd_195_16 rfl ⟨2, s1, A, D, 1, by decide, H, rfl⟩
set_option maxRecDepth 100000 in
theorem h196 {w : qE} {s : qS} {A : Nat → Int64} {D : Nat → UInt64} {p0 : Int} {p1 : Int} {P : Int → qS → (Nat → Int64) → (Nat → UInt64) → Prop} (H : qW (wx w (xo A D)) 3 94 [.ref 0, qI p0, qI p1] s (qPI (fun v s' => P 0 s' (vp_updL A 0 ((Int32.ofInt v).toInt64)) D) (fun k s' => (k = 2 ∧ P 1 s' A D)))) : hW w 4 196 [.ref 0, qI p0, qI p1, .ref 41] s A D P := by
  refine yR.hW (M := qm196) (l := [(0, .ref 0), (1, qI p0), (2, qI p1), (3, .ref 41)]) qtm_196 rfl (Nat.le_of_ble_eq_true rfl) (zsub_c rfl (zsub_c rfl (zsub_c rfl (zsub_c rfl zsub_n)))) ?_
  refine yS_aload_n qd_196_0 rfl ?_
  refine yS_iconst qd_196_1 ?_
  refine yS_aload_n qd_196_2 rfl ?_
  refine yS_iload_n qd_196_3 rfl ?_
  refine yS_iload_n qd_196_4 rfl ?_
  refine yS_vI qd_196_5 (qml_11_17 w) rfl qtm_94 (hpc_0 _ _) (Nat.le_of_ble_eq_true rfl) (Nat.le_of_ble_eq_true rfl) H (fun v s1 H => ?_) (fun xn s1 H => ?_)
  · refine yS_p1 (u := .long ((Int32.ofInt v).toInt64)) qd_196_8 rfl rfl (fun _ => rfl) ?_
    refine yS_lastore qd_196_9 ?_
    refine yS_goto qd_196_10 rfl ?_
    refine yS_iconst qd_196_17 ?_
    exact yS_ireturn qd_196_18 rfl ⟨0, s1, _, _, 0, by decide, H, rfl⟩
  · obtain ⟨rfl, H⟩ := H
    refine ⟨13, rfl, ?_⟩
    refine yS_ostore (a := []) qd_196_13 (Nat.le_of_ble_eq_true rfl) zsub_n rfl ?_
    refine yS_iconst qd_196_15 ?_
    exact yS_ireturn qd_196_16 rfl ⟨1, s1, A, D, 1, by decide, H, rfl⟩
set_option maxRecDepth 100000 in
theorem h197 {w : qE} {s : qS} {A : Nat → Int64} {D : Nat → UInt64} {p0 : Int} {P : Int → qS → (Nat → Int64) → (Nat → UInt64) → Prop} (H : qW (wx w (xo A D)) 4 97 [.ref 0, qI p0] s (qPD (fun v s' => P 0 s' A (vf_upd D 0 v)) (fun k s' => (k = 2 ∧ P 1 s' A D) ∨ (k = 3 ∧ P 2 s' A D)))) : hW w 5 197 [.ref 0, qI p0, .ref 42] s A D P := by
  refine yR.hW (M := qm197) (l := [(0, .ref 0), (1, qI p0), (2, .ref 42)]) qtm_197 rfl (Nat.le_of_ble_eq_true rfl) (zsub_c rfl (zsub_c rfl (zsub_c rfl zsub_n))) ?_
  refine yS_aload_n qd_197_0 rfl ?_
  refine yS_iconst qd_197_1 ?_
  refine yS_aload_n qd_197_2 rfl ?_
  refine yS_iload_n qd_197_3 rfl ?_
  refine yS_vD qd_197_4 (qml_11_23 w) rfl qtm_97 (hpc_0 _ _) (Nat.le_of_ble_eq_true rfl) (Nat.le_of_ble_eq_true rfl) H (fun v s1 H => ?_) (fun xn s1 H => ?_)
  · refine yS_dastore qd_197_7 ?_
    refine yS_goto qd_197_8 rfl ?_
    refine yS_iconst qd_197_17 ?_
    exact yS_ireturn qd_197_18 rfl ⟨0, s1, _, _, 0, by decide, H, rfl⟩
  · rcases H with ⟨rfl, H⟩ | ⟨rfl, H⟩
    · refine ⟨11, rfl, ?_⟩
      refine yS_ostore_n (a := []) qd_197_11 (Nat.le_of_ble_eq_true rfl) zsub_n rfl ?_
      refine yS_iconst qd_197_12 ?_
      exact yS_ireturn qd_197_13 rfl ⟨1, s1, A, D, 1, by decide, H, rfl⟩
    · refine ⟨14, rfl, ?_⟩
      refine yS_ostore_n (a := []) qd_197_14 (Nat.le_of_ble_eq_true rfl) zsub_n rfl ?_
      refine yS_iconst qd_197_15 ?_
      exact yS_ireturn qd_197_16 rfl ⟨2, s1, A, D, 1, by decide, H, rfl⟩
set_option maxRecDepth 100000 in
theorem h198 {w : qE} {s : qS} {A : Nat → Int64} {D : Nat → UInt64} {p0 : Int} {p1 : Int} {P : Int → qS → (Nat → Int64) → (Nat → UInt64) → Prop} (H : qW (wx w (xo A D)) 4 103 [.ref 0, qI p0, qI p1] s (qPI (fun v s' => P 0 s' (vp_updL A 0 ((Int32.ofInt v).toInt64)) D) (fun k s' => (k = 2 ∧ P 1 s' A D)))) : hW w 5 198 [.ref 0, qI p0, qI p1, .ref 41] s A D P := by
  refine yR.hW (M := qm198) (l := [(0, .ref 0), (1, qI p0), (2, qI p1), (3, .ref 41)]) qtm_198 rfl (Nat.le_of_ble_eq_true rfl) (zsub_c rfl (zsub_c rfl (zsub_c rfl (zsub_c rfl zsub_n)))) ?_
  refine yS_aload_n qd_198_0 rfl ?_
  refine yS_iconst qd_198_1 ?_
  refine yS_aload_n qd_198_2 rfl ?_
  refine yS_iload_n qd_198_3 rfl ?_
  refine yS_iload_n qd_198_4 rfl ?_
  refine yS_vI qd_198_5 (qml_11_29 w) rfl qtm_103 (hpc_0 _ _) (Nat.le_of_ble_eq_true rfl) (Nat.le_of_ble_eq_true rfl) H (fun v s1 H => ?_) (fun xn s1 H => ?_)
  · refine yS_p1 (u := .long ((Int32.ofInt v).toInt64)) qd_198_8 rfl rfl (fun _ => rfl) ?_
    refine yS_lastore qd_198_9 ?_
    refine yS_goto qd_198_10 rfl ?_
    refine yS_iconst qd_198_17 ?_
    exact yS_ireturn qd_198_18 rfl ⟨0, s1, _, _, 0, by decide, H, rfl⟩
  · obtain ⟨rfl, H⟩ := H
    refine ⟨13, rfl, ?_⟩
    refine yS_ostore (a := []) qd_198_13 (Nat.le_of_ble_eq_true rfl) zsub_n rfl ?_
    refine yS_iconst qd_198_15 ?_
    exact yS_ireturn qd_198_16 rfl ⟨1, s1, A, D, 1, by decide, H, rfl⟩
set_option maxRecDepth 100000 in
theorem h199 {w : qE} {s : qS} {A : Nat → Int64} {D : Nat → UInt64} {p0 : Int} {p1 : Int} {P : Int → qS → (Nat → Int64) → (Nat → UInt64) → Prop} (H : qW (wx w (xo A D)) 10 105 [.ref 0, qI p0, qI p1] s (qPI (fun v s' => P 0 s' (vp_updL A 0 ((Int32.ofInt v).toInt64)) D) (fun k s' => (k = 2 ∧ P 1 s' A D)))) : hW w 11 199 [.ref 0, qI p0, qI p1, .ref 41] s A D P := by
  refine yR.hW (M := qm199) (l := [(0, .ref 0), (1, qI p0), (2, qI p1), (3, .ref 41)]) qtm_199 rfl (Nat.le_of_ble_eq_true rfl) (zsub_c rfl (zsub_c rfl (zsub_c rfl (zsub_c rfl zsub_n)))) ?_
  refine yS_aload_n qd_199_0 rfl ?_
  refine yS_iconst qd_199_1 ?_
  refine yS_aload_n qd_199_2 rfl ?_
  refine yS_iload_n qd_199_3 rfl ?_
  refine yS_iload_n qd_199_4 rfl ?_
  refine yS_vI qd_199_5 (qml_11_32 w) rfl qtm_105 (hpc_0 _ _) (Nat.le_of_ble_eq_true rfl) (Nat.le_of_ble_eq_true rfl) H (fun v s1 H => ?_) (fun xn s1 H => ?_)
  · refine yS_p1 (u := .long ((Int32.ofInt v).toInt64)) qd_199_8 rfl rfl (fun _ => rfl) ?_
    refine yS_lastore qd_199_9 ?_
    refine yS_goto qd_199_10 rfl ?_
    refine yS_iconst qd_199_17 ?_
    exact yS_ireturn qd_199_18 rfl ⟨0, s1, _, _, 0, by decide, H, rfl⟩
  · obtain ⟨rfl, H⟩ := H
    refine ⟨13, rfl, ?_⟩
    refine yS_ostore (a := []) qd_199_13 (Nat.le_of_ble_eq_true rfl) zsub_n rfl ?_
    refine yS_iconst qd_199_15 ?_
    exact yS_ireturn qd_199_16 rfl ⟨1, s1, A, D, 1, by decide, H, rfl⟩
set_option maxRecDepth 100000 in
theorem h200 {w : qE} {s : qS} {A : Nat → Int64} {D : Nat → UInt64} {p0 : Int} {P : Int → qS → (Nat → Int64) → (Nat → UInt64) → Prop} (H : qW (wx w (xo A D)) 4 117 [.ref 0, qI p0] s (qPI (fun v s' => P 0 s' (vp_updL A 0 ((Int32.ofInt v).toInt64)) D) (fun k s' => (k = 2 ∧ P 1 s' A D)))) : hW w 5 200 [.ref 0, qI p0, .ref 41] s A D P := by
  refine yR.hW (M := qm200) (l := [(0, .ref 0), (1, qI p0), (2, .ref 41)]) qtm_200 rfl (Nat.le_of_ble_eq_true rfl) (zsub_c rfl (zsub_c rfl (zsub_c rfl zsub_n))) ?_
  refine yS_aload_n qd_200_0 rfl ?_
  refine yS_iconst qd_200_1 ?_
  refine yS_aload_n qd_200_2 rfl ?_
  refine yS_iload_n qd_200_3 rfl ?_
  refine yS_vI qd_200_4 (qml_11_35 w) rfl qtm_117 (hpc_0 _ _) (Nat.le_of_ble_eq_true rfl) (Nat.le_of_ble_eq_true rfl) H (fun v s1 H => ?_) (fun xn s1 H => ?_)
  · refine yS_p1 (u := .long ((Int32.ofInt v).toInt64)) qd_200_7 rfl rfl (fun _ => rfl) ?_
    refine yS_lastore qd_200_8 ?_
    refine yS_goto qd_200_9 rfl ?_
    refine yS_iconst qd_200_15 ?_
    exact yS_ireturn qd_200_16 rfl ⟨0, s1, _, _, 0, by decide, H, rfl⟩
  · obtain ⟨rfl, H⟩ := H
    refine ⟨12, rfl, ?_⟩
    refine yS_ostore_n (a := []) qd_200_12 (Nat.le_of_ble_eq_true rfl) zsub_n rfl ?_
    refine yS_iconst qd_200_13 ?_
    exact yS_ireturn qd_200_14 rfl ⟨1, s1, A, D, 1, by decide, H, rfl⟩
set_option maxRecDepth 100000 in
theorem h201 {w : qE} {s : qS} {A : Nat → Int64} {D : Nat → UInt64} {p0 : Int} {p1 : Int} {p2 : Int} {P : Int → qS → (Nat → Int64) → (Nat → UInt64) → Prop} (H : qW (wx w (xo A D)) 2 119 [.ref 0, qI p0, qI p1, qI p2] s (qPI (fun v s' => P 0 s' (vp_updL A 0 ((Int32.ofInt v).toInt64)) D) (fun k s' => (k = 2 ∧ P 1 s' A D)))) : hW w 3 201 [.ref 0, qI p0, qI p1, qI p2, .ref 41] s A D P := by
  refine yR.hW (M := qm201) (l := [(0, .ref 0), (1, qI p0), (2, qI p1), (3, qI p2), (4, .ref 41)]) qtm_201 rfl (Nat.le_of_ble_eq_true rfl) (zsub_c rfl (zsub_c rfl (zsub_c rfl (zsub_c rfl (zsub_c rfl zsub_n))))) ?_
  refine yS_aload qd_201_0 rfl ?_
  refine yS_iconst qd_201_2 ?_
  refine yS_aload_n qd_201_3 rfl ?_
  refine yS_iload_n qd_201_4 rfl ?_
  refine yS_iload_n qd_201_5 rfl ?_
  refine yS_iload_n qd_201_6 rfl ?_
  refine yS_vI qd_201_7 (qml_11_39 w) rfl qtm_119 (hpc_0 _ _) (Nat.le_of_ble_eq_true rfl) (Nat.le_of_ble_eq_true rfl) H (fun v s1 H => ?_) (fun xn s1 H => ?_)
  · refine yS_p1 (u := .long ((Int32.ofInt v).toInt64)) qd_201_10 rfl rfl (fun _ => rfl) ?_
    refine yS_lastore qd_201_11 ?_
    refine yS_goto qd_201_12 rfl ?_
    refine yS_iconst qd_201_19 ?_
    exact yS_ireturn qd_201_20 rfl ⟨0, s1, _, _, 0, by decide, H, rfl⟩
  · obtain ⟨rfl, H⟩ := H
    refine ⟨15, rfl, ?_⟩
    refine yS_ostore (a := []) qd_201_15 (Nat.le_of_ble_eq_true rfl) zsub_n rfl ?_
    refine yS_iconst qd_201_17 ?_
    exact yS_ireturn qd_201_18 rfl ⟨1, s1, A, D, 1, by decide, H, rfl⟩
set_option maxRecDepth 100000 in
theorem h202 {w : qE} {s : qS} {A : Nat → Int64} {D : Nat → UInt64} {p0 : Int} {p1 : Int} {P : Int → qS → (Nat → Int64) → (Nat → UInt64) → Prop} (H : qW (wx w (xo A D)) 3 120 [.ref 0, qI p0, qI p1] s (qPI (fun v s' => P 0 s' (vp_updL A 0 ((Int32.ofInt v).toInt64)) D) (fun k s' => (k = 2 ∧ P 1 s' A D)))) : hW w 4 202 [.ref 0, qI p0, qI p1, .ref 41] s A D P := by
  refine yR.hW (M := qm202) (l := [(0, .ref 0), (1, qI p0), (2, qI p1), (3, .ref 41)]) qtm_202 rfl (Nat.le_of_ble_eq_true rfl) (zsub_c rfl (zsub_c rfl (zsub_c rfl (zsub_c rfl zsub_n)))) ?_
  refine yS_aload_n qd_202_0 rfl ?_
  refine yS_iconst qd_202_1 ?_
  refine yS_aload_n qd_202_2 rfl ?_
  refine yS_iload_n qd_202_3 rfl ?_
  refine yS_iload_n qd_202_4 rfl ?_
  refine yS_vI qd_202_5 (qml_11_43 w) rfl qtm_120 (hpc_0 _ _) (Nat.le_of_ble_eq_true rfl) (Nat.le_of_ble_eq_true rfl) H (fun v s1 H => ?_) (fun xn s1 H => ?_)
  · refine yS_p1 (u := .long ((Int32.ofInt v).toInt64)) qd_202_8 rfl rfl (fun _ => rfl) ?_
    refine yS_lastore qd_202_9 ?_
    refine yS_goto qd_202_10 rfl ?_
    refine yS_iconst qd_202_17 ?_
    exact yS_ireturn qd_202_18 rfl ⟨0, s1, _, _, 0, by decide, H, rfl⟩
  · obtain ⟨rfl, H⟩ := H
    refine ⟨13, rfl, ?_⟩
    refine yS_ostore (a := []) qd_202_13 (Nat.le_of_ble_eq_true rfl) zsub_n rfl ?_
    refine yS_iconst qd_202_15 ?_
    exact yS_ireturn qd_202_16 rfl ⟨1, s1, A, D, 1, by decide, H, rfl⟩
