/-! THE CONSTRUCTORS, run (printed by a program of mine: wip/whole/gen_ctor.py) -/
theorem qml_0_1 (w : qE) : zTml w.T 0 1 = some (0, 3, 0) := by show qfind qml 0 1 = _; decide +kernel
theorem qml_0_9 (w : qE) : zTml w.T 0 9 = some (1, 2, 0) := by show qfind qml 0 9 = _; decide +kernel
theorem qml_0_18 (w : qE) : zTml w.T 0 18 = some (2, 2, 1) := by show qfind qml 0 18 = _; decide +kernel
theorem qml_0_27 (w : qE) : zTml w.T 0 27 = some (4, 2, 2) := by show qfind qml 0 27 = _; decide +kernel
theorem qml_0_36 (w : qE) : zTml w.T 0 36 = some (5, 2, 2) := by show qfind qml 0 36 = _; decide +kernel
theorem qml_0_43 (w : qE) : zTml w.T 0 43 = some (6, 2, 3) := by show qfind qml 0 43 = _; decide +kernel
theorem qml_0_52 (w : qE) : zTml w.T 0 52 = some (7, 2, 1) := by show qfind qml 0 52 = _; decide +kernel
theorem qml_1_3 (w : qE) : zTml w.T 1 3 = some (0, 3, 0) := by show qfind qml 1 3 = _; decide +kernel
theorem qml_2_3 (w : qE) : zTml w.T 2 3 = some (0, 3, 0) := by show qfind qml 2 3 = _; decide +kernel
theorem qml_2_17 (w : qE) : zTml w.T 2 17 = some (3, 2, 2) := by show qfind qml 2 17 = _; decide +kernel
theorem qml_3_3 (w : qE) : zTml w.T 3 3 = some (0, 3, 0) := by show qfind qml 3 3 = _; decide +kernel
theorem qml_4_3 (w : qE) : zTml w.T 4 3 = some (0, 3, 0) := by show qfind qml 4 3 = _; decide +kernel
theorem qml_5_3 (w : qE) : zTml w.T 5 3 = some (0, 3, 0) := by show qfind qml 5 3 = _; decide +kernel
theorem qml_5_21 (w : qE) : zTml w.T 5 21 = some (3, 2, 2) := by show qfind qml 5 21 = _; decide +kernel
theorem qml_6_3 (w : qE) : zTml w.T 6 3 = some (0, 3, 0) := by show qfind qml 6 3 = _; decide +kernel
theorem qml_6_25 (w : qE) : zTml w.T 6 25 = some (3, 2, 2) := by show qfind qml 6 25 = _; decide +kernel
theorem qml_7_3 (w : qE) : zTml w.T 7 3 = some (0, 3, 0) := by show qfind qml 7 3 = _; decide +kernel
theorem qml_8_1 (w : qE) : zTml w.T 8 1 = some (0, 3, 0) := by show qfind qml 8 1 = _; decide +kernel
theorem qml_11_46 (w : qE) : zTml w.T 11 46 = some (0, 2, 0) := by show qfind qml 11 46 = _; decide +kernel
theorem qml_11_49 (w : qE) : zTml w.T 11 49 = some (122, 2, 0) := by show qfind qml 11 49 = _; decide +kernel
theorem qnlk_0_7 (w : qE) : zTnl w.T 0 7 = some 1 := by show qfind qnl 0 7 = _; decide +kernel
theorem qxlk_0_7 (w : qE) : zTxl w.T 0 7 = none := by show qfind qxl 0 7 = _; decide +kernel
theorem qnlk_0_16 (w : qE) : zTnl w.T 0 16 = some 2 := by show qfind qnl 0 16 = _; decide +kernel
theorem qxlk_0_16 (w : qE) : zTxl w.T 0 16 = none := by show qfind qxl 0 16 = _; decide +kernel
theorem qnlk_0_25 (w : qE) : zTnl w.T 0 25 = some 4 := by show qfind qnl 0 25 = _; decide +kernel
theorem qxlk_0_25 (w : qE) : zTxl w.T 0 25 = none := by show qfind qxl 0 25 = _; decide +kernel
theorem qnlk_0_34 (w : qE) : zTnl w.T 0 34 = some 5 := by show qfind qnl 0 34 = _; decide +kernel
theorem qxlk_0_34 (w : qE) : zTxl w.T 0 34 = none := by show qfind qxl 0 34 = _; decide +kernel
theorem qnlk_0_41 (w : qE) : zTnl w.T 0 41 = some 6 := by show qfind qnl 0 41 = _; decide +kernel
theorem qxlk_0_41 (w : qE) : zTxl w.T 0 41 = none := by show qfind qxl 0 41 = _; decide +kernel
theorem qnlk_0_50 (w : qE) : zTnl w.T 0 50 = some 7 := by show qfind qnl 0 50 = _; decide +kernel
theorem qxlk_0_50 (w : qE) : zTxl w.T 0 50 = none := by show qfind qxl 0 50 = _; decide +kernel
theorem qnlk_2_15 (w : qE) : zTnl w.T 2 15 = some 3 := by show qfind qnl 2 15 = _; decide +kernel
theorem qxlk_2_15 (w : qE) : zTxl w.T 2 15 = none := by show qfind qxl 2 15 = _; decide +kernel
theorem qnlk_5_19 (w : qE) : zTnl w.T 5 19 = some 3 := by show qfind qnl 5 19 = _; decide +kernel
theorem qxlk_5_19 (w : qE) : zTxl w.T 5 19 = none := by show qfind qxl 5 19 = _; decide +kernel
theorem qnlk_6_23 (w : qE) : zTnl w.T 6 23 = some 3 := by show qfind qnl 6 23 = _; decide +kernel
theorem qxlk_6_23 (w : qE) : zTxl w.T 6 23 = none := by show qfind qxl 6 23 = _; decide +kernel
theorem qnlk_11_8 (w : qE) : zTnl w.T 11 8 = some 0 := by show qfind qnl 11 8 = _; decide +kernel
theorem qxlk_11_8 (w : qE) : zTxl w.T 11 8 = none := by show qfind qxl 11 8 = _; decide +kernel
theorem qnlk_11_47 (w : qE) : zTnl w.T 11 47 = some 8 := by show qfind qnl 11 47 = _; decide +kernel
theorem qxlk_11_47 (w : qE) : zTxl w.T 11 47 = none := by show qfind qxl 11 47 = _; decide +kernel
theorem qtm_0 {w : qE} : zTms w.T 0 = some qm0 := rfl
theorem qtm_1 {w : qE} : zTms w.T 1 = some qm1 := rfl
theorem qtm_2 {w : qE} : zTms w.T 2 = some qm2 := rfl
theorem qtm_3 {w : qE} : zTms w.T 3 = some qm3 := rfl
theorem qtm_4 {w : qE} : zTms w.T 4 = some qm4 := rfl
theorem qtm_5 {w : qE} : zTms w.T 5 = some qm5 := rfl
theorem qtm_6 {w : qE} : zTms w.T 6 = some qm6 := rfl
theorem qtm_7 {w : qE} : zTms w.T 7 = some qm7 := rfl
theorem qtm_122 {w : qE} : zTms w.T 122 = some qm122 := rfl
def yh0 : zH := []
def yh1 : zH := [.inr (0, [.null, .null, .null, .null, .null, .null, .int 0])]
def yh2 : zH := [.inr (0, [.null, .null, .null, .null, .null, .null, .int 0]),
  .inr (1, [.null, .int 0, .int 0, .int 0])]
def yh3 : zH := [.inr (0, [.null, .null, .null, .null, .null, .null, .int 0]),
  .inr (1, [.null, .int 0, .int 0, .int 0]),
  .inl (0, 500, .inl (fun _ => 0))]
def yh4 : zH := [.inr (0, [.null, .null, .null, .null, .null, .null, .int 0]),
  .inr (1, [.ref 2, .int 0, .int 0, .int 0]),
  .inl (0, 500, .inl (fun _ => 0))]
def yh5 : zH := [.inr (0, [.null, .null, .null, .null, .null, .null, .int 0]),
  .inr (1, [.ref 2, qI 0, .int 0, .int 0]),
  .inl (0, 500, .inl (fun _ => 0))]
def yh6 : zH := [.inr (0, [.null, .null, .null, .null, .null, .null, .int 0]),
  .inr (1, [.ref 2, qI 0, qI 0, .int 0]),
  .inl (0, 500, .inl (fun _ => 0))]
def yh7 : zH := [.inr (0, [.null, .null, .null, .null, .null, .null, .int 0]),
  .inr (1, [.ref 2, qI 0, qI 0, qI (-2)]),
  .inl (0, 500, .inl (fun _ => 0))]
def yh8 : zH := [.inr (0, [.ref 1, .null, .null, .null, .null, .null, .int 0]),
  .inr (1, [.ref 2, qI 0, qI 0, qI (-2)]),
  .inl (0, 500, .inl (fun _ => 0))]
def yh9 : zH := [.inr (0, [.ref 1, .null, .null, .null, .null, .null, .int 0]),
  .inr (1, [.ref 2, qI 0, qI 0, qI (-2)]),
  .inl (0, 500, .inl (fun _ => 0)),
  .inr (2, [.null, .null, .null, .int 0])]
def yh10 : zH := [.inr (0, [.ref 1, .null, .null, .null, .null, .null, .int 0]),
  .inr (1, [.ref 2, qI 0, qI 0, qI (-2)]),
  .inl (0, 500, .inl (fun _ => 0)),
  .inr (2, [.ref 1, .null, .null, .int 0])]
def yh11 : zH := [.inr (0, [.ref 1, .null, .null, .null, .null, .null, .int 0]),
  .inr (1, [.ref 2, qI 0, qI 0, qI (-2)]),
  .inl (0, 500, .inl (fun _ => 0)),
  .inr (2, [.ref 1, .null, .null, .int 0]),
  .inr (3, [.int 0, .null, .int 0])]
def yh12 : zH := [.inr (0, [.ref 1, .null, .null, .null, .null, .null, .int 0]),
  .inr (1, [.ref 2, qI 0, qI 0, qI (-2)]),
  .inl (0, 500, .inl (fun _ => 0)),
  .inr (2, [.ref 1, .null, .null, .int 0]),
  .inr (3, [qI 6, .null, .int 0])]
def yh13 : zH := [.inr (0, [.ref 1, .null, .null, .null, .null, .null, .int 0]),
  .inr (1, [.ref 2, qI 0, qI 0, qI (-2)]),
  .inl (0, 500, .inl (fun _ => 0)),
  .inr (2, [.ref 1, .null, .null, .int 0]),
  .inr (3, [qI 6, .null, .int 0]),
  .inl (0, 1500, .inl (fun _ => 0))]
def yh14 : zH := [.inr (0, [.ref 1, .null, .null, .null, .null, .null, .int 0]),
  .inr (1, [.ref 2, qI 0, qI 0, qI (-2)]),
  .inl (0, 500, .inl (fun _ => 0)),
  .inr (2, [.ref 1, .null, .null, .int 0]),
  .inr (3, [qI 6, .ref 5, .int 0]),
  .inl (0, 1500, .inl (fun _ => 0))]
def yh15 : zH := [.inr (0, [.ref 1, .null, .null, .null, .null, .null, .int 0]),
  .inr (1, [.ref 2, qI 0, qI 0, qI (-2)]),
  .inl (0, 500, .inl (fun _ => 0)),
  .inr (2, [.ref 1, .null, .null, .int 0]),
  .inr (3, [qI 6, .ref 5, qI 0]),
  .inl (0, 1500, .inl (fun _ => 0))]
def yh16 : zH := [.inr (0, [.ref 1, .null, .null, .null, .null, .null, .int 0]),
  .inr (1, [.ref 2, qI 0, qI 0, qI (-2)]),
  .inl (0, 500, .inl (fun _ => 0)),
  .inr (2, [.ref 1, .ref 4, .null, .int 0]),
  .inr (3, [qI 6, .ref 5, qI 0]),
  .inl (0, 1500, .inl (fun _ => 0))]
def yh17 : zH := [.inr (0, [.ref 1, .null, .null, .null, .null, .null, .int 0]),
  .inr (1, [.ref 2, qI 0, qI 0, qI (-2)]),
  .inl (0, 500, .inl (fun _ => 0)),
  .inr (2, [.ref 1, .ref 4, .null, .int 0]),
  .inr (3, [qI 6, .ref 5, qI 0]),
  .inl (0, 1500, .inl (fun _ => 0)),
  .inl (0, 500, .inl (fun _ => 0))]
def yh18 : zH := [.inr (0, [.ref 1, .null, .null, .null, .null, .null, .int 0]),
  .inr (1, [.ref 2, qI 0, qI 0, qI (-2)]),
  .inl (0, 500, .inl (fun _ => 0)),
  .inr (2, [.ref 1, .ref 4, .ref 6, .int 0]),
  .inr (3, [qI 6, .ref 5, qI 0]),
  .inl (0, 1500, .inl (fun _ => 0)),
  .inl (0, 500, .inl (fun _ => 0))]
def yh19 : zH := [.inr (0, [.ref 1, .null, .null, .null, .null, .null, .int 0]),
  .inr (1, [.ref 2, qI 0, qI 0, qI (-2)]),
  .inl (0, 500, .inl (fun _ => 0)),
  .inr (2, [.ref 1, .ref 4, .ref 6, qI 0]),
  .inr (3, [qI 6, .ref 5, qI 0]),
  .inl (0, 1500, .inl (fun _ => 0)),
  .inl (0, 500, .inl (fun _ => 0))]
def yh20 : zH := [.inr (0, [.ref 1, .ref 3, .null, .null, .null, .null, .int 0]),
  .inr (1, [.ref 2, qI 0, qI 0, qI (-2)]),
  .inl (0, 500, .inl (fun _ => 0)),
  .inr (2, [.ref 1, .ref 4, .ref 6, qI 0]),
  .inr (3, [qI 6, .ref 5, qI 0]),
  .inl (0, 1500, .inl (fun _ => 0)),
  .inl (0, 500, .inl (fun _ => 0))]
def yh21 : zH := [.inr (0, [.ref 1, .ref 3, .null, .null, .null, .null, .int 0]),
  .inr (1, [.ref 2, qI 0, qI 0, qI (-2)]),
  .inl (0, 500, .inl (fun _ => 0)),
  .inr (2, [.ref 1, .ref 4, .ref 6, qI 0]),
  .inr (3, [qI 6, .ref 5, qI 0]),
  .inl (0, 1500, .inl (fun _ => 0)),
  .inl (0, 500, .inl (fun _ => 0)),
  .inr (4, [.null, .null])]
def yh22 : zH := [.inr (0, [.ref 1, .ref 3, .null, .null, .null, .null, .int 0]),
  .inr (1, [.ref 2, qI 0, qI 0, qI (-2)]),
  .inl (0, 500, .inl (fun _ => 0)),
  .inr (2, [.ref 1, .ref 4, .ref 6, qI 0]),
  .inr (3, [qI 6, .ref 5, qI 0]),
  .inl (0, 1500, .inl (fun _ => 0)),
  .inl (0, 500, .inl (fun _ => 0)),
  .inr (4, [.ref 1, .null])]
def yh23 : zH := [.inr (0, [.ref 1, .ref 3, .null, .null, .null, .null, .int 0]),
  .inr (1, [.ref 2, qI 0, qI 0, qI (-2)]),
  .inl (0, 500, .inl (fun _ => 0)),
  .inr (2, [.ref 1, .ref 4, .ref 6, qI 0]),
  .inr (3, [qI 6, .ref 5, qI 0]),
  .inl (0, 1500, .inl (fun _ => 0)),
  .inl (0, 500, .inl (fun _ => 0)),
  .inr (4, [.ref 1, .ref 3])]
def yh24 : zH := [.inr (0, [.ref 1, .ref 3, .ref 7, .null, .null, .null, .int 0]),
  .inr (1, [.ref 2, qI 0, qI 0, qI (-2)]),
  .inl (0, 500, .inl (fun _ => 0)),
  .inr (2, [.ref 1, .ref 4, .ref 6, qI 0]),
  .inr (3, [qI 6, .ref 5, qI 0]),
  .inl (0, 1500, .inl (fun _ => 0)),
  .inl (0, 500, .inl (fun _ => 0)),
  .inr (4, [.ref 1, .ref 3])]
def yh25 : zH := [.inr (0, [.ref 1, .ref 3, .ref 7, .null, .null, .null, .int 0]),
  .inr (1, [.ref 2, qI 0, qI 0, qI (-2)]),
  .inl (0, 500, .inl (fun _ => 0)),
  .inr (2, [.ref 1, .ref 4, .ref 6, qI 0]),
  .inr (3, [qI 6, .ref 5, qI 0]),
  .inl (0, 1500, .inl (fun _ => 0)),
  .inl (0, 500, .inl (fun _ => 0)),
  .inr (4, [.ref 1, .ref 3]),
  .inr (5, [.null, .null, .int 0, .int 0, .int 0, .int 0, .int 0, .int 0, .null, .null, .null, .null])]
def yh26 : zH := [.inr (0, [.ref 1, .ref 3, .ref 7, .null, .null, .null, .int 0]),
  .inr (1, [.ref 2, qI 0, qI 0, qI (-2)]),
  .inl (0, 500, .inl (fun _ => 0)),
  .inr (2, [.ref 1, .ref 4, .ref 6, qI 0]),
  .inr (3, [qI 6, .ref 5, qI 0]),
  .inl (0, 1500, .inl (fun _ => 0)),
  .inl (0, 500, .inl (fun _ => 0)),
  .inr (4, [.ref 1, .ref 3]),
  .inr (5, [.ref 1, .null, .int 0, .int 0, .int 0, .int 0, .int 0, .int 0, .null, .null, .null, .null])]
def yh27 : zH := [.inr (0, [.ref 1, .ref 3, .ref 7, .null, .null, .null, .int 0]),
  .inr (1, [.ref 2, qI 0, qI 0, qI (-2)]),
  .inl (0, 500, .inl (fun _ => 0)),
  .inr (2, [.ref 1, .ref 4, .ref 6, qI 0]),
  .inr (3, [qI 6, .ref 5, qI 0]),
  .inl (0, 1500, .inl (fun _ => 0)),
  .inl (0, 500, .inl (fun _ => 0)),
  .inr (4, [.ref 1, .ref 3]),
  .inr (5, [.ref 1, .ref 3, .int 0, .int 0, .int 0, .int 0, .int 0, .int 0, .null, .null, .null, .null])]
def yh28 : zH := [.inr (0, [.ref 1, .ref 3, .ref 7, .null, .null, .null, .int 0]),
  .inr (1, [.ref 2, qI 0, qI 0, qI (-2)]),
  .inl (0, 500, .inl (fun _ => 0)),
  .inr (2, [.ref 1, .ref 4, .ref 6, qI 0]),
  .inr (3, [qI 6, .ref 5, qI 0]),
  .inl (0, 1500, .inl (fun _ => 0)),
  .inl (0, 500, .inl (fun _ => 0)),
  .inr (4, [.ref 1, .ref 3]),
  .inr (5, [.ref 1, .ref 3, .int 0, .int 0, .int 0, .int 0, .int 0, .int 0, .null, .null, .null, .null]),
  .inr (3, [.int 0, .null, .int 0])]
def yh29 : zH := [.inr (0, [.ref 1, .ref 3, .ref 7, .null, .null, .null, .int 0]),
  .inr (1, [.ref 2, qI 0, qI 0, qI (-2)]),
  .inl (0, 500, .inl (fun _ => 0)),
  .inr (2, [.ref 1, .ref 4, .ref 6, qI 0]),
  .inr (3, [qI 6, .ref 5, qI 0]),
  .inl (0, 1500, .inl (fun _ => 0)),
  .inl (0, 500, .inl (fun _ => 0)),
  .inr (4, [.ref 1, .ref 3]),
  .inr (5, [.ref 1, .ref 3, .int 0, .int 0, .int 0, .int 0, .int 0, .int 0, .null, .null, .null, .null]),
  .inr (3, [qI 1, .null, .int 0])]
def yh30 : zH := [.inr (0, [.ref 1, .ref 3, .ref 7, .null, .null, .null, .int 0]),
  .inr (1, [.ref 2, qI 0, qI 0, qI (-2)]),
  .inl (0, 500, .inl (fun _ => 0)),
  .inr (2, [.ref 1, .ref 4, .ref 6, qI 0]),
  .inr (3, [qI 6, .ref 5, qI 0]),
  .inl (0, 1500, .inl (fun _ => 0)),
  .inl (0, 500, .inl (fun _ => 0)),
  .inr (4, [.ref 1, .ref 3]),
  .inr (5, [.ref 1, .ref 3, .int 0, .int 0, .int 0, .int 0, .int 0, .int 0, .null, .null, .null, .null]),
  .inr (3, [qI 1, .null, .int 0]),
  .inl (0, 250, .inl (fun _ => 0))]
def yh31 : zH := [.inr (0, [.ref 1, .ref 3, .ref 7, .null, .null, .null, .int 0]),
  .inr (1, [.ref 2, qI 0, qI 0, qI (-2)]),
  .inl (0, 500, .inl (fun _ => 0)),
  .inr (2, [.ref 1, .ref 4, .ref 6, qI 0]),
  .inr (3, [qI 6, .ref 5, qI 0]),
  .inl (0, 1500, .inl (fun _ => 0)),
  .inl (0, 500, .inl (fun _ => 0)),
  .inr (4, [.ref 1, .ref 3]),
  .inr (5, [.ref 1, .ref 3, .int 0, .int 0, .int 0, .int 0, .int 0, .int 0, .null, .null, .null, .null]),
  .inr (3, [qI 1, .ref 10, .int 0]),
  .inl (0, 250, .inl (fun _ => 0))]
def yh32 : zH := [.inr (0, [.ref 1, .ref 3, .ref 7, .null, .null, .null, .int 0]),
  .inr (1, [.ref 2, qI 0, qI 0, qI (-2)]),
  .inl (0, 500, .inl (fun _ => 0)),
  .inr (2, [.ref 1, .ref 4, .ref 6, qI 0]),
  .inr (3, [qI 6, .ref 5, qI 0]),
  .inl (0, 1500, .inl (fun _ => 0)),
  .inl (0, 500, .inl (fun _ => 0)),
  .inr (4, [.ref 1, .ref 3]),
  .inr (5, [.ref 1, .ref 3, .int 0, .int 0, .int 0, .int 0, .int 0, .int 0, .null, .null, .null, .null]),
  .inr (3, [qI 1, .ref 10, qI 0]),
  .inl (0, 250, .inl (fun _ => 0))]
def yh33 : zH := [.inr (0, [.ref 1, .ref 3, .ref 7, .null, .null, .null, .int 0]),
  .inr (1, [.ref 2, qI 0, qI 0, qI (-2)]),
  .inl (0, 500, .inl (fun _ => 0)),
  .inr (2, [.ref 1, .ref 4, .ref 6, qI 0]),
  .inr (3, [qI 6, .ref 5, qI 0]),
  .inl (0, 1500, .inl (fun _ => 0)),
  .inl (0, 500, .inl (fun _ => 0)),
  .inr (4, [.ref 1, .ref 3]),
  .inr (5, [.ref 1, .ref 3, .int 0, .int 0, .int 0, .int 0, .int 0, .int 0, .ref 9, .null, .null, .null]),
  .inr (3, [qI 1, .ref 10, qI 0]),
  .inl (0, 250, .inl (fun _ => 0))]
def yh34 : zH := [.inr (0, [.ref 1, .ref 3, .ref 7, .null, .null, .null, .int 0]),
  .inr (1, [.ref 2, qI 0, qI 0, qI (-2)]),
  .inl (0, 500, .inl (fun _ => 0)),
  .inr (2, [.ref 1, .ref 4, .ref 6, qI 0]),
  .inr (3, [qI 6, .ref 5, qI 0]),
  .inl (0, 1500, .inl (fun _ => 0)),
  .inl (0, 500, .inl (fun _ => 0)),
  .inr (4, [.ref 1, .ref 3]),
  .inr (5, [.ref 1, .ref 3, .int 0, .int 0, .int 0, .int 0, .int 0, .int 0, .ref 9, .null, .null, .null]),
  .inr (3, [qI 1, .ref 10, qI 0]),
  .inl (0, 250, .inl (fun _ => 0)),
  .inr (3, [.int 0, .null, .int 0])]
def yh35 : zH := [.inr (0, [.ref 1, .ref 3, .ref 7, .null, .null, .null, .int 0]),
  .inr (1, [.ref 2, qI 0, qI 0, qI (-2)]),
  .inl (0, 500, .inl (fun _ => 0)),
  .inr (2, [.ref 1, .ref 4, .ref 6, qI 0]),
  .inr (3, [qI 6, .ref 5, qI 0]),
  .inl (0, 1500, .inl (fun _ => 0)),
  .inl (0, 500, .inl (fun _ => 0)),
  .inr (4, [.ref 1, .ref 3]),
  .inr (5, [.ref 1, .ref 3, .int 0, .int 0, .int 0, .int 0, .int 0, .int 0, .ref 9, .null, .null, .null]),
  .inr (3, [qI 1, .ref 10, qI 0]),
  .inl (0, 250, .inl (fun _ => 0)),
  .inr (3, [qI 1, .null, .int 0])]
def yh36 : zH := [.inr (0, [.ref 1, .ref 3, .ref 7, .null, .null, .null, .int 0]),
  .inr (1, [.ref 2, qI 0, qI 0, qI (-2)]),
  .inl (0, 500, .inl (fun _ => 0)),
  .inr (2, [.ref 1, .ref 4, .ref 6, qI 0]),
  .inr (3, [qI 6, .ref 5, qI 0]),
  .inl (0, 1500, .inl (fun _ => 0)),
  .inl (0, 500, .inl (fun _ => 0)),
  .inr (4, [.ref 1, .ref 3]),
  .inr (5, [.ref 1, .ref 3, .int 0, .int 0, .int 0, .int 0, .int 0, .int 0, .ref 9, .null, .null, .null]),
  .inr (3, [qI 1, .ref 10, qI 0]),
  .inl (0, 250, .inl (fun _ => 0)),
  .inr (3, [qI 1, .null, .int 0]),
  .inl (0, 250, .inl (fun _ => 0))]
def yh37 : zH := [.inr (0, [.ref 1, .ref 3, .ref 7, .null, .null, .null, .int 0]),
  .inr (1, [.ref 2, qI 0, qI 0, qI (-2)]),
  .inl (0, 500, .inl (fun _ => 0)),
  .inr (2, [.ref 1, .ref 4, .ref 6, qI 0]),
  .inr (3, [qI 6, .ref 5, qI 0]),
  .inl (0, 1500, .inl (fun _ => 0)),
  .inl (0, 500, .inl (fun _ => 0)),
  .inr (4, [.ref 1, .ref 3]),
  .inr (5, [.ref 1, .ref 3, .int 0, .int 0, .int 0, .int 0, .int 0, .int 0, .ref 9, .null, .null, .null]),
  .inr (3, [qI 1, .ref 10, qI 0]),
  .inl (0, 250, .inl (fun _ => 0)),
  .inr (3, [qI 1, .ref 12, .int 0]),
  .inl (0, 250, .inl (fun _ => 0))]
def yh38 : zH := [.inr (0, [.ref 1, .ref 3, .ref 7, .null, .null, .null, .int 0]),
  .inr (1, [.ref 2, qI 0, qI 0, qI (-2)]),
  .inl (0, 500, .inl (fun _ => 0)),
  .inr (2, [.ref 1, .ref 4, .ref 6, qI 0]),
  .inr (3, [qI 6, .ref 5, qI 0]),
  .inl (0, 1500, .inl (fun _ => 0)),
  .inl (0, 500, .inl (fun _ => 0)),
  .inr (4, [.ref 1, .ref 3]),
  .inr (5, [.ref 1, .ref 3, .int 0, .int 0, .int 0, .int 0, .int 0, .int 0, .ref 9, .null, .null, .null]),
  .inr (3, [qI 1, .ref 10, qI 0]),
  .inl (0, 250, .inl (fun _ => 0)),
  .inr (3, [qI 1, .ref 12, qI 0]),
  .inl (0, 250, .inl (fun _ => 0))]
def yh39 : zH := [.inr (0, [.ref 1, .ref 3, .ref 7, .null, .null, .null, .int 0]),
  .inr (1, [.ref 2, qI 0, qI 0, qI (-2)]),
  .inl (0, 500, .inl (fun _ => 0)),
  .inr (2, [.ref 1, .ref 4, .ref 6, qI 0]),
  .inr (3, [qI 6, .ref 5, qI 0]),
  .inl (0, 1500, .inl (fun _ => 0)),
  .inl (0, 500, .inl (fun _ => 0)),
  .inr (4, [.ref 1, .ref 3]),
  .inr (5, [.ref 1, .ref 3, .int 0, .int 0, .int 0, .int 0, .int 0, .int 0, .ref 9, .ref 11, .null, .null]),
  .inr (3, [qI 1, .ref 10, qI 0]),
  .inl (0, 250, .inl (fun _ => 0)),
  .inr (3, [qI 1, .ref 12, qI 0]),
  .inl (0, 250, .inl (fun _ => 0))]
def yh40 : zH := [.inr (0, [.ref 1, .ref 3, .ref 7, .null, .null, .null, .int 0]),
  .inr (1, [.ref 2, qI 0, qI 0, qI (-2)]),
  .inl (0, 500, .inl (fun _ => 0)),
  .inr (2, [.ref 1, .ref 4, .ref 6, qI 0]),
  .inr (3, [qI 6, .ref 5, qI 0]),
  .inl (0, 1500, .inl (fun _ => 0)),
  .inl (0, 500, .inl (fun _ => 0)),
  .inr (4, [.ref 1, .ref 3]),
  .inr (5, [.ref 1, .ref 3, .int 0, .int 0, .int 0, .int 0, .int 0, .int 0, .ref 9, .ref 11, .null, .null]),
  .inr (3, [qI 1, .ref 10, qI 0]),
  .inl (0, 250, .inl (fun _ => 0)),
  .inr (3, [qI 1, .ref 12, qI 0]),
  .inl (0, 250, .inl (fun _ => 0)),
  .inr (3, [.int 0, .null, .int 0])]
def yh41 : zH := [.inr (0, [.ref 1, .ref 3, .ref 7, .null, .null, .null, .int 0]),
  .inr (1, [.ref 2, qI 0, qI 0, qI (-2)]),
  .inl (0, 500, .inl (fun _ => 0)),
  .inr (2, [.ref 1, .ref 4, .ref 6, qI 0]),
  .inr (3, [qI 6, .ref 5, qI 0]),
  .inl (0, 1500, .inl (fun _ => 0)),
  .inl (0, 500, .inl (fun _ => 0)),
  .inr (4, [.ref 1, .ref 3]),
  .inr (5, [.ref 1, .ref 3, .int 0, .int 0, .int 0, .int 0, .int 0, .int 0, .ref 9, .ref 11, .null, .null]),
  .inr (3, [qI 1, .ref 10, qI 0]),
  .inl (0, 250, .inl (fun _ => 0)),
  .inr (3, [qI 1, .ref 12, qI 0]),
  .inl (0, 250, .inl (fun _ => 0)),
  .inr (3, [qI 4, .null, .int 0])]
def yh42 : zH := [.inr (0, [.ref 1, .ref 3, .ref 7, .null, .null, .null, .int 0]),
  .inr (1, [.ref 2, qI 0, qI 0, qI (-2)]),
  .inl (0, 500, .inl (fun _ => 0)),
  .inr (2, [.ref 1, .ref 4, .ref 6, qI 0]),
  .inr (3, [qI 6, .ref 5, qI 0]),
  .inl (0, 1500, .inl (fun _ => 0)),
  .inl (0, 500, .inl (fun _ => 0)),
  .inr (4, [.ref 1, .ref 3]),
  .inr (5, [.ref 1, .ref 3, .int 0, .int 0, .int 0, .int 0, .int 0, .int 0, .ref 9, .ref 11, .null, .null]),
  .inr (3, [qI 1, .ref 10, qI 0]),
  .inl (0, 250, .inl (fun _ => 0)),
  .inr (3, [qI 1, .ref 12, qI 0]),
  .inl (0, 250, .inl (fun _ => 0)),
  .inr (3, [qI 4, .null, .int 0]),
  .inl (0, 248, .inl (fun _ => 0))]
def yh43 : zH := [.inr (0, [.ref 1, .ref 3, .ref 7, .null, .null, .null, .int 0]),
  .inr (1, [.ref 2, qI 0, qI 0, qI (-2)]),
  .inl (0, 500, .inl (fun _ => 0)),
  .inr (2, [.ref 1, .ref 4, .ref 6, qI 0]),
  .inr (3, [qI 6, .ref 5, qI 0]),
  .inl (0, 1500, .inl (fun _ => 0)),
  .inl (0, 500, .inl (fun _ => 0)),
  .inr (4, [.ref 1, .ref 3]),
  .inr (5, [.ref 1, .ref 3, .int 0, .int 0, .int 0, .int 0, .int 0, .int 0, .ref 9, .ref 11, .null, .null]),
  .inr (3, [qI 1, .ref 10, qI 0]),
  .inl (0, 250, .inl (fun _ => 0)),
  .inr (3, [qI 1, .ref 12, qI 0]),
  .inl (0, 250, .inl (fun _ => 0)),
  .inr (3, [qI 4, .ref 14, .int 0]),
  .inl (0, 248, .inl (fun _ => 0))]
def yh44 : zH := [.inr (0, [.ref 1, .ref 3, .ref 7, .null, .null, .null, .int 0]),
  .inr (1, [.ref 2, qI 0, qI 0, qI (-2)]),
  .inl (0, 500, .inl (fun _ => 0)),
  .inr (2, [.ref 1, .ref 4, .ref 6, qI 0]),
  .inr (3, [qI 6, .ref 5, qI 0]),
  .inl (0, 1500, .inl (fun _ => 0)),
  .inl (0, 500, .inl (fun _ => 0)),
  .inr (4, [.ref 1, .ref 3]),
  .inr (5, [.ref 1, .ref 3, .int 0, .int 0, .int 0, .int 0, .int 0, .int 0, .ref 9, .ref 11, .null, .null]),
  .inr (3, [qI 1, .ref 10, qI 0]),
  .inl (0, 250, .inl (fun _ => 0)),
  .inr (3, [qI 1, .ref 12, qI 0]),
  .inl (0, 250, .inl (fun _ => 0)),
  .inr (3, [qI 4, .ref 14, qI 0]),
  .inl (0, 248, .inl (fun _ => 0))]
def yh45 : zH := [.inr (0, [.ref 1, .ref 3, .ref 7, .null, .null, .null, .int 0]),
  .inr (1, [.ref 2, qI 0, qI 0, qI (-2)]),
  .inl (0, 500, .inl (fun _ => 0)),
  .inr (2, [.ref 1, .ref 4, .ref 6, qI 0]),
  .inr (3, [qI 6, .ref 5, qI 0]),
  .inl (0, 1500, .inl (fun _ => 0)),
  .inl (0, 500, .inl (fun _ => 0)),
  .inr (4, [.ref 1, .ref 3]),
  .inr (5, [.ref 1, .ref 3, .int 0, .int 0, .int 0, .int 0, .int 0, .int 0, .ref 9, .ref 11, .ref 13, .null]),
  .inr (3, [qI 1, .ref 10, qI 0]),
  .inl (0, 250, .inl (fun _ => 0)),
  .inr (3, [qI 1, .ref 12, qI 0]),
  .inl (0, 250, .inl (fun _ => 0)),
  .inr (3, [qI 4, .ref 14, qI 0]),
  .inl (0, 248, .inl (fun _ => 0))]
def yh46 : zH := [.inr (0, [.ref 1, .ref 3, .ref 7, .null, .null, .null, .int 0]),
  .inr (1, [.ref 2, qI 0, qI 0, qI (-2)]),
  .inl (0, 500, .inl (fun _ => 0)),
  .inr (2, [.ref 1, .ref 4, .ref 6, qI 0]),
  .inr (3, [qI 6, .ref 5, qI 0]),
  .inl (0, 1500, .inl (fun _ => 0)),
  .inl (0, 500, .inl (fun _ => 0)),
  .inr (4, [.ref 1, .ref 3]),
  .inr (5, [.ref 1, .ref 3, .int 0, .int 0, .int 0, .int 0, .int 0, .int 0, .ref 9, .ref 11, .ref 13, .null]),
  .inr (3, [qI 1, .ref 10, qI 0]),
  .inl (0, 250, .inl (fun _ => 0)),
  .inr (3, [qI 1, .ref 12, qI 0]),
  .inl (0, 250, .inl (fun _ => 0)),
  .inr (3, [qI 4, .ref 14, qI 0]),
  .inl (0, 248, .inl (fun _ => 0)),
  .inr (3, [.int 0, .null, .int 0])]
def yh47 : zH := [.inr (0, [.ref 1, .ref 3, .ref 7, .null, .null, .null, .int 0]),
  .inr (1, [.ref 2, qI 0, qI 0, qI (-2)]),
  .inl (0, 500, .inl (fun _ => 0)),
  .inr (2, [.ref 1, .ref 4, .ref 6, qI 0]),
  .inr (3, [qI 6, .ref 5, qI 0]),
  .inl (0, 1500, .inl (fun _ => 0)),
  .inl (0, 500, .inl (fun _ => 0)),
  .inr (4, [.ref 1, .ref 3]),
  .inr (5, [.ref 1, .ref 3, .int 0, .int 0, .int 0, .int 0, .int 0, .int 0, .ref 9, .ref 11, .ref 13, .null]),
  .inr (3, [qI 1, .ref 10, qI 0]),
  .inl (0, 250, .inl (fun _ => 0)),
  .inr (3, [qI 1, .ref 12, qI 0]),
  .inl (0, 250, .inl (fun _ => 0)),
  .inr (3, [qI 4, .ref 14, qI 0]),
  .inl (0, 248, .inl (fun _ => 0)),
  .inr (3, [qI 2, .null, .int 0])]
def yh48 : zH := [.inr (0, [.ref 1, .ref 3, .ref 7, .null, .null, .null, .int 0]),
  .inr (1, [.ref 2, qI 0, qI 0, qI (-2)]),
  .inl (0, 500, .inl (fun _ => 0)),
  .inr (2, [.ref 1, .ref 4, .ref 6, qI 0]),
  .inr (3, [qI 6, .ref 5, qI 0]),
  .inl (0, 1500, .inl (fun _ => 0)),
  .inl (0, 500, .inl (fun _ => 0)),
  .inr (4, [.ref 1, .ref 3]),
  .inr (5, [.ref 1, .ref 3, .int 0, .int 0, .int 0, .int 0, .int 0, .int 0, .ref 9, .ref 11, .ref 13, .null]),
  .inr (3, [qI 1, .ref 10, qI 0]),
  .inl (0, 250, .inl (fun _ => 0)),
  .inr (3, [qI 1, .ref 12, qI 0]),
  .inl (0, 250, .inl (fun _ => 0)),
  .inr (3, [qI 4, .ref 14, qI 0]),
  .inl (0, 248, .inl (fun _ => 0)),
  .inr (3, [qI 2, .null, .int 0]),
  .inl (0, 250, .inl (fun _ => 0))]
def yh49 : zH := [.inr (0, [.ref 1, .ref 3, .ref 7, .null, .null, .null, .int 0]),
  .inr (1, [.ref 2, qI 0, qI 0, qI (-2)]),
  .inl (0, 500, .inl (fun _ => 0)),
  .inr (2, [.ref 1, .ref 4, .ref 6, qI 0]),
  .inr (3, [qI 6, .ref 5, qI 0]),
  .inl (0, 1500, .inl (fun _ => 0)),
  .inl (0, 500, .inl (fun _ => 0)),
  .inr (4, [.ref 1, .ref 3]),
  .inr (5, [.ref 1, .ref 3, .int 0, .int 0, .int 0, .int 0, .int 0, .int 0, .ref 9, .ref 11, .ref 13, .null]),
  .inr (3, [qI 1, .ref 10, qI 0]),
  .inl (0, 250, .inl (fun _ => 0)),
  .inr (3, [qI 1, .ref 12, qI 0]),
  .inl (0, 250, .inl (fun _ => 0)),
  .inr (3, [qI 4, .ref 14, qI 0]),
  .inl (0, 248, .inl (fun _ => 0)),
  .inr (3, [qI 2, .ref 16, .int 0]),
  .inl (0, 250, .inl (fun _ => 0))]
def yh50 : zH := [.inr (0, [.ref 1, .ref 3, .ref 7, .null, .null, .null, .int 0]),
  .inr (1, [.ref 2, qI 0, qI 0, qI (-2)]),
  .inl (0, 500, .inl (fun _ => 0)),
  .inr (2, [.ref 1, .ref 4, .ref 6, qI 0]),
  .inr (3, [qI 6, .ref 5, qI 0]),
  .inl (0, 1500, .inl (fun _ => 0)),
  .inl (0, 500, .inl (fun _ => 0)),
  .inr (4, [.ref 1, .ref 3]),
  .inr (5, [.ref 1, .ref 3, .int 0, .int 0, .int 0, .int 0, .int 0, .int 0, .ref 9, .ref 11, .ref 13, .null]),
  .inr (3, [qI 1, .ref 10, qI 0]),
  .inl (0, 250, .inl (fun _ => 0)),
  .inr (3, [qI 1, .ref 12, qI 0]),
  .inl (0, 250, .inl (fun _ => 0)),
  .inr (3, [qI 4, .ref 14, qI 0]),
  .inl (0, 248, .inl (fun _ => 0)),
  .inr (3, [qI 2, .ref 16, qI 0]),
  .inl (0, 250, .inl (fun _ => 0))]
def yh51 : zH := [.inr (0, [.ref 1, .ref 3, .ref 7, .null, .null, .null, .int 0]),
  .inr (1, [.ref 2, qI 0, qI 0, qI (-2)]),
  .inl (0, 500, .inl (fun _ => 0)),
  .inr (2, [.ref 1, .ref 4, .ref 6, qI 0]),
  .inr (3, [qI 6, .ref 5, qI 0]),
  .inl (0, 1500, .inl (fun _ => 0)),
  .inl (0, 500, .inl (fun _ => 0)),
  .inr (4, [.ref 1, .ref 3]),
  .inr (5, [.ref 1, .ref 3, .int 0, .int 0, .int 0, .int 0, .int 0, .int 0, .ref 9, .ref 11, .ref 13, .ref 15]),
  .inr (3, [qI 1, .ref 10, qI 0]),
  .inl (0, 250, .inl (fun _ => 0)),
  .inr (3, [qI 1, .ref 12, qI 0]),
  .inl (0, 250, .inl (fun _ => 0)),
  .inr (3, [qI 4, .ref 14, qI 0]),
  .inl (0, 248, .inl (fun _ => 0)),
  .inr (3, [qI 2, .ref 16, qI 0]),
  .inl (0, 250, .inl (fun _ => 0))]
def yh52 : zH := [.inr (0, [.ref 1, .ref 3, .ref 7, .ref 8, .null, .null, .int 0]),
  .inr (1, [.ref 2, qI 0, qI 0, qI (-2)]),
  .inl (0, 500, .inl (fun _ => 0)),
  .inr (2, [.ref 1, .ref 4, .ref 6, qI 0]),
  .inr (3, [qI 6, .ref 5, qI 0]),
  .inl (0, 1500, .inl (fun _ => 0)),
  .inl (0, 500, .inl (fun _ => 0)),
  .inr (4, [.ref 1, .ref 3]),
  .inr (5, [.ref 1, .ref 3, .int 0, .int 0, .int 0, .int 0, .int 0, .int 0, .ref 9, .ref 11, .ref 13, .ref 15]),
  .inr (3, [qI 1, .ref 10, qI 0]),
  .inl (0, 250, .inl (fun _ => 0)),
  .inr (3, [qI 1, .ref 12, qI 0]),
  .inl (0, 250, .inl (fun _ => 0)),
  .inr (3, [qI 4, .ref 14, qI 0]),
  .inl (0, 248, .inl (fun _ => 0)),
  .inr (3, [qI 2, .ref 16, qI 0]),
  .inl (0, 250, .inl (fun _ => 0))]
def yh53 : zH := [.inr (0, [.ref 1, .ref 3, .ref 7, .ref 8, .null, .null, .int 0]),
  .inr (1, [.ref 2, qI 0, qI 0, qI (-2)]),
  .inl (0, 500, .inl (fun _ => 0)),
  .inr (2, [.ref 1, .ref 4, .ref 6, qI 0]),
  .inr (3, [qI 6, .ref 5, qI 0]),
  .inl (0, 1500, .inl (fun _ => 0)),
  .inl (0, 500, .inl (fun _ => 0)),
  .inr (4, [.ref 1, .ref 3]),
  .inr (5, [.ref 1, .ref 3, .int 0, .int 0, .int 0, .int 0, .int 0, .int 0, .ref 9, .ref 11, .ref 13, .ref 15]),
  .inr (3, [qI 1, .ref 10, qI 0]),
  .inl (0, 250, .inl (fun _ => 0)),
  .inr (3, [qI 1, .ref 12, qI 0]),
  .inl (0, 250, .inl (fun _ => 0)),
  .inr (3, [qI 4, .ref 14, qI 0]),
  .inl (0, 248, .inl (fun _ => 0)),
  .inr (3, [qI 2, .ref 16, qI 0]),
  .inl (0, 250, .inl (fun _ => 0)),
  .inr (6, [.null, .null, .null, .null, .null, .null, .int 0, .int 0, .int 0, .int 0, .int 0])]
def yh54 : zH := [.inr (0, [.ref 1, .ref 3, .ref 7, .ref 8, .null, .null, .int 0]),
  .inr (1, [.ref 2, qI 0, qI 0, qI (-2)]),
  .inl (0, 500, .inl (fun _ => 0)),
  .inr (2, [.ref 1, .ref 4, .ref 6, qI 0]),
  .inr (3, [qI 6, .ref 5, qI 0]),
  .inl (0, 1500, .inl (fun _ => 0)),
  .inl (0, 500, .inl (fun _ => 0)),
  .inr (4, [.ref 1, .ref 3]),
  .inr (5, [.ref 1, .ref 3, .int 0, .int 0, .int 0, .int 0, .int 0, .int 0, .ref 9, .ref 11, .ref 13, .ref 15]),
  .inr (3, [qI 1, .ref 10, qI 0]),
  .inl (0, 250, .inl (fun _ => 0)),
  .inr (3, [qI 1, .ref 12, qI 0]),
  .inl (0, 250, .inl (fun _ => 0)),
  .inr (3, [qI 4, .ref 14, qI 0]),
  .inl (0, 248, .inl (fun _ => 0)),
  .inr (3, [qI 2, .ref 16, qI 0]),
  .inl (0, 250, .inl (fun _ => 0)),
  .inr (6, [.ref 1, .null, .null, .null, .null, .null, .int 0, .int 0, .int 0, .int 0, .int 0])]
def yh55 : zH := [.inr (0, [.ref 1, .ref 3, .ref 7, .ref 8, .null, .null, .int 0]),
  .inr (1, [.ref 2, qI 0, qI 0, qI (-2)]),
  .inl (0, 500, .inl (fun _ => 0)),
  .inr (2, [.ref 1, .ref 4, .ref 6, qI 0]),
  .inr (3, [qI 6, .ref 5, qI 0]),
  .inl (0, 1500, .inl (fun _ => 0)),
  .inl (0, 500, .inl (fun _ => 0)),
  .inr (4, [.ref 1, .ref 3]),
  .inr (5, [.ref 1, .ref 3, .int 0, .int 0, .int 0, .int 0, .int 0, .int 0, .ref 9, .ref 11, .ref 13, .ref 15]),
  .inr (3, [qI 1, .ref 10, qI 0]),
  .inl (0, 250, .inl (fun _ => 0)),
  .inr (3, [qI 1, .ref 12, qI 0]),
  .inl (0, 250, .inl (fun _ => 0)),
  .inr (3, [qI 4, .ref 14, qI 0]),
  .inl (0, 248, .inl (fun _ => 0)),
  .inr (3, [qI 2, .ref 16, qI 0]),
  .inl (0, 250, .inl (fun _ => 0)),
  .inr (6, [.ref 1, .ref 3, .null, .null, .null, .null, .int 0, .int 0, .int 0, .int 0, .int 0])]
def yh56 : zH := [.inr (0, [.ref 1, .ref 3, .ref 7, .ref 8, .null, .null, .int 0]),
  .inr (1, [.ref 2, qI 0, qI 0, qI (-2)]),
  .inl (0, 500, .inl (fun _ => 0)),
  .inr (2, [.ref 1, .ref 4, .ref 6, qI 0]),
  .inr (3, [qI 6, .ref 5, qI 0]),
  .inl (0, 1500, .inl (fun _ => 0)),
  .inl (0, 500, .inl (fun _ => 0)),
  .inr (4, [.ref 1, .ref 3]),
  .inr (5, [.ref 1, .ref 3, .int 0, .int 0, .int 0, .int 0, .int 0, .int 0, .ref 9, .ref 11, .ref 13, .ref 15]),
  .inr (3, [qI 1, .ref 10, qI 0]),
  .inl (0, 250, .inl (fun _ => 0)),
  .inr (3, [qI 1, .ref 12, qI 0]),
  .inl (0, 250, .inl (fun _ => 0)),
  .inr (3, [qI 4, .ref 14, qI 0]),
  .inl (0, 248, .inl (fun _ => 0)),
  .inr (3, [qI 2, .ref 16, qI 0]),
  .inl (0, 250, .inl (fun _ => 0)),
  .inr (6, [.ref 1, .ref 3, .ref 8, .null, .null, .null, .int 0, .int 0, .int 0, .int 0, .int 0])]
def yh57 : zH := [.inr (0, [.ref 1, .ref 3, .ref 7, .ref 8, .null, .null, .int 0]),
  .inr (1, [.ref 2, qI 0, qI 0, qI (-2)]),
  .inl (0, 500, .inl (fun _ => 0)),
  .inr (2, [.ref 1, .ref 4, .ref 6, qI 0]),
  .inr (3, [qI 6, .ref 5, qI 0]),
  .inl (0, 1500, .inl (fun _ => 0)),
  .inl (0, 500, .inl (fun _ => 0)),
  .inr (4, [.ref 1, .ref 3]),
  .inr (5, [.ref 1, .ref 3, .int 0, .int 0, .int 0, .int 0, .int 0, .int 0, .ref 9, .ref 11, .ref 13, .ref 15]),
  .inr (3, [qI 1, .ref 10, qI 0]),
  .inl (0, 250, .inl (fun _ => 0)),
  .inr (3, [qI 1, .ref 12, qI 0]),
  .inl (0, 250, .inl (fun _ => 0)),
  .inr (3, [qI 4, .ref 14, qI 0]),
  .inl (0, 248, .inl (fun _ => 0)),
  .inr (3, [qI 2, .ref 16, qI 0]),
  .inl (0, 250, .inl (fun _ => 0)),
  .inr (6, [.ref 1, .ref 3, .ref 8, .null, .null, .null, .int 0, .int 0, .int 0, .int 0, .int 0]),
  .inr (3, [.int 0, .null, .int 0])]
def yh58 : zH := [.inr (0, [.ref 1, .ref 3, .ref 7, .ref 8, .null, .null, .int 0]),
  .inr (1, [.ref 2, qI 0, qI 0, qI (-2)]),
  .inl (0, 500, .inl (fun _ => 0)),
  .inr (2, [.ref 1, .ref 4, .ref 6, qI 0]),
  .inr (3, [qI 6, .ref 5, qI 0]),
  .inl (0, 1500, .inl (fun _ => 0)),
  .inl (0, 500, .inl (fun _ => 0)),
  .inr (4, [.ref 1, .ref 3]),
  .inr (5, [.ref 1, .ref 3, .int 0, .int 0, .int 0, .int 0, .int 0, .int 0, .ref 9, .ref 11, .ref 13, .ref 15]),
  .inr (3, [qI 1, .ref 10, qI 0]),
  .inl (0, 250, .inl (fun _ => 0)),
  .inr (3, [qI 1, .ref 12, qI 0]),
  .inl (0, 250, .inl (fun _ => 0)),
  .inr (3, [qI 4, .ref 14, qI 0]),
  .inl (0, 248, .inl (fun _ => 0)),
  .inr (3, [qI 2, .ref 16, qI 0]),
  .inl (0, 250, .inl (fun _ => 0)),
  .inr (6, [.ref 1, .ref 3, .ref 8, .null, .null, .null, .int 0, .int 0, .int 0, .int 0, .int 0]),
  .inr (3, [qI 1, .null, .int 0])]
def yh59 : zH := [.inr (0, [.ref 1, .ref 3, .ref 7, .ref 8, .null, .null, .int 0]),
  .inr (1, [.ref 2, qI 0, qI 0, qI (-2)]),
  .inl (0, 500, .inl (fun _ => 0)),
  .inr (2, [.ref 1, .ref 4, .ref 6, qI 0]),
  .inr (3, [qI 6, .ref 5, qI 0]),
  .inl (0, 1500, .inl (fun _ => 0)),
  .inl (0, 500, .inl (fun _ => 0)),
  .inr (4, [.ref 1, .ref 3]),
  .inr (5, [.ref 1, .ref 3, .int 0, .int 0, .int 0, .int 0, .int 0, .int 0, .ref 9, .ref 11, .ref 13, .ref 15]),
  .inr (3, [qI 1, .ref 10, qI 0]),
  .inl (0, 250, .inl (fun _ => 0)),
  .inr (3, [qI 1, .ref 12, qI 0]),
  .inl (0, 250, .inl (fun _ => 0)),
  .inr (3, [qI 4, .ref 14, qI 0]),
  .inl (0, 248, .inl (fun _ => 0)),
  .inr (3, [qI 2, .ref 16, qI 0]),
  .inl (0, 250, .inl (fun _ => 0)),
  .inr (6, [.ref 1, .ref 3, .ref 8, .null, .null, .null, .int 0, .int 0, .int 0, .int 0, .int 0]),
  .inr (3, [qI 1, .null, .int 0]),
  .inl (0, 250, .inl (fun _ => 0))]
def yh60 : zH := [.inr (0, [.ref 1, .ref 3, .ref 7, .ref 8, .null, .null, .int 0]),
  .inr (1, [.ref 2, qI 0, qI 0, qI (-2)]),
  .inl (0, 500, .inl (fun _ => 0)),
  .inr (2, [.ref 1, .ref 4, .ref 6, qI 0]),
  .inr (3, [qI 6, .ref 5, qI 0]),
  .inl (0, 1500, .inl (fun _ => 0)),
  .inl (0, 500, .inl (fun _ => 0)),
  .inr (4, [.ref 1, .ref 3]),
  .inr (5, [.ref 1, .ref 3, .int 0, .int 0, .int 0, .int 0, .int 0, .int 0, .ref 9, .ref 11, .ref 13, .ref 15]),
  .inr (3, [qI 1, .ref 10, qI 0]),
  .inl (0, 250, .inl (fun _ => 0)),
  .inr (3, [qI 1, .ref 12, qI 0]),
  .inl (0, 250, .inl (fun _ => 0)),
  .inr (3, [qI 4, .ref 14, qI 0]),
  .inl (0, 248, .inl (fun _ => 0)),
  .inr (3, [qI 2, .ref 16, qI 0]),
  .inl (0, 250, .inl (fun _ => 0)),
  .inr (6, [.ref 1, .ref 3, .ref 8, .null, .null, .null, .int 0, .int 0, .int 0, .int 0, .int 0]),
  .inr (3, [qI 1, .ref 19, .int 0]),
  .inl (0, 250, .inl (fun _ => 0))]
def yh61 : zH := [.inr (0, [.ref 1, .ref 3, .ref 7, .ref 8, .null, .null, .int 0]),
  .inr (1, [.ref 2, qI 0, qI 0, qI (-2)]),
  .inl (0, 500, .inl (fun _ => 0)),
  .inr (2, [.ref 1, .ref 4, .ref 6, qI 0]),
  .inr (3, [qI 6, .ref 5, qI 0]),
  .inl (0, 1500, .inl (fun _ => 0)),
  .inl (0, 500, .inl (fun _ => 0)),
  .inr (4, [.ref 1, .ref 3]),
  .inr (5, [.ref 1, .ref 3, .int 0, .int 0, .int 0, .int 0, .int 0, .int 0, .ref 9, .ref 11, .ref 13, .ref 15]),
  .inr (3, [qI 1, .ref 10, qI 0]),
  .inl (0, 250, .inl (fun _ => 0)),
  .inr (3, [qI 1, .ref 12, qI 0]),
  .inl (0, 250, .inl (fun _ => 0)),
  .inr (3, [qI 4, .ref 14, qI 0]),
  .inl (0, 248, .inl (fun _ => 0)),
  .inr (3, [qI 2, .ref 16, qI 0]),
  .inl (0, 250, .inl (fun _ => 0)),
  .inr (6, [.ref 1, .ref 3, .ref 8, .null, .null, .null, .int 0, .int 0, .int 0, .int 0, .int 0]),
  .inr (3, [qI 1, .ref 19, qI 0]),
  .inl (0, 250, .inl (fun _ => 0))]
def yh62 : zH := [.inr (0, [.ref 1, .ref 3, .ref 7, .ref 8, .null, .null, .int 0]),
  .inr (1, [.ref 2, qI 0, qI 0, qI (-2)]),
  .inl (0, 500, .inl (fun _ => 0)),
  .inr (2, [.ref 1, .ref 4, .ref 6, qI 0]),
  .inr (3, [qI 6, .ref 5, qI 0]),
  .inl (0, 1500, .inl (fun _ => 0)),
  .inl (0, 500, .inl (fun _ => 0)),
  .inr (4, [.ref 1, .ref 3]),
  .inr (5, [.ref 1, .ref 3, .int 0, .int 0, .int 0, .int 0, .int 0, .int 0, .ref 9, .ref 11, .ref 13, .ref 15]),
  .inr (3, [qI 1, .ref 10, qI 0]),
  .inl (0, 250, .inl (fun _ => 0)),
  .inr (3, [qI 1, .ref 12, qI 0]),
  .inl (0, 250, .inl (fun _ => 0)),
  .inr (3, [qI 4, .ref 14, qI 0]),
  .inl (0, 248, .inl (fun _ => 0)),
  .inr (3, [qI 2, .ref 16, qI 0]),
  .inl (0, 250, .inl (fun _ => 0)),
  .inr (6, [.ref 1, .ref 3, .ref 8, .ref 18, .null, .null, .int 0, .int 0, .int 0, .int 0, .int 0]),
  .inr (3, [qI 1, .ref 19, qI 0]),
  .inl (0, 250, .inl (fun _ => 0))]
def yh63 : zH := [.inr (0, [.ref 1, .ref 3, .ref 7, .ref 8, .null, .null, .int 0]),
  .inr (1, [.ref 2, qI 0, qI 0, qI (-2)]),
  .inl (0, 500, .inl (fun _ => 0)),
  .inr (2, [.ref 1, .ref 4, .ref 6, qI 0]),
  .inr (3, [qI 6, .ref 5, qI 0]),
  .inl (0, 1500, .inl (fun _ => 0)),
  .inl (0, 500, .inl (fun _ => 0)),
  .inr (4, [.ref 1, .ref 3]),
  .inr (5, [.ref 1, .ref 3, .int 0, .int 0, .int 0, .int 0, .int 0, .int 0, .ref 9, .ref 11, .ref 13, .ref 15]),
  .inr (3, [qI 1, .ref 10, qI 0]),
  .inl (0, 250, .inl (fun _ => 0)),
  .inr (3, [qI 1, .ref 12, qI 0]),
  .inl (0, 250, .inl (fun _ => 0)),
  .inr (3, [qI 4, .ref 14, qI 0]),
  .inl (0, 248, .inl (fun _ => 0)),
  .inr (3, [qI 2, .ref 16, qI 0]),
  .inl (0, 250, .inl (fun _ => 0)),
  .inr (6, [.ref 1, .ref 3, .ref 8, .ref 18, .null, .null, .int 0, .int 0, .int 0, .int 0, .int 0]),
  .inr (3, [qI 1, .ref 19, qI 0]),
  .inl (0, 250, .inl (fun _ => 0)),
  .inr (3, [.int 0, .null, .int 0])]
def yh64 : zH := [.inr (0, [.ref 1, .ref 3, .ref 7, .ref 8, .null, .null, .int 0]),
  .inr (1, [.ref 2, qI 0, qI 0, qI (-2)]),
  .inl (0, 500, .inl (fun _ => 0)),
  .inr (2, [.ref 1, .ref 4, .ref 6, qI 0]),
  .inr (3, [qI 6, .ref 5, qI 0]),
  .inl (0, 1500, .inl (fun _ => 0)),
  .inl (0, 500, .inl (fun _ => 0)),
  .inr (4, [.ref 1, .ref 3]),
  .inr (5, [.ref 1, .ref 3, .int 0, .int 0, .int 0, .int 0, .int 0, .int 0, .ref 9, .ref 11, .ref 13, .ref 15]),
  .inr (3, [qI 1, .ref 10, qI 0]),
  .inl (0, 250, .inl (fun _ => 0)),
  .inr (3, [qI 1, .ref 12, qI 0]),
  .inl (0, 250, .inl (fun _ => 0)),
  .inr (3, [qI 4, .ref 14, qI 0]),
  .inl (0, 248, .inl (fun _ => 0)),
  .inr (3, [qI 2, .ref 16, qI 0]),
  .inl (0, 250, .inl (fun _ => 0)),
  .inr (6, [.ref 1, .ref 3, .ref 8, .ref 18, .null, .null, .int 0, .int 0, .int 0, .int 0, .int 0]),
  .inr (3, [qI 1, .ref 19, qI 0]),
  .inl (0, 250, .inl (fun _ => 0)),
  .inr (3, [qI 8, .null, .int 0])]
def yh65 : zH := [.inr (0, [.ref 1, .ref 3, .ref 7, .ref 8, .null, .null, .int 0]),
  .inr (1, [.ref 2, qI 0, qI 0, qI (-2)]),
  .inl (0, 500, .inl (fun _ => 0)),
  .inr (2, [.ref 1, .ref 4, .ref 6, qI 0]),
  .inr (3, [qI 6, .ref 5, qI 0]),
  .inl (0, 1500, .inl (fun _ => 0)),
  .inl (0, 500, .inl (fun _ => 0)),
  .inr (4, [.ref 1, .ref 3]),
  .inr (5, [.ref 1, .ref 3, .int 0, .int 0, .int 0, .int 0, .int 0, .int 0, .ref 9, .ref 11, .ref 13, .ref 15]),
  .inr (3, [qI 1, .ref 10, qI 0]),
  .inl (0, 250, .inl (fun _ => 0)),
  .inr (3, [qI 1, .ref 12, qI 0]),
  .inl (0, 250, .inl (fun _ => 0)),
  .inr (3, [qI 4, .ref 14, qI 0]),
  .inl (0, 248, .inl (fun _ => 0)),
  .inr (3, [qI 2, .ref 16, qI 0]),
  .inl (0, 250, .inl (fun _ => 0)),
  .inr (6, [.ref 1, .ref 3, .ref 8, .ref 18, .null, .null, .int 0, .int 0, .int 0, .int 0, .int 0]),
  .inr (3, [qI 1, .ref 19, qI 0]),
  .inl (0, 250, .inl (fun _ => 0)),
  .inr (3, [qI 8, .null, .int 0]),
  .inl (0, 496, .inl (fun _ => 0))]
def yh66 : zH := [.inr (0, [.ref 1, .ref 3, .ref 7, .ref 8, .null, .null, .int 0]),
  .inr (1, [.ref 2, qI 0, qI 0, qI (-2)]),
  .inl (0, 500, .inl (fun _ => 0)),
  .inr (2, [.ref 1, .ref 4, .ref 6, qI 0]),
  .inr (3, [qI 6, .ref 5, qI 0]),
  .inl (0, 1500, .inl (fun _ => 0)),
  .inl (0, 500, .inl (fun _ => 0)),
  .inr (4, [.ref 1, .ref 3]),
  .inr (5, [.ref 1, .ref 3, .int 0, .int 0, .int 0, .int 0, .int 0, .int 0, .ref 9, .ref 11, .ref 13, .ref 15]),
  .inr (3, [qI 1, .ref 10, qI 0]),
  .inl (0, 250, .inl (fun _ => 0)),
  .inr (3, [qI 1, .ref 12, qI 0]),
  .inl (0, 250, .inl (fun _ => 0)),
  .inr (3, [qI 4, .ref 14, qI 0]),
  .inl (0, 248, .inl (fun _ => 0)),
  .inr (3, [qI 2, .ref 16, qI 0]),
  .inl (0, 250, .inl (fun _ => 0)),
  .inr (6, [.ref 1, .ref 3, .ref 8, .ref 18, .null, .null, .int 0, .int 0, .int 0, .int 0, .int 0]),
  .inr (3, [qI 1, .ref 19, qI 0]),
  .inl (0, 250, .inl (fun _ => 0)),
  .inr (3, [qI 8, .ref 21, .int 0]),
  .inl (0, 496, .inl (fun _ => 0))]
def yh67 : zH := [.inr (0, [.ref 1, .ref 3, .ref 7, .ref 8, .null, .null, .int 0]),
  .inr (1, [.ref 2, qI 0, qI 0, qI (-2)]),
  .inl (0, 500, .inl (fun _ => 0)),
  .inr (2, [.ref 1, .ref 4, .ref 6, qI 0]),
  .inr (3, [qI 6, .ref 5, qI 0]),
  .inl (0, 1500, .inl (fun _ => 0)),
  .inl (0, 500, .inl (fun _ => 0)),
  .inr (4, [.ref 1, .ref 3]),
  .inr (5, [.ref 1, .ref 3, .int 0, .int 0, .int 0, .int 0, .int 0, .int 0, .ref 9, .ref 11, .ref 13, .ref 15]),
  .inr (3, [qI 1, .ref 10, qI 0]),
  .inl (0, 250, .inl (fun _ => 0)),
  .inr (3, [qI 1, .ref 12, qI 0]),
  .inl (0, 250, .inl (fun _ => 0)),
  .inr (3, [qI 4, .ref 14, qI 0]),
  .inl (0, 248, .inl (fun _ => 0)),
  .inr (3, [qI 2, .ref 16, qI 0]),
  .inl (0, 250, .inl (fun _ => 0)),
  .inr (6, [.ref 1, .ref 3, .ref 8, .ref 18, .null, .null, .int 0, .int 0, .int 0, .int 0, .int 0]),
  .inr (3, [qI 1, .ref 19, qI 0]),
  .inl (0, 250, .inl (fun _ => 0)),
  .inr (3, [qI 8, .ref 21, qI 0]),
  .inl (0, 496, .inl (fun _ => 0))]
def yh68 : zH := [.inr (0, [.ref 1, .ref 3, .ref 7, .ref 8, .null, .null, .int 0]),
  .inr (1, [.ref 2, qI 0, qI 0, qI (-2)]),
  .inl (0, 500, .inl (fun _ => 0)),
  .inr (2, [.ref 1, .ref 4, .ref 6, qI 0]),
  .inr (3, [qI 6, .ref 5, qI 0]),
  .inl (0, 1500, .inl (fun _ => 0)),
  .inl (0, 500, .inl (fun _ => 0)),
  .inr (4, [.ref 1, .ref 3]),
  .inr (5, [.ref 1, .ref 3, .int 0, .int 0, .int 0, .int 0, .int 0, .int 0, .ref 9, .ref 11, .ref 13, .ref 15]),
  .inr (3, [qI 1, .ref 10, qI 0]),
  .inl (0, 250, .inl (fun _ => 0)),
  .inr (3, [qI 1, .ref 12, qI 0]),
  .inl (0, 250, .inl (fun _ => 0)),
  .inr (3, [qI 4, .ref 14, qI 0]),
  .inl (0, 248, .inl (fun _ => 0)),
  .inr (3, [qI 2, .ref 16, qI 0]),
  .inl (0, 250, .inl (fun _ => 0)),
  .inr (6, [.ref 1, .ref 3, .ref 8, .ref 18, .ref 20, .null, .int 0, .int 0, .int 0, .int 0, .int 0]),
  .inr (3, [qI 1, .ref 19, qI 0]),
  .inl (0, 250, .inl (fun _ => 0)),
  .inr (3, [qI 8, .ref 21, qI 0]),
  .inl (0, 496, .inl (fun _ => 0))]
def yh69 : zH := [.inr (0, [.ref 1, .ref 3, .ref 7, .ref 8, .null, .null, .int 0]),
  .inr (1, [.ref 2, qI 0, qI 0, qI (-2)]),
  .inl (0, 500, .inl (fun _ => 0)),
  .inr (2, [.ref 1, .ref 4, .ref 6, qI 0]),
  .inr (3, [qI 6, .ref 5, qI 0]),
  .inl (0, 1500, .inl (fun _ => 0)),
  .inl (0, 500, .inl (fun _ => 0)),
  .inr (4, [.ref 1, .ref 3]),
  .inr (5, [.ref 1, .ref 3, .int 0, .int 0, .int 0, .int 0, .int 0, .int 0, .ref 9, .ref 11, .ref 13, .ref 15]),
  .inr (3, [qI 1, .ref 10, qI 0]),
  .inl (0, 250, .inl (fun _ => 0)),
  .inr (3, [qI 1, .ref 12, qI 0]),
  .inl (0, 250, .inl (fun _ => 0)),
  .inr (3, [qI 4, .ref 14, qI 0]),
  .inl (0, 248, .inl (fun _ => 0)),
  .inr (3, [qI 2, .ref 16, qI 0]),
  .inl (0, 250, .inl (fun _ => 0)),
  .inr (6, [.ref 1, .ref 3, .ref 8, .ref 18, .ref 20, .null, .int 0, .int 0, .int 0, .int 0, .int 0]),
  .inr (3, [qI 1, .ref 19, qI 0]),
  .inl (0, 250, .inl (fun _ => 0)),
  .inr (3, [qI 8, .ref 21, qI 0]),
  .inl (0, 496, .inl (fun _ => 0)),
  .inr (3, [.int 0, .null, .int 0])]
def yh70 : zH := [.inr (0, [.ref 1, .ref 3, .ref 7, .ref 8, .null, .null, .int 0]),
  .inr (1, [.ref 2, qI 0, qI 0, qI (-2)]),
  .inl (0, 500, .inl (fun _ => 0)),
  .inr (2, [.ref 1, .ref 4, .ref 6, qI 0]),
  .inr (3, [qI 6, .ref 5, qI 0]),
  .inl (0, 1500, .inl (fun _ => 0)),
  .inl (0, 500, .inl (fun _ => 0)),
  .inr (4, [.ref 1, .ref 3]),
  .inr (5, [.ref 1, .ref 3, .int 0, .int 0, .int 0, .int 0, .int 0, .int 0, .ref 9, .ref 11, .ref 13, .ref 15]),
  .inr (3, [qI 1, .ref 10, qI 0]),
  .inl (0, 250, .inl (fun _ => 0)),
  .inr (3, [qI 1, .ref 12, qI 0]),
  .inl (0, 250, .inl (fun _ => 0)),
  .inr (3, [qI 4, .ref 14, qI 0]),
  .inl (0, 248, .inl (fun _ => 0)),
  .inr (3, [qI 2, .ref 16, qI 0]),
  .inl (0, 250, .inl (fun _ => 0)),
  .inr (6, [.ref 1, .ref 3, .ref 8, .ref 18, .ref 20, .null, .int 0, .int 0, .int 0, .int 0, .int 0]),
  .inr (3, [qI 1, .ref 19, qI 0]),
  .inl (0, 250, .inl (fun _ => 0)),
  .inr (3, [qI 8, .ref 21, qI 0]),
  .inl (0, 496, .inl (fun _ => 0)),
  .inr (3, [qI 8, .null, .int 0])]
def yh71 : zH := [.inr (0, [.ref 1, .ref 3, .ref 7, .ref 8, .null, .null, .int 0]),
  .inr (1, [.ref 2, qI 0, qI 0, qI (-2)]),
  .inl (0, 500, .inl (fun _ => 0)),
  .inr (2, [.ref 1, .ref 4, .ref 6, qI 0]),
  .inr (3, [qI 6, .ref 5, qI 0]),
  .inl (0, 1500, .inl (fun _ => 0)),
  .inl (0, 500, .inl (fun _ => 0)),
  .inr (4, [.ref 1, .ref 3]),
  .inr (5, [.ref 1, .ref 3, .int 0, .int 0, .int 0, .int 0, .int 0, .int 0, .ref 9, .ref 11, .ref 13, .ref 15]),
  .inr (3, [qI 1, .ref 10, qI 0]),
  .inl (0, 250, .inl (fun _ => 0)),
  .inr (3, [qI 1, .ref 12, qI 0]),
  .inl (0, 250, .inl (fun _ => 0)),
  .inr (3, [qI 4, .ref 14, qI 0]),
  .inl (0, 248, .inl (fun _ => 0)),
  .inr (3, [qI 2, .ref 16, qI 0]),
  .inl (0, 250, .inl (fun _ => 0)),
  .inr (6, [.ref 1, .ref 3, .ref 8, .ref 18, .ref 20, .null, .int 0, .int 0, .int 0, .int 0, .int 0]),
  .inr (3, [qI 1, .ref 19, qI 0]),
  .inl (0, 250, .inl (fun _ => 0)),
  .inr (3, [qI 8, .ref 21, qI 0]),
  .inl (0, 496, .inl (fun _ => 0)),
  .inr (3, [qI 8, .null, .int 0]),
  .inl (0, 496, .inl (fun _ => 0))]
def yh72 : zH := [.inr (0, [.ref 1, .ref 3, .ref 7, .ref 8, .null, .null, .int 0]),
  .inr (1, [.ref 2, qI 0, qI 0, qI (-2)]),
  .inl (0, 500, .inl (fun _ => 0)),
  .inr (2, [.ref 1, .ref 4, .ref 6, qI 0]),
  .inr (3, [qI 6, .ref 5, qI 0]),
  .inl (0, 1500, .inl (fun _ => 0)),
  .inl (0, 500, .inl (fun _ => 0)),
  .inr (4, [.ref 1, .ref 3]),
  .inr (5, [.ref 1, .ref 3, .int 0, .int 0, .int 0, .int 0, .int 0, .int 0, .ref 9, .ref 11, .ref 13, .ref 15]),
  .inr (3, [qI 1, .ref 10, qI 0]),
  .inl (0, 250, .inl (fun _ => 0)),
  .inr (3, [qI 1, .ref 12, qI 0]),
  .inl (0, 250, .inl (fun _ => 0)),
  .inr (3, [qI 4, .ref 14, qI 0]),
  .inl (0, 248, .inl (fun _ => 0)),
  .inr (3, [qI 2, .ref 16, qI 0]),
  .inl (0, 250, .inl (fun _ => 0)),
  .inr (6, [.ref 1, .ref 3, .ref 8, .ref 18, .ref 20, .null, .int 0, .int 0, .int 0, .int 0, .int 0]),
  .inr (3, [qI 1, .ref 19, qI 0]),
  .inl (0, 250, .inl (fun _ => 0)),
  .inr (3, [qI 8, .ref 21, qI 0]),
  .inl (0, 496, .inl (fun _ => 0)),
  .inr (3, [qI 8, .ref 23, .int 0]),
  .inl (0, 496, .inl (fun _ => 0))]
def yh73 : zH := [.inr (0, [.ref 1, .ref 3, .ref 7, .ref 8, .null, .null, .int 0]),
  .inr (1, [.ref 2, qI 0, qI 0, qI (-2)]),
  .inl (0, 500, .inl (fun _ => 0)),
  .inr (2, [.ref 1, .ref 4, .ref 6, qI 0]),
  .inr (3, [qI 6, .ref 5, qI 0]),
  .inl (0, 1500, .inl (fun _ => 0)),
  .inl (0, 500, .inl (fun _ => 0)),
  .inr (4, [.ref 1, .ref 3]),
  .inr (5, [.ref 1, .ref 3, .int 0, .int 0, .int 0, .int 0, .int 0, .int 0, .ref 9, .ref 11, .ref 13, .ref 15]),
  .inr (3, [qI 1, .ref 10, qI 0]),
  .inl (0, 250, .inl (fun _ => 0)),
  .inr (3, [qI 1, .ref 12, qI 0]),
  .inl (0, 250, .inl (fun _ => 0)),
  .inr (3, [qI 4, .ref 14, qI 0]),
  .inl (0, 248, .inl (fun _ => 0)),
  .inr (3, [qI 2, .ref 16, qI 0]),
  .inl (0, 250, .inl (fun _ => 0)),
  .inr (6, [.ref 1, .ref 3, .ref 8, .ref 18, .ref 20, .null, .int 0, .int 0, .int 0, .int 0, .int 0]),
  .inr (3, [qI 1, .ref 19, qI 0]),
  .inl (0, 250, .inl (fun _ => 0)),
  .inr (3, [qI 8, .ref 21, qI 0]),
  .inl (0, 496, .inl (fun _ => 0)),
  .inr (3, [qI 8, .ref 23, qI 0]),
  .inl (0, 496, .inl (fun _ => 0))]
def yh74 : zH := [.inr (0, [.ref 1, .ref 3, .ref 7, .ref 8, .null, .null, .int 0]),
  .inr (1, [.ref 2, qI 0, qI 0, qI (-2)]),
  .inl (0, 500, .inl (fun _ => 0)),
  .inr (2, [.ref 1, .ref 4, .ref 6, qI 0]),
  .inr (3, [qI 6, .ref 5, qI 0]),
  .inl (0, 1500, .inl (fun _ => 0)),
  .inl (0, 500, .inl (fun _ => 0)),
  .inr (4, [.ref 1, .ref 3]),
  .inr (5, [.ref 1, .ref 3, .int 0, .int 0, .int 0, .int 0, .int 0, .int 0, .ref 9, .ref 11, .ref 13, .ref 15]),
  .inr (3, [qI 1, .ref 10, qI 0]),
  .inl (0, 250, .inl (fun _ => 0)),
  .inr (3, [qI 1, .ref 12, qI 0]),
  .inl (0, 250, .inl (fun _ => 0)),
  .inr (3, [qI 4, .ref 14, qI 0]),
  .inl (0, 248, .inl (fun _ => 0)),
  .inr (3, [qI 2, .ref 16, qI 0]),
  .inl (0, 250, .inl (fun _ => 0)),
  .inr (6, [.ref 1, .ref 3, .ref 8, .ref 18, .ref 20, .ref 22, .int 0, .int 0, .int 0, .int 0, .int 0]),
  .inr (3, [qI 1, .ref 19, qI 0]),
  .inl (0, 250, .inl (fun _ => 0)),
  .inr (3, [qI 8, .ref 21, qI 0]),
  .inl (0, 496, .inl (fun _ => 0)),
  .inr (3, [qI 8, .ref 23, qI 0]),
  .inl (0, 496, .inl (fun _ => 0))]
def yh75 : zH := [.inr (0, [.ref 1, .ref 3, .ref 7, .ref 8, .ref 17, .null, .int 0]),
  .inr (1, [.ref 2, qI 0, qI 0, qI (-2)]),
  .inl (0, 500, .inl (fun _ => 0)),
  .inr (2, [.ref 1, .ref 4, .ref 6, qI 0]),
  .inr (3, [qI 6, .ref 5, qI 0]),
  .inl (0, 1500, .inl (fun _ => 0)),
  .inl (0, 500, .inl (fun _ => 0)),
  .inr (4, [.ref 1, .ref 3]),
  .inr (5, [.ref 1, .ref 3, .int 0, .int 0, .int 0, .int 0, .int 0, .int 0, .ref 9, .ref 11, .ref 13, .ref 15]),
  .inr (3, [qI 1, .ref 10, qI 0]),
  .inl (0, 250, .inl (fun _ => 0)),
  .inr (3, [qI 1, .ref 12, qI 0]),
  .inl (0, 250, .inl (fun _ => 0)),
  .inr (3, [qI 4, .ref 14, qI 0]),
  .inl (0, 248, .inl (fun _ => 0)),
  .inr (3, [qI 2, .ref 16, qI 0]),
  .inl (0, 250, .inl (fun _ => 0)),
  .inr (6, [.ref 1, .ref 3, .ref 8, .ref 18, .ref 20, .ref 22, .int 0, .int 0, .int 0, .int 0, .int 0]),
  .inr (3, [qI 1, .ref 19, qI 0]),
  .inl (0, 250, .inl (fun _ => 0)),
  .inr (3, [qI 8, .ref 21, qI 0]),
  .inl (0, 496, .inl (fun _ => 0)),
  .inr (3, [qI 8, .ref 23, qI 0]),
  .inl (0, 496, .inl (fun _ => 0))]
def yh76 : zH := [.inr (0, [.ref 1, .ref 3, .ref 7, .ref 8, .ref 17, .null, .int 0]),
  .inr (1, [.ref 2, qI 0, qI 0, qI (-2)]),
  .inl (0, 500, .inl (fun _ => 0)),
  .inr (2, [.ref 1, .ref 4, .ref 6, qI 0]),
  .inr (3, [qI 6, .ref 5, qI 0]),
  .inl (0, 1500, .inl (fun _ => 0)),
  .inl (0, 500, .inl (fun _ => 0)),
  .inr (4, [.ref 1, .ref 3]),
  .inr (5, [.ref 1, .ref 3, .int 0, .int 0, .int 0, .int 0, .int 0, .int 0, .ref 9, .ref 11, .ref 13, .ref 15]),
  .inr (3, [qI 1, .ref 10, qI 0]),
  .inl (0, 250, .inl (fun _ => 0)),
  .inr (3, [qI 1, .ref 12, qI 0]),
  .inl (0, 250, .inl (fun _ => 0)),
  .inr (3, [qI 4, .ref 14, qI 0]),
  .inl (0, 248, .inl (fun _ => 0)),
  .inr (3, [qI 2, .ref 16, qI 0]),
  .inl (0, 250, .inl (fun _ => 0)),
  .inr (6, [.ref 1, .ref 3, .ref 8, .ref 18, .ref 20, .ref 22, .int 0, .int 0, .int 0, .int 0, .int 0]),
  .inr (3, [qI 1, .ref 19, qI 0]),
  .inl (0, 250, .inl (fun _ => 0)),
  .inr (3, [qI 8, .ref 21, qI 0]),
  .inl (0, 496, .inl (fun _ => 0)),
  .inr (3, [qI 8, .ref 23, qI 0]),
  .inl (0, 496, .inl (fun _ => 0)),
  .inr (7, [.null, .int 0, .int 0, .int 0])]
def yh77 : zH := [.inr (0, [.ref 1, .ref 3, .ref 7, .ref 8, .ref 17, .null, .int 0]),
  .inr (1, [.ref 2, qI 0, qI 0, qI (-2)]),
  .inl (0, 500, .inl (fun _ => 0)),
  .inr (2, [.ref 1, .ref 4, .ref 6, qI 0]),
  .inr (3, [qI 6, .ref 5, qI 0]),
  .inl (0, 1500, .inl (fun _ => 0)),
  .inl (0, 500, .inl (fun _ => 0)),
  .inr (4, [.ref 1, .ref 3]),
  .inr (5, [.ref 1, .ref 3, .int 0, .int 0, .int 0, .int 0, .int 0, .int 0, .ref 9, .ref 11, .ref 13, .ref 15]),
  .inr (3, [qI 1, .ref 10, qI 0]),
  .inl (0, 250, .inl (fun _ => 0)),
  .inr (3, [qI 1, .ref 12, qI 0]),
  .inl (0, 250, .inl (fun _ => 0)),
  .inr (3, [qI 4, .ref 14, qI 0]),
  .inl (0, 248, .inl (fun _ => 0)),
  .inr (3, [qI 2, .ref 16, qI 0]),
  .inl (0, 250, .inl (fun _ => 0)),
  .inr (6, [.ref 1, .ref 3, .ref 8, .ref 18, .ref 20, .ref 22, .int 0, .int 0, .int 0, .int 0, .int 0]),
  .inr (3, [qI 1, .ref 19, qI 0]),
  .inl (0, 250, .inl (fun _ => 0)),
  .inr (3, [qI 8, .ref 21, qI 0]),
  .inl (0, 496, .inl (fun _ => 0)),
  .inr (3, [qI 8, .ref 23, qI 0]),
  .inl (0, 496, .inl (fun _ => 0)),
  .inr (7, [.ref 3, .int 0, .int 0, .int 0])]
def yh78 : zH := [.inr (0, [.ref 1, .ref 3, .ref 7, .ref 8, .ref 17, .ref 24, .int 0]),
  .inr (1, [.ref 2, qI 0, qI 0, qI (-2)]),
  .inl (0, 500, .inl (fun _ => 0)),
  .inr (2, [.ref 1, .ref 4, .ref 6, qI 0]),
  .inr (3, [qI 6, .ref 5, qI 0]),
  .inl (0, 1500, .inl (fun _ => 0)),
  .inl (0, 500, .inl (fun _ => 0)),
  .inr (4, [.ref 1, .ref 3]),
  .inr (5, [.ref 1, .ref 3, .int 0, .int 0, .int 0, .int 0, .int 0, .int 0, .ref 9, .ref 11, .ref 13, .ref 15]),
  .inr (3, [qI 1, .ref 10, qI 0]),
  .inl (0, 250, .inl (fun _ => 0)),
  .inr (3, [qI 1, .ref 12, qI 0]),
  .inl (0, 250, .inl (fun _ => 0)),
  .inr (3, [qI 4, .ref 14, qI 0]),
  .inl (0, 248, .inl (fun _ => 0)),
  .inr (3, [qI 2, .ref 16, qI 0]),
  .inl (0, 250, .inl (fun _ => 0)),
  .inr (6, [.ref 1, .ref 3, .ref 8, .ref 18, .ref 20, .ref 22, .int 0, .int 0, .int 0, .int 0, .int 0]),
  .inr (3, [qI 1, .ref 19, qI 0]),
  .inl (0, 250, .inl (fun _ => 0)),
  .inr (3, [qI 8, .ref 21, qI 0]),
  .inl (0, 496, .inl (fun _ => 0)),
  .inr (3, [qI 8, .ref 23, qI 0]),
  .inl (0, 496, .inl (fun _ => 0)),
  .inr (7, [.ref 3, .int 0, .int 0, .int 0])]
def yh79 : zH := [.inr (0, [.ref 1, .ref 3, .ref 7, .ref 8, .ref 17, .ref 24, qI 0]),
  .inr (1, [.ref 2, qI 0, qI 0, qI (-2)]),
  .inl (0, 500, .inl (fun _ => 0)),
  .inr (2, [.ref 1, .ref 4, .ref 6, qI 0]),
  .inr (3, [qI 6, .ref 5, qI 0]),
  .inl (0, 1500, .inl (fun _ => 0)),
  .inl (0, 500, .inl (fun _ => 0)),
  .inr (4, [.ref 1, .ref 3]),
  .inr (5, [.ref 1, .ref 3, .int 0, .int 0, .int 0, .int 0, .int 0, .int 0, .ref 9, .ref 11, .ref 13, .ref 15]),
  .inr (3, [qI 1, .ref 10, qI 0]),
  .inl (0, 250, .inl (fun _ => 0)),
  .inr (3, [qI 1, .ref 12, qI 0]),
  .inl (0, 250, .inl (fun _ => 0)),
  .inr (3, [qI 4, .ref 14, qI 0]),
  .inl (0, 248, .inl (fun _ => 0)),
  .inr (3, [qI 2, .ref 16, qI 0]),
  .inl (0, 250, .inl (fun _ => 0)),
  .inr (6, [.ref 1, .ref 3, .ref 8, .ref 18, .ref 20, .ref 22, .int 0, .int 0, .int 0, .int 0, .int 0]),
  .inr (3, [qI 1, .ref 19, qI 0]),
  .inl (0, 250, .inl (fun _ => 0)),
  .inr (3, [qI 8, .ref 21, qI 0]),
  .inl (0, 496, .inl (fun _ => 0)),
  .inr (3, [qI 8, .ref 23, qI 0]),
  .inl (0, 496, .inl (fun _ => 0)),
  .inr (7, [.ref 3, .int 0, .int 0, .int 0])]
def yh80 : zH := [.inr (0, [.ref 1, .ref 3, .ref 7, .ref 8, .ref 17, .ref 24, qI 0]),
  .inr (1, [.ref 2, qI 0, qI 0, qI (-2)]),
  .inl (0, 500, .inl (fun _ => 0)),
  .inr (2, [.ref 1, .ref 4, .ref 6, qI 0]),
  .inr (3, [qI 6, .ref 5, qI 0]),
  .inl (0, 1500, .inl (fun _ => 0)),
  .inl (0, 500, .inl (fun _ => 0)),
  .inr (4, [.ref 1, .ref 3]),
  .inr (5, [.ref 1, .ref 3, .int 0, .int 0, .int 0, .int 0, .int 0, .int 0, .ref 9, .ref 11, .ref 13, .ref 15]),
  .inr (3, [qI 1, .ref 10, qI 0]),
  .inl (0, 250, .inl (fun _ => 0)),
  .inr (3, [qI 1, .ref 12, qI 0]),
  .inl (0, 250, .inl (fun _ => 0)),
  .inr (3, [qI 4, .ref 14, qI 0]),
  .inl (0, 248, .inl (fun _ => 0)),
  .inr (3, [qI 2, .ref 16, qI 0]),
  .inl (0, 250, .inl (fun _ => 0)),
  .inr (6, [.ref 1, .ref 3, .ref 8, .ref 18, .ref 20, .ref 22, .int 0, .int 0, .int 0, .int 0, .int 0]),
  .inr (3, [qI 1, .ref 19, qI 0]),
  .inl (0, 250, .inl (fun _ => 0)),
  .inr (3, [qI 8, .ref 21, qI 0]),
  .inl (0, 496, .inl (fun _ => 0)),
  .inr (3, [qI 8, .ref 23, qI 0]),
  .inl (0, 496, .inl (fun _ => 0)),
  .inr (7, [.ref 3, .int 0, .int 0, .int 0]),
  .inr (8, [.null, .null, .null, .int 0, .int 0, .int 0, .int 0, .int 0, .int 0, .int 0, .null, .int 0, .int 0, .int 0, .int 0, .int 0, .int 0, .null, .null, .null, .null, .null, .null, .null, .null, .null, .null, .int 0, .int 0, .null])]
def yh81 : zH := [.inr (0, [.ref 1, .ref 3, .ref 7, .ref 8, .ref 17, .ref 24, qI 0]),
  .inr (1, [.ref 2, qI 0, qI 0, qI (-2)]),
  .inl (0, 500, .inl (fun _ => 0)),
  .inr (2, [.ref 1, .ref 4, .ref 6, qI 0]),
  .inr (3, [qI 6, .ref 5, qI 0]),
  .inl (0, 1500, .inl (fun _ => 0)),
  .inl (0, 500, .inl (fun _ => 0)),
  .inr (4, [.ref 1, .ref 3]),
  .inr (5, [.ref 1, .ref 3, .int 0, .int 0, .int 0, .int 0, .int 0, .int 0, .ref 9, .ref 11, .ref 13, .ref 15]),
  .inr (3, [qI 1, .ref 10, qI 0]),
  .inl (0, 250, .inl (fun _ => 0)),
  .inr (3, [qI 1, .ref 12, qI 0]),
  .inl (0, 250, .inl (fun _ => 0)),
  .inr (3, [qI 4, .ref 14, qI 0]),
  .inl (0, 248, .inl (fun _ => 0)),
  .inr (3, [qI 2, .ref 16, qI 0]),
  .inl (0, 250, .inl (fun _ => 0)),
  .inr (6, [.ref 1, .ref 3, .ref 8, .ref 18, .ref 20, .ref 22, .int 0, .int 0, .int 0, .int 0, .int 0]),
  .inr (3, [qI 1, .ref 19, qI 0]),
  .inl (0, 250, .inl (fun _ => 0)),
  .inr (3, [qI 8, .ref 21, qI 0]),
  .inl (0, 496, .inl (fun _ => 0)),
  .inr (3, [qI 8, .ref 23, qI 0]),
  .inl (0, 496, .inl (fun _ => 0)),
  .inr (7, [.ref 3, .int 0, .int 0, .int 0]),
  .inr (8, [.null, .null, .null, .int 0, .int 0, .int 0, .int 0, .int 0, .int 0, .int 0, .null, .int 0, .int 0, .int 0, .int 0, .int 0, .int 0, .null, .null, .null, .null, .null, .null, .null, .null, .null, .null, .int 0, .int 0, .null]),
  .inl (0, 203, .inl (fun _ => 0))]
def yh82 (F : Nat → Int32) : zH := [.inr (0, [.ref 1, .ref 3, .ref 7, .ref 8, .ref 17, .ref 24, qI 0]),
  .inr (1, [.ref 2, qI 0, qI 0, qI (-2)]),
  .inl (0, 500, .inl (fun _ => 0)),
  .inr (2, [.ref 1, .ref 4, .ref 6, qI 0]),
  .inr (3, [qI 6, .ref 5, qI 0]),
  .inl (0, 1500, .inl (fun _ => 0)),
  .inl (0, 500, .inl (fun _ => 0)),
  .inr (4, [.ref 1, .ref 3]),
  .inr (5, [.ref 1, .ref 3, .int 0, .int 0, .int 0, .int 0, .int 0, .int 0, .ref 9, .ref 11, .ref 13, .ref 15]),
  .inr (3, [qI 1, .ref 10, qI 0]),
  .inl (0, 250, .inl (fun _ => 0)),
  .inr (3, [qI 1, .ref 12, qI 0]),
  .inl (0, 250, .inl (fun _ => 0)),
  .inr (3, [qI 4, .ref 14, qI 0]),
  .inl (0, 248, .inl (fun _ => 0)),
  .inr (3, [qI 2, .ref 16, qI 0]),
  .inl (0, 250, .inl (fun _ => 0)),
  .inr (6, [.ref 1, .ref 3, .ref 8, .ref 18, .ref 20, .ref 22, .int 0, .int 0, .int 0, .int 0, .int 0]),
  .inr (3, [qI 1, .ref 19, qI 0]),
  .inl (0, 250, .inl (fun _ => 0)),
  .inr (3, [qI 8, .ref 21, qI 0]),
  .inl (0, 496, .inl (fun _ => 0)),
  .inr (3, [qI 8, .ref 23, qI 0]),
  .inl (0, 496, .inl (fun _ => 0)),
  .inr (7, [.ref 3, .int 0, .int 0, .int 0]),
  .inr (8, [.null, .null, .null, .int 0, .int 0, .int 0, .int 0, .int 0, .int 0, .int 0, .null, .int 0, .int 0, .int 0, .int 0, .int 0, .int 0, .null, .null, .null, .null, .null, .null, .null, .null, .null, .null, .int 0, .int 0, .null]),
  .inl (0, 203, .inl F)]
def yh83 : zH := [.inr (0, [.ref 1, .ref 3, .ref 7, .ref 8, .ref 17, .ref 24, qI 0]),
  .inr (1, [.ref 2, qI 0, qI 0, qI (-2)]),
  .inl (0, 500, .inl (fun _ => 0)),
  .inr (2, [.ref 1, .ref 4, .ref 6, qI 0]),
  .inr (3, [qI 6, .ref 5, qI 0]),
  .inl (0, 1500, .inl (fun _ => 0)),
  .inl (0, 500, .inl (fun _ => 0)),
  .inr (4, [.ref 1, .ref 3]),
  .inr (5, [.ref 1, .ref 3, .int 0, .int 0, .int 0, .int 0, .int 0, .int 0, .ref 9, .ref 11, .ref 13, .ref 15]),
  .inr (3, [qI 1, .ref 10, qI 0]),
  .inl (0, 250, .inl (fun _ => 0)),
  .inr (3, [qI 1, .ref 12, qI 0]),
  .inl (0, 250, .inl (fun _ => 0)),
  .inr (3, [qI 4, .ref 14, qI 0]),
  .inl (0, 248, .inl (fun _ => 0)),
  .inr (3, [qI 2, .ref 16, qI 0]),
  .inl (0, 250, .inl (fun _ => 0)),
  .inr (6, [.ref 1, .ref 3, .ref 8, .ref 18, .ref 20, .ref 22, .int 0, .int 0, .int 0, .int 0, .int 0]),
  .inr (3, [qI 1, .ref 19, qI 0]),
  .inl (0, 250, .inl (fun _ => 0)),
  .inr (3, [qI 8, .ref 21, qI 0]),
  .inl (0, 496, .inl (fun _ => 0)),
  .inr (3, [qI 8, .ref 23, qI 0]),
  .inl (0, 496, .inl (fun _ => 0)),
  .inr (7, [.ref 3, .int 0, .int 0, .int 0]),
  .inr (8, [.ref 26, .null, .null, .int 0, .int 0, .int 0, .int 0, .int 0, .int 0, .int 0, .null, .int 0, .int 0, .int 0, .int 0, .int 0, .int 0, .null, .null, .null, .null, .null, .null, .null, .null, .null, .null, .int 0, .int 0, .null]),
  .inl (0, 203, .inl (FLt 203))]
def yh84 : zH := [.inr (0, [.ref 1, .ref 3, .ref 7, .ref 8, .ref 17, .ref 24, qI 0]),
  .inr (1, [.ref 2, qI 0, qI 0, qI (-2)]),
  .inl (0, 500, .inl (fun _ => 0)),
  .inr (2, [.ref 1, .ref 4, .ref 6, qI 0]),
  .inr (3, [qI 6, .ref 5, qI 0]),
  .inl (0, 1500, .inl (fun _ => 0)),
  .inl (0, 500, .inl (fun _ => 0)),
  .inr (4, [.ref 1, .ref 3]),
  .inr (5, [.ref 1, .ref 3, .int 0, .int 0, .int 0, .int 0, .int 0, .int 0, .ref 9, .ref 11, .ref 13, .ref 15]),
  .inr (3, [qI 1, .ref 10, qI 0]),
  .inl (0, 250, .inl (fun _ => 0)),
  .inr (3, [qI 1, .ref 12, qI 0]),
  .inl (0, 250, .inl (fun _ => 0)),
  .inr (3, [qI 4, .ref 14, qI 0]),
  .inl (0, 248, .inl (fun _ => 0)),
  .inr (3, [qI 2, .ref 16, qI 0]),
  .inl (0, 250, .inl (fun _ => 0)),
  .inr (6, [.ref 1, .ref 3, .ref 8, .ref 18, .ref 20, .ref 22, .int 0, .int 0, .int 0, .int 0, .int 0]),
  .inr (3, [qI 1, .ref 19, qI 0]),
  .inl (0, 250, .inl (fun _ => 0)),
  .inr (3, [qI 8, .ref 21, qI 0]),
  .inl (0, 496, .inl (fun _ => 0)),
  .inr (3, [qI 8, .ref 23, qI 0]),
  .inl (0, 496, .inl (fun _ => 0)),
  .inr (7, [.ref 3, .int 0, .int 0, .int 0]),
  .inr (8, [.ref 26, .null, .null, .int 0, .int 0, .int 0, .int 0, .int 0, .int 0, .int 0, .null, .int 0, .int 0, .int 0, .int 0, .int 0, .int 0, .null, .null, .null, .null, .null, .null, .null, .null, .null, .null, .int 0, .int 0, .null]),
  .inl (0, 203, .inl (FLt 203)),
  .inl (0, 500, .inl (fun _ => 0))]
def yh85 : zH := [.inr (0, [.ref 1, .ref 3, .ref 7, .ref 8, .ref 17, .ref 24, qI 0]),
  .inr (1, [.ref 2, qI 0, qI 0, qI (-2)]),
  .inl (0, 500, .inl (fun _ => 0)),
  .inr (2, [.ref 1, .ref 4, .ref 6, qI 0]),
  .inr (3, [qI 6, .ref 5, qI 0]),
  .inl (0, 1500, .inl (fun _ => 0)),
  .inl (0, 500, .inl (fun _ => 0)),
  .inr (4, [.ref 1, .ref 3]),
  .inr (5, [.ref 1, .ref 3, .int 0, .int 0, .int 0, .int 0, .int 0, .int 0, .ref 9, .ref 11, .ref 13, .ref 15]),
  .inr (3, [qI 1, .ref 10, qI 0]),
  .inl (0, 250, .inl (fun _ => 0)),
  .inr (3, [qI 1, .ref 12, qI 0]),
  .inl (0, 250, .inl (fun _ => 0)),
  .inr (3, [qI 4, .ref 14, qI 0]),
  .inl (0, 248, .inl (fun _ => 0)),
  .inr (3, [qI 2, .ref 16, qI 0]),
  .inl (0, 250, .inl (fun _ => 0)),
  .inr (6, [.ref 1, .ref 3, .ref 8, .ref 18, .ref 20, .ref 22, .int 0, .int 0, .int 0, .int 0, .int 0]),
  .inr (3, [qI 1, .ref 19, qI 0]),
  .inl (0, 250, .inl (fun _ => 0)),
  .inr (3, [qI 8, .ref 21, qI 0]),
  .inl (0, 496, .inl (fun _ => 0)),
  .inr (3, [qI 8, .ref 23, qI 0]),
  .inl (0, 496, .inl (fun _ => 0)),
  .inr (7, [.ref 3, .int 0, .int 0, .int 0]),
  .inr (8, [.ref 26, .ref 27, .null, .int 0, .int 0, .int 0, .int 0, .int 0, .int 0, .int 0, .null, .int 0, .int 0, .int 0, .int 0, .int 0, .int 0, .null, .null, .null, .null, .null, .null, .null, .null, .null, .null, .int 0, .int 0, .null]),
  .inl (0, 203, .inl (FLt 203)),
  .inl (0, 500, .inl (fun _ => 0))]
def yh86 : zH := [.inr (0, [.ref 1, .ref 3, .ref 7, .ref 8, .ref 17, .ref 24, qI 0]),
  .inr (1, [.ref 2, qI 0, qI 0, qI (-2)]),
  .inl (0, 500, .inl (fun _ => 0)),
  .inr (2, [.ref 1, .ref 4, .ref 6, qI 0]),
  .inr (3, [qI 6, .ref 5, qI 0]),
  .inl (0, 1500, .inl (fun _ => 0)),
  .inl (0, 500, .inl (fun _ => 0)),
  .inr (4, [.ref 1, .ref 3]),
  .inr (5, [.ref 1, .ref 3, .int 0, .int 0, .int 0, .int 0, .int 0, .int 0, .ref 9, .ref 11, .ref 13, .ref 15]),
  .inr (3, [qI 1, .ref 10, qI 0]),
  .inl (0, 250, .inl (fun _ => 0)),
  .inr (3, [qI 1, .ref 12, qI 0]),
  .inl (0, 250, .inl (fun _ => 0)),
  .inr (3, [qI 4, .ref 14, qI 0]),
  .inl (0, 248, .inl (fun _ => 0)),
  .inr (3, [qI 2, .ref 16, qI 0]),
  .inl (0, 250, .inl (fun _ => 0)),
  .inr (6, [.ref 1, .ref 3, .ref 8, .ref 18, .ref 20, .ref 22, .int 0, .int 0, .int 0, .int 0, .int 0]),
  .inr (3, [qI 1, .ref 19, qI 0]),
  .inl (0, 250, .inl (fun _ => 0)),
  .inr (3, [qI 8, .ref 21, qI 0]),
  .inl (0, 496, .inl (fun _ => 0)),
  .inr (3, [qI 8, .ref 23, qI 0]),
  .inl (0, 496, .inl (fun _ => 0)),
  .inr (7, [.ref 3, .int 0, .int 0, .int 0]),
  .inr (8, [.ref 26, .ref 27, .null, .int 0, .int 0, .int 0, .int 0, .int 0, .int 0, .int 0, .null, .int 0, .int 0, .int 0, .int 0, .int 0, .int 0, .null, .null, .null, .null, .null, .null, .null, .null, .null, .null, .int 0, .int 0, .null]),
  .inl (0, 203, .inl (FLt 203)),
  .inl (0, 500, .inl (fun _ => 0)),
  .inl (0, 500, .inl (fun _ => 0))]
def yh87 : zH := [.inr (0, [.ref 1, .ref 3, .ref 7, .ref 8, .ref 17, .ref 24, qI 0]),
  .inr (1, [.ref 2, qI 0, qI 0, qI (-2)]),
  .inl (0, 500, .inl (fun _ => 0)),
  .inr (2, [.ref 1, .ref 4, .ref 6, qI 0]),
  .inr (3, [qI 6, .ref 5, qI 0]),
  .inl (0, 1500, .inl (fun _ => 0)),
  .inl (0, 500, .inl (fun _ => 0)),
  .inr (4, [.ref 1, .ref 3]),
  .inr (5, [.ref 1, .ref 3, .int 0, .int 0, .int 0, .int 0, .int 0, .int 0, .ref 9, .ref 11, .ref 13, .ref 15]),
  .inr (3, [qI 1, .ref 10, qI 0]),
  .inl (0, 250, .inl (fun _ => 0)),
  .inr (3, [qI 1, .ref 12, qI 0]),
  .inl (0, 250, .inl (fun _ => 0)),
  .inr (3, [qI 4, .ref 14, qI 0]),
  .inl (0, 248, .inl (fun _ => 0)),
  .inr (3, [qI 2, .ref 16, qI 0]),
  .inl (0, 250, .inl (fun _ => 0)),
  .inr (6, [.ref 1, .ref 3, .ref 8, .ref 18, .ref 20, .ref 22, .int 0, .int 0, .int 0, .int 0, .int 0]),
  .inr (3, [qI 1, .ref 19, qI 0]),
  .inl (0, 250, .inl (fun _ => 0)),
  .inr (3, [qI 8, .ref 21, qI 0]),
  .inl (0, 496, .inl (fun _ => 0)),
  .inr (3, [qI 8, .ref 23, qI 0]),
  .inl (0, 496, .inl (fun _ => 0)),
  .inr (7, [.ref 3, .int 0, .int 0, .int 0]),
  .inr (8, [.ref 26, .ref 27, .ref 28, .int 0, .int 0, .int 0, .int 0, .int 0, .int 0, .int 0, .null, .int 0, .int 0, .int 0, .int 0, .int 0, .int 0, .null, .null, .null, .null, .null, .null, .null, .null, .null, .null, .int 0, .int 0, .null]),
  .inl (0, 203, .inl (FLt 203)),
  .inl (0, 500, .inl (fun _ => 0)),
  .inl (0, 500, .inl (fun _ => 0))]
def yh88 : zH := [.inr (0, [.ref 1, .ref 3, .ref 7, .ref 8, .ref 17, .ref 24, qI 0]),
  .inr (1, [.ref 2, qI 0, qI 0, qI (-2)]),
  .inl (0, 500, .inl (fun _ => 0)),
  .inr (2, [.ref 1, .ref 4, .ref 6, qI 0]),
  .inr (3, [qI 6, .ref 5, qI 0]),
  .inl (0, 1500, .inl (fun _ => 0)),
  .inl (0, 500, .inl (fun _ => 0)),
  .inr (4, [.ref 1, .ref 3]),
  .inr (5, [.ref 1, .ref 3, .int 0, .int 0, .int 0, .int 0, .int 0, .int 0, .ref 9, .ref 11, .ref 13, .ref 15]),
  .inr (3, [qI 1, .ref 10, qI 0]),
  .inl (0, 250, .inl (fun _ => 0)),
  .inr (3, [qI 1, .ref 12, qI 0]),
  .inl (0, 250, .inl (fun _ => 0)),
  .inr (3, [qI 4, .ref 14, qI 0]),
  .inl (0, 248, .inl (fun _ => 0)),
  .inr (3, [qI 2, .ref 16, qI 0]),
  .inl (0, 250, .inl (fun _ => 0)),
  .inr (6, [.ref 1, .ref 3, .ref 8, .ref 18, .ref 20, .ref 22, .int 0, .int 0, .int 0, .int 0, .int 0]),
  .inr (3, [qI 1, .ref 19, qI 0]),
  .inl (0, 250, .inl (fun _ => 0)),
  .inr (3, [qI 8, .ref 21, qI 0]),
  .inl (0, 496, .inl (fun _ => 0)),
  .inr (3, [qI 8, .ref 23, qI 0]),
  .inl (0, 496, .inl (fun _ => 0)),
  .inr (7, [.ref 3, .int 0, .int 0, .int 0]),
  .inr (8, [.ref 26, .ref 27, .ref 28, .int 0, .int 0, .int 0, qI (-2), .int 0, .int 0, .int 0, .null, .int 0, .int 0, .int 0, .int 0, .int 0, .int 0, .null, .null, .null, .null, .null, .null, .null, .null, .null, .null, .int 0, .int 0, .null]),
  .inl (0, 203, .inl (FLt 203)),
  .inl (0, 500, .inl (fun _ => 0)),
  .inl (0, 500, .inl (fun _ => 0))]
def yh89 : zH := [.inr (0, [.ref 1, .ref 3, .ref 7, .ref 8, .ref 17, .ref 24, qI 0]),
  .inr (1, [.ref 2, qI 0, qI 0, qI (-2)]),
  .inl (0, 500, .inl (fun _ => 0)),
  .inr (2, [.ref 1, .ref 4, .ref 6, qI 0]),
  .inr (3, [qI 6, .ref 5, qI 0]),
  .inl (0, 1500, .inl (fun _ => 0)),
  .inl (0, 500, .inl (fun _ => 0)),
  .inr (4, [.ref 1, .ref 3]),
  .inr (5, [.ref 1, .ref 3, .int 0, .int 0, .int 0, .int 0, .int 0, .int 0, .ref 9, .ref 11, .ref 13, .ref 15]),
  .inr (3, [qI 1, .ref 10, qI 0]),
  .inl (0, 250, .inl (fun _ => 0)),
  .inr (3, [qI 1, .ref 12, qI 0]),
  .inl (0, 250, .inl (fun _ => 0)),
  .inr (3, [qI 4, .ref 14, qI 0]),
  .inl (0, 248, .inl (fun _ => 0)),
  .inr (3, [qI 2, .ref 16, qI 0]),
  .inl (0, 250, .inl (fun _ => 0)),
  .inr (6, [.ref 1, .ref 3, .ref 8, .ref 18, .ref 20, .ref 22, .int 0, .int 0, .int 0, .int 0, .int 0]),
  .inr (3, [qI 1, .ref 19, qI 0]),
  .inl (0, 250, .inl (fun _ => 0)),
  .inr (3, [qI 8, .ref 21, qI 0]),
  .inl (0, 496, .inl (fun _ => 0)),
  .inr (3, [qI 8, .ref 23, qI 0]),
  .inl (0, 496, .inl (fun _ => 0)),
  .inr (7, [.ref 3, .int 0, .int 0, .int 0]),
  .inr (8, [.ref 26, .ref 27, .ref 28, .int 0, .int 0, .int 0, qI (-2), .int 0, .int 0, .int 0, .null, .int 0, .int 0, .int 0, .int 0, .int 0, .int 0, .null, .null, .null, .null, .null, .null, .null, .null, .null, .null, .int 0, .int 0, .null]),
  .inl (0, 203, .inl (FLt 203)),
  .inl (0, 500, .inl (fun _ => 0)),
  .inl (0, 500, .inl (fun _ => 0)),
  .inl (0, 520, .inl (fun _ => 0))]
def yh90 : zH := [.inr (0, [.ref 1, .ref 3, .ref 7, .ref 8, .ref 17, .ref 24, qI 0]),
  .inr (1, [.ref 2, qI 0, qI 0, qI (-2)]),
  .inl (0, 500, .inl (fun _ => 0)),
  .inr (2, [.ref 1, .ref 4, .ref 6, qI 0]),
  .inr (3, [qI 6, .ref 5, qI 0]),
  .inl (0, 1500, .inl (fun _ => 0)),
  .inl (0, 500, .inl (fun _ => 0)),
  .inr (4, [.ref 1, .ref 3]),
  .inr (5, [.ref 1, .ref 3, .int 0, .int 0, .int 0, .int 0, .int 0, .int 0, .ref 9, .ref 11, .ref 13, .ref 15]),
  .inr (3, [qI 1, .ref 10, qI 0]),
  .inl (0, 250, .inl (fun _ => 0)),
  .inr (3, [qI 1, .ref 12, qI 0]),
  .inl (0, 250, .inl (fun _ => 0)),
  .inr (3, [qI 4, .ref 14, qI 0]),
  .inl (0, 248, .inl (fun _ => 0)),
  .inr (3, [qI 2, .ref 16, qI 0]),
  .inl (0, 250, .inl (fun _ => 0)),
  .inr (6, [.ref 1, .ref 3, .ref 8, .ref 18, .ref 20, .ref 22, .int 0, .int 0, .int 0, .int 0, .int 0]),
  .inr (3, [qI 1, .ref 19, qI 0]),
  .inl (0, 250, .inl (fun _ => 0)),
  .inr (3, [qI 8, .ref 21, qI 0]),
  .inl (0, 496, .inl (fun _ => 0)),
  .inr (3, [qI 8, .ref 23, qI 0]),
  .inl (0, 496, .inl (fun _ => 0)),
  .inr (7, [.ref 3, .int 0, .int 0, .int 0]),
  .inr (8, [.ref 26, .ref 27, .ref 28, .int 0, .int 0, .int 0, qI (-2), .int 0, .int 0, .int 0, .ref 29, .int 0, .int 0, .int 0, .int 0, .int 0, .int 0, .null, .null, .null, .null, .null, .null, .null, .null, .null, .null, .int 0, .int 0, .null]),
  .inl (0, 203, .inl (FLt 203)),
  .inl (0, 500, .inl (fun _ => 0)),
  .inl (0, 500, .inl (fun _ => 0)),
  .inl (0, 520, .inl (fun _ => 0))]
def yh91 : zH := [.inr (0, [.ref 1, .ref 3, .ref 7, .ref 8, .ref 17, .ref 24, qI 0]),
  .inr (1, [.ref 2, qI 0, qI 0, qI (-2)]),
  .inl (0, 500, .inl (fun _ => 0)),
  .inr (2, [.ref 1, .ref 4, .ref 6, qI 0]),
  .inr (3, [qI 6, .ref 5, qI 0]),
  .inl (0, 1500, .inl (fun _ => 0)),
  .inl (0, 500, .inl (fun _ => 0)),
  .inr (4, [.ref 1, .ref 3]),
  .inr (5, [.ref 1, .ref 3, .int 0, .int 0, .int 0, .int 0, .int 0, .int 0, .ref 9, .ref 11, .ref 13, .ref 15]),
  .inr (3, [qI 1, .ref 10, qI 0]),
  .inl (0, 250, .inl (fun _ => 0)),
  .inr (3, [qI 1, .ref 12, qI 0]),
  .inl (0, 250, .inl (fun _ => 0)),
  .inr (3, [qI 4, .ref 14, qI 0]),
  .inl (0, 248, .inl (fun _ => 0)),
  .inr (3, [qI 2, .ref 16, qI 0]),
  .inl (0, 250, .inl (fun _ => 0)),
  .inr (6, [.ref 1, .ref 3, .ref 8, .ref 18, .ref 20, .ref 22, .int 0, .int 0, .int 0, .int 0, .int 0]),
  .inr (3, [qI 1, .ref 19, qI 0]),
  .inl (0, 250, .inl (fun _ => 0)),
  .inr (3, [qI 8, .ref 21, qI 0]),
  .inl (0, 496, .inl (fun _ => 0)),
  .inr (3, [qI 8, .ref 23, qI 0]),
  .inl (0, 496, .inl (fun _ => 0)),
  .inr (7, [.ref 3, .int 0, .int 0, .int 0]),
  .inr (8, [.ref 26, .ref 27, .ref 28, .int 0, .int 0, .int 0, qI (-2), .int 0, .int 0, .int 0, .ref 29, .int 0, .int 0, .int 0, .int 0, .int 0, .int 0, .null, .null, .null, .null, .null, .null, .null, .null, .null, .null, .int 0, .int 0, .null]),
  .inl (0, 203, .inl (FLt 203)),
  .inl (0, 500, .inl (fun _ => 0)),
  .inl (0, 500, .inl (fun _ => 0)),
  .inl (0, 520, .inl (fun _ => 0)),
  .inl (0, 160, .inl (fun _ => 0))]
def yh92 : zH := [.inr (0, [.ref 1, .ref 3, .ref 7, .ref 8, .ref 17, .ref 24, qI 0]),
  .inr (1, [.ref 2, qI 0, qI 0, qI (-2)]),
  .inl (0, 500, .inl (fun _ => 0)),
  .inr (2, [.ref 1, .ref 4, .ref 6, qI 0]),
  .inr (3, [qI 6, .ref 5, qI 0]),
  .inl (0, 1500, .inl (fun _ => 0)),
  .inl (0, 500, .inl (fun _ => 0)),
  .inr (4, [.ref 1, .ref 3]),
  .inr (5, [.ref 1, .ref 3, .int 0, .int 0, .int 0, .int 0, .int 0, .int 0, .ref 9, .ref 11, .ref 13, .ref 15]),
  .inr (3, [qI 1, .ref 10, qI 0]),
  .inl (0, 250, .inl (fun _ => 0)),
  .inr (3, [qI 1, .ref 12, qI 0]),
  .inl (0, 250, .inl (fun _ => 0)),
  .inr (3, [qI 4, .ref 14, qI 0]),
  .inl (0, 248, .inl (fun _ => 0)),
  .inr (3, [qI 2, .ref 16, qI 0]),
  .inl (0, 250, .inl (fun _ => 0)),
  .inr (6, [.ref 1, .ref 3, .ref 8, .ref 18, .ref 20, .ref 22, .int 0, .int 0, .int 0, .int 0, .int 0]),
  .inr (3, [qI 1, .ref 19, qI 0]),
  .inl (0, 250, .inl (fun _ => 0)),
  .inr (3, [qI 8, .ref 21, qI 0]),
  .inl (0, 496, .inl (fun _ => 0)),
  .inr (3, [qI 8, .ref 23, qI 0]),
  .inl (0, 496, .inl (fun _ => 0)),
  .inr (7, [.ref 3, .int 0, .int 0, .int 0]),
  .inr (8, [.ref 26, .ref 27, .ref 28, .int 0, .int 0, .int 0, qI (-2), .int 0, .int 0, .int 0, .ref 29, .int 0, .int 0, .int 0, .int 0, .int 0, .int 0, .ref 30, .null, .null, .null, .null, .null, .null, .null, .null, .null, .int 0, .int 0, .null]),
  .inl (0, 203, .inl (FLt 203)),
  .inl (0, 500, .inl (fun _ => 0)),
  .inl (0, 500, .inl (fun _ => 0)),
  .inl (0, 520, .inl (fun _ => 0)),
  .inl (0, 160, .inl (fun _ => 0))]
def yh93 : zH := [.inr (0, [.ref 1, .ref 3, .ref 7, .ref 8, .ref 17, .ref 24, qI 0]),
  .inr (1, [.ref 2, qI 0, qI 0, qI (-2)]),
  .inl (0, 500, .inl (fun _ => 0)),
  .inr (2, [.ref 1, .ref 4, .ref 6, qI 0]),
  .inr (3, [qI 6, .ref 5, qI 0]),
  .inl (0, 1500, .inl (fun _ => 0)),
  .inl (0, 500, .inl (fun _ => 0)),
  .inr (4, [.ref 1, .ref 3]),
  .inr (5, [.ref 1, .ref 3, .int 0, .int 0, .int 0, .int 0, .int 0, .int 0, .ref 9, .ref 11, .ref 13, .ref 15]),
  .inr (3, [qI 1, .ref 10, qI 0]),
  .inl (0, 250, .inl (fun _ => 0)),
  .inr (3, [qI 1, .ref 12, qI 0]),
  .inl (0, 250, .inl (fun _ => 0)),
  .inr (3, [qI 4, .ref 14, qI 0]),
  .inl (0, 248, .inl (fun _ => 0)),
  .inr (3, [qI 2, .ref 16, qI 0]),
  .inl (0, 250, .inl (fun _ => 0)),
  .inr (6, [.ref 1, .ref 3, .ref 8, .ref 18, .ref 20, .ref 22, .int 0, .int 0, .int 0, .int 0, .int 0]),
  .inr (3, [qI 1, .ref 19, qI 0]),
  .inl (0, 250, .inl (fun _ => 0)),
  .inr (3, [qI 8, .ref 21, qI 0]),
  .inl (0, 496, .inl (fun _ => 0)),
  .inr (3, [qI 8, .ref 23, qI 0]),
  .inl (0, 496, .inl (fun _ => 0)),
  .inr (7, [.ref 3, .int 0, .int 0, .int 0]),
  .inr (8, [.ref 26, .ref 27, .ref 28, .int 0, .int 0, .int 0, qI (-2), .int 0, .int 0, .int 0, .ref 29, .int 0, .int 0, .int 0, .int 0, .int 0, .int 0, .ref 30, .null, .null, .null, .null, .null, .null, .null, .null, .null, .int 0, .int 0, .null]),
  .inl (0, 203, .inl (FLt 203)),
  .inl (0, 500, .inl (fun _ => 0)),
  .inl (0, 500, .inl (fun _ => 0)),
  .inl (0, 520, .inl (fun _ => 0)),
  .inl (0, 160, .inl (fun _ => 0)),
  .inl (0, 160, .inl (fun _ => 0))]
def yh94 : zH := [.inr (0, [.ref 1, .ref 3, .ref 7, .ref 8, .ref 17, .ref 24, qI 0]),
  .inr (1, [.ref 2, qI 0, qI 0, qI (-2)]),
  .inl (0, 500, .inl (fun _ => 0)),
  .inr (2, [.ref 1, .ref 4, .ref 6, qI 0]),
  .inr (3, [qI 6, .ref 5, qI 0]),
  .inl (0, 1500, .inl (fun _ => 0)),
  .inl (0, 500, .inl (fun _ => 0)),
  .inr (4, [.ref 1, .ref 3]),
  .inr (5, [.ref 1, .ref 3, .int 0, .int 0, .int 0, .int 0, .int 0, .int 0, .ref 9, .ref 11, .ref 13, .ref 15]),
  .inr (3, [qI 1, .ref 10, qI 0]),
  .inl (0, 250, .inl (fun _ => 0)),
  .inr (3, [qI 1, .ref 12, qI 0]),
  .inl (0, 250, .inl (fun _ => 0)),
  .inr (3, [qI 4, .ref 14, qI 0]),
  .inl (0, 248, .inl (fun _ => 0)),
  .inr (3, [qI 2, .ref 16, qI 0]),
  .inl (0, 250, .inl (fun _ => 0)),
  .inr (6, [.ref 1, .ref 3, .ref 8, .ref 18, .ref 20, .ref 22, .int 0, .int 0, .int 0, .int 0, .int 0]),
  .inr (3, [qI 1, .ref 19, qI 0]),
  .inl (0, 250, .inl (fun _ => 0)),
  .inr (3, [qI 8, .ref 21, qI 0]),
  .inl (0, 496, .inl (fun _ => 0)),
  .inr (3, [qI 8, .ref 23, qI 0]),
  .inl (0, 496, .inl (fun _ => 0)),
  .inr (7, [.ref 3, .int 0, .int 0, .int 0]),
  .inr (8, [.ref 26, .ref 27, .ref 28, .int 0, .int 0, .int 0, qI (-2), .int 0, .int 0, .int 0, .ref 29, .int 0, .int 0, .int 0, .int 0, .int 0, .int 0, .ref 30, .ref 31, .null, .null, .null, .null, .null, .null, .null, .null, .int 0, .int 0, .null]),
  .inl (0, 203, .inl (FLt 203)),
  .inl (0, 500, .inl (fun _ => 0)),
  .inl (0, 500, .inl (fun _ => 0)),
  .inl (0, 520, .inl (fun _ => 0)),
  .inl (0, 160, .inl (fun _ => 0)),
  .inl (0, 160, .inl (fun _ => 0))]
def yh95 : zH := [.inr (0, [.ref 1, .ref 3, .ref 7, .ref 8, .ref 17, .ref 24, qI 0]),
  .inr (1, [.ref 2, qI 0, qI 0, qI (-2)]),
  .inl (0, 500, .inl (fun _ => 0)),
  .inr (2, [.ref 1, .ref 4, .ref 6, qI 0]),
  .inr (3, [qI 6, .ref 5, qI 0]),
  .inl (0, 1500, .inl (fun _ => 0)),
  .inl (0, 500, .inl (fun _ => 0)),
  .inr (4, [.ref 1, .ref 3]),
  .inr (5, [.ref 1, .ref 3, .int 0, .int 0, .int 0, .int 0, .int 0, .int 0, .ref 9, .ref 11, .ref 13, .ref 15]),
  .inr (3, [qI 1, .ref 10, qI 0]),
  .inl (0, 250, .inl (fun _ => 0)),
  .inr (3, [qI 1, .ref 12, qI 0]),
  .inl (0, 250, .inl (fun _ => 0)),
  .inr (3, [qI 4, .ref 14, qI 0]),
  .inl (0, 248, .inl (fun _ => 0)),
  .inr (3, [qI 2, .ref 16, qI 0]),
  .inl (0, 250, .inl (fun _ => 0)),
  .inr (6, [.ref 1, .ref 3, .ref 8, .ref 18, .ref 20, .ref 22, .int 0, .int 0, .int 0, .int 0, .int 0]),
  .inr (3, [qI 1, .ref 19, qI 0]),
  .inl (0, 250, .inl (fun _ => 0)),
  .inr (3, [qI 8, .ref 21, qI 0]),
  .inl (0, 496, .inl (fun _ => 0)),
  .inr (3, [qI 8, .ref 23, qI 0]),
  .inl (0, 496, .inl (fun _ => 0)),
  .inr (7, [.ref 3, .int 0, .int 0, .int 0]),
  .inr (8, [.ref 26, .ref 27, .ref 28, .int 0, .int 0, .int 0, qI (-2), .int 0, .int 0, .int 0, .ref 29, .int 0, .int 0, .int 0, .int 0, .int 0, .int 0, .ref 30, .ref 31, .null, .null, .null, .null, .null, .null, .null, .null, .int 0, .int 0, .null]),
  .inl (0, 203, .inl (FLt 203)),
  .inl (0, 500, .inl (fun _ => 0)),
  .inl (0, 500, .inl (fun _ => 0)),
  .inl (0, 520, .inl (fun _ => 0)),
  .inl (0, 160, .inl (fun _ => 0)),
  .inl (0, 160, .inl (fun _ => 0)),
  .inl (0, 160, .inl (fun _ => 0))]
def yh96 : zH := [.inr (0, [.ref 1, .ref 3, .ref 7, .ref 8, .ref 17, .ref 24, qI 0]),
  .inr (1, [.ref 2, qI 0, qI 0, qI (-2)]),
  .inl (0, 500, .inl (fun _ => 0)),
  .inr (2, [.ref 1, .ref 4, .ref 6, qI 0]),
  .inr (3, [qI 6, .ref 5, qI 0]),
  .inl (0, 1500, .inl (fun _ => 0)),
  .inl (0, 500, .inl (fun _ => 0)),
  .inr (4, [.ref 1, .ref 3]),
  .inr (5, [.ref 1, .ref 3, .int 0, .int 0, .int 0, .int 0, .int 0, .int 0, .ref 9, .ref 11, .ref 13, .ref 15]),
  .inr (3, [qI 1, .ref 10, qI 0]),
  .inl (0, 250, .inl (fun _ => 0)),
  .inr (3, [qI 1, .ref 12, qI 0]),
  .inl (0, 250, .inl (fun _ => 0)),
  .inr (3, [qI 4, .ref 14, qI 0]),
  .inl (0, 248, .inl (fun _ => 0)),
  .inr (3, [qI 2, .ref 16, qI 0]),
  .inl (0, 250, .inl (fun _ => 0)),
  .inr (6, [.ref 1, .ref 3, .ref 8, .ref 18, .ref 20, .ref 22, .int 0, .int 0, .int 0, .int 0, .int 0]),
  .inr (3, [qI 1, .ref 19, qI 0]),
  .inl (0, 250, .inl (fun _ => 0)),
  .inr (3, [qI 8, .ref 21, qI 0]),
  .inl (0, 496, .inl (fun _ => 0)),
  .inr (3, [qI 8, .ref 23, qI 0]),
  .inl (0, 496, .inl (fun _ => 0)),
  .inr (7, [.ref 3, .int 0, .int 0, .int 0]),
  .inr (8, [.ref 26, .ref 27, .ref 28, .int 0, .int 0, .int 0, qI (-2), .int 0, .int 0, .int 0, .ref 29, .int 0, .int 0, .int 0, .int 0, .int 0, .int 0, .ref 30, .ref 31, .ref 32, .null, .null, .null, .null, .null, .null, .null, .int 0, .int 0, .null]),
  .inl (0, 203, .inl (FLt 203)),
  .inl (0, 500, .inl (fun _ => 0)),
  .inl (0, 500, .inl (fun _ => 0)),
  .inl (0, 520, .inl (fun _ => 0)),
  .inl (0, 160, .inl (fun _ => 0)),
  .inl (0, 160, .inl (fun _ => 0)),
  .inl (0, 160, .inl (fun _ => 0))]
def yh97 : zH := [.inr (0, [.ref 1, .ref 3, .ref 7, .ref 8, .ref 17, .ref 24, qI 0]),
  .inr (1, [.ref 2, qI 0, qI 0, qI (-2)]),
  .inl (0, 500, .inl (fun _ => 0)),
  .inr (2, [.ref 1, .ref 4, .ref 6, qI 0]),
  .inr (3, [qI 6, .ref 5, qI 0]),
  .inl (0, 1500, .inl (fun _ => 0)),
  .inl (0, 500, .inl (fun _ => 0)),
  .inr (4, [.ref 1, .ref 3]),
  .inr (5, [.ref 1, .ref 3, .int 0, .int 0, .int 0, .int 0, .int 0, .int 0, .ref 9, .ref 11, .ref 13, .ref 15]),
  .inr (3, [qI 1, .ref 10, qI 0]),
  .inl (0, 250, .inl (fun _ => 0)),
  .inr (3, [qI 1, .ref 12, qI 0]),
  .inl (0, 250, .inl (fun _ => 0)),
  .inr (3, [qI 4, .ref 14, qI 0]),
  .inl (0, 248, .inl (fun _ => 0)),
  .inr (3, [qI 2, .ref 16, qI 0]),
  .inl (0, 250, .inl (fun _ => 0)),
  .inr (6, [.ref 1, .ref 3, .ref 8, .ref 18, .ref 20, .ref 22, .int 0, .int 0, .int 0, .int 0, .int 0]),
  .inr (3, [qI 1, .ref 19, qI 0]),
  .inl (0, 250, .inl (fun _ => 0)),
  .inr (3, [qI 8, .ref 21, qI 0]),
  .inl (0, 496, .inl (fun _ => 0)),
  .inr (3, [qI 8, .ref 23, qI 0]),
  .inl (0, 496, .inl (fun _ => 0)),
  .inr (7, [.ref 3, .int 0, .int 0, .int 0]),
  .inr (8, [.ref 26, .ref 27, .ref 28, .int 0, .int 0, .int 0, qI (-2), .int 0, .int 0, .int 0, .ref 29, .int 0, .int 0, .int 0, .int 0, .int 0, .int 0, .ref 30, .ref 31, .ref 32, .null, .null, .null, .null, .null, .null, .null, .int 0, .int 0, .null]),
  .inl (0, 203, .inl (FLt 203)),
  .inl (0, 500, .inl (fun _ => 0)),
  .inl (0, 500, .inl (fun _ => 0)),
  .inl (0, 520, .inl (fun _ => 0)),
  .inl (0, 160, .inl (fun _ => 0)),
  .inl (0, 160, .inl (fun _ => 0)),
  .inl (0, 160, .inl (fun _ => 0)),
  .inl (0, 160, .inl (fun _ => 0))]
def yh98 : zH := [.inr (0, [.ref 1, .ref 3, .ref 7, .ref 8, .ref 17, .ref 24, qI 0]),
  .inr (1, [.ref 2, qI 0, qI 0, qI (-2)]),
  .inl (0, 500, .inl (fun _ => 0)),
  .inr (2, [.ref 1, .ref 4, .ref 6, qI 0]),
  .inr (3, [qI 6, .ref 5, qI 0]),
  .inl (0, 1500, .inl (fun _ => 0)),
  .inl (0, 500, .inl (fun _ => 0)),
  .inr (4, [.ref 1, .ref 3]),
  .inr (5, [.ref 1, .ref 3, .int 0, .int 0, .int 0, .int 0, .int 0, .int 0, .ref 9, .ref 11, .ref 13, .ref 15]),
  .inr (3, [qI 1, .ref 10, qI 0]),
  .inl (0, 250, .inl (fun _ => 0)),
  .inr (3, [qI 1, .ref 12, qI 0]),
  .inl (0, 250, .inl (fun _ => 0)),
  .inr (3, [qI 4, .ref 14, qI 0]),
  .inl (0, 248, .inl (fun _ => 0)),
  .inr (3, [qI 2, .ref 16, qI 0]),
  .inl (0, 250, .inl (fun _ => 0)),
  .inr (6, [.ref 1, .ref 3, .ref 8, .ref 18, .ref 20, .ref 22, .int 0, .int 0, .int 0, .int 0, .int 0]),
  .inr (3, [qI 1, .ref 19, qI 0]),
  .inl (0, 250, .inl (fun _ => 0)),
  .inr (3, [qI 8, .ref 21, qI 0]),
  .inl (0, 496, .inl (fun _ => 0)),
  .inr (3, [qI 8, .ref 23, qI 0]),
  .inl (0, 496, .inl (fun _ => 0)),
  .inr (7, [.ref 3, .int 0, .int 0, .int 0]),
  .inr (8, [.ref 26, .ref 27, .ref 28, .int 0, .int 0, .int 0, qI (-2), .int 0, .int 0, .int 0, .ref 29, .int 0, .int 0, .int 0, .int 0, .int 0, .int 0, .ref 30, .ref 31, .ref 32, .ref 33, .null, .null, .null, .null, .null, .null, .int 0, .int 0, .null]),
  .inl (0, 203, .inl (FLt 203)),
  .inl (0, 500, .inl (fun _ => 0)),
  .inl (0, 500, .inl (fun _ => 0)),
  .inl (0, 520, .inl (fun _ => 0)),
  .inl (0, 160, .inl (fun _ => 0)),
  .inl (0, 160, .inl (fun _ => 0)),
  .inl (0, 160, .inl (fun _ => 0)),
  .inl (0, 160, .inl (fun _ => 0))]
def yh99 : zH := [.inr (0, [.ref 1, .ref 3, .ref 7, .ref 8, .ref 17, .ref 24, qI 0]),
  .inr (1, [.ref 2, qI 0, qI 0, qI (-2)]),
  .inl (0, 500, .inl (fun _ => 0)),
  .inr (2, [.ref 1, .ref 4, .ref 6, qI 0]),
  .inr (3, [qI 6, .ref 5, qI 0]),
  .inl (0, 1500, .inl (fun _ => 0)),
  .inl (0, 500, .inl (fun _ => 0)),
  .inr (4, [.ref 1, .ref 3]),
  .inr (5, [.ref 1, .ref 3, .int 0, .int 0, .int 0, .int 0, .int 0, .int 0, .ref 9, .ref 11, .ref 13, .ref 15]),
  .inr (3, [qI 1, .ref 10, qI 0]),
  .inl (0, 250, .inl (fun _ => 0)),
  .inr (3, [qI 1, .ref 12, qI 0]),
  .inl (0, 250, .inl (fun _ => 0)),
  .inr (3, [qI 4, .ref 14, qI 0]),
  .inl (0, 248, .inl (fun _ => 0)),
  .inr (3, [qI 2, .ref 16, qI 0]),
  .inl (0, 250, .inl (fun _ => 0)),
  .inr (6, [.ref 1, .ref 3, .ref 8, .ref 18, .ref 20, .ref 22, .int 0, .int 0, .int 0, .int 0, .int 0]),
  .inr (3, [qI 1, .ref 19, qI 0]),
  .inl (0, 250, .inl (fun _ => 0)),
  .inr (3, [qI 8, .ref 21, qI 0]),
  .inl (0, 496, .inl (fun _ => 0)),
  .inr (3, [qI 8, .ref 23, qI 0]),
  .inl (0, 496, .inl (fun _ => 0)),
  .inr (7, [.ref 3, .int 0, .int 0, .int 0]),
  .inr (8, [.ref 26, .ref 27, .ref 28, .int 0, .int 0, .int 0, qI (-2), .int 0, .int 0, .int 0, .ref 29, .int 0, .int 0, .int 0, .int 0, .int 0, .int 0, .ref 30, .ref 31, .ref 32, .ref 33, .null, .null, .null, .null, .null, .null, .int 0, .int 0, .null]),
  .inl (0, 203, .inl (FLt 203)),
  .inl (0, 500, .inl (fun _ => 0)),
  .inl (0, 500, .inl (fun _ => 0)),
  .inl (0, 520, .inl (fun _ => 0)),
  .inl (0, 160, .inl (fun _ => 0)),
  .inl (0, 160, .inl (fun _ => 0)),
  .inl (0, 160, .inl (fun _ => 0)),
  .inl (0, 160, .inl (fun _ => 0)),
  .inl (0, 160, .inl (fun _ => 0))]
def yh100 : zH := [.inr (0, [.ref 1, .ref 3, .ref 7, .ref 8, .ref 17, .ref 24, qI 0]),
  .inr (1, [.ref 2, qI 0, qI 0, qI (-2)]),
  .inl (0, 500, .inl (fun _ => 0)),
  .inr (2, [.ref 1, .ref 4, .ref 6, qI 0]),
  .inr (3, [qI 6, .ref 5, qI 0]),
  .inl (0, 1500, .inl (fun _ => 0)),
  .inl (0, 500, .inl (fun _ => 0)),
  .inr (4, [.ref 1, .ref 3]),
  .inr (5, [.ref 1, .ref 3, .int 0, .int 0, .int 0, .int 0, .int 0, .int 0, .ref 9, .ref 11, .ref 13, .ref 15]),
  .inr (3, [qI 1, .ref 10, qI 0]),
  .inl (0, 250, .inl (fun _ => 0)),
  .inr (3, [qI 1, .ref 12, qI 0]),
  .inl (0, 250, .inl (fun _ => 0)),
  .inr (3, [qI 4, .ref 14, qI 0]),
  .inl (0, 248, .inl (fun _ => 0)),
  .inr (3, [qI 2, .ref 16, qI 0]),
  .inl (0, 250, .inl (fun _ => 0)),
  .inr (6, [.ref 1, .ref 3, .ref 8, .ref 18, .ref 20, .ref 22, .int 0, .int 0, .int 0, .int 0, .int 0]),
  .inr (3, [qI 1, .ref 19, qI 0]),
  .inl (0, 250, .inl (fun _ => 0)),
  .inr (3, [qI 8, .ref 21, qI 0]),
  .inl (0, 496, .inl (fun _ => 0)),
  .inr (3, [qI 8, .ref 23, qI 0]),
  .inl (0, 496, .inl (fun _ => 0)),
  .inr (7, [.ref 3, .int 0, .int 0, .int 0]),
  .inr (8, [.ref 26, .ref 27, .ref 28, .int 0, .int 0, .int 0, qI (-2), .int 0, .int 0, .int 0, .ref 29, .int 0, .int 0, .int 0, .int 0, .int 0, .int 0, .ref 30, .ref 31, .ref 32, .ref 33, .ref 34, .null, .null, .null, .null, .null, .int 0, .int 0, .null]),
  .inl (0, 203, .inl (FLt 203)),
  .inl (0, 500, .inl (fun _ => 0)),
  .inl (0, 500, .inl (fun _ => 0)),
  .inl (0, 520, .inl (fun _ => 0)),
  .inl (0, 160, .inl (fun _ => 0)),
  .inl (0, 160, .inl (fun _ => 0)),
  .inl (0, 160, .inl (fun _ => 0)),
  .inl (0, 160, .inl (fun _ => 0)),
  .inl (0, 160, .inl (fun _ => 0))]
def yh101 : zH := [.inr (0, [.ref 1, .ref 3, .ref 7, .ref 8, .ref 17, .ref 24, qI 0]),
  .inr (1, [.ref 2, qI 0, qI 0, qI (-2)]),
  .inl (0, 500, .inl (fun _ => 0)),
  .inr (2, [.ref 1, .ref 4, .ref 6, qI 0]),
  .inr (3, [qI 6, .ref 5, qI 0]),
  .inl (0, 1500, .inl (fun _ => 0)),
  .inl (0, 500, .inl (fun _ => 0)),
  .inr (4, [.ref 1, .ref 3]),
  .inr (5, [.ref 1, .ref 3, .int 0, .int 0, .int 0, .int 0, .int 0, .int 0, .ref 9, .ref 11, .ref 13, .ref 15]),
  .inr (3, [qI 1, .ref 10, qI 0]),
  .inl (0, 250, .inl (fun _ => 0)),
  .inr (3, [qI 1, .ref 12, qI 0]),
  .inl (0, 250, .inl (fun _ => 0)),
  .inr (3, [qI 4, .ref 14, qI 0]),
  .inl (0, 248, .inl (fun _ => 0)),
  .inr (3, [qI 2, .ref 16, qI 0]),
  .inl (0, 250, .inl (fun _ => 0)),
  .inr (6, [.ref 1, .ref 3, .ref 8, .ref 18, .ref 20, .ref 22, .int 0, .int 0, .int 0, .int 0, .int 0]),
  .inr (3, [qI 1, .ref 19, qI 0]),
  .inl (0, 250, .inl (fun _ => 0)),
  .inr (3, [qI 8, .ref 21, qI 0]),
  .inl (0, 496, .inl (fun _ => 0)),
  .inr (3, [qI 8, .ref 23, qI 0]),
  .inl (0, 496, .inl (fun _ => 0)),
  .inr (7, [.ref 3, .int 0, .int 0, .int 0]),
  .inr (8, [.ref 26, .ref 27, .ref 28, .int 0, .int 0, .int 0, qI (-2), .int 0, .int 0, .int 0, .ref 29, .int 0, .int 0, .int 0, .int 0, .int 0, .int 0, .ref 30, .ref 31, .ref 32, .ref 33, .ref 34, .null, .null, .null, .null, .null, .int 0, .int 0, .null]),
  .inl (0, 203, .inl (FLt 203)),
  .inl (0, 500, .inl (fun _ => 0)),
  .inl (0, 500, .inl (fun _ => 0)),
  .inl (0, 520, .inl (fun _ => 0)),
  .inl (0, 160, .inl (fun _ => 0)),
  .inl (0, 160, .inl (fun _ => 0)),
  .inl (0, 160, .inl (fun _ => 0)),
  .inl (0, 160, .inl (fun _ => 0)),
  .inl (0, 160, .inl (fun _ => 0)),
  .inl (0, 2, .inl (fun _ => 0))]
def yh102 : zH := [.inr (0, [.ref 1, .ref 3, .ref 7, .ref 8, .ref 17, .ref 24, qI 0]),
  .inr (1, [.ref 2, qI 0, qI 0, qI (-2)]),
  .inl (0, 500, .inl (fun _ => 0)),
  .inr (2, [.ref 1, .ref 4, .ref 6, qI 0]),
  .inr (3, [qI 6, .ref 5, qI 0]),
  .inl (0, 1500, .inl (fun _ => 0)),
  .inl (0, 500, .inl (fun _ => 0)),
  .inr (4, [.ref 1, .ref 3]),
  .inr (5, [.ref 1, .ref 3, .int 0, .int 0, .int 0, .int 0, .int 0, .int 0, .ref 9, .ref 11, .ref 13, .ref 15]),
  .inr (3, [qI 1, .ref 10, qI 0]),
  .inl (0, 250, .inl (fun _ => 0)),
  .inr (3, [qI 1, .ref 12, qI 0]),
  .inl (0, 250, .inl (fun _ => 0)),
  .inr (3, [qI 4, .ref 14, qI 0]),
  .inl (0, 248, .inl (fun _ => 0)),
  .inr (3, [qI 2, .ref 16, qI 0]),
  .inl (0, 250, .inl (fun _ => 0)),
  .inr (6, [.ref 1, .ref 3, .ref 8, .ref 18, .ref 20, .ref 22, .int 0, .int 0, .int 0, .int 0, .int 0]),
  .inr (3, [qI 1, .ref 19, qI 0]),
  .inl (0, 250, .inl (fun _ => 0)),
  .inr (3, [qI 8, .ref 21, qI 0]),
  .inl (0, 496, .inl (fun _ => 0)),
  .inr (3, [qI 8, .ref 23, qI 0]),
  .inl (0, 496, .inl (fun _ => 0)),
  .inr (7, [.ref 3, .int 0, .int 0, .int 0]),
  .inr (8, [.ref 26, .ref 27, .ref 28, .int 0, .int 0, .int 0, qI (-2), .int 0, .int 0, .int 0, .ref 29, .int 0, .int 0, .int 0, .int 0, .int 0, .int 0, .ref 30, .ref 31, .ref 32, .ref 33, .ref 34, .ref 35, .null, .null, .null, .null, .int 0, .int 0, .null]),
  .inl (0, 203, .inl (FLt 203)),
  .inl (0, 500, .inl (fun _ => 0)),
  .inl (0, 500, .inl (fun _ => 0)),
  .inl (0, 520, .inl (fun _ => 0)),
  .inl (0, 160, .inl (fun _ => 0)),
  .inl (0, 160, .inl (fun _ => 0)),
  .inl (0, 160, .inl (fun _ => 0)),
  .inl (0, 160, .inl (fun _ => 0)),
  .inl (0, 160, .inl (fun _ => 0)),
  .inl (0, 2, .inl (fun _ => 0))]
def yh103 : zH := [.inr (0, [.ref 1, .ref 3, .ref 7, .ref 8, .ref 17, .ref 24, qI 0]),
  .inr (1, [.ref 2, qI 0, qI 0, qI (-2)]),
  .inl (0, 500, .inl (fun _ => 0)),
  .inr (2, [.ref 1, .ref 4, .ref 6, qI 0]),
  .inr (3, [qI 6, .ref 5, qI 0]),
  .inl (0, 1500, .inl (fun _ => 0)),
  .inl (0, 500, .inl (fun _ => 0)),
  .inr (4, [.ref 1, .ref 3]),
  .inr (5, [.ref 1, .ref 3, .int 0, .int 0, .int 0, .int 0, .int 0, .int 0, .ref 9, .ref 11, .ref 13, .ref 15]),
  .inr (3, [qI 1, .ref 10, qI 0]),
  .inl (0, 250, .inl (fun _ => 0)),
  .inr (3, [qI 1, .ref 12, qI 0]),
  .inl (0, 250, .inl (fun _ => 0)),
  .inr (3, [qI 4, .ref 14, qI 0]),
  .inl (0, 248, .inl (fun _ => 0)),
  .inr (3, [qI 2, .ref 16, qI 0]),
  .inl (0, 250, .inl (fun _ => 0)),
  .inr (6, [.ref 1, .ref 3, .ref 8, .ref 18, .ref 20, .ref 22, .int 0, .int 0, .int 0, .int 0, .int 0]),
  .inr (3, [qI 1, .ref 19, qI 0]),
  .inl (0, 250, .inl (fun _ => 0)),
  .inr (3, [qI 8, .ref 21, qI 0]),
  .inl (0, 496, .inl (fun _ => 0)),
  .inr (3, [qI 8, .ref 23, qI 0]),
  .inl (0, 496, .inl (fun _ => 0)),
  .inr (7, [.ref 3, .int 0, .int 0, .int 0]),
  .inr (8, [.ref 26, .ref 27, .ref 28, .int 0, .int 0, .int 0, qI (-2), .int 0, .int 0, .int 0, .ref 29, .int 0, .int 0, .int 0, .int 0, .int 0, .int 0, .ref 30, .ref 31, .ref 32, .ref 33, .ref 34, .ref 35, .null, .null, .null, .null, .int 0, .int 0, .null]),
  .inl (0, 203, .inl (FLt 203)),
  .inl (0, 500, .inl (fun _ => 0)),
  .inl (0, 500, .inl (fun _ => 0)),
  .inl (0, 520, .inl (fun _ => 0)),
  .inl (0, 160, .inl (fun _ => 0)),
  .inl (0, 160, .inl (fun _ => 0)),
  .inl (0, 160, .inl (fun _ => 0)),
  .inl (0, 160, .inl (fun _ => 0)),
  .inl (0, 160, .inl (fun _ => 0)),
  .inl (0, 2, .inl (fun _ => 0)),
  .inl (0, 9, .inl (fun _ => 0))]
def yh104 : zH := [.inr (0, [.ref 1, .ref 3, .ref 7, .ref 8, .ref 17, .ref 24, qI 0]),
  .inr (1, [.ref 2, qI 0, qI 0, qI (-2)]),
  .inl (0, 500, .inl (fun _ => 0)),
  .inr (2, [.ref 1, .ref 4, .ref 6, qI 0]),
  .inr (3, [qI 6, .ref 5, qI 0]),
  .inl (0, 1500, .inl (fun _ => 0)),
  .inl (0, 500, .inl (fun _ => 0)),
  .inr (4, [.ref 1, .ref 3]),
  .inr (5, [.ref 1, .ref 3, .int 0, .int 0, .int 0, .int 0, .int 0, .int 0, .ref 9, .ref 11, .ref 13, .ref 15]),
  .inr (3, [qI 1, .ref 10, qI 0]),
  .inl (0, 250, .inl (fun _ => 0)),
  .inr (3, [qI 1, .ref 12, qI 0]),
  .inl (0, 250, .inl (fun _ => 0)),
  .inr (3, [qI 4, .ref 14, qI 0]),
  .inl (0, 248, .inl (fun _ => 0)),
  .inr (3, [qI 2, .ref 16, qI 0]),
  .inl (0, 250, .inl (fun _ => 0)),
  .inr (6, [.ref 1, .ref 3, .ref 8, .ref 18, .ref 20, .ref 22, .int 0, .int 0, .int 0, .int 0, .int 0]),
  .inr (3, [qI 1, .ref 19, qI 0]),
  .inl (0, 250, .inl (fun _ => 0)),
  .inr (3, [qI 8, .ref 21, qI 0]),
  .inl (0, 496, .inl (fun _ => 0)),
  .inr (3, [qI 8, .ref 23, qI 0]),
  .inl (0, 496, .inl (fun _ => 0)),
  .inr (7, [.ref 3, .int 0, .int 0, .int 0]),
  .inr (8, [.ref 26, .ref 27, .ref 28, .int 0, .int 0, .int 0, qI (-2), .int 0, .int 0, .int 0, .ref 29, .int 0, .int 0, .int 0, .int 0, .int 0, .int 0, .ref 30, .ref 31, .ref 32, .ref 33, .ref 34, .ref 35, .ref 36, .null, .null, .null, .int 0, .int 0, .null]),
  .inl (0, 203, .inl (FLt 203)),
  .inl (0, 500, .inl (fun _ => 0)),
  .inl (0, 500, .inl (fun _ => 0)),
  .inl (0, 520, .inl (fun _ => 0)),
  .inl (0, 160, .inl (fun _ => 0)),
  .inl (0, 160, .inl (fun _ => 0)),
  .inl (0, 160, .inl (fun _ => 0)),
  .inl (0, 160, .inl (fun _ => 0)),
  .inl (0, 160, .inl (fun _ => 0)),
  .inl (0, 2, .inl (fun _ => 0)),
  .inl (0, 9, .inl (fun _ => 0))]
def yh105 : zH := [.inr (0, [.ref 1, .ref 3, .ref 7, .ref 8, .ref 17, .ref 24, qI 0]),
  .inr (1, [.ref 2, qI 0, qI 0, qI (-2)]),
  .inl (0, 500, .inl (fun _ => 0)),
  .inr (2, [.ref 1, .ref 4, .ref 6, qI 0]),
  .inr (3, [qI 6, .ref 5, qI 0]),
  .inl (0, 1500, .inl (fun _ => 0)),
  .inl (0, 500, .inl (fun _ => 0)),
  .inr (4, [.ref 1, .ref 3]),
  .inr (5, [.ref 1, .ref 3, .int 0, .int 0, .int 0, .int 0, .int 0, .int 0, .ref 9, .ref 11, .ref 13, .ref 15]),
  .inr (3, [qI 1, .ref 10, qI 0]),
  .inl (0, 250, .inl (fun _ => 0)),
  .inr (3, [qI 1, .ref 12, qI 0]),
  .inl (0, 250, .inl (fun _ => 0)),
  .inr (3, [qI 4, .ref 14, qI 0]),
  .inl (0, 248, .inl (fun _ => 0)),
  .inr (3, [qI 2, .ref 16, qI 0]),
  .inl (0, 250, .inl (fun _ => 0)),
  .inr (6, [.ref 1, .ref 3, .ref 8, .ref 18, .ref 20, .ref 22, .int 0, .int 0, .int 0, .int 0, .int 0]),
  .inr (3, [qI 1, .ref 19, qI 0]),
  .inl (0, 250, .inl (fun _ => 0)),
  .inr (3, [qI 8, .ref 21, qI 0]),
  .inl (0, 496, .inl (fun _ => 0)),
  .inr (3, [qI 8, .ref 23, qI 0]),
  .inl (0, 496, .inl (fun _ => 0)),
  .inr (7, [.ref 3, .int 0, .int 0, .int 0]),
  .inr (8, [.ref 26, .ref 27, .ref 28, .int 0, .int 0, .int 0, qI (-2), .int 0, .int 0, .int 0, .ref 29, .int 0, .int 0, .int 0, .int 0, .int 0, .int 0, .ref 30, .ref 31, .ref 32, .ref 33, .ref 34, .ref 35, .ref 36, .null, .null, .null, .int 0, .int 0, .null]),
  .inl (0, 203, .inl (FLt 203)),
  .inl (0, 500, .inl (fun _ => 0)),
  .inl (0, 500, .inl (fun _ => 0)),
  .inl (0, 520, .inl (fun _ => 0)),
  .inl (0, 160, .inl (fun _ => 0)),
  .inl (0, 160, .inl (fun _ => 0)),
  .inl (0, 160, .inl (fun _ => 0)),
  .inl (0, 160, .inl (fun _ => 0)),
  .inl (0, 160, .inl (fun _ => 0)),
  .inl (0, 2, .inl (fun _ => 0)),
  .inl (0, 9, .inl (fun _ => 0)),
  .inl (0, 9, .inl (fun _ => 0))]
def yh106 : zH := [.inr (0, [.ref 1, .ref 3, .ref 7, .ref 8, .ref 17, .ref 24, qI 0]),
  .inr (1, [.ref 2, qI 0, qI 0, qI (-2)]),
  .inl (0, 500, .inl (fun _ => 0)),
  .inr (2, [.ref 1, .ref 4, .ref 6, qI 0]),
  .inr (3, [qI 6, .ref 5, qI 0]),
  .inl (0, 1500, .inl (fun _ => 0)),
  .inl (0, 500, .inl (fun _ => 0)),
  .inr (4, [.ref 1, .ref 3]),
  .inr (5, [.ref 1, .ref 3, .int 0, .int 0, .int 0, .int 0, .int 0, .int 0, .ref 9, .ref 11, .ref 13, .ref 15]),
  .inr (3, [qI 1, .ref 10, qI 0]),
  .inl (0, 250, .inl (fun _ => 0)),
  .inr (3, [qI 1, .ref 12, qI 0]),
  .inl (0, 250, .inl (fun _ => 0)),
  .inr (3, [qI 4, .ref 14, qI 0]),
  .inl (0, 248, .inl (fun _ => 0)),
  .inr (3, [qI 2, .ref 16, qI 0]),
  .inl (0, 250, .inl (fun _ => 0)),
  .inr (6, [.ref 1, .ref 3, .ref 8, .ref 18, .ref 20, .ref 22, .int 0, .int 0, .int 0, .int 0, .int 0]),
  .inr (3, [qI 1, .ref 19, qI 0]),
  .inl (0, 250, .inl (fun _ => 0)),
  .inr (3, [qI 8, .ref 21, qI 0]),
  .inl (0, 496, .inl (fun _ => 0)),
  .inr (3, [qI 8, .ref 23, qI 0]),
  .inl (0, 496, .inl (fun _ => 0)),
  .inr (7, [.ref 3, .int 0, .int 0, .int 0]),
  .inr (8, [.ref 26, .ref 27, .ref 28, .int 0, .int 0, .int 0, qI (-2), .int 0, .int 0, .int 0, .ref 29, .int 0, .int 0, .int 0, .int 0, .int 0, .int 0, .ref 30, .ref 31, .ref 32, .ref 33, .ref 34, .ref 35, .ref 36, .ref 37, .null, .null, .int 0, .int 0, .null]),
  .inl (0, 203, .inl (FLt 203)),
  .inl (0, 500, .inl (fun _ => 0)),
  .inl (0, 500, .inl (fun _ => 0)),
  .inl (0, 520, .inl (fun _ => 0)),
  .inl (0, 160, .inl (fun _ => 0)),
  .inl (0, 160, .inl (fun _ => 0)),
  .inl (0, 160, .inl (fun _ => 0)),
  .inl (0, 160, .inl (fun _ => 0)),
  .inl (0, 160, .inl (fun _ => 0)),
  .inl (0, 2, .inl (fun _ => 0)),
  .inl (0, 9, .inl (fun _ => 0)),
  .inl (0, 9, .inl (fun _ => 0))]
def yh107 : zH := [.inr (0, [.ref 1, .ref 3, .ref 7, .ref 8, .ref 17, .ref 24, qI 0]),
  .inr (1, [.ref 2, qI 0, qI 0, qI (-2)]),
  .inl (0, 500, .inl (fun _ => 0)),
  .inr (2, [.ref 1, .ref 4, .ref 6, qI 0]),
  .inr (3, [qI 6, .ref 5, qI 0]),
  .inl (0, 1500, .inl (fun _ => 0)),
  .inl (0, 500, .inl (fun _ => 0)),
  .inr (4, [.ref 1, .ref 3]),
  .inr (5, [.ref 1, .ref 3, .int 0, .int 0, .int 0, .int 0, .int 0, .int 0, .ref 9, .ref 11, .ref 13, .ref 15]),
  .inr (3, [qI 1, .ref 10, qI 0]),
  .inl (0, 250, .inl (fun _ => 0)),
  .inr (3, [qI 1, .ref 12, qI 0]),
  .inl (0, 250, .inl (fun _ => 0)),
  .inr (3, [qI 4, .ref 14, qI 0]),
  .inl (0, 248, .inl (fun _ => 0)),
  .inr (3, [qI 2, .ref 16, qI 0]),
  .inl (0, 250, .inl (fun _ => 0)),
  .inr (6, [.ref 1, .ref 3, .ref 8, .ref 18, .ref 20, .ref 22, .int 0, .int 0, .int 0, .int 0, .int 0]),
  .inr (3, [qI 1, .ref 19, qI 0]),
  .inl (0, 250, .inl (fun _ => 0)),
  .inr (3, [qI 8, .ref 21, qI 0]),
  .inl (0, 496, .inl (fun _ => 0)),
  .inr (3, [qI 8, .ref 23, qI 0]),
  .inl (0, 496, .inl (fun _ => 0)),
  .inr (7, [.ref 3, .int 0, .int 0, .int 0]),
  .inr (8, [.ref 26, .ref 27, .ref 28, .int 0, .int 0, .int 0, qI (-2), .int 0, .int 0, .int 0, .ref 29, .int 0, .int 0, .int 0, .int 0, .int 0, .int 0, .ref 30, .ref 31, .ref 32, .ref 33, .ref 34, .ref 35, .ref 36, .ref 37, .null, .null, .int 0, .int 0, .null]),
  .inl (0, 203, .inl (FLt 203)),
  .inl (0, 500, .inl (fun _ => 0)),
  .inl (0, 500, .inl (fun _ => 0)),
  .inl (0, 520, .inl (fun _ => 0)),
  .inl (0, 160, .inl (fun _ => 0)),
  .inl (0, 160, .inl (fun _ => 0)),
  .inl (0, 160, .inl (fun _ => 0)),
  .inl (0, 160, .inl (fun _ => 0)),
  .inl (0, 160, .inl (fun _ => 0)),
  .inl (0, 2, .inl (fun _ => 0)),
  .inl (0, 9, .inl (fun _ => 0)),
  .inl (0, 9, .inl (fun _ => 0)),
  .inl (0, 170, .inl (fun _ => 0))]
def yh108 : zH := [.inr (0, [.ref 1, .ref 3, .ref 7, .ref 8, .ref 17, .ref 24, qI 0]),
  .inr (1, [.ref 2, qI 0, qI 0, qI (-2)]),
  .inl (0, 500, .inl (fun _ => 0)),
  .inr (2, [.ref 1, .ref 4, .ref 6, qI 0]),
  .inr (3, [qI 6, .ref 5, qI 0]),
  .inl (0, 1500, .inl (fun _ => 0)),
  .inl (0, 500, .inl (fun _ => 0)),
  .inr (4, [.ref 1, .ref 3]),
  .inr (5, [.ref 1, .ref 3, .int 0, .int 0, .int 0, .int 0, .int 0, .int 0, .ref 9, .ref 11, .ref 13, .ref 15]),
  .inr (3, [qI 1, .ref 10, qI 0]),
  .inl (0, 250, .inl (fun _ => 0)),
  .inr (3, [qI 1, .ref 12, qI 0]),
  .inl (0, 250, .inl (fun _ => 0)),
  .inr (3, [qI 4, .ref 14, qI 0]),
  .inl (0, 248, .inl (fun _ => 0)),
  .inr (3, [qI 2, .ref 16, qI 0]),
  .inl (0, 250, .inl (fun _ => 0)),
  .inr (6, [.ref 1, .ref 3, .ref 8, .ref 18, .ref 20, .ref 22, .int 0, .int 0, .int 0, .int 0, .int 0]),
  .inr (3, [qI 1, .ref 19, qI 0]),
  .inl (0, 250, .inl (fun _ => 0)),
  .inr (3, [qI 8, .ref 21, qI 0]),
  .inl (0, 496, .inl (fun _ => 0)),
  .inr (3, [qI 8, .ref 23, qI 0]),
  .inl (0, 496, .inl (fun _ => 0)),
  .inr (7, [.ref 3, .int 0, .int 0, .int 0]),
  .inr (8, [.ref 26, .ref 27, .ref 28, .int 0, .int 0, .int 0, qI (-2), .int 0, .int 0, .int 0, .ref 29, .int 0, .int 0, .int 0, .int 0, .int 0, .int 0, .ref 30, .ref 31, .ref 32, .ref 33, .ref 34, .ref 35, .ref 36, .ref 37, .ref 38, .null, .int 0, .int 0, .null]),
  .inl (0, 203, .inl (FLt 203)),
  .inl (0, 500, .inl (fun _ => 0)),
  .inl (0, 500, .inl (fun _ => 0)),
  .inl (0, 520, .inl (fun _ => 0)),
  .inl (0, 160, .inl (fun _ => 0)),
  .inl (0, 160, .inl (fun _ => 0)),
  .inl (0, 160, .inl (fun _ => 0)),
  .inl (0, 160, .inl (fun _ => 0)),
  .inl (0, 160, .inl (fun _ => 0)),
  .inl (0, 2, .inl (fun _ => 0)),
  .inl (0, 9, .inl (fun _ => 0)),
  .inl (0, 9, .inl (fun _ => 0)),
  .inl (0, 170, .inl (fun _ => 0))]
def yh109 : zH := [.inr (0, [.ref 1, .ref 3, .ref 7, .ref 8, .ref 17, .ref 24, qI 0]),
  .inr (1, [.ref 2, qI 0, qI 0, qI (-2)]),
  .inl (0, 500, .inl (fun _ => 0)),
  .inr (2, [.ref 1, .ref 4, .ref 6, qI 0]),
  .inr (3, [qI 6, .ref 5, qI 0]),
  .inl (0, 1500, .inl (fun _ => 0)),
  .inl (0, 500, .inl (fun _ => 0)),
  .inr (4, [.ref 1, .ref 3]),
  .inr (5, [.ref 1, .ref 3, .int 0, .int 0, .int 0, .int 0, .int 0, .int 0, .ref 9, .ref 11, .ref 13, .ref 15]),
  .inr (3, [qI 1, .ref 10, qI 0]),
  .inl (0, 250, .inl (fun _ => 0)),
  .inr (3, [qI 1, .ref 12, qI 0]),
  .inl (0, 250, .inl (fun _ => 0)),
  .inr (3, [qI 4, .ref 14, qI 0]),
  .inl (0, 248, .inl (fun _ => 0)),
  .inr (3, [qI 2, .ref 16, qI 0]),
  .inl (0, 250, .inl (fun _ => 0)),
  .inr (6, [.ref 1, .ref 3, .ref 8, .ref 18, .ref 20, .ref 22, .int 0, .int 0, .int 0, .int 0, .int 0]),
  .inr (3, [qI 1, .ref 19, qI 0]),
  .inl (0, 250, .inl (fun _ => 0)),
  .inr (3, [qI 8, .ref 21, qI 0]),
  .inl (0, 496, .inl (fun _ => 0)),
  .inr (3, [qI 8, .ref 23, qI 0]),
  .inl (0, 496, .inl (fun _ => 0)),
  .inr (7, [.ref 3, .int 0, .int 0, .int 0]),
  .inr (8, [.ref 26, .ref 27, .ref 28, .int 0, .int 0, .int 0, qI (-2), .int 0, .int 0, .int 0, .ref 29, .int 0, .int 0, .int 0, .int 0, .int 0, .int 0, .ref 30, .ref 31, .ref 32, .ref 33, .ref 34, .ref 35, .ref 36, .ref 37, .ref 38, .null, .int 0, .int 0, .null]),
  .inl (0, 203, .inl (FLt 203)),
  .inl (0, 500, .inl (fun _ => 0)),
  .inl (0, 500, .inl (fun _ => 0)),
  .inl (0, 520, .inl (fun _ => 0)),
  .inl (0, 160, .inl (fun _ => 0)),
  .inl (0, 160, .inl (fun _ => 0)),
  .inl (0, 160, .inl (fun _ => 0)),
  .inl (0, 160, .inl (fun _ => 0)),
  .inl (0, 160, .inl (fun _ => 0)),
  .inl (0, 2, .inl (fun _ => 0)),
  .inl (0, 9, .inl (fun _ => 0)),
  .inl (0, 9, .inl (fun _ => 0)),
  .inl (0, 170, .inl (fun _ => 0)),
  .inl (1, 9, .inl (fun _ => 0))]
def yh110 : zH := [.inr (0, [.ref 1, .ref 3, .ref 7, .ref 8, .ref 17, .ref 24, qI 0]),
  .inr (1, [.ref 2, qI 0, qI 0, qI (-2)]),
  .inl (0, 500, .inl (fun _ => 0)),
  .inr (2, [.ref 1, .ref 4, .ref 6, qI 0]),
  .inr (3, [qI 6, .ref 5, qI 0]),
  .inl (0, 1500, .inl (fun _ => 0)),
  .inl (0, 500, .inl (fun _ => 0)),
  .inr (4, [.ref 1, .ref 3]),
  .inr (5, [.ref 1, .ref 3, .int 0, .int 0, .int 0, .int 0, .int 0, .int 0, .ref 9, .ref 11, .ref 13, .ref 15]),
  .inr (3, [qI 1, .ref 10, qI 0]),
  .inl (0, 250, .inl (fun _ => 0)),
  .inr (3, [qI 1, .ref 12, qI 0]),
  .inl (0, 250, .inl (fun _ => 0)),
  .inr (3, [qI 4, .ref 14, qI 0]),
  .inl (0, 248, .inl (fun _ => 0)),
  .inr (3, [qI 2, .ref 16, qI 0]),
  .inl (0, 250, .inl (fun _ => 0)),
  .inr (6, [.ref 1, .ref 3, .ref 8, .ref 18, .ref 20, .ref 22, .int 0, .int 0, .int 0, .int 0, .int 0]),
  .inr (3, [qI 1, .ref 19, qI 0]),
  .inl (0, 250, .inl (fun _ => 0)),
  .inr (3, [qI 8, .ref 21, qI 0]),
  .inl (0, 496, .inl (fun _ => 0)),
  .inr (3, [qI 8, .ref 23, qI 0]),
  .inl (0, 496, .inl (fun _ => 0)),
  .inr (7, [.ref 3, .int 0, .int 0, .int 0]),
  .inr (8, [.ref 26, .ref 27, .ref 28, .int 0, .int 0, .int 0, qI (-2), .int 0, .int 0, .int 0, .ref 29, .int 0, .int 0, .int 0, .int 0, .int 0, .int 0, .ref 30, .ref 31, .ref 32, .ref 33, .ref 34, .ref 35, .ref 36, .ref 37, .ref 38, .ref 39, .int 0, .int 0, .null]),
  .inl (0, 203, .inl (FLt 203)),
  .inl (0, 500, .inl (fun _ => 0)),
  .inl (0, 500, .inl (fun _ => 0)),
  .inl (0, 520, .inl (fun _ => 0)),
  .inl (0, 160, .inl (fun _ => 0)),
  .inl (0, 160, .inl (fun _ => 0)),
  .inl (0, 160, .inl (fun _ => 0)),
  .inl (0, 160, .inl (fun _ => 0)),
  .inl (0, 160, .inl (fun _ => 0)),
  .inl (0, 2, .inl (fun _ => 0)),
  .inl (0, 9, .inl (fun _ => 0)),
  .inl (0, 9, .inl (fun _ => 0)),
  .inl (0, 170, .inl (fun _ => 0)),
  .inl (1, 9, .inl (fun _ => 0))]
def yh111 : zH := [.inr (0, [.ref 1, .ref 3, .ref 7, .ref 8, .ref 17, .ref 24, qI 0]),
  .inr (1, [.ref 2, qI 0, qI 0, qI (-2)]),
  .inl (0, 500, .inl (fun _ => 0)),
  .inr (2, [.ref 1, .ref 4, .ref 6, qI 0]),
  .inr (3, [qI 6, .ref 5, qI 0]),
  .inl (0, 1500, .inl (fun _ => 0)),
  .inl (0, 500, .inl (fun _ => 0)),
  .inr (4, [.ref 1, .ref 3]),
  .inr (5, [.ref 1, .ref 3, .int 0, .int 0, .int 0, .int 0, .int 0, .int 0, .ref 9, .ref 11, .ref 13, .ref 15]),
  .inr (3, [qI 1, .ref 10, qI 0]),
  .inl (0, 250, .inl (fun _ => 0)),
  .inr (3, [qI 1, .ref 12, qI 0]),
  .inl (0, 250, .inl (fun _ => 0)),
  .inr (3, [qI 4, .ref 14, qI 0]),
  .inl (0, 248, .inl (fun _ => 0)),
  .inr (3, [qI 2, .ref 16, qI 0]),
  .inl (0, 250, .inl (fun _ => 0)),
  .inr (6, [.ref 1, .ref 3, .ref 8, .ref 18, .ref 20, .ref 22, .int 0, .int 0, .int 0, .int 0, .int 0]),
  .inr (3, [qI 1, .ref 19, qI 0]),
  .inl (0, 250, .inl (fun _ => 0)),
  .inr (3, [qI 8, .ref 21, qI 0]),
  .inl (0, 496, .inl (fun _ => 0)),
  .inr (3, [qI 8, .ref 23, qI 0]),
  .inl (0, 496, .inl (fun _ => 0)),
  .inr (7, [.ref 3, .int 0, .int 0, .int 0]),
  .inr (8, [.ref 26, .ref 27, .ref 28, .int 0, .int 0, .int 0, qI (-2), .int 0, .int 0, .int 0, .ref 29, .int 0, .int 0, .int 0, .int 0, .int 0, .int 0, .ref 30, .ref 31, .ref 32, .ref 33, .ref 34, .ref 35, .ref 36, .ref 37, .ref 38, .ref 39, .int 0, .int 0, .null]),
  .inl (0, 203, .inl (FLt 203)),
  .inl (0, 500, .inl (fun _ => 0)),
  .inl (0, 500, .inl (fun _ => 0)),
  .inl (0, 520, .inl (fun _ => 0)),
  .inl (0, 160, .inl (fun _ => 0)),
  .inl (0, 160, .inl (fun _ => 0)),
  .inl (0, 160, .inl (fun _ => 0)),
  .inl (0, 160, .inl (fun _ => 0)),
  .inl (0, 160, .inl (fun _ => 0)),
  .inl (0, 2, .inl (fun _ => 0)),
  .inl (0, 9, .inl (fun _ => 0)),
  .inl (0, 9, .inl (fun _ => 0)),
  .inl (0, 170, .inl (fun _ => 0)),
  .inl (1, 9, .inl (fun _ => 0)),
  .inl (0, 6000, .inl (fun _ => 0))]
def yh112 : zH := [.inr (0, [.ref 1, .ref 3, .ref 7, .ref 8, .ref 17, .ref 24, qI 0]),
  .inr (1, [.ref 2, qI 0, qI 0, qI (-2)]),
  .inl (0, 500, .inl (fun _ => 0)),
  .inr (2, [.ref 1, .ref 4, .ref 6, qI 0]),
  .inr (3, [qI 6, .ref 5, qI 0]),
  .inl (0, 1500, .inl (fun _ => 0)),
  .inl (0, 500, .inl (fun _ => 0)),
  .inr (4, [.ref 1, .ref 3]),
  .inr (5, [.ref 1, .ref 3, .int 0, .int 0, .int 0, .int 0, .int 0, .int 0, .ref 9, .ref 11, .ref 13, .ref 15]),
  .inr (3, [qI 1, .ref 10, qI 0]),
  .inl (0, 250, .inl (fun _ => 0)),
  .inr (3, [qI 1, .ref 12, qI 0]),
  .inl (0, 250, .inl (fun _ => 0)),
  .inr (3, [qI 4, .ref 14, qI 0]),
  .inl (0, 248, .inl (fun _ => 0)),
  .inr (3, [qI 2, .ref 16, qI 0]),
  .inl (0, 250, .inl (fun _ => 0)),
  .inr (6, [.ref 1, .ref 3, .ref 8, .ref 18, .ref 20, .ref 22, .int 0, .int 0, .int 0, .int 0, .int 0]),
  .inr (3, [qI 1, .ref 19, qI 0]),
  .inl (0, 250, .inl (fun _ => 0)),
  .inr (3, [qI 8, .ref 21, qI 0]),
  .inl (0, 496, .inl (fun _ => 0)),
  .inr (3, [qI 8, .ref 23, qI 0]),
  .inl (0, 496, .inl (fun _ => 0)),
  .inr (7, [.ref 3, .int 0, .int 0, .int 0]),
  .inr (8, [.ref 26, .ref 27, .ref 28, .int 0, .int 0, .int 0, qI (-2), .int 0, .int 0, .int 0, .ref 29, .int 0, .int 0, .int 0, .int 0, .int 0, .int 0, .ref 30, .ref 31, .ref 32, .ref 33, .ref 34, .ref 35, .ref 36, .ref 37, .ref 38, .ref 39, .int 0, .int 0, .ref 40]),
  .inl (0, 203, .inl (FLt 203)),
  .inl (0, 500, .inl (fun _ => 0)),
  .inl (0, 500, .inl (fun _ => 0)),
  .inl (0, 520, .inl (fun _ => 0)),
  .inl (0, 160, .inl (fun _ => 0)),
  .inl (0, 160, .inl (fun _ => 0)),
  .inl (0, 160, .inl (fun _ => 0)),
  .inl (0, 160, .inl (fun _ => 0)),
  .inl (0, 160, .inl (fun _ => 0)),
  .inl (0, 2, .inl (fun _ => 0)),
  .inl (0, 9, .inl (fun _ => 0)),
  .inl (0, 9, .inl (fun _ => 0)),
  .inl (0, 170, .inl (fun _ => 0)),
  .inl (1, 9, .inl (fun _ => 0)),
  .inl (0, 6000, .inl (fun _ => 0))]
def yh113 : zH := [.inr (0, [.ref 1, .ref 3, .ref 7, .ref 8, .ref 17, .ref 24, qI 0]),
  .inr (1, [.ref 2, qI 0, qI 0, qI (-2)]),
  .inl (0, 500, .inl (fun _ => 0)),
  .inr (2, [.ref 1, .ref 4, .ref 6, qI 0]),
  .inr (3, [qI 6, .ref 5, qI 0]),
  .inl (0, 1500, .inl (fun _ => 0)),
  .inl (0, 500, .inl (fun _ => 0)),
  .inr (4, [.ref 1, .ref 3]),
  .inr (5, [.ref 1, .ref 3, .int 0, .int 0, .int 0, .int 0, .int 0, .int 0, .ref 9, .ref 11, .ref 13, .ref 15]),
  .inr (3, [qI 1, .ref 10, qI 0]),
  .inl (0, 250, .inl (fun _ => 0)),
  .inr (3, [qI 1, .ref 12, qI 0]),
  .inl (0, 250, .inl (fun _ => 0)),
  .inr (3, [qI 4, .ref 14, qI 0]),
  .inl (0, 248, .inl (fun _ => 0)),
  .inr (3, [qI 2, .ref 16, qI 0]),
  .inl (0, 250, .inl (fun _ => 0)),
  .inr (6, [.ref 1, .ref 3, .ref 8, .ref 18, .ref 20, .ref 22, .int 0, .int 0, .int 0, .int 0, .int 0]),
  .inr (3, [qI 1, .ref 19, qI 0]),
  .inl (0, 250, .inl (fun _ => 0)),
  .inr (3, [qI 8, .ref 21, qI 0]),
  .inl (0, 496, .inl (fun _ => 0)),
  .inr (3, [qI 8, .ref 23, qI 0]),
  .inl (0, 496, .inl (fun _ => 0)),
  .inr (7, [.ref 3, .int 0, .int 0, .int 0]),
  .inr (8, [.ref 26, .ref 27, .ref 28, .int 0, .int 0, .int 0, qI (-2), .int 0, .int 0, .int 0, .ref 29, .int 0, .int 0, .int 0, .int 0, .int 0, .int 0, .ref 30, .ref 31, .ref 32, .ref 33, .ref 34, .ref 35, .ref 36, .ref 37, .ref 38, .ref 39, .int 0, .int 0, .ref 40]),
  .inl (0, 203, .inl (FLt 203)),
  .inl (0, 500, .inl (fun _ => 0)),
  .inl (0, 500, .inl (fun _ => 0)),
  .inl (0, 520, .inl (fun _ => 0)),
  .inl (0, 160, .inl (fun _ => 0)),
  .inl (0, 160, .inl (fun _ => 0)),
  .inl (0, 160, .inl (fun _ => 0)),
  .inl (0, 160, .inl (fun _ => 0)),
  .inl (0, 160, .inl (fun _ => 0)),
  .inl (0, 2, .inl (fun _ => 0)),
  .inl (0, 9, .inl (fun _ => 0)),
  .inl (0, 9, .inl (fun _ => 0)),
  .inl (0, 170, .inl (fun _ => 0)),
  .inl (1, 9, .inl (fun _ => 0)),
  .inl (0, 6000, .inl (fun _ => 0)),
  .inl (2, 1, .inr (.inl (fun _ => 0)))]
def yh114 : zH := [.inr (0, [.ref 1, .ref 3, .ref 7, .ref 8, .ref 17, .ref 24, qI 0]),
  .inr (1, [.ref 2, qI 0, qI 0, qI (-2)]),
  .inl (0, 500, .inl (fun _ => 0)),
  .inr (2, [.ref 1, .ref 4, .ref 6, qI 0]),
  .inr (3, [qI 6, .ref 5, qI 0]),
  .inl (0, 1500, .inl (fun _ => 0)),
  .inl (0, 500, .inl (fun _ => 0)),
  .inr (4, [.ref 1, .ref 3]),
  .inr (5, [.ref 1, .ref 3, .int 0, .int 0, .int 0, .int 0, .int 0, .int 0, .ref 9, .ref 11, .ref 13, .ref 15]),
  .inr (3, [qI 1, .ref 10, qI 0]),
  .inl (0, 250, .inl (fun _ => 0)),
  .inr (3, [qI 1, .ref 12, qI 0]),
  .inl (0, 250, .inl (fun _ => 0)),
  .inr (3, [qI 4, .ref 14, qI 0]),
  .inl (0, 248, .inl (fun _ => 0)),
  .inr (3, [qI 2, .ref 16, qI 0]),
  .inl (0, 250, .inl (fun _ => 0)),
  .inr (6, [.ref 1, .ref 3, .ref 8, .ref 18, .ref 20, .ref 22, .int 0, .int 0, .int 0, .int 0, .int 0]),
  .inr (3, [qI 1, .ref 19, qI 0]),
  .inl (0, 250, .inl (fun _ => 0)),
  .inr (3, [qI 8, .ref 21, qI 0]),
  .inl (0, 496, .inl (fun _ => 0)),
  .inr (3, [qI 8, .ref 23, qI 0]),
  .inl (0, 496, .inl (fun _ => 0)),
  .inr (7, [.ref 3, .int 0, .int 0, .int 0]),
  .inr (8, [.ref 26, .ref 27, .ref 28, .int 0, .int 0, .int 0, qI (-2), .int 0, .int 0, .int 0, .ref 29, .int 0, .int 0, .int 0, .int 0, .int 0, .int 0, .ref 30, .ref 31, .ref 32, .ref 33, .ref 34, .ref 35, .ref 36, .ref 37, .ref 38, .ref 39, .int 0, .int 0, .ref 40]),
  .inl (0, 203, .inl (FLt 203)),
  .inl (0, 500, .inl (fun _ => 0)),
  .inl (0, 500, .inl (fun _ => 0)),
  .inl (0, 520, .inl (fun _ => 0)),
  .inl (0, 160, .inl (fun _ => 0)),
  .inl (0, 160, .inl (fun _ => 0)),
  .inl (0, 160, .inl (fun _ => 0)),
  .inl (0, 160, .inl (fun _ => 0)),
  .inl (0, 160, .inl (fun _ => 0)),
  .inl (0, 2, .inl (fun _ => 0)),
  .inl (0, 9, .inl (fun _ => 0)),
  .inl (0, 9, .inl (fun _ => 0)),
  .inl (0, 170, .inl (fun _ => 0)),
  .inl (1, 9, .inl (fun _ => 0)),
  .inl (0, 6000, .inl (fun _ => 0)),
  .inl (2, 1, .inr (.inl (fun _ => 0))),
  .inl (3, 1, .inr (.inr (.inr (.inl (fun _ => 0)))))]
set_option maxRecDepth 100000 in
theorem yc1 {w : qE} : zX w.T 1 1 [.ref 1] yh2 (.inl none, yh7, 1, 500) := by
  refine yR.zX (M := qm1) (l := [(0, .ref 1)]) qtm_1 rfl (Nat.le_of_ble_eq_true rfl) (zsub_c rfl zsub_n) ?_
  refine yS_aload_n qd_1_0 rfl ?_
  refine yS_oi qd_1_1 (qml_1_3 w) (Nat.le_of_ble_eq_true rfl) ?_
  refine yS_aload_n qd_1_4 rfl ?_
  refine yS_sipush qd_1_5 (by decide) ?_
  refine yS_newI (a := 2) (n := 500) (Hp1 := yh3) qd_1_8 (by decide) (by decide) rfl rfl ?_
  refine yS_putf (fs := [.null, .int 0, .int 0, .int 0]) (fs' := [.ref 2, .int 0, .int 0, .int 0]) (Hp1 := yh4) qd_1_10 (qfl_1_9 w) rfl rfl rfl (Nat.le_of_ble_eq_true rfl) rfl rfl rfl ?_
  refine yS_aload_n qd_1_13 rfl ?_
  refine yS_iconst qd_1_14 ?_
  refine yS_putf (fs := [.ref 2, .int 0, .int 0, .int 0]) (fs' := [.ref 2, qI 0, .int 0, .int 0]) (Hp1 := yh5) qd_1_15 (qfl_1_15 w) rfl rfl rfl (Nat.le_of_ble_eq_true rfl) rfl rfl rfl ?_
  refine yS_aload_n qd_1_18 rfl ?_
  refine yS_iconst qd_1_19 ?_
  refine yS_putf (fs := [.ref 2, qI 0, .int 0, .int 0]) (fs' := [.ref 2, qI 0, qI 0, .int 0]) (Hp1 := yh6) qd_1_20 (qfl_1_19 w) rfl rfl rfl (Nat.le_of_ble_eq_true rfl) rfl rfl rfl ?_
  refine yS_aload_n qd_1_23 rfl ?_
  refine yS_bipush qd_1_24 (by decide) ?_
  refine yS_putf (fs := [.ref 2, qI 0, qI 0, .int 0]) (fs' := [.ref 2, qI 0, qI 0, qI (-2)]) (Hp1 := yh7) qd_1_26 (qfl_1_22 w) rfl rfl rfl (Nat.le_of_ble_eq_true rfl) rfl rfl rfl ?_
  exact yS_vreturn qd_1_29 rfl rfl
set_option maxRecDepth 100000 in
theorem yc2 {w : qE} : zX w.T 1 3 [.ref 4, qI 6, qI 250] yh11 (.inl none, yh15, 1, 1500) := by
  refine yR.zX (M := qm3) (l := [(0, .ref 4), (1, qI 6), (2, qI 250)]) qtm_3 rfl (Nat.le_of_ble_eq_true rfl) (zsub_c rfl (zsub_c rfl (zsub_c rfl zsub_n))) ?_
  refine yS_aload_n qd_3_0 rfl ?_
  refine yS_oi qd_3_1 (qml_3_3 w) (Nat.le_of_ble_eq_true rfl) ?_
  refine yS_aload_n qd_3_4 rfl ?_
  refine yS_iload_n qd_3_5 rfl ?_
  refine yS_putf (fs := [.int 0, .null, .int 0]) (fs' := [qI 6, .null, .int 0]) (Hp1 := yh12) qd_3_6 (qfl_3_9 w) rfl rfl rfl (Nat.le_of_ble_eq_true rfl) rfl rfl rfl ?_
  refine yS_aload_n qd_3_9 rfl ?_
  refine yS_iload_n qd_3_10 rfl ?_
  refine yS_iload_n qd_3_11 rfl ?_
  refine yS_imul (a := 6) (b := 250) qd_3_12 ?_
  refine yS_newI (a := 5) (n := 1500) (Hp1 := yh13) qd_3_13 (by decide) (by decide) rfl rfl ?_
  refine yS_putf (fs := [qI 6, .null, .int 0]) (fs' := [qI 6, .ref 5, .int 0]) (Hp1 := yh14) qd_3_15 (qfl_3_15 w) rfl rfl rfl (Nat.le_of_ble_eq_true rfl) rfl rfl rfl ?_
  refine yS_aload_n qd_3_18 rfl ?_
  refine yS_iconst qd_3_19 ?_
  refine yS_putf (fs := [qI 6, .ref 5, .int 0]) (fs' := [qI 6, .ref 5, qI 0]) (Hp1 := yh15) qd_3_20 (qfl_3_19 w) rfl rfl rfl (Nat.le_of_ble_eq_true rfl) rfl rfl rfl ?_
  exact yS_vreturn qd_3_23 rfl rfl
set_option maxRecDepth 100000 in
theorem yc3 {w : qE} : zX w.T 2 2 [.ref 3, .ref 1] yh9 (.inl none, yh19, 3, 2003) := by
  refine yR.zX (M := qm2) (l := [(0, .ref 3), (1, .ref 1)]) qtm_2 rfl (Nat.le_of_ble_eq_true rfl) (zsub_c rfl (zsub_c rfl zsub_n)) ?_
  refine yS_aload_n qd_2_0 rfl ?_
  refine yS_oi qd_2_1 (qml_2_3 w) (Nat.le_of_ble_eq_true rfl) ?_
  refine yS_aload_n qd_2_4 rfl ?_
  refine yS_aload_n qd_2_5 rfl ?_
  refine yS_putf (fs := [.null, .null, .null, .int 0]) (fs' := [.ref 1, .null, .null, .int 0]) (Hp1 := yh10) qd_2_6 (qfl_2_9 w) rfl rfl rfl (Nat.le_of_ble_eq_true rfl) rfl rfl rfl ?_
  refine yS_aload_n qd_2_9 rfl ?_
  refine yS_new (a := 4) (q := ("ClassReader$Table", qF3, 3)) (fs := [.int 0, .null, .int 0]) (Hp1 := yh11) qd_2_10 (qnlk_2_15 w) (qxlk_2_15 w) rfl rfl rfl rfl ?_
  refine yS_dup qd_2_13 rfl ?_
  refine yS_bipush qd_2_14 (by decide) ?_
  refine yS_sipush qd_2_16 (by decide) ?_
  refine yS_ctor qd_2_19 (qml_2_17 w) rfl (Nat.le_of_ble_eq_true rfl) (Nat.le_of_ble_eq_true rfl) yc2 ?_
  refine yS_putf (fs := [.ref 1, .null, .null, .int 0]) (fs' := [.ref 1, .ref 4, .null, .int 0]) (Hp1 := yh16) qd_2_22 (qfl_2_20 w) rfl rfl rfl (Nat.le_of_ble_eq_true rfl) rfl rfl rfl ?_
  refine yS_aload_n qd_2_25 rfl ?_
  refine yS_sipush qd_2_26 (by decide) ?_
  refine yS_newI (a := 6) (n := 500) (Hp1 := yh17) qd_2_29 (by decide) (by decide) rfl rfl ?_
  refine yS_putf (fs := [.ref 1, .ref 4, .null, .int 0]) (fs' := [.ref 1, .ref 4, .ref 6, .int 0]) (Hp1 := yh18) qd_2_31 (qfl_2_24 w) rfl rfl rfl (Nat.le_of_ble_eq_true rfl) rfl rfl rfl ?_
  refine yS_aload_n qd_2_34 rfl ?_
  refine yS_iconst qd_2_35 ?_
  refine yS_putf (fs := [.ref 1, .ref 4, .ref 6, .int 0]) (fs' := [.ref 1, .ref 4, .ref 6, qI 0]) (Hp1 := yh19) qd_2_36 (qfl_2_28 w) rfl rfl rfl (Nat.le_of_ble_eq_true rfl) rfl rfl rfl ?_
  exact yS_vreturn qd_2_39 rfl rfl
set_option maxRecDepth 100000 in
theorem yc4 {w : qE} : zX w.T 1 4 [.ref 7, .ref 1, .ref 3] yh21 (.inl none, yh23, 0, 0) := by
  refine yR.zX (M := qm4) (l := [(0, .ref 7), (1, .ref 1), (2, .ref 3)]) qtm_4 rfl (Nat.le_of_ble_eq_true rfl) (zsub_c rfl (zsub_c rfl (zsub_c rfl zsub_n))) ?_
  refine yS_aload_n qd_4_0 rfl ?_
  refine yS_oi qd_4_1 (qml_4_3 w) (Nat.le_of_ble_eq_true rfl) ?_
  refine yS_aload_n qd_4_4 rfl ?_
  refine yS_aload_n qd_4_5 rfl ?_
  refine yS_putf (fs := [.null, .null]) (fs' := [.ref 1, .null]) (Hp1 := yh22) qd_4_6 (qfl_4_9 w) rfl rfl rfl (Nat.le_of_ble_eq_true rfl) rfl rfl rfl ?_
  refine yS_aload_n qd_4_9 rfl ?_
  refine yS_aload_n qd_4_10 rfl ?_
  refine yS_putf (fs := [.ref 1, .null]) (fs' := [.ref 1, .ref 3]) (Hp1 := yh23) qd_4_11 (qfl_4_15 w) rfl rfl rfl (Nat.le_of_ble_eq_true rfl) rfl rfl rfl ?_
  exact yS_vreturn qd_4_14 rfl rfl
set_option maxRecDepth 100000 in
theorem yc5 {w : qE} : zX w.T 1 3 [.ref 9, qI 1, qI 250] yh28 (.inl none, yh32, 1, 250) := by
  refine yR.zX (M := qm3) (l := [(0, .ref 9), (1, qI 1), (2, qI 250)]) qtm_3 rfl (Nat.le_of_ble_eq_true rfl) (zsub_c rfl (zsub_c rfl (zsub_c rfl zsub_n))) ?_
  refine yS_aload_n qd_3_0 rfl ?_
  refine yS_oi qd_3_1 (qml_3_3 w) (Nat.le_of_ble_eq_true rfl) ?_
  refine yS_aload_n qd_3_4 rfl ?_
  refine yS_iload_n qd_3_5 rfl ?_
  refine yS_putf (fs := [.int 0, .null, .int 0]) (fs' := [qI 1, .null, .int 0]) (Hp1 := yh29) qd_3_6 (qfl_3_9 w) rfl rfl rfl (Nat.le_of_ble_eq_true rfl) rfl rfl rfl ?_
  refine yS_aload_n qd_3_9 rfl ?_
  refine yS_iload_n qd_3_10 rfl ?_
  refine yS_iload_n qd_3_11 rfl ?_
  refine yS_imul (a := 1) (b := 250) qd_3_12 ?_
  refine yS_newI (a := 10) (n := 250) (Hp1 := yh30) qd_3_13 (by decide) (by decide) rfl rfl ?_
  refine yS_putf (fs := [qI 1, .null, .int 0]) (fs' := [qI 1, .ref 10, .int 0]) (Hp1 := yh31) qd_3_15 (qfl_3_15 w) rfl rfl rfl (Nat.le_of_ble_eq_true rfl) rfl rfl rfl ?_
  refine yS_aload_n qd_3_18 rfl ?_
  refine yS_iconst qd_3_19 ?_
  refine yS_putf (fs := [qI 1, .ref 10, .int 0]) (fs' := [qI 1, .ref 10, qI 0]) (Hp1 := yh32) qd_3_20 (qfl_3_19 w) rfl rfl rfl (Nat.le_of_ble_eq_true rfl) rfl rfl rfl ?_
  exact yS_vreturn qd_3_23 rfl rfl
set_option maxRecDepth 100000 in
theorem yc6 {w : qE} : zX w.T 1 3 [.ref 11, qI 1, qI 250] yh34 (.inl none, yh38, 1, 250) := by
  refine yR.zX (M := qm3) (l := [(0, .ref 11), (1, qI 1), (2, qI 250)]) qtm_3 rfl (Nat.le_of_ble_eq_true rfl) (zsub_c rfl (zsub_c rfl (zsub_c rfl zsub_n))) ?_
  refine yS_aload_n qd_3_0 rfl ?_
  refine yS_oi qd_3_1 (qml_3_3 w) (Nat.le_of_ble_eq_true rfl) ?_
  refine yS_aload_n qd_3_4 rfl ?_
  refine yS_iload_n qd_3_5 rfl ?_
  refine yS_putf (fs := [.int 0, .null, .int 0]) (fs' := [qI 1, .null, .int 0]) (Hp1 := yh35) qd_3_6 (qfl_3_9 w) rfl rfl rfl (Nat.le_of_ble_eq_true rfl) rfl rfl rfl ?_
  refine yS_aload_n qd_3_9 rfl ?_
  refine yS_iload_n qd_3_10 rfl ?_
  refine yS_iload_n qd_3_11 rfl ?_
  refine yS_imul (a := 1) (b := 250) qd_3_12 ?_
  refine yS_newI (a := 12) (n := 250) (Hp1 := yh36) qd_3_13 (by decide) (by decide) rfl rfl ?_
  refine yS_putf (fs := [qI 1, .null, .int 0]) (fs' := [qI 1, .ref 12, .int 0]) (Hp1 := yh37) qd_3_15 (qfl_3_15 w) rfl rfl rfl (Nat.le_of_ble_eq_true rfl) rfl rfl rfl ?_
  refine yS_aload_n qd_3_18 rfl ?_
  refine yS_iconst qd_3_19 ?_
  refine yS_putf (fs := [qI 1, .ref 12, .int 0]) (fs' := [qI 1, .ref 12, qI 0]) (Hp1 := yh38) qd_3_20 (qfl_3_19 w) rfl rfl rfl (Nat.le_of_ble_eq_true rfl) rfl rfl rfl ?_
  exact yS_vreturn qd_3_23 rfl rfl
set_option maxRecDepth 100000 in
theorem yc7 {w : qE} : zX w.T 1 3 [.ref 13, qI 4, qI 62] yh40 (.inl none, yh44, 1, 248) := by
  refine yR.zX (M := qm3) (l := [(0, .ref 13), (1, qI 4), (2, qI 62)]) qtm_3 rfl (Nat.le_of_ble_eq_true rfl) (zsub_c rfl (zsub_c rfl (zsub_c rfl zsub_n))) ?_
  refine yS_aload_n qd_3_0 rfl ?_
  refine yS_oi qd_3_1 (qml_3_3 w) (Nat.le_of_ble_eq_true rfl) ?_
  refine yS_aload_n qd_3_4 rfl ?_
  refine yS_iload_n qd_3_5 rfl ?_
  refine yS_putf (fs := [.int 0, .null, .int 0]) (fs' := [qI 4, .null, .int 0]) (Hp1 := yh41) qd_3_6 (qfl_3_9 w) rfl rfl rfl (Nat.le_of_ble_eq_true rfl) rfl rfl rfl ?_
  refine yS_aload_n qd_3_9 rfl ?_
  refine yS_iload_n qd_3_10 rfl ?_
  refine yS_iload_n qd_3_11 rfl ?_
  refine yS_imul (a := 4) (b := 62) qd_3_12 ?_
  refine yS_newI (a := 14) (n := 248) (Hp1 := yh42) qd_3_13 (by decide) (by decide) rfl rfl ?_
  refine yS_putf (fs := [qI 4, .null, .int 0]) (fs' := [qI 4, .ref 14, .int 0]) (Hp1 := yh43) qd_3_15 (qfl_3_15 w) rfl rfl rfl (Nat.le_of_ble_eq_true rfl) rfl rfl rfl ?_
  refine yS_aload_n qd_3_18 rfl ?_
  refine yS_iconst qd_3_19 ?_
  refine yS_putf (fs := [qI 4, .ref 14, .int 0]) (fs' := [qI 4, .ref 14, qI 0]) (Hp1 := yh44) qd_3_20 (qfl_3_19 w) rfl rfl rfl (Nat.le_of_ble_eq_true rfl) rfl rfl rfl ?_
  exact yS_vreturn qd_3_23 rfl rfl
set_option maxRecDepth 100000 in
theorem yc8 {w : qE} : zX w.T 1 3 [.ref 15, qI 2, qI 125] yh46 (.inl none, yh50, 1, 250) := by
  refine yR.zX (M := qm3) (l := [(0, .ref 15), (1, qI 2), (2, qI 125)]) qtm_3 rfl (Nat.le_of_ble_eq_true rfl) (zsub_c rfl (zsub_c rfl (zsub_c rfl zsub_n))) ?_
  refine yS_aload_n qd_3_0 rfl ?_
  refine yS_oi qd_3_1 (qml_3_3 w) (Nat.le_of_ble_eq_true rfl) ?_
  refine yS_aload_n qd_3_4 rfl ?_
  refine yS_iload_n qd_3_5 rfl ?_
  refine yS_putf (fs := [.int 0, .null, .int 0]) (fs' := [qI 2, .null, .int 0]) (Hp1 := yh47) qd_3_6 (qfl_3_9 w) rfl rfl rfl (Nat.le_of_ble_eq_true rfl) rfl rfl rfl ?_
  refine yS_aload_n qd_3_9 rfl ?_
  refine yS_iload_n qd_3_10 rfl ?_
  refine yS_iload_n qd_3_11 rfl ?_
  refine yS_imul (a := 2) (b := 125) qd_3_12 ?_
  refine yS_newI (a := 16) (n := 250) (Hp1 := yh48) qd_3_13 (by decide) (by decide) rfl rfl ?_
  refine yS_putf (fs := [qI 2, .null, .int 0]) (fs' := [qI 2, .ref 16, .int 0]) (Hp1 := yh49) qd_3_15 (qfl_3_15 w) rfl rfl rfl (Nat.le_of_ble_eq_true rfl) rfl rfl rfl ?_
  refine yS_aload_n qd_3_18 rfl ?_
  refine yS_iconst qd_3_19 ?_
  refine yS_putf (fs := [qI 2, .ref 16, .int 0]) (fs' := [qI 2, .ref 16, qI 0]) (Hp1 := yh50) qd_3_20 (qfl_3_19 w) rfl rfl rfl (Nat.le_of_ble_eq_true rfl) rfl rfl rfl ?_
  exact yS_vreturn qd_3_23 rfl rfl
set_option maxRecDepth 100000 in
theorem yc9 {w : qE} : zX w.T 2 5 [.ref 8, .ref 1, .ref 3] yh25 (.inl none, yh51, 8, 1010) := by
  refine yR.zX (M := qm5) (l := [(0, .ref 8), (1, .ref 1), (2, .ref 3)]) qtm_5 rfl (Nat.le_of_ble_eq_true rfl) (zsub_c rfl (zsub_c rfl (zsub_c rfl zsub_n))) ?_
  refine yS_aload_n qd_5_0 rfl ?_
  refine yS_oi qd_5_1 (qml_5_3 w) (Nat.le_of_ble_eq_true rfl) ?_
  refine yS_aload_n qd_5_4 rfl ?_
  refine yS_aload_n qd_5_5 rfl ?_
  refine yS_putf (fs := [.null, .null, .int 0, .int 0, .int 0, .int 0, .int 0, .int 0, .null, .null, .null, .null]) (fs' := [.ref 1, .null, .int 0, .int 0, .int 0, .int 0, .int 0, .int 0, .null, .null, .null, .null]) (Hp1 := yh26) qd_5_6 (qfl_5_9 w) rfl rfl rfl (Nat.le_of_ble_eq_true rfl) rfl rfl rfl ?_
  refine yS_aload_n qd_5_9 rfl ?_
  refine yS_aload_n qd_5_10 rfl ?_
  refine yS_putf (fs := [.ref 1, .null, .int 0, .int 0, .int 0, .int 0, .int 0, .int 0, .null, .null, .null, .null]) (fs' := [.ref 1, .ref 3, .int 0, .int 0, .int 0, .int 0, .int 0, .int 0, .null, .null, .null, .null]) (Hp1 := yh27) qd_5_11 (qfl_5_15 w) rfl rfl rfl (Nat.le_of_ble_eq_true rfl) rfl rfl rfl ?_
  refine yS_aload_n qd_5_14 rfl ?_
  refine yS_new (a := 9) (q := ("ClassReader$Table", qF3, 3)) (fs := [.int 0, .null, .int 0]) (Hp1 := yh28) qd_5_15 (qnlk_5_19 w) (qxlk_5_19 w) rfl rfl rfl rfl ?_
  refine yS_dup qd_5_18 rfl ?_
  refine yS_iconst qd_5_19 ?_
  refine yS_sipush qd_5_20 (by decide) ?_
  refine yS_ctor qd_5_23 (qml_5_21 w) rfl (Nat.le_of_ble_eq_true rfl) (Nat.le_of_ble_eq_true rfl) yc5 ?_
  refine yS_putf (fs := [.ref 1, .ref 3, .int 0, .int 0, .int 0, .int 0, .int 0, .int 0, .null, .null, .null, .null]) (fs' := [.ref 1, .ref 3, .int 0, .int 0, .int 0, .int 0, .int 0, .int 0, .ref 9, .null, .null, .null]) (Hp1 := yh33) qd_5_26 (qfl_5_24 w) rfl rfl rfl (Nat.le_of_ble_eq_true rfl) rfl rfl rfl ?_
  refine yS_aload_n qd_5_29 rfl ?_
  refine yS_new (a := 11) (q := ("ClassReader$Table", qF3, 3)) (fs := [.int 0, .null, .int 0]) (Hp1 := yh34) qd_5_30 (qnlk_5_19 w) (qxlk_5_19 w) rfl rfl rfl rfl ?_
  refine yS_dup qd_5_33 rfl ?_
  refine yS_iconst qd_5_34 ?_
  refine yS_sipush qd_5_35 (by decide) ?_
  refine yS_ctor qd_5_38 (qml_5_21 w) rfl (Nat.le_of_ble_eq_true rfl) (Nat.le_of_ble_eq_true rfl) yc6 ?_
  refine yS_putf (fs := [.ref 1, .ref 3, .int 0, .int 0, .int 0, .int 0, .int 0, .int 0, .ref 9, .null, .null, .null]) (fs' := [.ref 1, .ref 3, .int 0, .int 0, .int 0, .int 0, .int 0, .int 0, .ref 9, .ref 11, .null, .null]) (Hp1 := yh39) qd_5_41 (qfl_5_28 w) rfl rfl rfl (Nat.le_of_ble_eq_true rfl) rfl rfl rfl ?_
  refine yS_aload_n qd_5_44 rfl ?_
  refine yS_new (a := 13) (q := ("ClassReader$Table", qF3, 3)) (fs := [.int 0, .null, .int 0]) (Hp1 := yh40) qd_5_45 (qnlk_5_19 w) (qxlk_5_19 w) rfl rfl rfl rfl ?_
  refine yS_dup qd_5_48 rfl ?_
  refine yS_iconst qd_5_49 ?_
  refine yS_bipush qd_5_50 (by decide) ?_
  refine yS_ctor qd_5_52 (qml_5_21 w) rfl (Nat.le_of_ble_eq_true rfl) (Nat.le_of_ble_eq_true rfl) yc7 ?_
  refine yS_putf (fs := [.ref 1, .ref 3, .int 0, .int 0, .int 0, .int 0, .int 0, .int 0, .ref 9, .ref 11, .null, .null]) (fs' := [.ref 1, .ref 3, .int 0, .int 0, .int 0, .int 0, .int 0, .int 0, .ref 9, .ref 11, .ref 13, .null]) (Hp1 := yh45) qd_5_55 (qfl_5_31 w) rfl rfl rfl (Nat.le_of_ble_eq_true rfl) rfl rfl rfl ?_
  refine yS_aload_n qd_5_58 rfl ?_
  refine yS_new (a := 15) (q := ("ClassReader$Table", qF3, 3)) (fs := [.int 0, .null, .int 0]) (Hp1 := yh46) qd_5_59 (qnlk_5_19 w) (qxlk_5_19 w) rfl rfl rfl rfl ?_
  refine yS_dup qd_5_62 rfl ?_
  refine yS_iconst qd_5_63 ?_
  refine yS_bipush qd_5_64 (by decide) ?_
  refine yS_ctor qd_5_66 (qml_5_21 w) rfl (Nat.le_of_ble_eq_true rfl) (Nat.le_of_ble_eq_true rfl) yc8 ?_
  refine yS_putf (fs := [.ref 1, .ref 3, .int 0, .int 0, .int 0, .int 0, .int 0, .int 0, .ref 9, .ref 11, .ref 13, .null]) (fs' := [.ref 1, .ref 3, .int 0, .int 0, .int 0, .int 0, .int 0, .int 0, .ref 9, .ref 11, .ref 13, .ref 15]) (Hp1 := yh51) qd_5_69 (qfl_5_34 w) rfl rfl rfl (Nat.le_of_ble_eq_true rfl) rfl rfl rfl ?_
  exact yS_vreturn qd_5_72 rfl rfl
set_option maxRecDepth 100000 in
theorem yc10 {w : qE} : zX w.T 1 3 [.ref 18, qI 1, qI 250] yh57 (.inl none, yh61, 1, 250) := by
  refine yR.zX (M := qm3) (l := [(0, .ref 18), (1, qI 1), (2, qI 250)]) qtm_3 rfl (Nat.le_of_ble_eq_true rfl) (zsub_c rfl (zsub_c rfl (zsub_c rfl zsub_n))) ?_
  refine yS_aload_n qd_3_0 rfl ?_
  refine yS_oi qd_3_1 (qml_3_3 w) (Nat.le_of_ble_eq_true rfl) ?_
  refine yS_aload_n qd_3_4 rfl ?_
  refine yS_iload_n qd_3_5 rfl ?_
  refine yS_putf (fs := [.int 0, .null, .int 0]) (fs' := [qI 1, .null, .int 0]) (Hp1 := yh58) qd_3_6 (qfl_3_9 w) rfl rfl rfl (Nat.le_of_ble_eq_true rfl) rfl rfl rfl ?_
  refine yS_aload_n qd_3_9 rfl ?_
  refine yS_iload_n qd_3_10 rfl ?_
  refine yS_iload_n qd_3_11 rfl ?_
  refine yS_imul (a := 1) (b := 250) qd_3_12 ?_
  refine yS_newI (a := 19) (n := 250) (Hp1 := yh59) qd_3_13 (by decide) (by decide) rfl rfl ?_
  refine yS_putf (fs := [qI 1, .null, .int 0]) (fs' := [qI 1, .ref 19, .int 0]) (Hp1 := yh60) qd_3_15 (qfl_3_15 w) rfl rfl rfl (Nat.le_of_ble_eq_true rfl) rfl rfl rfl ?_
  refine yS_aload_n qd_3_18 rfl ?_
  refine yS_iconst qd_3_19 ?_
  refine yS_putf (fs := [qI 1, .ref 19, .int 0]) (fs' := [qI 1, .ref 19, qI 0]) (Hp1 := yh61) qd_3_20 (qfl_3_19 w) rfl rfl rfl (Nat.le_of_ble_eq_true rfl) rfl rfl rfl ?_
  exact yS_vreturn qd_3_23 rfl rfl
set_option maxRecDepth 100000 in
theorem yc11 {w : qE} : zX w.T 1 3 [.ref 20, qI 8, qI 62] yh63 (.inl none, yh67, 1, 496) := by
  refine yR.zX (M := qm3) (l := [(0, .ref 20), (1, qI 8), (2, qI 62)]) qtm_3 rfl (Nat.le_of_ble_eq_true rfl) (zsub_c rfl (zsub_c rfl (zsub_c rfl zsub_n))) ?_
  refine yS_aload_n qd_3_0 rfl ?_
  refine yS_oi qd_3_1 (qml_3_3 w) (Nat.le_of_ble_eq_true rfl) ?_
  refine yS_aload_n qd_3_4 rfl ?_
  refine yS_iload_n qd_3_5 rfl ?_
  refine yS_putf (fs := [.int 0, .null, .int 0]) (fs' := [qI 8, .null, .int 0]) (Hp1 := yh64) qd_3_6 (qfl_3_9 w) rfl rfl rfl (Nat.le_of_ble_eq_true rfl) rfl rfl rfl ?_
  refine yS_aload_n qd_3_9 rfl ?_
  refine yS_iload_n qd_3_10 rfl ?_
  refine yS_iload_n qd_3_11 rfl ?_
  refine yS_imul (a := 8) (b := 62) qd_3_12 ?_
  refine yS_newI (a := 21) (n := 496) (Hp1 := yh65) qd_3_13 (by decide) (by decide) rfl rfl ?_
  refine yS_putf (fs := [qI 8, .null, .int 0]) (fs' := [qI 8, .ref 21, .int 0]) (Hp1 := yh66) qd_3_15 (qfl_3_15 w) rfl rfl rfl (Nat.le_of_ble_eq_true rfl) rfl rfl rfl ?_
  refine yS_aload_n qd_3_18 rfl ?_
  refine yS_iconst qd_3_19 ?_
  refine yS_putf (fs := [qI 8, .ref 21, .int 0]) (fs' := [qI 8, .ref 21, qI 0]) (Hp1 := yh67) qd_3_20 (qfl_3_19 w) rfl rfl rfl (Nat.le_of_ble_eq_true rfl) rfl rfl rfl ?_
  exact yS_vreturn qd_3_23 rfl rfl
set_option maxRecDepth 100000 in
theorem yc12 {w : qE} : zX w.T 1 3 [.ref 22, qI 8, qI 62] yh69 (.inl none, yh73, 1, 496) := by
  refine yR.zX (M := qm3) (l := [(0, .ref 22), (1, qI 8), (2, qI 62)]) qtm_3 rfl (Nat.le_of_ble_eq_true rfl) (zsub_c rfl (zsub_c rfl (zsub_c rfl zsub_n))) ?_
  refine yS_aload_n qd_3_0 rfl ?_
  refine yS_oi qd_3_1 (qml_3_3 w) (Nat.le_of_ble_eq_true rfl) ?_
  refine yS_aload_n qd_3_4 rfl ?_
  refine yS_iload_n qd_3_5 rfl ?_
  refine yS_putf (fs := [.int 0, .null, .int 0]) (fs' := [qI 8, .null, .int 0]) (Hp1 := yh70) qd_3_6 (qfl_3_9 w) rfl rfl rfl (Nat.le_of_ble_eq_true rfl) rfl rfl rfl ?_
  refine yS_aload_n qd_3_9 rfl ?_
  refine yS_iload_n qd_3_10 rfl ?_
  refine yS_iload_n qd_3_11 rfl ?_
  refine yS_imul (a := 8) (b := 62) qd_3_12 ?_
  refine yS_newI (a := 23) (n := 496) (Hp1 := yh71) qd_3_13 (by decide) (by decide) rfl rfl ?_
  refine yS_putf (fs := [qI 8, .null, .int 0]) (fs' := [qI 8, .ref 23, .int 0]) (Hp1 := yh72) qd_3_15 (qfl_3_15 w) rfl rfl rfl (Nat.le_of_ble_eq_true rfl) rfl rfl rfl ?_
  refine yS_aload_n qd_3_18 rfl ?_
  refine yS_iconst qd_3_19 ?_
  refine yS_putf (fs := [qI 8, .ref 23, .int 0]) (fs' := [qI 8, .ref 23, qI 0]) (Hp1 := yh73) qd_3_20 (qfl_3_19 w) rfl rfl rfl (Nat.le_of_ble_eq_true rfl) rfl rfl rfl ?_
  exact yS_vreturn qd_3_23 rfl rfl
set_option maxRecDepth 100000 in
theorem yc13 {w : qE} : zX w.T 2 6 [.ref 17, .ref 1, .ref 3, .ref 8] yh53 (.inl none, yh74, 6, 1251) := by
  refine yR.zX (M := qm6) (l := [(0, .ref 17), (1, .ref 1), (2, .ref 3), (3, .ref 8)]) qtm_6 rfl (Nat.le_of_ble_eq_true rfl) (zsub_c rfl (zsub_c rfl (zsub_c rfl (zsub_c rfl zsub_n)))) ?_
  refine yS_aload_n qd_6_0 rfl ?_
  refine yS_oi qd_6_1 (qml_6_3 w) (Nat.le_of_ble_eq_true rfl) ?_
  refine yS_aload_n qd_6_4 rfl ?_
  refine yS_aload_n qd_6_5 rfl ?_
  refine yS_putf (fs := [.null, .null, .null, .null, .null, .null, .int 0, .int 0, .int 0, .int 0, .int 0]) (fs' := [.ref 1, .null, .null, .null, .null, .null, .int 0, .int 0, .int 0, .int 0, .int 0]) (Hp1 := yh54) qd_6_6 (qfl_6_9 w) rfl rfl rfl (Nat.le_of_ble_eq_true rfl) rfl rfl rfl ?_
  refine yS_aload_n qd_6_9 rfl ?_
  refine yS_aload_n qd_6_10 rfl ?_
  refine yS_putf (fs := [.ref 1, .null, .null, .null, .null, .null, .int 0, .int 0, .int 0, .int 0, .int 0]) (fs' := [.ref 1, .ref 3, .null, .null, .null, .null, .int 0, .int 0, .int 0, .int 0, .int 0]) (Hp1 := yh55) qd_6_11 (qfl_6_15 w) rfl rfl rfl (Nat.le_of_ble_eq_true rfl) rfl rfl rfl ?_
  refine yS_aload_n qd_6_14 rfl ?_
  refine yS_aload_n qd_6_15 rfl ?_
  refine yS_putf (fs := [.ref 1, .ref 3, .null, .null, .null, .null, .int 0, .int 0, .int 0, .int 0, .int 0]) (fs' := [.ref 1, .ref 3, .ref 8, .null, .null, .null, .int 0, .int 0, .int 0, .int 0, .int 0]) (Hp1 := yh56) qd_6_16 (qfl_6_19 w) rfl rfl rfl (Nat.le_of_ble_eq_true rfl) rfl rfl rfl ?_
  refine yS_aload_n qd_6_19 rfl ?_
  refine yS_new (a := 18) (q := ("ClassReader$Table", qF3, 3)) (fs := [.int 0, .null, .int 0]) (Hp1 := yh57) qd_6_20 (qnlk_6_23 w) (qxlk_6_23 w) rfl rfl rfl rfl ?_
  refine yS_dup qd_6_23 rfl ?_
  refine yS_iconst qd_6_24 ?_
  refine yS_sipush qd_6_25 (by decide) ?_
  refine yS_ctor qd_6_28 (qml_6_25 w) rfl (Nat.le_of_ble_eq_true rfl) (Nat.le_of_ble_eq_true rfl) yc10 ?_
  refine yS_putf (fs := [.ref 1, .ref 3, .ref 8, .null, .null, .null, .int 0, .int 0, .int 0, .int 0, .int 0]) (fs' := [.ref 1, .ref 3, .ref 8, .ref 18, .null, .null, .int 0, .int 0, .int 0, .int 0, .int 0]) (Hp1 := yh62) qd_6_31 (qfl_6_28 w) rfl rfl rfl (Nat.le_of_ble_eq_true rfl) rfl rfl rfl ?_
  refine yS_aload_n qd_6_34 rfl ?_
  refine yS_new (a := 20) (q := ("ClassReader$Table", qF3, 3)) (fs := [.int 0, .null, .int 0]) (Hp1 := yh63) qd_6_35 (qnlk_6_23 w) (qxlk_6_23 w) rfl rfl rfl rfl ?_
  refine yS_dup qd_6_38 rfl ?_
  refine yS_bipush qd_6_39 (by decide) ?_
  refine yS_bipush qd_6_41 (by decide) ?_
  refine yS_ctor qd_6_43 (qml_6_25 w) rfl (Nat.le_of_ble_eq_true rfl) (Nat.le_of_ble_eq_true rfl) yc11 ?_
  refine yS_putf (fs := [.ref 1, .ref 3, .ref 8, .ref 18, .null, .null, .int 0, .int 0, .int 0, .int 0, .int 0]) (fs' := [.ref 1, .ref 3, .ref 8, .ref 18, .ref 20, .null, .int 0, .int 0, .int 0, .int 0, .int 0]) (Hp1 := yh68) qd_6_46 (qfl_6_32 w) rfl rfl rfl (Nat.le_of_ble_eq_true rfl) rfl rfl rfl ?_
  refine yS_aload_n qd_6_49 rfl ?_
  refine yS_new (a := 22) (q := ("ClassReader$Table", qF3, 3)) (fs := [.int 0, .null, .int 0]) (Hp1 := yh69) qd_6_50 (qnlk_6_23 w) (qxlk_6_23 w) rfl rfl rfl rfl ?_
  refine yS_dup qd_6_53 rfl ?_
  refine yS_bipush qd_6_54 (by decide) ?_
  refine yS_bipush qd_6_56 (by decide) ?_
  refine yS_ctor qd_6_58 (qml_6_25 w) rfl (Nat.le_of_ble_eq_true rfl) (Nat.le_of_ble_eq_true rfl) yc12 ?_
  refine yS_putf (fs := [.ref 1, .ref 3, .ref 8, .ref 18, .ref 20, .null, .int 0, .int 0, .int 0, .int 0, .int 0]) (fs' := [.ref 1, .ref 3, .ref 8, .ref 18, .ref 20, .ref 22, .int 0, .int 0, .int 0, .int 0, .int 0]) (Hp1 := yh74) qd_6_61 (qfl_6_35 w) rfl rfl rfl (Nat.le_of_ble_eq_true rfl) rfl rfl rfl ?_
  exact yS_vreturn qd_6_64 rfl rfl
set_option maxRecDepth 100000 in
theorem yc14 {w : qE} : zX w.T 1 7 [.ref 24, .ref 3] yh76 (.inl none, yh77, 0, 0) := by
  refine yR.zX (M := qm7) (l := [(0, .ref 24), (1, .ref 3)]) qtm_7 rfl (Nat.le_of_ble_eq_true rfl) (zsub_c rfl (zsub_c rfl zsub_n)) ?_
  refine yS_aload_n qd_7_0 rfl ?_
  refine yS_oi qd_7_1 (qml_7_3 w) (Nat.le_of_ble_eq_true rfl) ?_
  refine yS_aload_n qd_7_4 rfl ?_
  refine yS_aload_n qd_7_5 rfl ?_
  refine yS_putf (fs := [.null, .int 0, .int 0, .int 0]) (fs' := [.ref 3, .int 0, .int 0, .int 0]) (Hp1 := yh77) qd_7_6 (qfl_7_9 w) rfl rfl rfl (Nat.le_of_ble_eq_true rfl) rfl rfl rfl ?_
  exact yS_vreturn qd_7_9 rfl rfl
set_option maxRecDepth 100000 in
theorem yc15 {w : qE} : zX w.T 3 0 [.ref 0] yh1 (.inl none, yh79, 24, 4801) := by
  refine yR.zX (M := qm0) (l := [(0, .ref 0)]) qtm_0 rfl (Nat.le_of_ble_eq_true rfl) (zsub_c rfl zsub_n) ?_
  refine yS_aload_n qd_0_0 rfl ?_
  refine yS_oi qd_0_1 (qml_0_1 w) (Nat.le_of_ble_eq_true rfl) ?_
  refine yS_aload_n qd_0_4 rfl ?_
  refine yS_new (a := 1) (q := ("ClassReader$Source", qF1, 4)) (fs := [.null, .int 0, .int 0, .int 0]) (Hp1 := yh2) qd_0_5 (qnlk_0_7 w) (qxlk_0_7 w) rfl rfl rfl rfl ?_
  refine yS_dup qd_0_8 rfl ?_
  refine yS_ctor qd_0_9 (qml_0_9 w) rfl (Nat.le_of_ble_eq_true rfl) (Nat.le_of_ble_eq_true rfl) yc1 ?_
  refine yS_putf (fs := [.null, .null, .null, .null, .null, .null, .int 0]) (fs' := [.ref 1, .null, .null, .null, .null, .null, .int 0]) (Hp1 := yh8) qd_0_12 (qfl_0_10 w) rfl rfl rfl (Nat.le_of_ble_eq_true rfl) rfl rfl rfl ?_
  refine yS_aload_n qd_0_15 rfl ?_
  refine yS_new (a := 3) (q := ("ClassReader$Pool", qF2, 4)) (fs := [.null, .null, .null, .int 0]) (Hp1 := yh9) qd_0_16 (qnlk_0_16 w) (qxlk_0_16 w) rfl rfl rfl rfl ?_
  refine yS_dup qd_0_19 rfl ?_
  refine yS_aload_n qd_0_20 rfl ?_
  refine yS_getfield (v := .ref 1) (fs := [.ref 1, .null, .null, .null, .null, .null, .int 0]) qd_0_21 (qfl_0_10 w) rfl rfl ?_
  refine yS_ctor qd_0_24 (qml_0_18 w) rfl (Nat.le_of_ble_eq_true rfl) (Nat.le_of_ble_eq_true rfl) yc3 ?_
  refine yS_putf (fs := [.ref 1, .null, .null, .null, .null, .null, .int 0]) (fs' := [.ref 1, .ref 3, .null, .null, .null, .null, .int 0]) (Hp1 := yh20) qd_0_27 (qfl_0_21 w) rfl rfl rfl (Nat.le_of_ble_eq_true rfl) rfl rfl rfl ?_
  refine yS_aload_n qd_0_30 rfl ?_
  refine yS_new (a := 7) (q := ("ClassReader$Links", qF4, 2)) (fs := [.null, .null]) (Hp1 := yh21) qd_0_31 (qnlk_0_25 w) (qxlk_0_25 w) rfl rfl rfl rfl ?_
  refine yS_dup qd_0_34 rfl ?_
  refine yS_aload_n qd_0_35 rfl ?_
  refine yS_getfield (v := .ref 1) (fs := [.ref 1, .ref 3, .null, .null, .null, .null, .int 0]) qd_0_36 (qfl_0_10 w) rfl rfl ?_
  refine yS_aload_n qd_0_39 rfl ?_
  refine yS_getfield (v := .ref 3) (fs := [.ref 1, .ref 3, .null, .null, .null, .null, .int 0]) qd_0_40 (qfl_0_21 w) rfl rfl ?_
  refine yS_ctor qd_0_43 (qml_0_27 w) rfl (Nat.le_of_ble_eq_true rfl) (Nat.le_of_ble_eq_true rfl) yc4 ?_
  refine yS_putf (fs := [.ref 1, .ref 3, .null, .null, .null, .null, .int 0]) (fs' := [.ref 1, .ref 3, .ref 7, .null, .null, .null, .int 0]) (Hp1 := yh24) qd_0_46 (qfl_0_30 w) rfl rfl rfl (Nat.le_of_ble_eq_true rfl) rfl rfl rfl ?_
  refine yS_aload_n qd_0_49 rfl ?_
  refine yS_new (a := 8) (q := ("ClassReader$Attributes", qF5, 12)) (fs := [.null, .null, .int 0, .int 0, .int 0, .int 0, .int 0, .int 0, .null, .null, .null, .null]) (Hp1 := yh25) qd_0_50 (qnlk_0_34 w) (qxlk_0_34 w) rfl rfl rfl rfl ?_
  refine yS_dup qd_0_53 rfl ?_
  refine yS_aload_n qd_0_54 rfl ?_
  refine yS_getfield (v := .ref 1) (fs := [.ref 1, .ref 3, .ref 7, .null, .null, .null, .int 0]) qd_0_55 (qfl_0_10 w) rfl rfl ?_
  refine yS_aload_n qd_0_58 rfl ?_
  refine yS_getfield (v := .ref 3) (fs := [.ref 1, .ref 3, .ref 7, .null, .null, .null, .int 0]) qd_0_59 (qfl_0_21 w) rfl rfl ?_
  refine yS_ctor qd_0_62 (qml_0_36 w) rfl (Nat.le_of_ble_eq_true rfl) (Nat.le_of_ble_eq_true rfl) yc9 ?_
  refine yS_putf (fs := [.ref 1, .ref 3, .ref 7, .null, .null, .null, .int 0]) (fs' := [.ref 1, .ref 3, .ref 7, .ref 8, .null, .null, .int 0]) (Hp1 := yh52) qd_0_65 (qfl_0_37 w) rfl rfl rfl (Nat.le_of_ble_eq_true rfl) rfl rfl rfl ?_
  refine yS_aload_n qd_0_68 rfl ?_
  refine yS_new (a := 17) (q := ("ClassReader$Shape", qF6, 11)) (fs := [.null, .null, .null, .null, .null, .null, .int 0, .int 0, .int 0, .int 0, .int 0]) (Hp1 := yh53) qd_0_69 (qnlk_0_41 w) (qxlk_0_41 w) rfl rfl rfl rfl ?_
  refine yS_dup qd_0_72 rfl ?_
  refine yS_aload_n qd_0_73 rfl ?_
  refine yS_getfield (v := .ref 1) (fs := [.ref 1, .ref 3, .ref 7, .ref 8, .null, .null, .int 0]) qd_0_74 (qfl_0_10 w) rfl rfl ?_
  refine yS_aload_n qd_0_77 rfl ?_
  refine yS_getfield (v := .ref 3) (fs := [.ref 1, .ref 3, .ref 7, .ref 8, .null, .null, .int 0]) qd_0_78 (qfl_0_21 w) rfl rfl ?_
  refine yS_aload_n qd_0_81 rfl ?_
  refine yS_getfield (v := .ref 8) (fs := [.ref 1, .ref 3, .ref 7, .ref 8, .null, .null, .int 0]) qd_0_82 (qfl_0_37 w) rfl rfl ?_
  refine yS_ctor qd_0_85 (qml_0_43 w) rfl (Nat.le_of_ble_eq_true rfl) (Nat.le_of_ble_eq_true rfl) yc13 ?_
  refine yS_putf (fs := [.ref 1, .ref 3, .ref 7, .ref 8, .null, .null, .int 0]) (fs' := [.ref 1, .ref 3, .ref 7, .ref 8, .ref 17, .null, .int 0]) (Hp1 := yh75) qd_0_88 (qfl_0_46 w) rfl rfl rfl (Nat.le_of_ble_eq_true rfl) rfl rfl rfl ?_
  refine yS_aload_n qd_0_91 rfl ?_
  refine yS_new (a := 24) (q := ("ClassReader$Words", qF7, 4)) (fs := [.null, .int 0, .int 0, .int 0]) (Hp1 := yh76) qd_0_92 (qnlk_0_50 w) (qxlk_0_50 w) rfl rfl rfl rfl ?_
  refine yS_dup qd_0_95 rfl ?_
  refine yS_aload_n qd_0_96 rfl ?_
  refine yS_getfield (v := .ref 3) (fs := [.ref 1, .ref 3, .ref 7, .ref 8, .ref 17, .null, .int 0]) qd_0_97 (qfl_0_21 w) rfl rfl ?_
  refine yS_ctor qd_0_100 (qml_0_52 w) rfl (Nat.le_of_ble_eq_true rfl) (Nat.le_of_ble_eq_true rfl) yc14 ?_
  refine yS_putf (fs := [.ref 1, .ref 3, .ref 7, .ref 8, .ref 17, .null, .int 0]) (fs' := [.ref 1, .ref 3, .ref 7, .ref 8, .ref 17, .ref 24, .int 0]) (Hp1 := yh78) qd_0_103 (qfl_0_55 w) rfl rfl rfl (Nat.le_of_ble_eq_true rfl) rfl rfl rfl ?_
  refine yS_aload_n qd_0_106 rfl ?_
  refine yS_iconst qd_0_107 ?_
  refine yS_putf (fs := [.ref 1, .ref 3, .ref 7, .ref 8, .ref 17, .ref 24, .int 0]) (fs' := [.ref 1, .ref 3, .ref 7, .ref 8, .ref 17, .ref 24, qI 0]) (Hp1 := yh79) qd_0_108 (qfl_0_59 w) rfl rfl rfl (Nat.le_of_ble_eq_true rfl) rfl rfl rfl ?_
  exact yS_vreturn qd_0_111 rfl rfl
set_option maxRecDepth 100000 in
theorem ylet_0 {w : qE} {R : zRs → Prop} (k : yR w 0 qm122 122 [(0, .ref 25)] [.ref 26, .ref 25] (yh82 (FLt 20)) R) : yR w 0 qm122 10 [(0, .ref 25)] [.ref 26, .ref 25] (yh82 (FLt 0)) R := by
  refine yS_let (k := 0) (p4 := 15) (G := yh82) (fun _ => rfl) (fun _ _ => rfl) qd_122_10 rfl qd_122_11 rfl qd_122_12 rfl qd_122_14 rfl (isPc 0) (isPb 67 (by decide)) (by decide) (by decide) (by decide +kernel) ?_
  refine yS_let (k := 1) (p4 := 20) (G := yh82) (fun _ => rfl) (fun _ _ => rfl) qd_122_15 rfl qd_122_16 rfl qd_122_17 rfl qd_122_19 rfl (isPc 1) (isPb 111 (by decide)) (by decide) (by decide) (by decide +kernel) ?_
  refine yS_let (k := 2) (p4 := 25) (G := yh82) (fun _ => rfl) (fun _ _ => rfl) qd_122_20 rfl qd_122_21 rfl qd_122_22 rfl qd_122_24 rfl (isPc 2) (isPb 110 (by decide)) (by decide) (by decide) (by decide +kernel) ?_
  refine yS_let (k := 3) (p4 := 30) (G := yh82) (fun _ => rfl) (fun _ _ => rfl) qd_122_25 rfl qd_122_26 rfl qd_122_27 rfl qd_122_29 rfl (isPc 3) (isPb 115 (by decide)) (by decide) (by decide) (by decide +kernel) ?_
  refine yS_let (k := 4) (p4 := 35) (G := yh82) (fun _ => rfl) (fun _ _ => rfl) qd_122_30 rfl qd_122_31 rfl qd_122_32 rfl qd_122_34 rfl (isPc 4) (isPb 116 (by decide)) (by decide) (by decide) (by decide +kernel) ?_
  refine yS_let (k := 5) (p4 := 40) (G := yh82) (fun _ => rfl) (fun _ _ => rfl) qd_122_35 rfl qd_122_36 rfl qd_122_37 rfl qd_122_39 rfl (isPc 5) (isPb 97 (by decide)) (by decide) (by decide) (by decide +kernel) ?_
  refine yS_let (k := 6) (p4 := 46) (G := yh82) (fun _ => rfl) (fun _ _ => rfl) qd_122_40 rfl qd_122_41 rfl qd_122_43 rfl qd_122_45 rfl (isPb 6 (by decide)) (isPb 110 (by decide)) (by decide) (by decide) (by decide +kernel) ?_
  refine yS_let (k := 7) (p4 := 52) (G := yh82) (fun _ => rfl) (fun _ _ => rfl) qd_122_46 rfl qd_122_47 rfl qd_122_49 rfl qd_122_51 rfl (isPb 7 (by decide)) (isPb 116 (by decide)) (by decide) (by decide) (by decide +kernel) ?_
  refine yS_let (k := 8) (p4 := 58) (G := yh82) (fun _ => rfl) (fun _ _ => rfl) qd_122_52 rfl qd_122_53 rfl qd_122_55 rfl qd_122_57 rfl (isPb 8 (by decide)) (isPb 86 (by decide)) (by decide) (by decide) (by decide +kernel) ?_
  refine yS_let (k := 9) (p4 := 64) (G := yh82) (fun _ => rfl) (fun _ _ => rfl) qd_122_58 rfl qd_122_59 rfl qd_122_61 rfl qd_122_63 rfl (isPb 9 (by decide)) (isPb 97 (by decide)) (by decide) (by decide) (by decide +kernel) ?_
  refine yS_let (k := 10) (p4 := 70) (G := yh82) (fun _ => rfl) (fun _ _ => rfl) qd_122_64 rfl qd_122_65 rfl qd_122_67 rfl qd_122_69 rfl (isPb 10 (by decide)) (isPb 108 (by decide)) (by decide) (by decide) (by decide +kernel) ?_
  refine yS_let (k := 11) (p4 := 76) (G := yh82) (fun _ => rfl) (fun _ _ => rfl) qd_122_70 rfl qd_122_71 rfl qd_122_73 rfl qd_122_75 rfl (isPb 11 (by decide)) (isPb 117 (by decide)) (by decide) (by decide) (by decide +kernel) ?_
  refine yS_let (k := 12) (p4 := 82) (G := yh82) (fun _ => rfl) (fun _ _ => rfl) qd_122_76 rfl qd_122_77 rfl qd_122_79 rfl qd_122_81 rfl (isPb 12 (by decide)) (isPb 101 (by decide)) (by decide) (by decide) (by decide +kernel) ?_
  refine yS_let (k := 13) (p4 := 87) (G := yh82) (fun _ => rfl) (fun _ _ => rfl) qd_122_82 rfl qd_122_83 rfl qd_122_85 rfl qd_122_86 rfl (isPb 13 (by decide)) (isPc 0) (by decide) (by decide) (by decide +kernel) ?_
  refine yS_let (k := 14) (p4 := 93) (G := yh82) (fun _ => rfl) (fun _ _ => rfl) qd_122_87 rfl qd_122_88 rfl qd_122_90 rfl qd_122_92 rfl (isPb 14 (by decide)) (isPb 67 (by decide)) (by decide) (by decide) (by decide +kernel) ?_
  refine yS_let (k := 15) (p4 := 99) (G := yh82) (fun _ => rfl) (fun _ _ => rfl) qd_122_93 rfl qd_122_94 rfl qd_122_96 rfl qd_122_98 rfl (isPb 15 (by decide)) (isPb 111 (by decide)) (by decide) (by decide) (by decide +kernel) ?_
  refine yS_let (k := 16) (p4 := 105) (G := yh82) (fun _ => rfl) (fun _ _ => rfl) qd_122_99 rfl qd_122_100 rfl qd_122_102 rfl qd_122_104 rfl (isPb 16 (by decide)) (isPb 100 (by decide)) (by decide) (by decide) (by decide +kernel) ?_
  refine yS_let (k := 17) (p4 := 111) (G := yh82) (fun _ => rfl) (fun _ _ => rfl) qd_122_105 rfl qd_122_106 rfl qd_122_108 rfl qd_122_110 rfl (isPb 17 (by decide)) (isPb 101 (by decide)) (by decide) (by decide) (by decide +kernel) ?_
  refine yS_let (k := 18) (p4 := 116) (G := yh82) (fun _ => rfl) (fun _ _ => rfl) qd_122_111 rfl qd_122_112 rfl qd_122_114 rfl qd_122_115 rfl (isPb 18 (by decide)) (isPc 0) (by decide) (by decide) (by decide +kernel) ?_
  refine yS_let (k := 19) (p4 := 122) (G := yh82) (fun _ => rfl) (fun _ _ => rfl) qd_122_116 rfl qd_122_117 rfl qd_122_119 rfl qd_122_121 rfl (isPb 19 (by decide)) (isPb 69 (by decide)) (by decide) (by decide) (by decide +kernel) ?_
  exact k
set_option maxRecDepth 100000 in
theorem ylet_20 {w : qE} {R : zRs → Prop} (k : yR w 0 qm122 241 [(0, .ref 25)] [.ref 26, .ref 25] (yh82 (FLt 40)) R) : yR w 0 qm122 122 [(0, .ref 25)] [.ref 26, .ref 25] (yh82 (FLt 20)) R := by
  refine yS_let (k := 20) (p4 := 128) (G := yh82) (fun _ => rfl) (fun _ _ => rfl) qd_122_122 rfl qd_122_123 rfl qd_122_125 rfl qd_122_127 rfl (isPb 20 (by decide)) (isPb 120 (by decide)) (by decide) (by decide) (by decide +kernel) ?_
  refine yS_let (k := 21) (p4 := 134) (G := yh82) (fun _ => rfl) (fun _ _ => rfl) qd_122_128 rfl qd_122_129 rfl qd_122_131 rfl qd_122_133 rfl (isPb 21 (by decide)) (isPb 99 (by decide)) (by decide) (by decide) (by decide +kernel) ?_
  refine yS_let (k := 22) (p4 := 140) (G := yh82) (fun _ => rfl) (fun _ _ => rfl) qd_122_134 rfl qd_122_135 rfl qd_122_137 rfl qd_122_139 rfl (isPb 22 (by decide)) (isPb 101 (by decide)) (by decide) (by decide) (by decide +kernel) ?_
  refine yS_let (k := 23) (p4 := 146) (G := yh82) (fun _ => rfl) (fun _ _ => rfl) qd_122_140 rfl qd_122_141 rfl qd_122_143 rfl qd_122_145 rfl (isPb 23 (by decide)) (isPb 112 (by decide)) (by decide) (by decide) (by decide +kernel) ?_
  refine yS_let (k := 24) (p4 := 152) (G := yh82) (fun _ => rfl) (fun _ _ => rfl) qd_122_146 rfl qd_122_147 rfl qd_122_149 rfl qd_122_151 rfl (isPb 24 (by decide)) (isPb 116 (by decide)) (by decide) (by decide) (by decide +kernel) ?_
  refine yS_let (k := 25) (p4 := 158) (G := yh82) (fun _ => rfl) (fun _ _ => rfl) qd_122_152 rfl qd_122_153 rfl qd_122_155 rfl qd_122_157 rfl (isPb 25 (by decide)) (isPb 105 (by decide)) (by decide) (by decide) (by decide +kernel) ?_
  refine yS_let (k := 26) (p4 := 164) (G := yh82) (fun _ => rfl) (fun _ _ => rfl) qd_122_158 rfl qd_122_159 rfl qd_122_161 rfl qd_122_163 rfl (isPb 26 (by decide)) (isPb 111 (by decide)) (by decide) (by decide) (by decide +kernel) ?_
  refine yS_let (k := 27) (p4 := 170) (G := yh82) (fun _ => rfl) (fun _ _ => rfl) qd_122_164 rfl qd_122_165 rfl qd_122_167 rfl qd_122_169 rfl (isPb 27 (by decide)) (isPb 110 (by decide)) (by decide) (by decide) (by decide +kernel) ?_
  refine yS_let (k := 28) (p4 := 176) (G := yh82) (fun _ => rfl) (fun _ _ => rfl) qd_122_170 rfl qd_122_171 rfl qd_122_173 rfl qd_122_175 rfl (isPb 28 (by decide)) (isPb 115 (by decide)) (by decide) (by decide) (by decide +kernel) ?_
  refine yS_let (k := 29) (p4 := 181) (G := yh82) (fun _ => rfl) (fun _ _ => rfl) qd_122_176 rfl qd_122_177 rfl qd_122_179 rfl qd_122_180 rfl (isPb 29 (by decide)) (isPc 0) (by decide) (by decide) (by decide +kernel) ?_
  refine yS_let (k := 30) (p4 := 187) (G := yh82) (fun _ => rfl) (fun _ _ => rfl) qd_122_181 rfl qd_122_182 rfl qd_122_184 rfl qd_122_186 rfl (isPb 30 (by decide)) (isPb 73 (by decide)) (by decide) (by decide) (by decide +kernel) ?_
  refine yS_let (k := 31) (p4 := 193) (G := yh82) (fun _ => rfl) (fun _ _ => rfl) qd_122_187 rfl qd_122_188 rfl qd_122_190 rfl qd_122_192 rfl (isPb 31 (by decide)) (isPb 110 (by decide)) (by decide) (by decide) (by decide +kernel) ?_
  refine yS_let (k := 32) (p4 := 199) (G := yh82) (fun _ => rfl) (fun _ _ => rfl) qd_122_193 rfl qd_122_194 rfl qd_122_196 rfl qd_122_198 rfl (isPb 32 (by decide)) (isPb 110 (by decide)) (by decide) (by decide) (by decide +kernel) ?_
  refine yS_let (k := 33) (p4 := 205) (G := yh82) (fun _ => rfl) (fun _ _ => rfl) qd_122_199 rfl qd_122_200 rfl qd_122_202 rfl qd_122_204 rfl (isPb 33 (by decide)) (isPb 101 (by decide)) (by decide) (by decide) (by decide +kernel) ?_
  refine yS_let (k := 34) (p4 := 211) (G := yh82) (fun _ => rfl) (fun _ _ => rfl) qd_122_205 rfl qd_122_206 rfl qd_122_208 rfl qd_122_210 rfl (isPb 34 (by decide)) (isPb 114 (by decide)) (by decide) (by decide) (by decide +kernel) ?_
  refine yS_let (k := 35) (p4 := 217) (G := yh82) (fun _ => rfl) (fun _ _ => rfl) qd_122_211 rfl qd_122_212 rfl qd_122_214 rfl qd_122_216 rfl (isPb 35 (by decide)) (isPb 67 (by decide)) (by decide) (by decide) (by decide +kernel) ?_
  refine yS_let (k := 36) (p4 := 223) (G := yh82) (fun _ => rfl) (fun _ _ => rfl) qd_122_217 rfl qd_122_218 rfl qd_122_220 rfl qd_122_222 rfl (isPb 36 (by decide)) (isPb 108 (by decide)) (by decide) (by decide) (by decide +kernel) ?_
  refine yS_let (k := 37) (p4 := 229) (G := yh82) (fun _ => rfl) (fun _ _ => rfl) qd_122_223 rfl qd_122_224 rfl qd_122_226 rfl qd_122_228 rfl (isPb 37 (by decide)) (isPb 97 (by decide)) (by decide) (by decide) (by decide +kernel) ?_
  refine yS_let (k := 38) (p4 := 235) (G := yh82) (fun _ => rfl) (fun _ _ => rfl) qd_122_229 rfl qd_122_230 rfl qd_122_232 rfl qd_122_234 rfl (isPb 38 (by decide)) (isPb 115 (by decide)) (by decide) (by decide) (by decide +kernel) ?_
  refine yS_let (k := 39) (p4 := 241) (G := yh82) (fun _ => rfl) (fun _ _ => rfl) qd_122_235 rfl qd_122_236 rfl qd_122_238 rfl qd_122_240 rfl (isPb 39 (by decide)) (isPb 115 (by decide)) (by decide) (by decide) (by decide +kernel) ?_
  exact k
set_option maxRecDepth 100000 in
theorem ylet_40 {w : qE} {R : zRs → Prop} (k : yR w 0 qm122 359 [(0, .ref 25)] [.ref 26, .ref 25] (yh82 (FLt 60)) R) : yR w 0 qm122 241 [(0, .ref 25)] [.ref 26, .ref 25] (yh82 (FLt 40)) R := by
  refine yS_let (k := 40) (p4 := 247) (G := yh82) (fun _ => rfl) (fun _ _ => rfl) qd_122_241 rfl qd_122_242 rfl qd_122_244 rfl qd_122_246 rfl (isPb 40 (by decide)) (isPb 101 (by decide)) (by decide) (by decide) (by decide +kernel) ?_
  refine yS_let (k := 41) (p4 := 253) (G := yh82) (fun _ => rfl) (fun _ _ => rfl) qd_122_247 rfl qd_122_248 rfl qd_122_250 rfl qd_122_252 rfl (isPb 41 (by decide)) (isPb 115 (by decide)) (by decide) (by decide) (by decide +kernel) ?_
  refine yS_let (k := 42) (p4 := 258) (G := yh82) (fun _ => rfl) (fun _ _ => rfl) qd_122_253 rfl qd_122_254 rfl qd_122_256 rfl qd_122_257 rfl (isPb 42 (by decide)) (isPc 0) (by decide) (by decide) (by decide +kernel) ?_
  refine yS_let (k := 43) (p4 := 264) (G := yh82) (fun _ => rfl) (fun _ _ => rfl) qd_122_258 rfl qd_122_259 rfl qd_122_261 rfl qd_122_263 rfl (isPb 43 (by decide)) (isPb 69 (by decide)) (by decide) (by decide) (by decide +kernel) ?_
  refine yS_let (k := 44) (p4 := 270) (G := yh82) (fun _ => rfl) (fun _ _ => rfl) qd_122_264 rfl qd_122_265 rfl qd_122_267 rfl qd_122_269 rfl (isPb 44 (by decide)) (isPb 110 (by decide)) (by decide) (by decide) (by decide +kernel) ?_
  refine yS_let (k := 45) (p4 := 276) (G := yh82) (fun _ => rfl) (fun _ _ => rfl) qd_122_270 rfl qd_122_271 rfl qd_122_273 rfl qd_122_275 rfl (isPb 45 (by decide)) (isPb 99 (by decide)) (by decide) (by decide) (by decide +kernel) ?_
  refine yS_let (k := 46) (p4 := 282) (G := yh82) (fun _ => rfl) (fun _ _ => rfl) qd_122_276 rfl qd_122_277 rfl qd_122_279 rfl qd_122_281 rfl (isPb 46 (by decide)) (isPb 108 (by decide)) (by decide) (by decide) (by decide +kernel) ?_
  refine yS_let (k := 47) (p4 := 288) (G := yh82) (fun _ => rfl) (fun _ _ => rfl) qd_122_282 rfl qd_122_283 rfl qd_122_285 rfl qd_122_287 rfl (isPb 47 (by decide)) (isPb 111 (by decide)) (by decide) (by decide) (by decide +kernel) ?_
  refine yS_let (k := 48) (p4 := 294) (G := yh82) (fun _ => rfl) (fun _ _ => rfl) qd_122_288 rfl qd_122_289 rfl qd_122_291 rfl qd_122_293 rfl (isPb 48 (by decide)) (isPb 115 (by decide)) (by decide) (by decide) (by decide +kernel) ?_
  refine yS_let (k := 49) (p4 := 300) (G := yh82) (fun _ => rfl) (fun _ _ => rfl) qd_122_294 rfl qd_122_295 rfl qd_122_297 rfl qd_122_299 rfl (isPb 49 (by decide)) (isPb 105 (by decide)) (by decide) (by decide) (by decide +kernel) ?_
  refine yS_let (k := 50) (p4 := 306) (G := yh82) (fun _ => rfl) (fun _ _ => rfl) qd_122_300 rfl qd_122_301 rfl qd_122_303 rfl qd_122_305 rfl (isPb 50 (by decide)) (isPb 110 (by decide)) (by decide) (by decide) (by decide +kernel) ?_
  refine yS_let (k := 51) (p4 := 312) (G := yh82) (fun _ => rfl) (fun _ _ => rfl) qd_122_306 rfl qd_122_307 rfl qd_122_309 rfl qd_122_311 rfl (isPb 51 (by decide)) (isPb 103 (by decide)) (by decide) (by decide) (by decide +kernel) ?_
  refine yS_let (k := 52) (p4 := 318) (G := yh82) (fun _ => rfl) (fun _ _ => rfl) qd_122_312 rfl qd_122_313 rfl qd_122_315 rfl qd_122_317 rfl (isPb 52 (by decide)) (isPb 77 (by decide)) (by decide) (by decide) (by decide +kernel) ?_
  refine yS_let (k := 53) (p4 := 324) (G := yh82) (fun _ => rfl) (fun _ _ => rfl) qd_122_318 rfl qd_122_319 rfl qd_122_321 rfl qd_122_323 rfl (isPb 53 (by decide)) (isPb 101 (by decide)) (by decide) (by decide) (by decide +kernel) ?_
  refine yS_let (k := 54) (p4 := 330) (G := yh82) (fun _ => rfl) (fun _ _ => rfl) qd_122_324 rfl qd_122_325 rfl qd_122_327 rfl qd_122_329 rfl (isPb 54 (by decide)) (isPb 116 (by decide)) (by decide) (by decide) (by decide +kernel) ?_
  refine yS_let (k := 55) (p4 := 336) (G := yh82) (fun _ => rfl) (fun _ _ => rfl) qd_122_330 rfl qd_122_331 rfl qd_122_333 rfl qd_122_335 rfl (isPb 55 (by decide)) (isPb 104 (by decide)) (by decide) (by decide) (by decide +kernel) ?_
  refine yS_let (k := 56) (p4 := 342) (G := yh82) (fun _ => rfl) (fun _ _ => rfl) qd_122_336 rfl qd_122_337 rfl qd_122_339 rfl qd_122_341 rfl (isPb 56 (by decide)) (isPb 111 (by decide)) (by decide) (by decide) (by decide +kernel) ?_
  refine yS_let (k := 57) (p4 := 348) (G := yh82) (fun _ => rfl) (fun _ _ => rfl) qd_122_342 rfl qd_122_343 rfl qd_122_345 rfl qd_122_347 rfl (isPb 57 (by decide)) (isPb 100 (by decide)) (by decide) (by decide) (by decide +kernel) ?_
  refine yS_let (k := 58) (p4 := 353) (G := yh82) (fun _ => rfl) (fun _ _ => rfl) qd_122_348 rfl qd_122_349 rfl qd_122_351 rfl qd_122_352 rfl (isPb 58 (by decide)) (isPc 0) (by decide) (by decide) (by decide +kernel) ?_
  refine yS_let (k := 59) (p4 := 359) (G := yh82) (fun _ => rfl) (fun _ _ => rfl) qd_122_353 rfl qd_122_354 rfl qd_122_356 rfl qd_122_358 rfl (isPb 59 (by decide)) (isPb 78 (by decide)) (by decide) (by decide) (by decide +kernel) ?_
  exact k
set_option maxRecDepth 100000 in
theorem ylet_60 {w : qE} {R : zRs → Prop} (k : yR w 0 qm122 477 [(0, .ref 25)] [.ref 26, .ref 25] (yh82 (FLt 80)) R) : yR w 0 qm122 359 [(0, .ref 25)] [.ref 26, .ref 25] (yh82 (FLt 60)) R := by
  refine yS_let (k := 60) (p4 := 365) (G := yh82) (fun _ => rfl) (fun _ _ => rfl) qd_122_359 rfl qd_122_360 rfl qd_122_362 rfl qd_122_364 rfl (isPb 60 (by decide)) (isPb 101 (by decide)) (by decide) (by decide) (by decide +kernel) ?_
  refine yS_let (k := 61) (p4 := 371) (G := yh82) (fun _ => rfl) (fun _ _ => rfl) qd_122_365 rfl qd_122_366 rfl qd_122_368 rfl qd_122_370 rfl (isPb 61 (by decide)) (isPb 115 (by decide)) (by decide) (by decide) (by decide +kernel) ?_
  refine yS_let (k := 62) (p4 := 377) (G := yh82) (fun _ => rfl) (fun _ _ => rfl) qd_122_371 rfl qd_122_372 rfl qd_122_374 rfl qd_122_376 rfl (isPb 62 (by decide)) (isPb 116 (by decide)) (by decide) (by decide) (by decide +kernel) ?_
  refine yS_let (k := 63) (p4 := 383) (G := yh82) (fun _ => rfl) (fun _ _ => rfl) qd_122_377 rfl qd_122_378 rfl qd_122_380 rfl qd_122_382 rfl (isPb 63 (by decide)) (isPb 72 (by decide)) (by decide) (by decide) (by decide +kernel) ?_
  refine yS_let (k := 64) (p4 := 389) (G := yh82) (fun _ => rfl) (fun _ _ => rfl) qd_122_383 rfl qd_122_384 rfl qd_122_386 rfl qd_122_388 rfl (isPb 64 (by decide)) (isPb 111 (by decide)) (by decide) (by decide) (by decide +kernel) ?_
  refine yS_let (k := 65) (p4 := 395) (G := yh82) (fun _ => rfl) (fun _ _ => rfl) qd_122_389 rfl qd_122_390 rfl qd_122_392 rfl qd_122_394 rfl (isPb 65 (by decide)) (isPb 115 (by decide)) (by decide) (by decide) (by decide +kernel) ?_
  refine yS_let (k := 66) (p4 := 401) (G := yh82) (fun _ => rfl) (fun _ _ => rfl) qd_122_395 rfl qd_122_396 rfl qd_122_398 rfl qd_122_400 rfl (isPb 66 (by decide)) (isPb 116 (by decide)) (by decide) (by decide) (by decide +kernel) ?_
  refine yS_let (k := 67) (p4 := 406) (G := yh82) (fun _ => rfl) (fun _ _ => rfl) qd_122_401 rfl qd_122_402 rfl qd_122_404 rfl qd_122_405 rfl (isPb 67 (by decide)) (isPc 0) (by decide) (by decide) (by decide +kernel) ?_
  refine yS_let (k := 68) (p4 := 412) (G := yh82) (fun _ => rfl) (fun _ _ => rfl) qd_122_406 rfl qd_122_407 rfl qd_122_409 rfl qd_122_411 rfl (isPb 68 (by decide)) (isPb 78 (by decide)) (by decide) (by decide) (by decide +kernel) ?_
  refine yS_let (k := 69) (p4 := 418) (G := yh82) (fun _ => rfl) (fun _ _ => rfl) qd_122_412 rfl qd_122_413 rfl qd_122_415 rfl qd_122_417 rfl (isPb 69 (by decide)) (isPb 101 (by decide)) (by decide) (by decide) (by decide +kernel) ?_
  refine yS_let (k := 70) (p4 := 424) (G := yh82) (fun _ => rfl) (fun _ _ => rfl) qd_122_418 rfl qd_122_419 rfl qd_122_421 rfl qd_122_423 rfl (isPb 70 (by decide)) (isPb 115 (by decide)) (by decide) (by decide) (by decide +kernel) ?_
  refine yS_let (k := 71) (p4 := 430) (G := yh82) (fun _ => rfl) (fun _ _ => rfl) qd_122_424 rfl qd_122_425 rfl qd_122_427 rfl qd_122_429 rfl (isPb 71 (by decide)) (isPb 116 (by decide)) (by decide) (by decide) (by decide +kernel) ?_
  refine yS_let (k := 72) (p4 := 436) (G := yh82) (fun _ => rfl) (fun _ _ => rfl) qd_122_430 rfl qd_122_431 rfl qd_122_433 rfl qd_122_435 rfl (isPb 72 (by decide)) (isPb 77 (by decide)) (by decide) (by decide) (by decide +kernel) ?_
  refine yS_let (k := 73) (p4 := 442) (G := yh82) (fun _ => rfl) (fun _ _ => rfl) qd_122_436 rfl qd_122_437 rfl qd_122_439 rfl qd_122_441 rfl (isPb 73 (by decide)) (isPb 101 (by decide)) (by decide) (by decide) (by decide +kernel) ?_
  refine yS_let (k := 74) (p4 := 448) (G := yh82) (fun _ => rfl) (fun _ _ => rfl) qd_122_442 rfl qd_122_443 rfl qd_122_445 rfl qd_122_447 rfl (isPb 74 (by decide)) (isPb 109 (by decide)) (by decide) (by decide) (by decide +kernel) ?_
  refine yS_let (k := 75) (p4 := 454) (G := yh82) (fun _ => rfl) (fun _ _ => rfl) qd_122_448 rfl qd_122_449 rfl qd_122_451 rfl qd_122_453 rfl (isPb 75 (by decide)) (isPb 98 (by decide)) (by decide) (by decide) (by decide +kernel) ?_
  refine yS_let (k := 76) (p4 := 460) (G := yh82) (fun _ => rfl) (fun _ _ => rfl) qd_122_454 rfl qd_122_455 rfl qd_122_457 rfl qd_122_459 rfl (isPb 76 (by decide)) (isPb 101 (by decide)) (by decide) (by decide) (by decide +kernel) ?_
  refine yS_let (k := 77) (p4 := 466) (G := yh82) (fun _ => rfl) (fun _ _ => rfl) qd_122_460 rfl qd_122_461 rfl qd_122_463 rfl qd_122_465 rfl (isPb 77 (by decide)) (isPb 114 (by decide)) (by decide) (by decide) (by decide +kernel) ?_
  refine yS_let (k := 78) (p4 := 472) (G := yh82) (fun _ => rfl) (fun _ _ => rfl) qd_122_466 rfl qd_122_467 rfl qd_122_469 rfl qd_122_471 rfl (isPb 78 (by decide)) (isPb 115 (by decide)) (by decide) (by decide) (by decide +kernel) ?_
  refine yS_let (k := 79) (p4 := 477) (G := yh82) (fun _ => rfl) (fun _ _ => rfl) qd_122_472 rfl qd_122_473 rfl qd_122_475 rfl qd_122_476 rfl (isPb 79 (by decide)) (isPc 0) (by decide) (by decide) (by decide +kernel) ?_
  exact k
set_option maxRecDepth 100000 in
theorem ylet_80 {w : qE} {R : zRs → Prop} (k : yR w 0 qm122 596 [(0, .ref 25)] [.ref 26, .ref 25] (yh82 (FLt 100)) R) : yR w 0 qm122 477 [(0, .ref 25)] [.ref 26, .ref 25] (yh82 (FLt 80)) R := by
  refine yS_let (k := 80) (p4 := 483) (G := yh82) (fun _ => rfl) (fun _ _ => rfl) qd_122_477 rfl qd_122_478 rfl qd_122_480 rfl qd_122_482 rfl (isPb 80 (by decide)) (isPb 80 (by decide)) (by decide) (by decide) (by decide +kernel) ?_
  refine yS_let (k := 81) (p4 := 489) (G := yh82) (fun _ => rfl) (fun _ _ => rfl) qd_122_483 rfl qd_122_484 rfl qd_122_486 rfl qd_122_488 rfl (isPb 81 (by decide)) (isPb 101 (by decide)) (by decide) (by decide) (by decide +kernel) ?_
  refine yS_let (k := 82) (p4 := 495) (G := yh82) (fun _ => rfl) (fun _ _ => rfl) qd_122_489 rfl qd_122_490 rfl qd_122_492 rfl qd_122_494 rfl (isPb 82 (by decide)) (isPb 114 (by decide)) (by decide) (by decide) (by decide +kernel) ?_
  refine yS_let (k := 83) (p4 := 501) (G := yh82) (fun _ => rfl) (fun _ _ => rfl) qd_122_495 rfl qd_122_496 rfl qd_122_498 rfl qd_122_500 rfl (isPb 83 (by decide)) (isPb 109 (by decide)) (by decide) (by decide) (by decide +kernel) ?_
  refine yS_let (k := 84) (p4 := 507) (G := yh82) (fun _ => rfl) (fun _ _ => rfl) qd_122_501 rfl qd_122_502 rfl qd_122_504 rfl qd_122_506 rfl (isPb 84 (by decide)) (isPb 105 (by decide)) (by decide) (by decide) (by decide +kernel) ?_
  refine yS_let (k := 85) (p4 := 513) (G := yh82) (fun _ => rfl) (fun _ _ => rfl) qd_122_507 rfl qd_122_508 rfl qd_122_510 rfl qd_122_512 rfl (isPb 85 (by decide)) (isPb 116 (by decide)) (by decide) (by decide) (by decide +kernel) ?_
  refine yS_let (k := 86) (p4 := 519) (G := yh82) (fun _ => rfl) (fun _ _ => rfl) qd_122_513 rfl qd_122_514 rfl qd_122_516 rfl qd_122_518 rfl (isPb 86 (by decide)) (isPb 116 (by decide)) (by decide) (by decide) (by decide +kernel) ?_
  refine yS_let (k := 87) (p4 := 525) (G := yh82) (fun _ => rfl) (fun _ _ => rfl) qd_122_519 rfl qd_122_520 rfl qd_122_522 rfl qd_122_524 rfl (isPb 87 (by decide)) (isPb 101 (by decide)) (by decide) (by decide) (by decide +kernel) ?_
  refine yS_let (k := 88) (p4 := 531) (G := yh82) (fun _ => rfl) (fun _ _ => rfl) qd_122_525 rfl qd_122_526 rfl qd_122_528 rfl qd_122_530 rfl (isPb 88 (by decide)) (isPb 100 (by decide)) (by decide) (by decide) (by decide +kernel) ?_
  refine yS_let (k := 89) (p4 := 537) (G := yh82) (fun _ => rfl) (fun _ _ => rfl) qd_122_531 rfl qd_122_532 rfl qd_122_534 rfl qd_122_536 rfl (isPb 89 (by decide)) (isPb 83 (by decide)) (by decide) (by decide) (by decide +kernel) ?_
  refine yS_let (k := 90) (p4 := 543) (G := yh82) (fun _ => rfl) (fun _ _ => rfl) qd_122_537 rfl qd_122_538 rfl qd_122_540 rfl qd_122_542 rfl (isPb 90 (by decide)) (isPb 117 (by decide)) (by decide) (by decide) (by decide +kernel) ?_
  refine yS_let (k := 91) (p4 := 549) (G := yh82) (fun _ => rfl) (fun _ _ => rfl) qd_122_543 rfl qd_122_544 rfl qd_122_546 rfl qd_122_548 rfl (isPb 91 (by decide)) (isPb 98 (by decide)) (by decide) (by decide) (by decide +kernel) ?_
  refine yS_let (k := 92) (p4 := 555) (G := yh82) (fun _ => rfl) (fun _ _ => rfl) qd_122_549 rfl qd_122_550 rfl qd_122_552 rfl qd_122_554 rfl (isPb 92 (by decide)) (isPb 99 (by decide)) (by decide) (by decide) (by decide +kernel) ?_
  refine yS_let (k := 93) (p4 := 561) (G := yh82) (fun _ => rfl) (fun _ _ => rfl) qd_122_555 rfl qd_122_556 rfl qd_122_558 rfl qd_122_560 rfl (isPb 93 (by decide)) (isPb 108 (by decide)) (by decide) (by decide) (by decide +kernel) ?_
  refine yS_let (k := 94) (p4 := 567) (G := yh82) (fun _ => rfl) (fun _ _ => rfl) qd_122_561 rfl qd_122_562 rfl qd_122_564 rfl qd_122_566 rfl (isPb 94 (by decide)) (isPb 97 (by decide)) (by decide) (by decide) (by decide +kernel) ?_
  refine yS_let (k := 95) (p4 := 573) (G := yh82) (fun _ => rfl) (fun _ _ => rfl) qd_122_567 rfl qd_122_568 rfl qd_122_570 rfl qd_122_572 rfl (isPb 95 (by decide)) (isPb 115 (by decide)) (by decide) (by decide) (by decide +kernel) ?_
  refine yS_let (k := 96) (p4 := 579) (G := yh82) (fun _ => rfl) (fun _ _ => rfl) qd_122_573 rfl qd_122_574 rfl qd_122_576 rfl qd_122_578 rfl (isPb 96 (by decide)) (isPb 115 (by decide)) (by decide) (by decide) (by decide +kernel) ?_
  refine yS_let (k := 97) (p4 := 585) (G := yh82) (fun _ => rfl) (fun _ _ => rfl) qd_122_579 rfl qd_122_580 rfl qd_122_582 rfl qd_122_584 rfl (isPb 97 (by decide)) (isPb 101 (by decide)) (by decide) (by decide) (by decide +kernel) ?_
  refine yS_let (k := 98) (p4 := 591) (G := yh82) (fun _ => rfl) (fun _ _ => rfl) qd_122_585 rfl qd_122_586 rfl qd_122_588 rfl qd_122_590 rfl (isPb 98 (by decide)) (isPb 115 (by decide)) (by decide) (by decide) (by decide +kernel) ?_
  refine yS_let (k := 99) (p4 := 596) (G := yh82) (fun _ => rfl) (fun _ _ => rfl) qd_122_591 rfl qd_122_592 rfl qd_122_594 rfl qd_122_595 rfl (isPb 99 (by decide)) (isPc 0) (by decide) (by decide) (by decide +kernel) ?_
  exact k
set_option maxRecDepth 100000 in
theorem ylet_100 {w : qE} {R : zRs → Prop} (k : yR w 0 qm122 715 [(0, .ref 25)] [.ref 26, .ref 25] (yh82 (FLt 120)) R) : yR w 0 qm122 596 [(0, .ref 25)] [.ref 26, .ref 25] (yh82 (FLt 100)) R := by
  refine yS_let (k := 100) (p4 := 602) (G := yh82) (fun _ => rfl) (fun _ _ => rfl) qd_122_596 rfl qd_122_597 rfl qd_122_599 rfl qd_122_601 rfl (isPb 100 (by decide)) (isPb 66 (by decide)) (by decide) (by decide) (by decide +kernel) ?_
  refine yS_let (k := 101) (p4 := 608) (G := yh82) (fun _ => rfl) (fun _ _ => rfl) qd_122_602 rfl qd_122_603 rfl qd_122_605 rfl qd_122_607 rfl (isPb 101 (by decide)) (isPb 111 (by decide)) (by decide) (by decide) (by decide +kernel) ?_
  refine yS_let (k := 102) (p4 := 614) (G := yh82) (fun _ => rfl) (fun _ _ => rfl) qd_122_608 rfl qd_122_609 rfl qd_122_611 rfl qd_122_613 rfl (isPb 102 (by decide)) (isPb 111 (by decide)) (by decide) (by decide) (by decide +kernel) ?_
  refine yS_let (k := 103) (p4 := 620) (G := yh82) (fun _ => rfl) (fun _ _ => rfl) qd_122_614 rfl qd_122_615 rfl qd_122_617 rfl qd_122_619 rfl (isPb 103 (by decide)) (isPb 116 (by decide)) (by decide) (by decide) (by decide +kernel) ?_
  refine yS_let (k := 104) (p4 := 626) (G := yh82) (fun _ => rfl) (fun _ _ => rfl) qd_122_620 rfl qd_122_621 rfl qd_122_623 rfl qd_122_625 rfl (isPb 104 (by decide)) (isPb 115 (by decide)) (by decide) (by decide) (by decide +kernel) ?_
  refine yS_let (k := 105) (p4 := 632) (G := yh82) (fun _ => rfl) (fun _ _ => rfl) qd_122_626 rfl qd_122_627 rfl qd_122_629 rfl qd_122_631 rfl (isPb 105 (by decide)) (isPb 116 (by decide)) (by decide) (by decide) (by decide +kernel) ?_
  refine yS_let (k := 106) (p4 := 638) (G := yh82) (fun _ => rfl) (fun _ _ => rfl) qd_122_632 rfl qd_122_633 rfl qd_122_635 rfl qd_122_637 rfl (isPb 106 (by decide)) (isPb 114 (by decide)) (by decide) (by decide) (by decide +kernel) ?_
  refine yS_let (k := 107) (p4 := 644) (G := yh82) (fun _ => rfl) (fun _ _ => rfl) qd_122_638 rfl qd_122_639 rfl qd_122_641 rfl qd_122_643 rfl (isPb 107 (by decide)) (isPb 97 (by decide)) (by decide) (by decide) (by decide +kernel) ?_
  refine yS_let (k := 108) (p4 := 650) (G := yh82) (fun _ => rfl) (fun _ _ => rfl) qd_122_644 rfl qd_122_645 rfl qd_122_647 rfl qd_122_649 rfl (isPb 108 (by decide)) (isPb 112 (by decide)) (by decide) (by decide) (by decide +kernel) ?_
  refine yS_let (k := 109) (p4 := 656) (G := yh82) (fun _ => rfl) (fun _ _ => rfl) qd_122_650 rfl qd_122_651 rfl qd_122_653 rfl qd_122_655 rfl (isPb 109 (by decide)) (isPb 77 (by decide)) (by decide) (by decide) (by decide +kernel) ?_
  refine yS_let (k := 110) (p4 := 662) (G := yh82) (fun _ => rfl) (fun _ _ => rfl) qd_122_656 rfl qd_122_657 rfl qd_122_659 rfl qd_122_661 rfl (isPb 110 (by decide)) (isPb 101 (by decide)) (by decide) (by decide) (by decide +kernel) ?_
  refine yS_let (k := 111) (p4 := 668) (G := yh82) (fun _ => rfl) (fun _ _ => rfl) qd_122_662 rfl qd_122_663 rfl qd_122_665 rfl qd_122_667 rfl (isPb 111 (by decide)) (isPb 116 (by decide)) (by decide) (by decide) (by decide +kernel) ?_
  refine yS_let (k := 112) (p4 := 674) (G := yh82) (fun _ => rfl) (fun _ _ => rfl) qd_122_668 rfl qd_122_669 rfl qd_122_671 rfl qd_122_673 rfl (isPb 112 (by decide)) (isPb 104 (by decide)) (by decide) (by decide) (by decide +kernel) ?_
  refine yS_let (k := 113) (p4 := 680) (G := yh82) (fun _ => rfl) (fun _ _ => rfl) qd_122_674 rfl qd_122_675 rfl qd_122_677 rfl qd_122_679 rfl (isPb 113 (by decide)) (isPb 111 (by decide)) (by decide) (by decide) (by decide +kernel) ?_
  refine yS_let (k := 114) (p4 := 686) (G := yh82) (fun _ => rfl) (fun _ _ => rfl) qd_122_680 rfl qd_122_681 rfl qd_122_683 rfl qd_122_685 rfl (isPb 114 (by decide)) (isPb 100 (by decide)) (by decide) (by decide) (by decide +kernel) ?_
  refine yS_let (k := 115) (p4 := 692) (G := yh82) (fun _ => rfl) (fun _ _ => rfl) qd_122_686 rfl qd_122_687 rfl qd_122_689 rfl qd_122_691 rfl (isPb 115 (by decide)) (isPb 115 (by decide)) (by decide) (by decide) (by decide +kernel) ?_
  refine yS_let (k := 116) (p4 := 697) (G := yh82) (fun _ => rfl) (fun _ _ => rfl) qd_122_692 rfl qd_122_693 rfl qd_122_695 rfl qd_122_696 rfl (isPb 116 (by decide)) (isPc 0) (by decide) (by decide) (by decide +kernel) ?_
  refine yS_let (k := 117) (p4 := 703) (G := yh82) (fun _ => rfl) (fun _ _ => rfl) qd_122_697 rfl qd_122_698 rfl qd_122_700 rfl qd_122_702 rfl (isPb 117 (by decide)) (isPb 60 (by decide)) (by decide) (by decide) (by decide +kernel) ?_
  refine yS_let (k := 118) (p4 := 709) (G := yh82) (fun _ => rfl) (fun _ _ => rfl) qd_122_703 rfl qd_122_704 rfl qd_122_706 rfl qd_122_708 rfl (isPb 118 (by decide)) (isPb 105 (by decide)) (by decide) (by decide) (by decide +kernel) ?_
  refine yS_let (k := 119) (p4 := 715) (G := yh82) (fun _ => rfl) (fun _ _ => rfl) qd_122_709 rfl qd_122_710 rfl qd_122_712 rfl qd_122_714 rfl (isPb 119 (by decide)) (isPb 110 (by decide)) (by decide) (by decide) (by decide +kernel) ?_
  exact k
set_option maxRecDepth 100000 in
theorem ylet_120 {w : qE} {R : zRs → Prop} (k : yR w 0 qm122 845 [(0, .ref 25)] [.ref 26, .ref 25] (yh82 (FLt 140)) R) : yR w 0 qm122 715 [(0, .ref 25)] [.ref 26, .ref 25] (yh82 (FLt 120)) R := by
  refine yS_let (k := 120) (p4 := 721) (G := yh82) (fun _ => rfl) (fun _ _ => rfl) qd_122_715 rfl qd_122_716 rfl qd_122_718 rfl qd_122_720 rfl (isPb 120 (by decide)) (isPb 105 (by decide)) (by decide) (by decide) (by decide +kernel) ?_
  refine yS_let (k := 121) (p4 := 727) (G := yh82) (fun _ => rfl) (fun _ _ => rfl) qd_122_721 rfl qd_122_722 rfl qd_122_724 rfl qd_122_726 rfl (isPb 121 (by decide)) (isPb 116 (by decide)) (by decide) (by decide) (by decide +kernel) ?_
  refine yS_let (k := 122) (p4 := 733) (G := yh82) (fun _ => rfl) (fun _ _ => rfl) qd_122_727 rfl qd_122_728 rfl qd_122_730 rfl qd_122_732 rfl (isPb 122 (by decide)) (isPb 62 (by decide)) (by decide) (by decide) (by decide +kernel) ?_
  refine yS_let (k := 123) (p4 := 738) (G := yh82) (fun _ => rfl) (fun _ _ => rfl) qd_122_733 rfl qd_122_734 rfl qd_122_736 rfl qd_122_737 rfl (isPb 123 (by decide)) (isPc 0) (by decide) (by decide) (by decide +kernel) ?_
  refine yS_let (k := 124) (p4 := 744) (G := yh82) (fun _ => rfl) (fun _ _ => rfl) qd_122_738 rfl qd_122_739 rfl qd_122_741 rfl qd_122_743 rfl (isPb 124 (by decide)) (isPb 60 (by decide)) (by decide) (by decide) (by decide +kernel) ?_
  refine yS_let (k := 125) (p4 := 750) (G := yh82) (fun _ => rfl) (fun _ _ => rfl) qd_122_744 rfl qd_122_745 rfl qd_122_747 rfl qd_122_749 rfl (isPb 125 (by decide)) (isPb 99 (by decide)) (by decide) (by decide) (by decide +kernel) ?_
  refine yS_let (k := 126) (p4 := 756) (G := yh82) (fun _ => rfl) (fun _ _ => rfl) qd_122_750 rfl qd_122_751 rfl qd_122_753 rfl qd_122_755 rfl (isPb 126 (by decide)) (isPb 108 (by decide)) (by decide) (by decide) (by decide +kernel) ?_
  refine yS_let (k := 127) (p4 := 762) (G := yh82) (fun _ => rfl) (fun _ _ => rfl) qd_122_756 rfl qd_122_757 rfl qd_122_759 rfl qd_122_761 rfl (isPb 127 (by decide)) (isPb 105 (by decide)) (by decide) (by decide) (by decide +kernel) ?_
  refine yS_let (k := 128) (p4 := 769) (G := yh82) (fun _ => rfl) (fun _ _ => rfl) qd_122_762 rfl qd_122_763 rfl qd_122_766 rfl qd_122_768 rfl (isPs 128 (by decide)) (isPb 110 (by decide)) (by decide) (by decide) (by decide +kernel) ?_
  refine yS_let (k := 129) (p4 := 776) (G := yh82) (fun _ => rfl) (fun _ _ => rfl) qd_122_769 rfl qd_122_770 rfl qd_122_773 rfl qd_122_775 rfl (isPs 129 (by decide)) (isPb 105 (by decide)) (by decide) (by decide) (by decide +kernel) ?_
  refine yS_let (k := 130) (p4 := 783) (G := yh82) (fun _ => rfl) (fun _ _ => rfl) qd_122_776 rfl qd_122_777 rfl qd_122_780 rfl qd_122_782 rfl (isPs 130 (by decide)) (isPb 116 (by decide)) (by decide) (by decide) (by decide +kernel) ?_
  refine yS_let (k := 131) (p4 := 790) (G := yh82) (fun _ => rfl) (fun _ _ => rfl) qd_122_783 rfl qd_122_784 rfl qd_122_787 rfl qd_122_789 rfl (isPs 131 (by decide)) (isPb 62 (by decide)) (by decide) (by decide) (by decide +kernel) ?_
  refine yS_let (k := 132) (p4 := 796) (G := yh82) (fun _ => rfl) (fun _ _ => rfl) qd_122_790 rfl qd_122_791 rfl qd_122_794 rfl qd_122_795 rfl (isPs 132 (by decide)) (isPc 0) (by decide) (by decide) (by decide +kernel) ?_
  refine yS_let (k := 133) (p4 := 803) (G := yh82) (fun _ => rfl) (fun _ _ => rfl) qd_122_796 rfl qd_122_797 rfl qd_122_800 rfl qd_122_802 rfl (isPs 133 (by decide)) (isPb 76 (by decide)) (by decide) (by decide) (by decide +kernel) ?_
  refine yS_let (k := 134) (p4 := 810) (G := yh82) (fun _ => rfl) (fun _ _ => rfl) qd_122_803 rfl qd_122_804 rfl qd_122_807 rfl qd_122_809 rfl (isPs 134 (by decide)) (isPb 106 (by decide)) (by decide) (by decide) (by decide +kernel) ?_
  refine yS_let (k := 135) (p4 := 817) (G := yh82) (fun _ => rfl) (fun _ _ => rfl) qd_122_810 rfl qd_122_811 rfl qd_122_814 rfl qd_122_816 rfl (isPs 135 (by decide)) (isPb 97 (by decide)) (by decide) (by decide) (by decide +kernel) ?_
  refine yS_let (k := 136) (p4 := 824) (G := yh82) (fun _ => rfl) (fun _ _ => rfl) qd_122_817 rfl qd_122_818 rfl qd_122_821 rfl qd_122_823 rfl (isPs 136 (by decide)) (isPb 118 (by decide)) (by decide) (by decide) (by decide +kernel) ?_
  refine yS_let (k := 137) (p4 := 831) (G := yh82) (fun _ => rfl) (fun _ _ => rfl) qd_122_824 rfl qd_122_825 rfl qd_122_828 rfl qd_122_830 rfl (isPs 137 (by decide)) (isPb 97 (by decide)) (by decide) (by decide) (by decide +kernel) ?_
  refine yS_let (k := 138) (p4 := 838) (G := yh82) (fun _ => rfl) (fun _ _ => rfl) qd_122_831 rfl qd_122_832 rfl qd_122_835 rfl qd_122_837 rfl (isPs 138 (by decide)) (isPb 47 (by decide)) (by decide) (by decide) (by decide +kernel) ?_
  refine yS_let (k := 139) (p4 := 845) (G := yh82) (fun _ => rfl) (fun _ _ => rfl) qd_122_838 rfl qd_122_839 rfl qd_122_842 rfl qd_122_844 rfl (isPs 139 (by decide)) (isPb 108 (by decide)) (by decide) (by decide) (by decide +kernel) ?_
  exact k
set_option maxRecDepth 100000 in
theorem ylet_140 {w : qE} {R : zRs → Prop} (k : yR w 0 qm122 983 [(0, .ref 25)] [.ref 26, .ref 25] (yh82 (FLt 160)) R) : yR w 0 qm122 845 [(0, .ref 25)] [.ref 26, .ref 25] (yh82 (FLt 140)) R := by
  refine yS_let (k := 140) (p4 := 852) (G := yh82) (fun _ => rfl) (fun _ _ => rfl) qd_122_845 rfl qd_122_846 rfl qd_122_849 rfl qd_122_851 rfl (isPs 140 (by decide)) (isPb 97 (by decide)) (by decide) (by decide) (by decide +kernel) ?_
  refine yS_let (k := 141) (p4 := 859) (G := yh82) (fun _ => rfl) (fun _ _ => rfl) qd_122_852 rfl qd_122_853 rfl qd_122_856 rfl qd_122_858 rfl (isPs 141 (by decide)) (isPb 110 (by decide)) (by decide) (by decide) (by decide +kernel) ?_
  refine yS_let (k := 142) (p4 := 866) (G := yh82) (fun _ => rfl) (fun _ _ => rfl) qd_122_859 rfl qd_122_860 rfl qd_122_863 rfl qd_122_865 rfl (isPs 142 (by decide)) (isPb 103 (by decide)) (by decide) (by decide) (by decide +kernel) ?_
  refine yS_let (k := 143) (p4 := 873) (G := yh82) (fun _ => rfl) (fun _ _ => rfl) qd_122_866 rfl qd_122_867 rfl qd_122_870 rfl qd_122_872 rfl (isPs 143 (by decide)) (isPb 47 (by decide)) (by decide) (by decide) (by decide +kernel) ?_
  refine yS_let (k := 144) (p4 := 880) (G := yh82) (fun _ => rfl) (fun _ _ => rfl) qd_122_873 rfl qd_122_874 rfl qd_122_877 rfl qd_122_879 rfl (isPs 144 (by decide)) (isPb 83 (by decide)) (by decide) (by decide) (by decide +kernel) ?_
  refine yS_let (k := 145) (p4 := 887) (G := yh82) (fun _ => rfl) (fun _ _ => rfl) qd_122_880 rfl qd_122_881 rfl qd_122_884 rfl qd_122_886 rfl (isPs 145 (by decide)) (isPb 116 (by decide)) (by decide) (by decide) (by decide +kernel) ?_
  refine yS_let (k := 146) (p4 := 894) (G := yh82) (fun _ => rfl) (fun _ _ => rfl) qd_122_887 rfl qd_122_888 rfl qd_122_891 rfl qd_122_893 rfl (isPs 146 (by decide)) (isPb 114 (by decide)) (by decide) (by decide) (by decide +kernel) ?_
  refine yS_let (k := 147) (p4 := 901) (G := yh82) (fun _ => rfl) (fun _ _ => rfl) qd_122_894 rfl qd_122_895 rfl qd_122_898 rfl qd_122_900 rfl (isPs 147 (by decide)) (isPb 105 (by decide)) (by decide) (by decide) (by decide +kernel) ?_
  refine yS_let (k := 148) (p4 := 908) (G := yh82) (fun _ => rfl) (fun _ _ => rfl) qd_122_901 rfl qd_122_902 rfl qd_122_905 rfl qd_122_907 rfl (isPs 148 (by decide)) (isPb 110 (by decide)) (by decide) (by decide) (by decide +kernel) ?_
  refine yS_let (k := 149) (p4 := 915) (G := yh82) (fun _ => rfl) (fun _ _ => rfl) qd_122_908 rfl qd_122_909 rfl qd_122_912 rfl qd_122_914 rfl (isPs 149 (by decide)) (isPb 103 (by decide)) (by decide) (by decide) (by decide +kernel) ?_
  refine yS_let (k := 150) (p4 := 922) (G := yh82) (fun _ => rfl) (fun _ _ => rfl) qd_122_915 rfl qd_122_916 rfl qd_122_919 rfl qd_122_921 rfl (isPs 150 (by decide)) (isPb 59 (by decide)) (by decide) (by decide) (by decide +kernel) ?_
  refine yS_let (k := 151) (p4 := 928) (G := yh82) (fun _ => rfl) (fun _ _ => rfl) qd_122_922 rfl qd_122_923 rfl qd_122_926 rfl qd_122_927 rfl (isPs 151 (by decide)) (isPc 0) (by decide) (by decide) (by decide +kernel) ?_
  refine yS_let (k := 152) (p4 := 935) (G := yh82) (fun _ => rfl) (fun _ _ => rfl) qd_122_928 rfl qd_122_929 rfl qd_122_932 rfl qd_122_934 rfl (isPs 152 (by decide)) (isPb 98 (by decide)) (by decide) (by decide) (by decide +kernel) ?_
  refine yS_let (k := 153) (p4 := 942) (G := yh82) (fun _ => rfl) (fun _ _ => rfl) qd_122_935 rfl qd_122_936 rfl qd_122_939 rfl qd_122_941 rfl (isPs 153 (by decide)) (isPb 121 (by decide)) (by decide) (by decide) (by decide +kernel) ?_
  refine yS_let (k := 154) (p4 := 949) (G := yh82) (fun _ => rfl) (fun _ _ => rfl) qd_122_942 rfl qd_122_943 rfl qd_122_946 rfl qd_122_948 rfl (isPs 154 (by decide)) (isPb 116 (by decide)) (by decide) (by decide) (by decide +kernel) ?_
  refine yS_let (k := 155) (p4 := 956) (G := yh82) (fun _ => rfl) (fun _ _ => rfl) qd_122_949 rfl qd_122_950 rfl qd_122_953 rfl qd_122_955 rfl (isPs 155 (by decide)) (isPb 101 (by decide)) (by decide) (by decide) (by decide +kernel) ?_
  refine yS_let (k := 156) (p4 := 962) (G := yh82) (fun _ => rfl) (fun _ _ => rfl) qd_122_956 rfl qd_122_957 rfl qd_122_960 rfl qd_122_961 rfl (isPs 156 (by decide)) (isPc 0) (by decide) (by decide) (by decide +kernel) ?_
  refine yS_let (k := 157) (p4 := 969) (G := yh82) (fun _ => rfl) (fun _ _ => rfl) qd_122_962 rfl qd_122_963 rfl qd_122_966 rfl qd_122_968 rfl (isPs 157 (by decide)) (isPb 99 (by decide)) (by decide) (by decide) (by decide +kernel) ?_
  refine yS_let (k := 158) (p4 := 976) (G := yh82) (fun _ => rfl) (fun _ _ => rfl) qd_122_969 rfl qd_122_970 rfl qd_122_973 rfl qd_122_975 rfl (isPs 158 (by decide)) (isPb 104 (by decide)) (by decide) (by decide) (by decide +kernel) ?_
  refine yS_let (k := 159) (p4 := 983) (G := yh82) (fun _ => rfl) (fun _ _ => rfl) qd_122_976 rfl qd_122_977 rfl qd_122_980 rfl qd_122_982 rfl (isPs 159 (by decide)) (isPb 97 (by decide)) (by decide) (by decide) (by decide +kernel) ?_
  exact k
set_option maxRecDepth 100000 in
theorem ylet_160 {w : qE} {R : zRs → Prop} (k : yR w 0 qm122 1119 [(0, .ref 25)] [.ref 26, .ref 25] (yh82 (FLt 180)) R) : yR w 0 qm122 983 [(0, .ref 25)] [.ref 26, .ref 25] (yh82 (FLt 160)) R := by
  refine yS_let (k := 160) (p4 := 990) (G := yh82) (fun _ => rfl) (fun _ _ => rfl) qd_122_983 rfl qd_122_984 rfl qd_122_987 rfl qd_122_989 rfl (isPs 160 (by decide)) (isPb 114 (by decide)) (by decide) (by decide) (by decide +kernel) ?_
  refine yS_let (k := 161) (p4 := 996) (G := yh82) (fun _ => rfl) (fun _ _ => rfl) qd_122_990 rfl qd_122_991 rfl qd_122_994 rfl qd_122_995 rfl (isPs 161 (by decide)) (isPc 0) (by decide) (by decide) (by decide +kernel) ?_
  refine yS_let (k := 162) (p4 := 1003) (G := yh82) (fun _ => rfl) (fun _ _ => rfl) qd_122_996 rfl qd_122_997 rfl qd_122_1000 rfl qd_122_1002 rfl (isPs 162 (by decide)) (isPb 100 (by decide)) (by decide) (by decide) (by decide +kernel) ?_
  refine yS_let (k := 163) (p4 := 1010) (G := yh82) (fun _ => rfl) (fun _ _ => rfl) qd_122_1003 rfl qd_122_1004 rfl qd_122_1007 rfl qd_122_1009 rfl (isPs 163 (by decide)) (isPb 111 (by decide)) (by decide) (by decide) (by decide +kernel) ?_
  refine yS_let (k := 164) (p4 := 1017) (G := yh82) (fun _ => rfl) (fun _ _ => rfl) qd_122_1010 rfl qd_122_1011 rfl qd_122_1014 rfl qd_122_1016 rfl (isPs 164 (by decide)) (isPb 117 (by decide)) (by decide) (by decide) (by decide +kernel) ?_
  refine yS_let (k := 165) (p4 := 1024) (G := yh82) (fun _ => rfl) (fun _ _ => rfl) qd_122_1017 rfl qd_122_1018 rfl qd_122_1021 rfl qd_122_1023 rfl (isPs 165 (by decide)) (isPb 98 (by decide)) (by decide) (by decide) (by decide +kernel) ?_
  refine yS_let (k := 166) (p4 := 1031) (G := yh82) (fun _ => rfl) (fun _ _ => rfl) qd_122_1024 rfl qd_122_1025 rfl qd_122_1028 rfl qd_122_1030 rfl (isPs 166 (by decide)) (isPb 108 (by decide)) (by decide) (by decide) (by decide +kernel) ?_
  refine yS_let (k := 167) (p4 := 1038) (G := yh82) (fun _ => rfl) (fun _ _ => rfl) qd_122_1031 rfl qd_122_1032 rfl qd_122_1035 rfl qd_122_1037 rfl (isPs 167 (by decide)) (isPb 101 (by decide)) (by decide) (by decide) (by decide +kernel) ?_
  refine yS_let (k := 168) (p4 := 1044) (G := yh82) (fun _ => rfl) (fun _ _ => rfl) qd_122_1038 rfl qd_122_1039 rfl qd_122_1042 rfl qd_122_1043 rfl (isPs 168 (by decide)) (isPc 0) (by decide) (by decide) (by decide +kernel) ?_
  refine yS_let (k := 169) (p4 := 1051) (G := yh82) (fun _ => rfl) (fun _ _ => rfl) qd_122_1044 rfl qd_122_1045 rfl qd_122_1048 rfl qd_122_1050 rfl (isPs 169 (by decide)) (isPb 102 (by decide)) (by decide) (by decide) (by decide +kernel) ?_
  refine yS_let (k := 170) (p4 := 1058) (G := yh82) (fun _ => rfl) (fun _ _ => rfl) qd_122_1051 rfl qd_122_1052 rfl qd_122_1055 rfl qd_122_1057 rfl (isPs 170 (by decide)) (isPb 108 (by decide)) (by decide) (by decide) (by decide +kernel) ?_
  refine yS_let (k := 171) (p4 := 1065) (G := yh82) (fun _ => rfl) (fun _ _ => rfl) qd_122_1058 rfl qd_122_1059 rfl qd_122_1062 rfl qd_122_1064 rfl (isPs 171 (by decide)) (isPb 111 (by decide)) (by decide) (by decide) (by decide +kernel) ?_
  refine yS_let (k := 172) (p4 := 1072) (G := yh82) (fun _ => rfl) (fun _ _ => rfl) qd_122_1065 rfl qd_122_1066 rfl qd_122_1069 rfl qd_122_1071 rfl (isPs 172 (by decide)) (isPb 97 (by decide)) (by decide) (by decide) (by decide +kernel) ?_
  refine yS_let (k := 173) (p4 := 1079) (G := yh82) (fun _ => rfl) (fun _ _ => rfl) qd_122_1072 rfl qd_122_1073 rfl qd_122_1076 rfl qd_122_1078 rfl (isPs 173 (by decide)) (isPb 116 (by decide)) (by decide) (by decide) (by decide +kernel) ?_
  refine yS_let (k := 174) (p4 := 1085) (G := yh82) (fun _ => rfl) (fun _ _ => rfl) qd_122_1079 rfl qd_122_1080 rfl qd_122_1083 rfl qd_122_1084 rfl (isPs 174 (by decide)) (isPc 0) (by decide) (by decide) (by decide +kernel) ?_
  refine yS_let (k := 175) (p4 := 1092) (G := yh82) (fun _ => rfl) (fun _ _ => rfl) qd_122_1085 rfl qd_122_1086 rfl qd_122_1089 rfl qd_122_1091 rfl (isPs 175 (by decide)) (isPb 105 (by decide)) (by decide) (by decide) (by decide +kernel) ?_
  refine yS_let (k := 176) (p4 := 1099) (G := yh82) (fun _ => rfl) (fun _ _ => rfl) qd_122_1092 rfl qd_122_1093 rfl qd_122_1096 rfl qd_122_1098 rfl (isPs 176 (by decide)) (isPb 110 (by decide)) (by decide) (by decide) (by decide +kernel) ?_
  refine yS_let (k := 177) (p4 := 1106) (G := yh82) (fun _ => rfl) (fun _ _ => rfl) qd_122_1099 rfl qd_122_1100 rfl qd_122_1103 rfl qd_122_1105 rfl (isPs 177 (by decide)) (isPb 116 (by decide)) (by decide) (by decide) (by decide +kernel) ?_
  refine yS_let (k := 178) (p4 := 1112) (G := yh82) (fun _ => rfl) (fun _ _ => rfl) qd_122_1106 rfl qd_122_1107 rfl qd_122_1110 rfl qd_122_1111 rfl (isPs 178 (by decide)) (isPc 0) (by decide) (by decide) (by decide +kernel) ?_
  refine yS_let (k := 179) (p4 := 1119) (G := yh82) (fun _ => rfl) (fun _ _ => rfl) qd_122_1112 rfl qd_122_1113 rfl qd_122_1116 rfl qd_122_1118 rfl (isPs 179 (by decide)) (isPb 108 (by decide)) (by decide) (by decide) (by decide +kernel) ?_
  exact k
set_option maxRecDepth 100000 in
theorem ylet_180 {w : qE} {R : zRs → Prop} (k : yR w 0 qm122 1256 [(0, .ref 25)] [.ref 26, .ref 25] (yh82 (FLt 200)) R) : yR w 0 qm122 1119 [(0, .ref 25)] [.ref 26, .ref 25] (yh82 (FLt 180)) R := by
  refine yS_let (k := 180) (p4 := 1126) (G := yh82) (fun _ => rfl) (fun _ _ => rfl) qd_122_1119 rfl qd_122_1120 rfl qd_122_1123 rfl qd_122_1125 rfl (isPs 180 (by decide)) (isPb 111 (by decide)) (by decide) (by decide) (by decide +kernel) ?_
  refine yS_let (k := 181) (p4 := 1133) (G := yh82) (fun _ => rfl) (fun _ _ => rfl) qd_122_1126 rfl qd_122_1127 rfl qd_122_1130 rfl qd_122_1132 rfl (isPs 181 (by decide)) (isPb 110 (by decide)) (by decide) (by decide) (by decide +kernel) ?_
  refine yS_let (k := 182) (p4 := 1140) (G := yh82) (fun _ => rfl) (fun _ _ => rfl) qd_122_1133 rfl qd_122_1134 rfl qd_122_1137 rfl qd_122_1139 rfl (isPs 182 (by decide)) (isPb 103 (by decide)) (by decide) (by decide) (by decide +kernel) ?_
  refine yS_let (k := 183) (p4 := 1146) (G := yh82) (fun _ => rfl) (fun _ _ => rfl) qd_122_1140 rfl qd_122_1141 rfl qd_122_1144 rfl qd_122_1145 rfl (isPs 183 (by decide)) (isPc 0) (by decide) (by decide) (by decide +kernel) ?_
  refine yS_let (k := 184) (p4 := 1153) (G := yh82) (fun _ => rfl) (fun _ _ => rfl) qd_122_1146 rfl qd_122_1147 rfl qd_122_1150 rfl qd_122_1152 rfl (isPs 184 (by decide)) (isPb 115 (by decide)) (by decide) (by decide) (by decide +kernel) ?_
  refine yS_let (k := 185) (p4 := 1160) (G := yh82) (fun _ => rfl) (fun _ _ => rfl) qd_122_1153 rfl qd_122_1154 rfl qd_122_1157 rfl qd_122_1159 rfl (isPs 185 (by decide)) (isPb 104 (by decide)) (by decide) (by decide) (by decide +kernel) ?_
  refine yS_let (k := 186) (p4 := 1167) (G := yh82) (fun _ => rfl) (fun _ _ => rfl) qd_122_1160 rfl qd_122_1161 rfl qd_122_1164 rfl qd_122_1166 rfl (isPs 186 (by decide)) (isPb 111 (by decide)) (by decide) (by decide) (by decide +kernel) ?_
  refine yS_let (k := 187) (p4 := 1174) (G := yh82) (fun _ => rfl) (fun _ _ => rfl) qd_122_1167 rfl qd_122_1168 rfl qd_122_1171 rfl qd_122_1173 rfl (isPs 187 (by decide)) (isPb 114 (by decide)) (by decide) (by decide) (by decide +kernel) ?_
  refine yS_let (k := 188) (p4 := 1181) (G := yh82) (fun _ => rfl) (fun _ _ => rfl) qd_122_1174 rfl qd_122_1175 rfl qd_122_1178 rfl qd_122_1180 rfl (isPs 188 (by decide)) (isPb 116 (by decide)) (by decide) (by decide) (by decide +kernel) ?_
  refine yS_let (k := 189) (p4 := 1187) (G := yh82) (fun _ => rfl) (fun _ _ => rfl) qd_122_1181 rfl qd_122_1182 rfl qd_122_1185 rfl qd_122_1186 rfl (isPs 189 (by decide)) (isPc 0) (by decide) (by decide) (by decide +kernel) ?_
  refine yS_let (k := 190) (p4 := 1194) (G := yh82) (fun _ => rfl) (fun _ _ => rfl) qd_122_1187 rfl qd_122_1188 rfl qd_122_1191 rfl qd_122_1193 rfl (isPs 190 (by decide)) (isPb 98 (by decide)) (by decide) (by decide) (by decide +kernel) ?_
  refine yS_let (k := 191) (p4 := 1201) (G := yh82) (fun _ => rfl) (fun _ _ => rfl) qd_122_1194 rfl qd_122_1195 rfl qd_122_1198 rfl qd_122_1200 rfl (isPs 191 (by decide)) (isPb 111 (by decide)) (by decide) (by decide) (by decide +kernel) ?_
  refine yS_let (k := 192) (p4 := 1208) (G := yh82) (fun _ => rfl) (fun _ _ => rfl) qd_122_1201 rfl qd_122_1202 rfl qd_122_1205 rfl qd_122_1207 rfl (isPs 192 (by decide)) (isPb 111 (by decide)) (by decide) (by decide) (by decide +kernel) ?_
  refine yS_let (k := 193) (p4 := 1215) (G := yh82) (fun _ => rfl) (fun _ _ => rfl) qd_122_1208 rfl qd_122_1209 rfl qd_122_1212 rfl qd_122_1214 rfl (isPs 193 (by decide)) (isPb 108 (by decide)) (by decide) (by decide) (by decide +kernel) ?_
  refine yS_let (k := 194) (p4 := 1222) (G := yh82) (fun _ => rfl) (fun _ _ => rfl) qd_122_1215 rfl qd_122_1216 rfl qd_122_1219 rfl qd_122_1221 rfl (isPs 194 (by decide)) (isPb 101 (by decide)) (by decide) (by decide) (by decide +kernel) ?_
  refine yS_let (k := 195) (p4 := 1229) (G := yh82) (fun _ => rfl) (fun _ _ => rfl) qd_122_1222 rfl qd_122_1223 rfl qd_122_1226 rfl qd_122_1228 rfl (isPs 195 (by decide)) (isPb 97 (by decide)) (by decide) (by decide) (by decide +kernel) ?_
  refine yS_let (k := 196) (p4 := 1236) (G := yh82) (fun _ => rfl) (fun _ _ => rfl) qd_122_1229 rfl qd_122_1230 rfl qd_122_1233 rfl qd_122_1235 rfl (isPs 196 (by decide)) (isPb 110 (by decide)) (by decide) (by decide) (by decide +kernel) ?_
  refine yS_let (k := 197) (p4 := 1242) (G := yh82) (fun _ => rfl) (fun _ _ => rfl) qd_122_1236 rfl qd_122_1237 rfl qd_122_1240 rfl qd_122_1241 rfl (isPs 197 (by decide)) (isPc 0) (by decide) (by decide) (by decide +kernel) ?_
  refine yS_let (k := 198) (p4 := 1249) (G := yh82) (fun _ => rfl) (fun _ _ => rfl) qd_122_1242 rfl qd_122_1243 rfl qd_122_1246 rfl qd_122_1248 rfl (isPs 198 (by decide)) (isPb 118 (by decide)) (by decide) (by decide) (by decide +kernel) ?_
  refine yS_let (k := 199) (p4 := 1256) (G := yh82) (fun _ => rfl) (fun _ _ => rfl) qd_122_1249 rfl qd_122_1250 rfl qd_122_1253 rfl qd_122_1255 rfl (isPs 199 (by decide)) (isPb 111 (by decide)) (by decide) (by decide) (by decide +kernel) ?_
  exact k
set_option maxRecDepth 100000 in
theorem ylet_200 {w : qE} {R : zRs → Prop} (k : yR w 0 qm122 1276 [(0, .ref 25)] [.ref 26, .ref 25] (yh82 (FLt 203)) R) : yR w 0 qm122 1256 [(0, .ref 25)] [.ref 26, .ref 25] (yh82 (FLt 200)) R := by
  refine yS_let (k := 200) (p4 := 1263) (G := yh82) (fun _ => rfl) (fun _ _ => rfl) qd_122_1256 rfl qd_122_1257 rfl qd_122_1260 rfl qd_122_1262 rfl (isPs 200 (by decide)) (isPb 105 (by decide)) (by decide) (by decide) (by decide +kernel) ?_
  refine yS_let (k := 201) (p4 := 1270) (G := yh82) (fun _ => rfl) (fun _ _ => rfl) qd_122_1263 rfl qd_122_1264 rfl qd_122_1267 rfl qd_122_1269 rfl (isPs 201 (by decide)) (isPb 100 (by decide)) (by decide) (by decide) (by decide +kernel) ?_
  refine yS_let (k := 202) (p4 := 1276) (G := yh82) (fun _ => rfl) (fun _ _ => rfl) qd_122_1270 rfl qd_122_1271 rfl qd_122_1274 rfl qd_122_1275 rfl (isPs 202 (by decide)) (isPc 0) (by decide) (by decide) (by decide +kernel) ?_
  exact k
theorem FLt_0 : FLt 0 = fun _ => 0 := by
  funext j
  unfold FLt
  rw [if_neg (by omega)]
set_option maxRecDepth 100000 in
theorem yc_rest {w : qE} {R : zRs → Prop} (hr : R (zadd 1 500 (zadd 1 500 (zadd 1 520 (zadd 1 160 (zadd 1 160 (zadd 1 160 (zadd 1 160 (zadd 1 160 (zadd 1 2 (zadd 1 9 (zadd 1 9 (zadd 1 170 (zadd 1 9 (zadd 1 6000 (.inl none, yh112, 0, 0)))))))))))))))) : yR w 0 qm122 1276 [(0, .ref 25)] [.ref 26, .ref 25] (yh82 (FLt 203)) R := by
  refine yS_putf (fs := [.null, .null, .null, .int 0, .int 0, .int 0, .int 0, .int 0, .int 0, .int 0, .null, .int 0, .int 0, .int 0, .int 0, .int 0, .int 0, .null, .null, .null, .null, .null, .null, .null, .null, .null, .null, .int 0, .int 0, .null]) (fs' := [.ref 26, .null, .null, .int 0, .int 0, .int 0, .int 0, .int 0, .int 0, .int 0, .null, .int 0, .int 0, .int 0, .int 0, .int 0, .int 0, .null, .null, .null, .null, .null, .null, .null, .null, .null, .null, .int 0, .int 0, .null]) (Hp1 := yh83) qd_122_1276 (qfl_8_7 w) rfl rfl rfl (Nat.le_of_ble_eq_true rfl) rfl rfl rfl ?_
  refine yS_aload_n qd_122_1279 rfl ?_
  refine yS_sipush qd_122_1280 (by decide) ?_
  refine yS_newI (a := 27) (n := 500) (Hp1 := yh84) qd_122_1283 (by decide) (by decide) rfl rfl ?_
  refine yS_putf (fs := [.ref 26, .null, .null, .int 0, .int 0, .int 0, .int 0, .int 0, .int 0, .int 0, .null, .int 0, .int 0, .int 0, .int 0, .int 0, .int 0, .null, .null, .null, .null, .null, .null, .null, .null, .null, .null, .int 0, .int 0, .null]) (fs' := [.ref 26, .ref 27, .null, .int 0, .int 0, .int 0, .int 0, .int 0, .int 0, .int 0, .null, .int 0, .int 0, .int 0, .int 0, .int 0, .int 0, .null, .null, .null, .null, .null, .null, .null, .null, .null, .null, .int 0, .int 0, .null]) (Hp1 := yh85) qd_122_1285 (qfl_8_13 w) rfl rfl rfl (Nat.le_of_ble_eq_true rfl) rfl rfl rfl ?_
  refine yS_aload_n qd_122_1288 rfl ?_
  refine yS_sipush qd_122_1289 (by decide) ?_
  refine yS_newI (a := 28) (n := 500) (Hp1 := yh86) qd_122_1292 (by decide) (by decide) rfl rfl ?_
  refine yS_putf (fs := [.ref 26, .ref 27, .null, .int 0, .int 0, .int 0, .int 0, .int 0, .int 0, .int 0, .null, .int 0, .int 0, .int 0, .int 0, .int 0, .int 0, .null, .null, .null, .null, .null, .null, .null, .null, .null, .null, .int 0, .int 0, .null]) (fs' := [.ref 26, .ref 27, .ref 28, .int 0, .int 0, .int 0, .int 0, .int 0, .int 0, .int 0, .null, .int 0, .int 0, .int 0, .int 0, .int 0, .int 0, .null, .null, .null, .null, .null, .null, .null, .null, .null, .null, .int 0, .int 0, .null]) (Hp1 := yh87) qd_122_1294 (qfl_8_16 w) rfl rfl rfl (Nat.le_of_ble_eq_true rfl) rfl rfl rfl ?_
  refine yS_aload_n qd_122_1297 rfl ?_
  refine yS_bipush qd_122_1298 (by decide) ?_
  refine yS_putf (fs := [.ref 26, .ref 27, .ref 28, .int 0, .int 0, .int 0, .int 0, .int 0, .int 0, .int 0, .null, .int 0, .int 0, .int 0, .int 0, .int 0, .int 0, .null, .null, .null, .null, .null, .null, .null, .null, .null, .null, .int 0, .int 0, .null]) (fs' := [.ref 26, .ref 27, .ref 28, .int 0, .int 0, .int 0, qI (-2), .int 0, .int 0, .int 0, .null, .int 0, .int 0, .int 0, .int 0, .int 0, .int 0, .null, .null, .null, .null, .null, .null, .null, .null, .null, .null, .int 0, .int 0, .null]) (Hp1 := yh88) qd_122_1300 (qfl_8_19 w) rfl rfl rfl (Nat.le_of_ble_eq_true rfl) rfl rfl rfl ?_
  refine yS_aload_n qd_122_1303 rfl ?_
  refine yS_sipush qd_122_1304 (by decide) ?_
  refine yS_newI (a := 29) (n := 520) (Hp1 := yh89) qd_122_1307 (by decide) (by decide) rfl rfl ?_
  refine yS_putf (fs := [.ref 26, .ref 27, .ref 28, .int 0, .int 0, .int 0, qI (-2), .int 0, .int 0, .int 0, .null, .int 0, .int 0, .int 0, .int 0, .int 0, .int 0, .null, .null, .null, .null, .null, .null, .null, .null, .null, .null, .int 0, .int 0, .null]) (fs' := [.ref 26, .ref 27, .ref 28, .int 0, .int 0, .int 0, qI (-2), .int 0, .int 0, .int 0, .ref 29, .int 0, .int 0, .int 0, .int 0, .int 0, .int 0, .null, .null, .null, .null, .null, .null, .null, .null, .null, .null, .int 0, .int 0, .null]) (Hp1 := yh90) qd_122_1309 (qfl_8_23 w) rfl rfl rfl (Nat.le_of_ble_eq_true rfl) rfl rfl rfl ?_
  refine yS_aload_n qd_122_1312 rfl ?_
  refine yS_sipush qd_122_1313 (by decide) ?_
  refine yS_newI (a := 30) (n := 160) (Hp1 := yh91) qd_122_1316 (by decide) (by decide) rfl rfl ?_
  refine yS_putf (fs := [.ref 26, .ref 27, .ref 28, .int 0, .int 0, .int 0, qI (-2), .int 0, .int 0, .int 0, .ref 29, .int 0, .int 0, .int 0, .int 0, .int 0, .int 0, .null, .null, .null, .null, .null, .null, .null, .null, .null, .null, .int 0, .int 0, .null]) (fs' := [.ref 26, .ref 27, .ref 28, .int 0, .int 0, .int 0, qI (-2), .int 0, .int 0, .int 0, .ref 29, .int 0, .int 0, .int 0, .int 0, .int 0, .int 0, .ref 30, .null, .null, .null, .null, .null, .null, .null, .null, .null, .int 0, .int 0, .null]) (Hp1 := yh92) qd_122_1318 (qfl_8_26 w) rfl rfl rfl (Nat.le_of_ble_eq_true rfl) rfl rfl rfl ?_
  refine yS_aload_n qd_122_1321 rfl ?_
  refine yS_sipush qd_122_1322 (by decide) ?_
  refine yS_newI (a := 31) (n := 160) (Hp1 := yh93) qd_122_1325 (by decide) (by decide) rfl rfl ?_
  refine yS_putf (fs := [.ref 26, .ref 27, .ref 28, .int 0, .int 0, .int 0, qI (-2), .int 0, .int 0, .int 0, .ref 29, .int 0, .int 0, .int 0, .int 0, .int 0, .int 0, .ref 30, .null, .null, .null, .null, .null, .null, .null, .null, .null, .int 0, .int 0, .null]) (fs' := [.ref 26, .ref 27, .ref 28, .int 0, .int 0, .int 0, qI (-2), .int 0, .int 0, .int 0, .ref 29, .int 0, .int 0, .int 0, .int 0, .int 0, .int 0, .ref 30, .ref 31, .null, .null, .null, .null, .null, .null, .null, .null, .int 0, .int 0, .null]) (Hp1 := yh94) qd_122_1327 (qfl_8_29 w) rfl rfl rfl (Nat.le_of_ble_eq_true rfl) rfl rfl rfl ?_
  refine yS_aload_n qd_122_1330 rfl ?_
  refine yS_sipush qd_122_1331 (by decide) ?_
  refine yS_newI (a := 32) (n := 160) (Hp1 := yh95) qd_122_1334 (by decide) (by decide) rfl rfl ?_
  refine yS_putf (fs := [.ref 26, .ref 27, .ref 28, .int 0, .int 0, .int 0, qI (-2), .int 0, .int 0, .int 0, .ref 29, .int 0, .int 0, .int 0, .int 0, .int 0, .int 0, .ref 30, .ref 31, .null, .null, .null, .null, .null, .null, .null, .null, .int 0, .int 0, .null]) (fs' := [.ref 26, .ref 27, .ref 28, .int 0, .int 0, .int 0, qI (-2), .int 0, .int 0, .int 0, .ref 29, .int 0, .int 0, .int 0, .int 0, .int 0, .int 0, .ref 30, .ref 31, .ref 32, .null, .null, .null, .null, .null, .null, .null, .int 0, .int 0, .null]) (Hp1 := yh96) qd_122_1336 (qfl_8_32 w) rfl rfl rfl (Nat.le_of_ble_eq_true rfl) rfl rfl rfl ?_
  refine yS_aload_n qd_122_1339 rfl ?_
  refine yS_sipush qd_122_1340 (by decide) ?_
  refine yS_newI (a := 33) (n := 160) (Hp1 := yh97) qd_122_1343 (by decide) (by decide) rfl rfl ?_
  refine yS_putf (fs := [.ref 26, .ref 27, .ref 28, .int 0, .int 0, .int 0, qI (-2), .int 0, .int 0, .int 0, .ref 29, .int 0, .int 0, .int 0, .int 0, .int 0, .int 0, .ref 30, .ref 31, .ref 32, .null, .null, .null, .null, .null, .null, .null, .int 0, .int 0, .null]) (fs' := [.ref 26, .ref 27, .ref 28, .int 0, .int 0, .int 0, qI (-2), .int 0, .int 0, .int 0, .ref 29, .int 0, .int 0, .int 0, .int 0, .int 0, .int 0, .ref 30, .ref 31, .ref 32, .ref 33, .null, .null, .null, .null, .null, .null, .int 0, .int 0, .null]) (Hp1 := yh98) qd_122_1345 (qfl_8_35 w) rfl rfl rfl (Nat.le_of_ble_eq_true rfl) rfl rfl rfl ?_
  refine yS_aload_n qd_122_1348 rfl ?_
  refine yS_sipush qd_122_1349 (by decide) ?_
  refine yS_newI (a := 34) (n := 160) (Hp1 := yh99) qd_122_1352 (by decide) (by decide) rfl rfl ?_
  refine yS_putf (fs := [.ref 26, .ref 27, .ref 28, .int 0, .int 0, .int 0, qI (-2), .int 0, .int 0, .int 0, .ref 29, .int 0, .int 0, .int 0, .int 0, .int 0, .int 0, .ref 30, .ref 31, .ref 32, .ref 33, .null, .null, .null, .null, .null, .null, .int 0, .int 0, .null]) (fs' := [.ref 26, .ref 27, .ref 28, .int 0, .int 0, .int 0, qI (-2), .int 0, .int 0, .int 0, .ref 29, .int 0, .int 0, .int 0, .int 0, .int 0, .int 0, .ref 30, .ref 31, .ref 32, .ref 33, .ref 34, .null, .null, .null, .null, .null, .int 0, .int 0, .null]) (Hp1 := yh100) qd_122_1354 (qfl_8_38 w) rfl rfl rfl (Nat.le_of_ble_eq_true rfl) rfl rfl rfl ?_
  refine yS_aload_n qd_122_1357 rfl ?_
  refine yS_iconst qd_122_1358 ?_
  refine yS_newI (a := 35) (n := 2) (Hp1 := yh101) qd_122_1359 (by decide) (by decide) rfl rfl ?_
  refine yS_putf (fs := [.ref 26, .ref 27, .ref 28, .int 0, .int 0, .int 0, qI (-2), .int 0, .int 0, .int 0, .ref 29, .int 0, .int 0, .int 0, .int 0, .int 0, .int 0, .ref 30, .ref 31, .ref 32, .ref 33, .ref 34, .null, .null, .null, .null, .null, .int 0, .int 0, .null]) (fs' := [.ref 26, .ref 27, .ref 28, .int 0, .int 0, .int 0, qI (-2), .int 0, .int 0, .int 0, .ref 29, .int 0, .int 0, .int 0, .int 0, .int 0, .int 0, .ref 30, .ref 31, .ref 32, .ref 33, .ref 34, .ref 35, .null, .null, .null, .null, .int 0, .int 0, .null]) (Hp1 := yh102) qd_122_1361 (qfl_8_41 w) rfl rfl rfl (Nat.le_of_ble_eq_true rfl) rfl rfl rfl ?_
  refine yS_aload_n qd_122_1364 rfl ?_
  refine yS_bipush qd_122_1365 (by decide) ?_
  refine yS_newI (a := 36) (n := 9) (Hp1 := yh103) qd_122_1367 (by decide) (by decide) rfl rfl ?_
  refine yS_putf (fs := [.ref 26, .ref 27, .ref 28, .int 0, .int 0, .int 0, qI (-2), .int 0, .int 0, .int 0, .ref 29, .int 0, .int 0, .int 0, .int 0, .int 0, .int 0, .ref 30, .ref 31, .ref 32, .ref 33, .ref 34, .ref 35, .null, .null, .null, .null, .int 0, .int 0, .null]) (fs' := [.ref 26, .ref 27, .ref 28, .int 0, .int 0, .int 0, qI (-2), .int 0, .int 0, .int 0, .ref 29, .int 0, .int 0, .int 0, .int 0, .int 0, .int 0, .ref 30, .ref 31, .ref 32, .ref 33, .ref 34, .ref 35, .ref 36, .null, .null, .null, .int 0, .int 0, .null]) (Hp1 := yh104) qd_122_1369 (qfl_8_44 w) rfl rfl rfl (Nat.le_of_ble_eq_true rfl) rfl rfl rfl ?_
  refine yS_aload_n qd_122_1372 rfl ?_
  refine yS_bipush qd_122_1373 (by decide) ?_
  refine yS_newI (a := 37) (n := 9) (Hp1 := yh105) qd_122_1375 (by decide) (by decide) rfl rfl ?_
  refine yS_putf (fs := [.ref 26, .ref 27, .ref 28, .int 0, .int 0, .int 0, qI (-2), .int 0, .int 0, .int 0, .ref 29, .int 0, .int 0, .int 0, .int 0, .int 0, .int 0, .ref 30, .ref 31, .ref 32, .ref 33, .ref 34, .ref 35, .ref 36, .null, .null, .null, .int 0, .int 0, .null]) (fs' := [.ref 26, .ref 27, .ref 28, .int 0, .int 0, .int 0, qI (-2), .int 0, .int 0, .int 0, .ref 29, .int 0, .int 0, .int 0, .int 0, .int 0, .int 0, .ref 30, .ref 31, .ref 32, .ref 33, .ref 34, .ref 35, .ref 36, .ref 37, .null, .null, .int 0, .int 0, .null]) (Hp1 := yh106) qd_122_1377 (qfl_8_47 w) rfl rfl rfl (Nat.le_of_ble_eq_true rfl) rfl rfl rfl ?_
  refine yS_aload_n qd_122_1380 rfl ?_
  refine yS_sipush qd_122_1381 (by decide) ?_
  refine yS_newI (a := 38) (n := 170) (Hp1 := yh107) qd_122_1384 (by decide) (by decide) rfl rfl ?_
  refine yS_putf (fs := [.ref 26, .ref 27, .ref 28, .int 0, .int 0, .int 0, qI (-2), .int 0, .int 0, .int 0, .ref 29, .int 0, .int 0, .int 0, .int 0, .int 0, .int 0, .ref 30, .ref 31, .ref 32, .ref 33, .ref 34, .ref 35, .ref 36, .ref 37, .null, .null, .int 0, .int 0, .null]) (fs' := [.ref 26, .ref 27, .ref 28, .int 0, .int 0, .int 0, qI (-2), .int 0, .int 0, .int 0, .ref 29, .int 0, .int 0, .int 0, .int 0, .int 0, .int 0, .ref 30, .ref 31, .ref 32, .ref 33, .ref 34, .ref 35, .ref 36, .ref 37, .ref 38, .null, .int 0, .int 0, .null]) (Hp1 := yh108) qd_122_1386 (qfl_8_50 w) rfl rfl rfl (Nat.le_of_ble_eq_true rfl) rfl rfl rfl ?_
  refine yS_aload_n qd_122_1389 rfl ?_
  refine yS_bipush qd_122_1390 (by decide) ?_
  refine yS_newZ (a := 39) (n := 9) (Hp1 := yh109) qd_122_1392 (by decide) (by decide) rfl rfl ?_
  refine yS_putf (fs := [.ref 26, .ref 27, .ref 28, .int 0, .int 0, .int 0, qI (-2), .int 0, .int 0, .int 0, .ref 29, .int 0, .int 0, .int 0, .int 0, .int 0, .int 0, .ref 30, .ref 31, .ref 32, .ref 33, .ref 34, .ref 35, .ref 36, .ref 37, .ref 38, .null, .int 0, .int 0, .null]) (fs' := [.ref 26, .ref 27, .ref 28, .int 0, .int 0, .int 0, qI (-2), .int 0, .int 0, .int 0, .ref 29, .int 0, .int 0, .int 0, .int 0, .int 0, .int 0, .ref 30, .ref 31, .ref 32, .ref 33, .ref 34, .ref 35, .ref 36, .ref 37, .ref 38, .ref 39, .int 0, .int 0, .null]) (Hp1 := yh110) qd_122_1394 (qfl_8_53 w) rfl rfl rfl (Nat.le_of_ble_eq_true rfl) rfl rfl rfl ?_
  refine yS_aload_n qd_122_1397 rfl ?_
  refine yS_sipush qd_122_1398 (by decide) ?_
  refine yS_newI (a := 40) (n := 6000) (Hp1 := yh111) qd_122_1401 (by decide) (by decide) rfl rfl ?_
  refine yS_putf (fs := [.ref 26, .ref 27, .ref 28, .int 0, .int 0, .int 0, qI (-2), .int 0, .int 0, .int 0, .ref 29, .int 0, .int 0, .int 0, .int 0, .int 0, .int 0, .ref 30, .ref 31, .ref 32, .ref 33, .ref 34, .ref 35, .ref 36, .ref 37, .ref 38, .ref 39, .int 0, .int 0, .null]) (fs' := [.ref 26, .ref 27, .ref 28, .int 0, .int 0, .int 0, qI (-2), .int 0, .int 0, .int 0, .ref 29, .int 0, .int 0, .int 0, .int 0, .int 0, .int 0, .ref 30, .ref 31, .ref 32, .ref 33, .ref 34, .ref 35, .ref 36, .ref 37, .ref 38, .ref 39, .int 0, .int 0, .ref 40]) (Hp1 := yh112) qd_122_1403 (qfl_8_57 w) rfl rfl rfl (Nat.le_of_ble_eq_true rfl) rfl rfl rfl ?_
  exact yS_vreturn qd_122_1406 rfl hr
set_option maxRecDepth 100000 in
theorem yc_model {w : qE} : zX w.T 1 122 [.ref 25] yh80 (.inl none, yh112, 15, 8722) := by
  refine yR.zX (M := qm122) (l := [(0, .ref 25)]) qtm_122 rfl (Nat.le_of_ble_eq_true rfl) (zsub_c rfl zsub_n) ?_
  refine yS_aload_n qd_122_0 rfl ?_
  refine yS_oi qd_122_1 (qml_8_1 w) (Nat.le_of_ble_eq_true rfl) ?_
  refine yS_aload_n qd_122_4 rfl ?_
  refine yS_sipush qd_122_5 (by decide) ?_
  refine yS_newI (a := 26) (n := 203) (Hp1 := yh81) qd_122_8 (by decide) (by decide) rfl rfl ?_
  show yR w 0 qm122 10 [(0, .ref 25)] [.ref 26, .ref 25] (yh82 (fun _ => 0)) _
  rw [← FLt_0]
  exact ylet_0 (ylet_20 (ylet_40 (ylet_60 (ylet_80 (ylet_100 (ylet_120 (ylet_140 (ylet_160 (ylet_180 (ylet_200 (yc_rest rfl)))))))))))
set_option maxRecDepth 100000 in
theorem yc_law {w : qE} {R : zRs → Prop} (k : yR w 20 qmL 28 [(0, .retAddr 1), (1, .ref 0), (2, .ref 25), (3, .ref 41), (4, .ref 42), (5, qI 0)] [] yh114 (fun r => R (zadd 43 13562 r))) : yR w 20 qmL 0 [(0, .retAddr 1)] [] yh0 R := by
  refine yS_new (a := 0) (q := ("ClassReader", qF0, 7)) (fs := [.null, .null, .null, .null, .null, .null, .int 0]) (Hp1 := yh1) qdL_0 (qnlk_11_8 w) (qxlk_11_8 w) rfl rfl rfl rfl ?_
  refine yS_dup qdL_3 rfl ?_
  refine yS_ctor qdL_4 (qml_11_46 w) rfl (Nat.le_of_ble_eq_true rfl) (Nat.le_of_ble_eq_true rfl) yc15 ?_
  refine yS_astore_n (a := [(0, .retAddr 1)]) qdL_7 (Nat.le_of_ble_eq_true rfl) (zsub_c rfl zsub_n) rfl ?_
  refine yS_new (a := 25) (q := ("ClassReaderModel", qF8, 30)) (fs := [.null, .null, .null, .int 0, .int 0, .int 0, .int 0, .int 0, .int 0, .int 0, .null, .int 0, .int 0, .int 0, .int 0, .int 0, .int 0, .null, .null, .null, .null, .null, .null, .null, .null, .null, .null, .int 0, .int 0, .null]) (Hp1 := yh80) qdL_8 (qnlk_11_47 w) (qxlk_11_47 w) rfl rfl rfl rfl ?_
  refine yS_dup qdL_11 rfl ?_
  refine yS_ctor qdL_12 (qml_11_49 w) rfl (Nat.le_of_ble_eq_true rfl) (Nat.le_of_ble_eq_true rfl) yc_model ?_
  refine yS_astore_n (a := [(1, .ref 0), (0, .retAddr 1)]) qdL_15 (Nat.le_of_ble_eq_true rfl) (zsub_c rfl (zsub_c rfl zsub_n)) rfl ?_
  refine yS_iconst qdL_16 ?_
  refine yS_newJ (a := 41) (n := 1) (Hp1 := yh113) qdL_17 (by decide) (by decide) rfl rfl ?_
  refine yS_astore_n (a := [(2, .ref 25), (1, .ref 0), (0, .retAddr 1)]) qdL_19 (Nat.le_of_ble_eq_true rfl) (zsub_c rfl (zsub_c rfl (zsub_c rfl zsub_n))) rfl ?_
  refine yS_iconst qdL_20 ?_
  refine yS_newD (a := 42) (n := 1) (Hp1 := yh114) qdL_21 (by decide) (by decide) rfl rfl ?_
  refine yS_astore (a := [(3, .ref 41), (2, .ref 25), (1, .ref 0), (0, .retAddr 1)]) qdL_23 (Nat.le_of_ble_eq_true rfl) (zsub_c rfl (zsub_c rfl (zsub_c rfl (zsub_c rfl zsub_n)))) rfl ?_
  refine yS_iconst qdL_25 ?_
  refine yS_istore (a := [(4, .ref 42), (3, .ref 41), (2, .ref 25), (1, .ref 0), (0, .retAddr 1)]) qdL_26 (Nat.le_of_ble_eq_true rfl) (zsub_c rfl (zsub_c rfl (zsub_c rfl (zsub_c rfl (zsub_c rfl zsub_n))))) rfl ?_
  refine yS_sub (zsub_c rfl (zsub_c rfl (zsub_c rfl (zsub_c rfl (zsub_c rfl (zsub_c rfl zsub_n)))))) (k.mono (fun r hr => ?_))
  simpa only [zadd_add] using hr
