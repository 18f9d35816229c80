/-! THE SKELETON: the cells behind the two constructors (printed by a program of mine: wip/whole/gen_skel.py) -/
def hp (s : Nat → Int → Int) (x : zH) : zH :=
  .inr (0, [.ref 1, .ref 3, .ref 7, .ref 8, .ref 17, .ref 24, qI (s 0 6)]) ::
  .inr (1, [.ref 2, qI (s 1 1), qI (s 1 2), qI (s 1 3)]) ::
  .inl (0, 500, .inl (fun j => Int32.ofInt (s 2 (j : Int)))) ::
  .inr (2, [.ref 1, .ref 4, .ref 6, qI (s 3 3)]) ::
  .inr (3, [qI 6, .ref 5, qI (s 4 2)]) ::
  .inl (0, 1500, .inl (fun j => Int32.ofInt (s 5 (j : Int)))) ::
  .inl (0, 500, .inl (fun j => Int32.ofInt (s 6 (j : Int)))) ::
  .inr (4, [.ref 1, .ref 3]) ::
  .inr (5, [.ref 1, .ref 3, qI (s 8 2), qI (s 8 3), qI (s 8 4), qI (s 8 5), qI (s 8 6), qI (s 8 7), .ref 9, .ref 11, .ref 13, .ref 15]) ::
  .inr (3, [qI 1, .ref 10, qI (s 9 2)]) ::
  .inl (0, 250, .inl (fun j => Int32.ofInt (s 10 (j : Int)))) ::
  .inr (3, [qI 1, .ref 12, qI (s 11 2)]) ::
  .inl (0, 250, .inl (fun j => Int32.ofInt (s 12 (j : Int)))) ::
  .inr (3, [qI 4, .ref 14, qI (s 13 2)]) ::
  .inl (0, 248, .inl (fun j => Int32.ofInt (s 14 (j : Int)))) ::
  .inr (3, [qI 2, .ref 16, qI (s 15 2)]) ::
  .inl (0, 250, .inl (fun j => Int32.ofInt (s 16 (j : Int)))) ::
  .inr (6, [.ref 1, .ref 3, .ref 8, .ref 18, .ref 20, .ref 22, qI (s 17 6), qI (s 17 7), qI (s 17 8), qI (s 17 9), qI (s 17 10)]) ::
  .inr (3, [qI 1, .ref 19, qI (s 18 2)]) ::
  .inl (0, 250, .inl (fun j => Int32.ofInt (s 19 (j : Int)))) ::
  .inr (3, [qI 8, .ref 21, qI (s 20 2)]) ::
  .inl (0, 496, .inl (fun j => Int32.ofInt (s 21 (j : Int)))) ::
  .inr (3, [qI 8, .ref 23, qI (s 22 2)]) ::
  .inl (0, 496, .inl (fun j => Int32.ofInt (s 23 (j : Int)))) ::
  .inr (7, [.ref 3, qI (s 24 1), qI (s 24 2), qI (s 24 3)]) ::
  .inr (8, [.ref 26, .ref 27, .ref 28, qI (s 25 3), qI (s 25 4), qI (s 25 5), qI (s 25 6), qI (s 25 7), qI (s 25 8), qI (s 25 9), .ref 29, qI (s 25 11), qI (s 25 12), qI (s 25 13), qI (s 25 14), qI (s 25 15), qI (s 25 16), .ref 30, .ref 31, .ref 32, .ref 33, .ref 34, .ref 35, .ref 36, .ref 37, .ref 38, .ref 39, qI (s 25 27), qI (s 25 28), .ref 40]) ::
  .inl (0, 203, .inl (fun j => Int32.ofInt (s 26 (j : Int)))) ::
  .inl (0, 500, .inl (fun j => Int32.ofInt (s 27 (j : Int)))) ::
  .inl (0, 500, .inl (fun j => Int32.ofInt (s 28 (j : Int)))) ::
  .inl (0, 520, .inl (fun j => Int32.ofInt (s 29 (j : Int)))) ::
  .inl (0, 160, .inl (fun j => Int32.ofInt (s 30 (j : Int)))) ::
  .inl (0, 160, .inl (fun j => Int32.ofInt (s 31 (j : Int)))) ::
  .inl (0, 160, .inl (fun j => Int32.ofInt (s 32 (j : Int)))) ::
  .inl (0, 160, .inl (fun j => Int32.ofInt (s 33 (j : Int)))) ::
  .inl (0, 160, .inl (fun j => Int32.ofInt (s 34 (j : Int)))) ::
  .inl (0, 2, .inl (fun j => Int32.ofInt (s 35 (j : Int)))) ::
  .inl (0, 9, .inl (fun j => Int32.ofInt (s 36 (j : Int)))) ::
  .inl (0, 9, .inl (fun j => Int32.ofInt (s 37 (j : Int)))) ::
  .inl (0, 170, .inl (fun j => Int32.ofInt (s 38 (j : Int)))) ::
  .inl (1, 9, .inl (fun j => Int32.ofInt (s 39 (j : Int)))) ::
  .inl (0, 6000, .inl (fun j => Int32.ofInt (s 40 (j : Int)))) ::
  x
/-- how long the arrays of ints are -/
def qlen : Nat → Nat
  | 2 => 500
  | 5 => 1500
  | 6 => 500
  | 10 => 250
  | 12 => 250
  | 14 => 248
  | 16 => 250
  | 19 => 250
  | 21 => 496
  | 23 => 496
  | 26 => 203
  | 27 => 500
  | 28 => 500
  | 29 => 520
  | 30 => 160
  | 31 => 160
  | 32 => 160
  | 33 => 160
  | 34 => 160
  | 35 => 2
  | 36 => 9
  | 37 => 9
  | 38 => 170
  | 40 => 6000
  | _ => 0
theorem qlen_le (a : Nat) : qlen a ≤ 100000 := by unfold qlen; split <;> omega
theorem hp_arr (s : qS) (x : zH) : ∀ (a : Nat), 0 < qlen a → (hp s x)[a]? = some (.inl (0, qlen a, .inl (fun j => Int32.ofInt (s a (j : Int)))))
  | 0, h => absurd h (by decide)
  | 1, h => absurd h (by decide)
  | 2, h => rfl
  | 3, h => absurd h (by decide)
  | 4, h => absurd h (by decide)
  | 5, h => rfl
  | 6, h => rfl
  | 7, h => absurd h (by decide)
  | 8, h => absurd h (by decide)
  | 9, h => absurd h (by decide)
  | 10, h => rfl
  | 11, h => absurd h (by decide)
  | 12, h => rfl
  | 13, h => absurd h (by decide)
  | 14, h => rfl
  | 15, h => absurd h (by decide)
  | 16, h => rfl
  | 17, h => absurd h (by decide)
  | 18, h => absurd h (by decide)
  | 19, h => rfl
  | 20, h => absurd h (by decide)
  | 21, h => rfl
  | 22, h => absurd h (by decide)
  | 23, h => rfl
  | 24, h => absurd h (by decide)
  | 25, h => absurd h (by decide)
  | 26, h => rfl
  | 27, h => rfl
  | 28, h => rfl
  | 29, h => rfl
  | 30, h => rfl
  | 31, h => rfl
  | 32, h => rfl
  | 33, h => rfl
  | 34, h => rfl
  | 35, h => rfl
  | 36, h => rfl
  | 37, h => rfl
  | 38, h => rfl
  | 39, h => absurd h (by decide)
  | 40, h => rfl
  | n + 41, h => absurd h (by unfold qlen; split <;> omega)
theorem upd_q {g : Int → Int} {i : Int} (h0 : 0 ≤ i) (v : Int) : upd (fun j : Nat => Int32.ofInt (g (j : Int))) i.toNat (Int32.ofInt v) = fun j : Nat => Int32.ofInt (if (j : Int) = i then v else g (j : Int)) := by
  funext j
  unfold upd
  by_cases h : j = i.toNat
  · rw [if_pos h, if_pos (by omega)]
  · rw [if_neg h, if_neg (by omega)]
theorem hp_aset (s : qS) (x : zH) {i : Int} (h0 : 0 ≤ i) (v : Int) : ∀ (a : Nat), 0 < qlen a → (hp s x).set a (.inl (0, qlen a, .inl (upd (fun j : Nat => Int32.ofInt (s a (j : Int))) i.toNat (Int32.ofInt v)))) = hp (qset s a i v) x
  | 0, h => absurd h (by decide)
  | 1, h => absurd h (by decide)
  | 2, h => by rw [upd_q h0]; rfl
  | 3, h => absurd h (by decide)
  | 4, h => absurd h (by decide)
  | 5, h => by rw [upd_q h0]; rfl
  | 6, h => by rw [upd_q h0]; rfl
  | 7, h => absurd h (by decide)
  | 8, h => absurd h (by decide)
  | 9, h => absurd h (by decide)
  | 10, h => by rw [upd_q h0]; rfl
  | 11, h => absurd h (by decide)
  | 12, h => by rw [upd_q h0]; rfl
  | 13, h => absurd h (by decide)
  | 14, h => by rw [upd_q h0]; rfl
  | 15, h => absurd h (by decide)
  | 16, h => by rw [upd_q h0]; rfl
  | 17, h => absurd h (by decide)
  | 18, h => absurd h (by decide)
  | 19, h => by rw [upd_q h0]; rfl
  | 20, h => absurd h (by decide)
  | 21, h => by rw [upd_q h0]; rfl
  | 22, h => absurd h (by decide)
  | 23, h => by rw [upd_q h0]; rfl
  | 24, h => absurd h (by decide)
  | 25, h => absurd h (by decide)
  | 26, h => by rw [upd_q h0]; rfl
  | 27, h => by rw [upd_q h0]; rfl
  | 28, h => by rw [upd_q h0]; rfl
  | 29, h => by rw [upd_q h0]; rfl
  | 30, h => by rw [upd_q h0]; rfl
  | 31, h => by rw [upd_q h0]; rfl
  | 32, h => by rw [upd_q h0]; rfl
  | 33, h => by rw [upd_q h0]; rfl
  | 34, h => by rw [upd_q h0]; rfl
  | 35, h => by rw [upd_q h0]; rfl
  | 36, h => by rw [upd_q h0]; rfl
  | 37, h => by rw [upd_q h0]; rfl
  | 38, h => by rw [upd_q h0]; rfl
  | 39, h => absurd h (by decide)
  | 40, h => by rw [upd_q h0]; rfl
  | n + 41, h => absurd h (by unfold qlen; split <;> omega)
/-- the tables' widths -/
def qwid : Nat → Int
  | 4 => 6
  | 9 => 1
  | 11 => 1
  | 13 => 4
  | 15 => 2
  | 18 => 1
  | 20 => 8
  | 22 => 8
  | _ => 0
theorem hp_tab (s : qS) (x : zH) : ∀ (t : Nat), 0 < qwid t → (hp s x)[t]? = some (.inr (3, [qI (qwid t), .ref (t + 1), qI (s t 2)]))
  | 0, h => absurd h (by decide)
  | 1, h => absurd h (by decide)
  | 2, h => absurd h (by decide)
  | 3, h => absurd h (by decide)
  | 4, h => rfl
  | 5, h => absurd h (by decide)
  | 6, h => absurd h (by decide)
  | 7, h => absurd h (by decide)
  | 8, h => absurd h (by decide)
  | 9, h => rfl
  | 10, h => absurd h (by decide)
  | 11, h => rfl
  | 12, h => absurd h (by decide)
  | 13, h => rfl
  | 14, h => absurd h (by decide)
  | 15, h => rfl
  | 16, h => absurd h (by decide)
  | 17, h => absurd h (by decide)
  | 18, h => rfl
  | 19, h => absurd h (by decide)
  | 20, h => rfl
  | 21, h => absurd h (by decide)
  | 22, h => rfl
  | 23, h => absurd h (by decide)
  | 24, h => absurd h (by decide)
  | 25, h => absurd h (by decide)
  | 26, h => absurd h (by decide)
  | 27, h => absurd h (by decide)
  | 28, h => absurd h (by decide)
  | 29, h => absurd h (by decide)
  | 30, h => absurd h (by decide)
  | 31, h => absurd h (by decide)
  | 32, h => absurd h (by decide)
  | 33, h => absurd h (by decide)
  | 34, h => absurd h (by decide)
  | 35, h => absurd h (by decide)
  | 36, h => absurd h (by decide)
  | 37, h => absurd h (by decide)
  | 38, h => absurd h (by decide)
  | 39, h => absurd h (by decide)
  | 40, h => absurd h (by decide)
  | n + 41, h => absurd h (by unfold qwid; split <;> omega)
theorem hp_tset (s : qS) (x : zH) (v : Int) : ∀ (t : Nat), 0 < qwid t → (hp s x).set t (.inr (3, [qI (qwid t), .ref (t + 1), qI v])) = hp (qset s t 2 v) x
  | 0, h => absurd h (by decide)
  | 1, h => absurd h (by decide)
  | 2, h => absurd h (by decide)
  | 3, h => absurd h (by decide)
  | 4, h => rfl
  | 5, h => absurd h (by decide)
  | 6, h => absurd h (by decide)
  | 7, h => absurd h (by decide)
  | 8, h => absurd h (by decide)
  | 9, h => rfl
  | 10, h => absurd h (by decide)
  | 11, h => rfl
  | 12, h => absurd h (by decide)
  | 13, h => rfl
  | 14, h => absurd h (by decide)
  | 15, h => rfl
  | 16, h => absurd h (by decide)
  | 17, h => absurd h (by decide)
  | 18, h => rfl
  | 19, h => absurd h (by decide)
  | 20, h => rfl
  | 21, h => absurd h (by decide)
  | 22, h => rfl
  | 23, h => absurd h (by decide)
  | 24, h => absurd h (by decide)
  | 25, h => absurd h (by decide)
  | 26, h => absurd h (by decide)
  | 27, h => absurd h (by decide)
  | 28, h => absurd h (by decide)
  | 29, h => absurd h (by decide)
  | 30, h => absurd h (by decide)
  | 31, h => absurd h (by decide)
  | 32, h => absurd h (by decide)
  | 33, h => absurd h (by decide)
  | 34, h => absurd h (by decide)
  | 35, h => absurd h (by decide)
  | 36, h => absurd h (by decide)
  | 37, h => absurd h (by decide)
  | 38, h => absurd h (by decide)
  | 39, h => absurd h (by decide)
  | 40, h => absurd h (by decide)
  | n + 41, h => absurd h (by unfold qwid; split <;> omega)
theorem hpc_0 (s : qS) (x : zH) : (hp s x)[0]? = some (.inr (0, [.ref 1, .ref 3, .ref 7, .ref 8, .ref 17, .ref 24, qI (s 0 6)])) := rfl
theorem hps_0_6 (s : qS) (x : zH) (v : Int) : (hp s x).set 0 (.inr (0, [.ref 1, .ref 3, .ref 7, .ref 8, .ref 17, .ref 24, qI v])) = hp (qset s 0 6 v) x := rfl
theorem hpc_1 (s : qS) (x : zH) : (hp s x)[1]? = some (.inr (1, [.ref 2, qI (s 1 1), qI (s 1 2), qI (s 1 3)])) := rfl
theorem hps_1_1 (s : qS) (x : zH) (v : Int) : (hp s x).set 1 (.inr (1, [.ref 2, qI v, qI (s 1 2), qI (s 1 3)])) = hp (qset s 1 1 v) x := rfl
theorem hps_1_2 (s : qS) (x : zH) (v : Int) : (hp s x).set 1 (.inr (1, [.ref 2, qI (s 1 1), qI v, qI (s 1 3)])) = hp (qset s 1 2 v) x := rfl
theorem hps_1_3 (s : qS) (x : zH) (v : Int) : (hp s x).set 1 (.inr (1, [.ref 2, qI (s 1 1), qI (s 1 2), qI v])) = hp (qset s 1 3 v) x := rfl
theorem hpc_3 (s : qS) (x : zH) : (hp s x)[3]? = some (.inr (2, [.ref 1, .ref 4, .ref 6, qI (s 3 3)])) := rfl
theorem hps_3_3 (s : qS) (x : zH) (v : Int) : (hp s x).set 3 (.inr (2, [.ref 1, .ref 4, .ref 6, qI v])) = hp (qset s 3 3 v) x := rfl
theorem hpc_4 (s : qS) (x : zH) : (hp s x)[4]? = some (.inr (3, [qI 6, .ref 5, qI (s 4 2)])) := rfl
theorem hps_4_2 (s : qS) (x : zH) (v : Int) : (hp s x).set 4 (.inr (3, [qI 6, .ref 5, qI v])) = hp (qset s 4 2 v) x := rfl
theorem hpc_7 (s : qS) (x : zH) : (hp s x)[7]? = some (.inr (4, [.ref 1, .ref 3])) := rfl
theorem hpc_8 (s : qS) (x : zH) : (hp s x)[8]? = some (.inr (5, [.ref 1, .ref 3, qI (s 8 2), qI (s 8 3), qI (s 8 4), qI (s 8 5), qI (s 8 6), qI (s 8 7), .ref 9, .ref 11, .ref 13, .ref 15])) := rfl
theorem hps_8_2 (s : qS) (x : zH) (v : Int) : (hp s x).set 8 (.inr (5, [.ref 1, .ref 3, qI v, qI (s 8 3), qI (s 8 4), qI (s 8 5), qI (s 8 6), qI (s 8 7), .ref 9, .ref 11, .ref 13, .ref 15])) = hp (qset s 8 2 v) x := rfl
theorem hps_8_3 (s : qS) (x : zH) (v : Int) : (hp s x).set 8 (.inr (5, [.ref 1, .ref 3, qI (s 8 2), qI v, qI (s 8 4), qI (s 8 5), qI (s 8 6), qI (s 8 7), .ref 9, .ref 11, .ref 13, .ref 15])) = hp (qset s 8 3 v) x := rfl
theorem hps_8_4 (s : qS) (x : zH) (v : Int) : (hp s x).set 8 (.inr (5, [.ref 1, .ref 3, qI (s 8 2), qI (s 8 3), qI v, qI (s 8 5), qI (s 8 6), qI (s 8 7), .ref 9, .ref 11, .ref 13, .ref 15])) = hp (qset s 8 4 v) x := rfl
theorem hps_8_5 (s : qS) (x : zH) (v : Int) : (hp s x).set 8 (.inr (5, [.ref 1, .ref 3, qI (s 8 2), qI (s 8 3), qI (s 8 4), qI v, qI (s 8 6), qI (s 8 7), .ref 9, .ref 11, .ref 13, .ref 15])) = hp (qset s 8 5 v) x := rfl
theorem hps_8_6 (s : qS) (x : zH) (v : Int) : (hp s x).set 8 (.inr (5, [.ref 1, .ref 3, qI (s 8 2), qI (s 8 3), qI (s 8 4), qI (s 8 5), qI v, qI (s 8 7), .ref 9, .ref 11, .ref 13, .ref 15])) = hp (qset s 8 6 v) x := rfl
theorem hps_8_7 (s : qS) (x : zH) (v : Int) : (hp s x).set 8 (.inr (5, [.ref 1, .ref 3, qI (s 8 2), qI (s 8 3), qI (s 8 4), qI (s 8 5), qI (s 8 6), qI v, .ref 9, .ref 11, .ref 13, .ref 15])) = hp (qset s 8 7 v) x := rfl
theorem hpc_9 (s : qS) (x : zH) : (hp s x)[9]? = some (.inr (3, [qI 1, .ref 10, qI (s 9 2)])) := rfl
theorem hps_9_2 (s : qS) (x : zH) (v : Int) : (hp s x).set 9 (.inr (3, [qI 1, .ref 10, qI v])) = hp (qset s 9 2 v) x := rfl
theorem hpc_11 (s : qS) (x : zH) : (hp s x)[11]? = some (.inr (3, [qI 1, .ref 12, qI (s 11 2)])) := rfl
theorem hps_11_2 (s : qS) (x : zH) (v : Int) : (hp s x).set 11 (.inr (3, [qI 1, .ref 12, qI v])) = hp (qset s 11 2 v) x := rfl
theorem hpc_13 (s : qS) (x : zH) : (hp s x)[13]? = some (.inr (3, [qI 4, .ref 14, qI (s 13 2)])) := rfl
theorem hps_13_2 (s : qS) (x : zH) (v : Int) : (hp s x).set 13 (.inr (3, [qI 4, .ref 14, qI v])) = hp (qset s 13 2 v) x := rfl
theorem hpc_15 (s : qS) (x : zH) : (hp s x)[15]? = some (.inr (3, [qI 2, .ref 16, qI (s 15 2)])) := rfl
theorem hps_15_2 (s : qS) (x : zH) (v : Int) : (hp s x).set 15 (.inr (3, [qI 2, .ref 16, qI v])) = hp (qset s 15 2 v) x := rfl
theorem hpc_17 (s : qS) (x : zH) : (hp s x)[17]? = some (.inr (6, [.ref 1, .ref 3, .ref 8, .ref 18, .ref 20, .ref 22, qI (s 17 6), qI (s 17 7), qI (s 17 8), qI (s 17 9), qI (s 17 10)])) := rfl
theorem hps_17_6 (s : qS) (x : zH) (v : Int) : (hp s x).set 17 (.inr (6, [.ref 1, .ref 3, .ref 8, .ref 18, .ref 20, .ref 22, qI v, qI (s 17 7), qI (s 17 8), qI (s 17 9), qI (s 17 10)])) = hp (qset s 17 6 v) x := rfl
theorem hps_17_7 (s : qS) (x : zH) (v : Int) : (hp s x).set 17 (.inr (6, [.ref 1, .ref 3, .ref 8, .ref 18, .ref 20, .ref 22, qI (s 17 6), qI v, qI (s 17 8), qI (s 17 9), qI (s 17 10)])) = hp (qset s 17 7 v) x := rfl
theorem hps_17_8 (s : qS) (x : zH) (v : Int) : (hp s x).set 17 (.inr (6, [.ref 1, .ref 3, .ref 8, .ref 18, .ref 20, .ref 22, qI (s 17 6), qI (s 17 7), qI v, qI (s 17 9), qI (s 17 10)])) = hp (qset s 17 8 v) x := rfl
theorem hps_17_9 (s : qS) (x : zH) (v : Int) : (hp s x).set 17 (.inr (6, [.ref 1, .ref 3, .ref 8, .ref 18, .ref 20, .ref 22, qI (s 17 6), qI (s 17 7), qI (s 17 8), qI v, qI (s 17 10)])) = hp (qset s 17 9 v) x := rfl
theorem hps_17_10 (s : qS) (x : zH) (v : Int) : (hp s x).set 17 (.inr (6, [.ref 1, .ref 3, .ref 8, .ref 18, .ref 20, .ref 22, qI (s 17 6), qI (s 17 7), qI (s 17 8), qI (s 17 9), qI v])) = hp (qset s 17 10 v) x := rfl
theorem hpc_18 (s : qS) (x : zH) : (hp s x)[18]? = some (.inr (3, [qI 1, .ref 19, qI (s 18 2)])) := rfl
theorem hps_18_2 (s : qS) (x : zH) (v : Int) : (hp s x).set 18 (.inr (3, [qI 1, .ref 19, qI v])) = hp (qset s 18 2 v) x := rfl
theorem hpc_20 (s : qS) (x : zH) : (hp s x)[20]? = some (.inr (3, [qI 8, .ref 21, qI (s 20 2)])) := rfl
theorem hps_20_2 (s : qS) (x : zH) (v : Int) : (hp s x).set 20 (.inr (3, [qI 8, .ref 21, qI v])) = hp (qset s 20 2 v) x := rfl
theorem hpc_22 (s : qS) (x : zH) : (hp s x)[22]? = some (.inr (3, [qI 8, .ref 23, qI (s 22 2)])) := rfl
theorem hps_22_2 (s : qS) (x : zH) (v : Int) : (hp s x).set 22 (.inr (3, [qI 8, .ref 23, qI v])) = hp (qset s 22 2 v) x := rfl
theorem hpc_24 (s : qS) (x : zH) : (hp s x)[24]? = some (.inr (7, [.ref 3, qI (s 24 1), qI (s 24 2), qI (s 24 3)])) := rfl
theorem hps_24_1 (s : qS) (x : zH) (v : Int) : (hp s x).set 24 (.inr (7, [.ref 3, qI v, qI (s 24 2), qI (s 24 3)])) = hp (qset s 24 1 v) x := rfl
theorem hps_24_2 (s : qS) (x : zH) (v : Int) : (hp s x).set 24 (.inr (7, [.ref 3, qI (s 24 1), qI v, qI (s 24 3)])) = hp (qset s 24 2 v) x := rfl
theorem hps_24_3 (s : qS) (x : zH) (v : Int) : (hp s x).set 24 (.inr (7, [.ref 3, qI (s 24 1), qI (s 24 2), qI v])) = hp (qset s 24 3 v) x := rfl
theorem hpc_25 (s : qS) (x : zH) : (hp s x)[25]? = some (.inr (8, [.ref 26, .ref 27, .ref 28, qI (s 25 3), qI (s 25 4), qI (s 25 5), qI (s 25 6), qI (s 25 7), qI (s 25 8), qI (s 25 9), .ref 29, qI (s 25 11), qI (s 25 12), qI (s 25 13), qI (s 25 14), qI (s 25 15), qI (s 25 16), .ref 30, .ref 31, .ref 32, .ref 33, .ref 34, .ref 35, .ref 36, .ref 37, .ref 38, .ref 39, qI (s 25 27), qI (s 25 28), .ref 40])) := rfl
theorem hps_25_3 (s : qS) (x : zH) (v : Int) : (hp s x).set 25 (.inr (8, [.ref 26, .ref 27, .ref 28, qI v, qI (s 25 4), qI (s 25 5), qI (s 25 6), qI (s 25 7), qI (s 25 8), qI (s 25 9), .ref 29, qI (s 25 11), qI (s 25 12), qI (s 25 13), qI (s 25 14), qI (s 25 15), qI (s 25 16), .ref 30, .ref 31, .ref 32, .ref 33, .ref 34, .ref 35, .ref 36, .ref 37, .ref 38, .ref 39, qI (s 25 27), qI (s 25 28), .ref 40])) = hp (qset s 25 3 v) x := rfl
theorem hps_25_4 (s : qS) (x : zH) (v : Int) : (hp s x).set 25 (.inr (8, [.ref 26, .ref 27, .ref 28, qI (s 25 3), qI v, qI (s 25 5), qI (s 25 6), qI (s 25 7), qI (s 25 8), qI (s 25 9), .ref 29, qI (s 25 11), qI (s 25 12), qI (s 25 13), qI (s 25 14), qI (s 25 15), qI (s 25 16), .ref 30, .ref 31, .ref 32, .ref 33, .ref 34, .ref 35, .ref 36, .ref 37, .ref 38, .ref 39, qI (s 25 27), qI (s 25 28), .ref 40])) = hp (qset s 25 4 v) x := rfl
theorem hps_25_5 (s : qS) (x : zH) (v : Int) : (hp s x).set 25 (.inr (8, [.ref 26, .ref 27, .ref 28, qI (s 25 3), qI (s 25 4), qI v, qI (s 25 6), qI (s 25 7), qI (s 25 8), qI (s 25 9), .ref 29, qI (s 25 11), qI (s 25 12), qI (s 25 13), qI (s 25 14), qI (s 25 15), qI (s 25 16), .ref 30, .ref 31, .ref 32, .ref 33, .ref 34, .ref 35, .ref 36, .ref 37, .ref 38, .ref 39, qI (s 25 27), qI (s 25 28), .ref 40])) = hp (qset s 25 5 v) x := rfl
theorem hps_25_6 (s : qS) (x : zH) (v : Int) : (hp s x).set 25 (.inr (8, [.ref 26, .ref 27, .ref 28, qI (s 25 3), qI (s 25 4), qI (s 25 5), qI v, qI (s 25 7), qI (s 25 8), qI (s 25 9), .ref 29, qI (s 25 11), qI (s 25 12), qI (s 25 13), qI (s 25 14), qI (s 25 15), qI (s 25 16), .ref 30, .ref 31, .ref 32, .ref 33, .ref 34, .ref 35, .ref 36, .ref 37, .ref 38, .ref 39, qI (s 25 27), qI (s 25 28), .ref 40])) = hp (qset s 25 6 v) x := rfl
theorem hps_25_7 (s : qS) (x : zH) (v : Int) : (hp s x).set 25 (.inr (8, [.ref 26, .ref 27, .ref 28, qI (s 25 3), qI (s 25 4), qI (s 25 5), qI (s 25 6), qI v, qI (s 25 8), qI (s 25 9), .ref 29, qI (s 25 11), qI (s 25 12), qI (s 25 13), qI (s 25 14), qI (s 25 15), qI (s 25 16), .ref 30, .ref 31, .ref 32, .ref 33, .ref 34, .ref 35, .ref 36, .ref 37, .ref 38, .ref 39, qI (s 25 27), qI (s 25 28), .ref 40])) = hp (qset s 25 7 v) x := rfl
theorem hps_25_8 (s : qS) (x : zH) (v : Int) : (hp s x).set 25 (.inr (8, [.ref 26, .ref 27, .ref 28, qI (s 25 3), qI (s 25 4), qI (s 25 5), qI (s 25 6), qI (s 25 7), qI v, qI (s 25 9), .ref 29, qI (s 25 11), qI (s 25 12), qI (s 25 13), qI (s 25 14), qI (s 25 15), qI (s 25 16), .ref 30, .ref 31, .ref 32, .ref 33, .ref 34, .ref 35, .ref 36, .ref 37, .ref 38, .ref 39, qI (s 25 27), qI (s 25 28), .ref 40])) = hp (qset s 25 8 v) x := rfl
theorem hps_25_9 (s : qS) (x : zH) (v : Int) : (hp s x).set 25 (.inr (8, [.ref 26, .ref 27, .ref 28, qI (s 25 3), qI (s 25 4), qI (s 25 5), qI (s 25 6), qI (s 25 7), qI (s 25 8), qI v, .ref 29, qI (s 25 11), qI (s 25 12), qI (s 25 13), qI (s 25 14), qI (s 25 15), qI (s 25 16), .ref 30, .ref 31, .ref 32, .ref 33, .ref 34, .ref 35, .ref 36, .ref 37, .ref 38, .ref 39, qI (s 25 27), qI (s 25 28), .ref 40])) = hp (qset s 25 9 v) x := rfl
theorem hps_25_11 (s : qS) (x : zH) (v : Int) : (hp s x).set 25 (.inr (8, [.ref 26, .ref 27, .ref 28, qI (s 25 3), qI (s 25 4), qI (s 25 5), qI (s 25 6), qI (s 25 7), qI (s 25 8), qI (s 25 9), .ref 29, qI v, qI (s 25 12), qI (s 25 13), qI (s 25 14), qI (s 25 15), qI (s 25 16), .ref 30, .ref 31, .ref 32, .ref 33, .ref 34, .ref 35, .ref 36, .ref 37, .ref 38, .ref 39, qI (s 25 27), qI (s 25 28), .ref 40])) = hp (qset s 25 11 v) x := rfl
theorem hps_25_12 (s : qS) (x : zH) (v : Int) : (hp s x).set 25 (.inr (8, [.ref 26, .ref 27, .ref 28, qI (s 25 3), qI (s 25 4), qI (s 25 5), qI (s 25 6), qI (s 25 7), qI (s 25 8), qI (s 25 9), .ref 29, qI (s 25 11), qI v, qI (s 25 13), qI (s 25 14), qI (s 25 15), qI (s 25 16), .ref 30, .ref 31, .ref 32, .ref 33, .ref 34, .ref 35, .ref 36, .ref 37, .ref 38, .ref 39, qI (s 25 27), qI (s 25 28), .ref 40])) = hp (qset s 25 12 v) x := rfl
theorem hps_25_13 (s : qS) (x : zH) (v : Int) : (hp s x).set 25 (.inr (8, [.ref 26, .ref 27, .ref 28, qI (s 25 3), qI (s 25 4), qI (s 25 5), qI (s 25 6), qI (s 25 7), qI (s 25 8), qI (s 25 9), .ref 29, qI (s 25 11), qI (s 25 12), qI v, qI (s 25 14), qI (s 25 15), qI (s 25 16), .ref 30, .ref 31, .ref 32, .ref 33, .ref 34, .ref 35, .ref 36, .ref 37, .ref 38, .ref 39, qI (s 25 27), qI (s 25 28), .ref 40])) = hp (qset s 25 13 v) x := rfl
theorem hps_25_14 (s : qS) (x : zH) (v : Int) : (hp s x).set 25 (.inr (8, [.ref 26, .ref 27, .ref 28, qI (s 25 3), qI (s 25 4), qI (s 25 5), qI (s 25 6), qI (s 25 7), qI (s 25 8), qI (s 25 9), .ref 29, qI (s 25 11), qI (s 25 12), qI (s 25 13), qI v, qI (s 25 15), qI (s 25 16), .ref 30, .ref 31, .ref 32, .ref 33, .ref 34, .ref 35, .ref 36, .ref 37, .ref 38, .ref 39, qI (s 25 27), qI (s 25 28), .ref 40])) = hp (qset s 25 14 v) x := rfl
theorem hps_25_15 (s : qS) (x : zH) (v : Int) : (hp s x).set 25 (.inr (8, [.ref 26, .ref 27, .ref 28, qI (s 25 3), qI (s 25 4), qI (s 25 5), qI (s 25 6), qI (s 25 7), qI (s 25 8), qI (s 25 9), .ref 29, qI (s 25 11), qI (s 25 12), qI (s 25 13), qI (s 25 14), qI v, qI (s 25 16), .ref 30, .ref 31, .ref 32, .ref 33, .ref 34, .ref 35, .ref 36, .ref 37, .ref 38, .ref 39, qI (s 25 27), qI (s 25 28), .ref 40])) = hp (qset s 25 15 v) x := rfl
theorem hps_25_16 (s : qS) (x : zH) (v : Int) : (hp s x).set 25 (.inr (8, [.ref 26, .ref 27, .ref 28, qI (s 25 3), qI (s 25 4), qI (s 25 5), qI (s 25 6), qI (s 25 7), qI (s 25 8), qI (s 25 9), .ref 29, qI (s 25 11), qI (s 25 12), qI (s 25 13), qI (s 25 14), qI (s 25 15), qI v, .ref 30, .ref 31, .ref 32, .ref 33, .ref 34, .ref 35, .ref 36, .ref 37, .ref 38, .ref 39, qI (s 25 27), qI (s 25 28), .ref 40])) = hp (qset s 25 16 v) x := rfl
theorem hps_25_27 (s : qS) (x : zH) (v : Int) : (hp s x).set 25 (.inr (8, [.ref 26, .ref 27, .ref 28, qI (s 25 3), qI (s 25 4), qI (s 25 5), qI (s 25 6), qI (s 25 7), qI (s 25 8), qI (s 25 9), .ref 29, qI (s 25 11), qI (s 25 12), qI (s 25 13), qI (s 25 14), qI (s 25 15), qI (s 25 16), .ref 30, .ref 31, .ref 32, .ref 33, .ref 34, .ref 35, .ref 36, .ref 37, .ref 38, .ref 39, qI v, qI (s 25 28), .ref 40])) = hp (qset s 25 27 v) x := rfl
theorem hps_25_28 (s : qS) (x : zH) (v : Int) : (hp s x).set 25 (.inr (8, [.ref 26, .ref 27, .ref 28, qI (s 25 3), qI (s 25 4), qI (s 25 5), qI (s 25 6), qI (s 25 7), qI (s 25 8), qI (s 25 9), .ref 29, qI (s 25 11), qI (s 25 12), qI (s 25 13), qI (s 25 14), qI (s 25 15), qI (s 25 16), .ref 30, .ref 31, .ref 32, .ref 33, .ref 34, .ref 35, .ref 36, .ref 37, .ref 38, .ref 39, qI (s 25 27), qI v, .ref 40])) = hp (qset s 25 28 v) x := rfl
theorem hpz (s : qS) (x : zH) : (hp s x)[39]? = some (.inl (1, 9, .inl (fun j => Int32.ofInt (s 39 (j : Int))))) := rfl
theorem hpz_set (s : qS) (x : zH) {i : Int} (h0 : 0 ≤ i) (v : Int) : (hp s x).set 39 (.inl (1, 9, .inl (upd (fun j : Nat => Int32.ofInt (s 39 (j : Int))) i.toNat (Int32.ofInt v)))) = hp (qset s 39 i v) x := by rw [upd_q h0]; rfl
