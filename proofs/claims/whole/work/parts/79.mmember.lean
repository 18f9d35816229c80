/-! THE MODEL reads a member -/
theorem qshr_nat {a : Nat} (h : a < 2147483648) {b : Nat} (hb : b < 32) : qshr (a : Int) (b : Int) = ((a / 2 ^ b : Nat) : Int) := by
  unfold qshr
  show BitVec.toInt (Int32.ofInt (a : Int) >>> (Int32.ofInt (b : Int) &&& 31)).toBitVec = _
  have hs : ((Int32.ofInt (b : Int) &&& 31).toBitVec.smod 32) = BitVec.ofNat 32 b := by
    have : ∀ b : Fin 32, ((Int32.ofInt (b.val : Int) &&& 31).toBitVec.smod 32) = BitVec.ofNat 32 b.val := by decide
    exact this ⟨b, hb⟩
  rw [Int32.toBitVec_shiftRight, hs]
  have hx : (Int32.ofInt (a : Int)).toBitVec.toInt = (a : Int) := by
    rw [BitVec.toInt_eq_toNat_of_lt (by rw [qi_nat_bv (by omega)]; omega), qi_nat_bv (by omega)]
  rw [show BitVec.sshiftRight' (Int32.ofInt (a : Int)).toBitVec (BitVec.ofNat 32 b) = BitVec.sshiftRight (Int32.ofInt (a : Int)).toBitVec (BitVec.ofNat 32 b).toNat from rfl, BitVec.toInt_sshiftRight, hx, BitVec.toNat_ofNat, Nat.mod_eq_of_lt (by omega), Int.shiftRight_eq_div_pow]
  exact_mod_cast rfl
theorem mWays {x : Int} (h : 0 ≤ x ∧ x ≤ 65535) : qand x 1 + qand (qshr x 1) 1 + qand (qshr x 2) 1 = fWays x := by
  obtain ⟨y, rfl⟩ := Int.eq_ofNat_of_zero_le h.1
  have e1 := qshr_nat (a := y) (b := 1) (by omega) (by decide)
  have e2 := qshr_nat (a := y) (b := 2) (by omega) (by decide)
  rw [show ((1 : Nat) : Int) = 1 from rfl, show (2 : Nat) ^ 1 = 2 from rfl] at e1
  rw [show ((2 : Nat) : Int) = 2 from rfl, show (2 : Nat) ^ 2 = 4 from rfl] at e2
  have a1 := qand_mask (a := (y : Int)) (m := 1) (k := 1) (by omega) (by omega) rfl (by decide)
  have a2 := qand_mask (a := ((y / 2 : Nat) : Int)) (m := 1) (k := 1) (by omega) (by omega) rfl (by decide)
  have a3 := qand_mask (a := ((y / 4 : Nat) : Int)) (m := 1) (k := 1) (by omega) (by omega) rfl (by decide)
  have a4 := qand_mask (a := (y : Int)) (m := 7) (k := 3) (by omega) (by omega) rfl (by decide)
  rw [show ((1 : Nat) : Int) = 1 from rfl] at a1 a2 a3
  rw [show ((7 : Nat) : Int) = 7 from rfl] at a4
  unfold fWays bc3
  rw [e1, e2, a1, a2, a3, a4]
  omega
theorem gIs_path {C : Int → Int} {N : Int} (h : gIs C 0 N wInit = true ∨ gIs C 0 N wClinit = true) : (gPath C N.toNat 0 true && gNoSl C N.toNat 0) = true := by
  rcases h with h | h
  · unfold gIs wInit at h
    simp only [gWd, Bool.and_eq_true, decide_eq_true_eq, List.length_cons, List.length_nil, Bool.and_true] at h
    obtain ⟨hN, h0, h1, h2, h3, h4, h5⟩ := h
    rw [show N.toNat = 6 by omega]
    simp_all [gPath, gNoSl]
  · unfold gIs wClinit at h
    simp only [gWd, Bool.and_eq_true, decide_eq_true_eq, List.length_cons, List.length_nil, Bool.and_true] at h
    obtain ⟨hN, h0, h1, h2, h3, h4, h5, h6, h7⟩ := h
    rw [show N.toNat = 8 by omega]
    simp_all [gPath, gNoSl]
