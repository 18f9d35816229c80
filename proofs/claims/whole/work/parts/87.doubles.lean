/-! DOUBLES: a whole number times a power of two -/
abbrev fB : FP.Core.Fmt := FP.Core.b64
def dD (m : Nat) (e : Int) : FP.Core.Datum := FP.Core.round fB (.fin false m e)
def dF (m : Nat) (e : Int) : UInt64 := FP.Core.of64 (dD m e)
theorem dF_val (m : Nat) (e : Int) : FP.Core.val64 (dF m e) = dD m e := FP.Core.val64_of64 (FP.Core.round_fits FP.Core.good_b64 _)
theorem fB_qmin : FP.Core.Fmt.qmin fB = -1074 := by decide +kernel
theorem fB_qmax : FP.Core.Fmt.qmax fB = 971 := by decide +kernel
theorem fB_tails : FP.Core.Fmt.tails fB = 2 ^ 52 := by decide +kernel
theorem dD_ex {m : Nat} {e : Int} (hm : m < 2 ^ 53) (h1 : -1074 ≤ e) (h2 : e ≤ 971) : ∃ (c : Nat) (q : Int), dD m e = .fin false c q ∧ m * 2 ^ (e - q).toNat = c * 2 ^ (q - e).toNat := by
  have key : ∃ (c : Nat) (q : Int), FP.Core.fits fB (.fin false c q) ∧ m * 2 ^ (e - q).toNat = c * 2 ^ (q - e).toNat := by
    by_cases h0 : m = 0
    · subst h0
      exact ⟨0, FP.Core.Fmt.qmin fB, FP.Core.zero_fits FP.Core.good_b64 false, by simp⟩
    · have l1 : 2 ^ m.log2 ≤ m := Nat.log2_self_le h0
      have l2 : m < 2 ^ (m.log2 + 1) := Nat.lt_log2_self
      have l3 : m.log2 < 53 := (Nat.pow_lt_pow_iff_right (by decide : 1 < 2)).mp (Nat.lt_of_le_of_lt l1 hm)
      generalize m.log2 = L at l1 l2 l3
      by_cases c : -1074 ≤ e + (L : Int) - 52
      · refine ⟨m * 2 ^ (52 - L), e - ((52 - L : Nat) : Int), ⟨?_, ?_, ?_, Or.inr ?_⟩, ?_⟩
        · show m * 2 ^ (52 - L) < 2 ^ 53
          calc m * 2 ^ (52 - L) < 2 ^ (L + 1) * 2 ^ (52 - L) := Nat.mul_lt_mul_of_pos_right l2 (Nat.two_pow_pos _)
            _ = 2 ^ 53 := by rw [← Nat.pow_add]; congr 1; omega
        · rw [fB_qmin]; omega
        · rw [fB_qmax]; omega
        · rw [fB_tails]
          calc 2 ^ 52 = 2 ^ L * 2 ^ (52 - L) := by rw [← Nat.pow_add]; congr 1; omega
            _ ≤ _ := Nat.mul_le_mul_right _ l1
        · rw [show (e - (e - ((52 - L : Nat) : Int))).toNat = 52 - L by omega, show (e - ((52 - L : Nat) : Int) - e).toNat = 0 by omega]
          simp
      · refine ⟨m * 2 ^ (e + 1074).toNat, -1074, ⟨?_, ?_, ?_, Or.inl ?_⟩, ?_⟩
        · show m * 2 ^ (e + 1074).toNat < 2 ^ 53
          calc m * 2 ^ (e + 1074).toNat < 2 ^ (L + 1) * 2 ^ (e + 1074).toNat := Nat.mul_lt_mul_of_pos_right l2 (Nat.two_pow_pos _)
            _ = 2 ^ (L + 1 + (e + 1074).toNat) := (Nat.pow_add ..).symm
            _ ≤ 2 ^ 53 := Nat.pow_le_pow_right (by decide) (by omega)
        · rw [fB_qmin]; omega
        · rw [fB_qmax]; omega
        · rw [fB_qmin]
        · rw [show (e - -1074).toNat = (e + 1074).toNat by omega, show (-1074 - e).toNat = 0 by omega]
          simp
  obtain ⟨c, q, hf, h⟩ := key
  refine ⟨c, q, ?_, h⟩
  show FP.Core.roundRatio fB false m 1 e = _
  exact FP.Core.roundRatio_exact FP.Core.good_b64 (by decide) hf (by rw [Nat.mul_one]; exact h)
theorem dD_num {m : Nat} {e : Int} (hm : m < 2 ^ 53) (h1 : -1074 ≤ e) (h2 : e ≤ 971) : dD m e ≠ .nan := by
  obtain ⟨c, q, h, -⟩ := dD_ex hm h1 h2
  rw [h]
  exact FP.Core.Datum.noConfusion
theorem pow_shift {m c a b v w : Nat} (h : m * 2 ^ a = c * 2 ^ b) (hv : w + a = v + b) : c * 2 ^ w = m * 2 ^ v := by
  have : c * 2 ^ w * 2 ^ a = m * 2 ^ v * 2 ^ a := by
    calc c * 2 ^ w * 2 ^ a = c * 2 ^ (w + a) := by rw [Nat.mul_assoc, ← Nat.pow_add]
      _ = c * 2 ^ (v + b) := by rw [hv]
      _ = c * 2 ^ b * 2 ^ v := by rw [Nat.pow_add]; ac_rfl
      _ = m * 2 ^ a * 2 ^ v := by rw [h]
      _ = m * 2 ^ v * 2 ^ a := by ac_rfl
  exact Nat.eq_of_mul_eq_mul_right (Nat.two_pow_pos a) this
theorem dF_mul {m : Nat} {e k : Int} {y : UInt64} (hm : m < 2 ^ 53) (h1 : -1074 ≤ e) (h2 : e ≤ 971) (h3 : -1074 ≤ e + k) (h4 : e + k ≤ 971) (hy : FP.Core.val64 y = .fin false (2 ^ 52) (k - 52)) : FP.dmul (dF m e) y = dF m (e + k) := by
  obtain ⟨c, q, hc, h⟩ := dD_ex hm h1 h2
  have hv : FP.Core.val64 (FP.dmul (dF m e) y) = dD m (e + k) := by
    rw [FP.Core.val64_dmul, dF_val, hc, hy]
    show FP.Core.roundRatio fB false (c * 2 ^ 52) 1 (q + (k - 52)) = FP.Core.roundRatio fB false m 1 (e + k)
    refine FP.Core.roundRatio_congr (by decide) (by decide) ?_
    rw [Nat.mul_one, Nat.mul_one, Nat.mul_assoc, ← Nat.pow_add]
    exact pow_shift h (by omega)
  refine FP.Core.val64_inj (by rw [hv]; exact dD_num hm h3 h4) ?_
  rw [hv, dF_val]
theorem dF_div {m : Nat} {e k : Int} {y : UInt64} (hm : m < 2 ^ 53) (h1 : -1074 ≤ e) (h2 : e ≤ 971) (h3 : -1074 ≤ e - k) (h4 : e - k ≤ 971) (hy : FP.Core.val64 y = .fin false (2 ^ 52) (k - 52)) : FP.ddiv (dF m e) y = dF m (e - k) := by
  obtain ⟨c, q, hc, h⟩ := dD_ex hm h1 h2
  have hv : FP.Core.val64 (FP.ddiv (dF m e) y) = dD m (e - k) := by
    rw [FP.Core.val64_ddiv, dF_val, hc, hy]
    show (if 2 ^ 52 = 0 then (if c = 0 then FP.Core.Datum.nan else FP.Core.Datum.inf (false != false)) else FP.Core.roundRatio fB false c (2 ^ 52) (q - (k - 52))) = FP.Core.roundRatio fB false m 1 (e - k)
    rw [if_neg (by decide)]
    refine FP.Core.roundRatio_congr (by decide) (by decide) ?_
    rw [Nat.mul_one, Nat.mul_assoc, ← Nat.pow_add]
    exact pow_shift h (by omega)
  refine FP.Core.val64_inj (by rw [hv]; exact dD_num hm h3 h4) ?_
  rw [hv, dF_val]
theorem zfin_num {x : UInt64} (h : FP.Core.val64 x ≠ .nan) : zfin x = some (.double x) := by
  unfold zfin
  rw [if_pos]
  rw [UInt64.le_iff_toNat_le, UInt64.toNat_and]
  have e1 : (0x7fffffffffffffff : UInt64).toNat = 2 ^ 63 - 1 := by decide +kernel
  have e2 : (0x7ff0000000000000 : UInt64).toNat = 2047 * 2 ^ 52 := by decide +kernel
  rw [e1, e2, Nat.and_two_pow_sub_one_eq_mod]
  refine Nat.le_of_not_lt (fun c => h ?_)
  have f1 : FP.Core.fieldE fB x.toNat = x.toNat / 2 ^ 52 % 2 ^ 11 := by unfold FP.Core.fieldE; rw [fB_tails]; rfl
  have f2 : FP.Core.fieldT fB x.toNat = x.toNat % 2 ^ 52 := by unfold FP.Core.fieldT; rw [fB_tails]
  have g1 : FP.Core.fieldE fB x.toNat = 2047 := by rw [f1]; omega
  have g2 : FP.Core.fieldT fB x.toNat ≠ 0 := by rw [f2]; omega
  unfold FP.Core.val64 FP.Core.decode
  rw [if_pos (g1.trans (by decide +kernel)), if_neg g2]
theorem dF_fin {m : Nat} {e : Int} (hm : m < 2 ^ 53) (h1 : -1074 ≤ e) (h2 : e ≤ 971) : zfin (dF m e) = some (.double (dF m e)) := zfin_num (by rw [dF_val]; exact dD_num hm h1 h2)
theorem dF_l2d {m : Int64} (h0 : 0 ≤ m.toInt) (h1 : m.toInt < 2 ^ 53) : FP.l2d m = dF m.toInt.toNat 0 := by
  have hv : FP.Core.val64 (FP.l2d m) = dD m.toInt.toNat 0 := by
    rw [FP.Core.val64_l2d]
    unfold FP.Core.ofInt dD
    rw [decide_eq_false (by omega), show m.toInt.natAbs = m.toInt.toNat by omega]
  refine FP.Core.val64_inj (by rw [hv]; exact dD_num (by omega) (by decide) (by decide)) ?_
  rw [hv, dF_val]
theorem two_k : ∀ k : Nat, k < 31 → FP.Core.val64 (FP.l2d ((1 : Int64) <<< ((Int32.ofInt (k : Int)).toInt64 &&& 63))) = .fin false (2 ^ 52) ((k : Int) - 52) := by decide +kernel
theorem two_1 : FP.Core.val64 (4611686018427387904 : UInt64) = .fin false (2 ^ 52) (1 - 52) := by decide +kernel
/-! bits -/
theorem i32_mask {X Y m : Int32} (k : Nat) (h : ∀ i, i < k → X.toBitVec.getLsbD i = Y.toBitVec.getLsbD i) (hm : ∀ i, i < 32 → k ≤ i → m.toBitVec.getLsbD i = false) : X &&& m = Y &&& m := by
  rw [← Int32.toBitVec_inj, Int32.toBitVec_and, Int32.toBitVec_and]
  refine BitVec.eq_of_getLsbD_eq (fun i hi => ?_)
  rw [BitVec.getLsbD_and, BitVec.getLsbD_and]
  by_cases c : i < k
  · rw [h i c]
  · rw [hm i hi (by omega), Bool.and_false, Bool.and_false]
def bE (b : Int) : Int := qand (qshr b 23) 255
theorem bE_u (b : Int) : qand (qushr b 23) 255 = bE b := by
  unfold bE qand qushr qshr
  rw [qi_of, qi_of]
  refine congrArg Int32.toInt (i32_mask 8 (fun i hi => ?_) (by decide +kernel))
  have c1 : ((Int32.ofInt 23).toUInt32 &&& Int32.toUInt32 31).toBitVec % 32 = 23#32 := by decide +kernel
  have c2 : (Int32.ofInt 23 &&& 31).toBitVec.smod 32 = 23#32 := by decide +kernel
  rw [Int32.toBitVec_shiftRight, c2]
  show ((Int32.ofInt b).toUInt32 >>> ((Int32.ofInt 23).toUInt32 &&& Int32.toUInt32 31)).toBitVec.getLsbD i = _
  rw [UInt32.toBitVec_shiftRight, c1]
  show ((Int32.ofInt b).toBitVec >>> (23 : Nat)).getLsbD i = ((Int32.ofInt b).toBitVec.sshiftRight 23).getLsbD i
  rw [BitVec.getLsbD_ushiftRight, BitVec.getLsbD_sshiftRight, if_pos (by omega), decide_eq_false (by omega)]
  rfl
def dE (v : Int64) : Int := qand ((Int64.toInt32 (v >>> ((Int32.ofInt 52).toInt64 &&& 63))).toInt) 2047
theorem dE_u (v : Int64) : qand (((Int64.toInt32 (((v).toUInt64 >>> ((Int32.ofInt 52).toInt64.toUInt64 &&& Int64.toUInt64 63)).toInt64))).toInt) 2047 = dE v := by
  unfold dE qand
  rw [qi_of, qi_of]
  refine congrArg Int32.toInt (i32_mask 11 (fun i hi => ?_) (by decide +kernel))
  have c1 : ((Int32.ofInt 52).toInt64.toUInt64 &&& Int64.toUInt64 63).toBitVec % 64 = 52#64 := by decide +kernel
  have c2 : ((Int32.ofInt 52).toInt64 &&& 63).toBitVec.smod 64 = 52#64 := by decide +kernel
  rw [Int64.toBitVec_toInt32, Int64.toBitVec_toInt32, BitVec.getLsbD_signExtend, BitVec.getLsbD_signExtend, if_pos (by omega), if_pos (by omega), Int64.toBitVec_shiftRight, c2]
  refine congrArg _ ?_
  show (v.toUInt64 >>> ((Int32.ofInt 52).toInt64.toUInt64 &&& Int64.toUInt64 63)).toBitVec.getLsbD i = _
  rw [UInt64.toBitVec_shiftRight, c1]
  show (v.toBitVec >>> (52 : Nat)).getLsbD i = (v.toBitVec.sshiftRight 52).getLsbD i
  rw [BitVec.getLsbD_ushiftRight, BitVec.getLsbD_sshiftRight, if_pos (by omega), decide_eq_false (by omega)]
  rfl
theorem bE_rg (b : Int) : 0 ≤ bE b ∧ bE b ≤ 255 := qand_rg (m := 255) (by decide)
theorem dE_rg (v : Int64) : 0 ≤ dE v ∧ dE v ≤ 2047 := qand_rg (m := 2047) (by decide)
def bF (b : Int) : Int := qand b 8388607
theorem bF_rg (b : Int) : 0 ≤ bF b ∧ bF b ≤ 8388607 := qand_rg (m := 8388607) (by decide)
theorem i64_of {x : Int} (h : Rg x) : ((Int32.ofInt x).toInt64).toInt = x := by
  rw [Int32.toInt_toInt64, qi_toInt h]
theorem or23 {f : Nat} (hf : f < 8388608) : f ||| 8388608 = f + 8388608 := by
  have := Nat.two_pow_add_eq_or_of_lt (i := 23) (b := f) (by omega) 1
  rw [show 2 ^ 23 * 1 = 8388608 from rfl] at this
  rw [Nat.or_comm]
  omega
theorem bF_or (b : Int) : qor (bF b) 8388608 = bF b + 8388608 := by
  obtain ⟨h0, h1⟩ := bF_rg b
  obtain ⟨f, hf⟩ := Int.eq_ofNat_of_zero_le h0
  rw [hf] at h1 ⊢
  have := qor_nat (a := f) (b := 8388608) (by omega) (by decide)
  rw [or23 (by omega)] at this
  exact this
theorem i64_toInt_bv (x : Int64) (h : x.toBitVec.toNat < 2 ^ 63) : x.toInt = (x.toBitVec.toNat : Int) := by
  show x.toBitVec.toInt = _
  rw [BitVec.toInt_eq_toNat_of_lt (by omega)]
theorem i64_nat (x : Int64) (h : 0 ≤ x.toInt) : (x.toBitVec.toNat : Int) = x.toInt := by
  have h : 0 ≤ x.toBitVec.toInt := h
  show _ = x.toBitVec.toInt
  rw [BitVec.toInt_eq_toNat_cond] at h ⊢
  have := x.toBitVec.isLt
  split at h <;> omega
theorem bF_or64 (b : Int) : ((Int32.ofInt (bF b)).toInt64 ||| (8388608 : Int64)).toInt = bF b + 8388608 := by
  obtain ⟨h0, h1⟩ := bF_rg b
  have e := i64_of (x := bF b) ⟨by omega, by omega⟩
  have n := i64_nat ((Int32.ofInt (bF b)).toInt64) (by omega)
  have o : ((Int32.ofInt (bF b)).toInt64 ||| (8388608 : Int64)).toBitVec.toNat = ((Int32.ofInt (bF b)).toInt64).toBitVec.toNat + 8388608 := by
    rw [Int64.toBitVec_or, BitVec.toNat_or, show (8388608 : Int64).toBitVec.toNat = 8388608 by decide +kernel]
    exact or23 (by omega)
  rw [i64_toInt_bv _ (by omega)]
  omega
def dM (v : Int64) : Int64 := v &&& 4503599627370495
theorem dM_nat (v : Int64) : (dM v).toBitVec.toNat < 2 ^ 52 := by
  unfold dM
  rw [Int64.toBitVec_and, BitVec.toNat_and, show (4503599627370495 : Int64).toBitVec.toNat = 2 ^ 52 - 1 by decide +kernel, Nat.and_two_pow_sub_one_eq_mod]
  exact Nat.mod_lt _ (by decide)
theorem dM_rg (v : Int64) : 0 ≤ (dM v).toInt ∧ (dM v).toInt < 2 ^ 53 := by
  have h := dM_nat v
  rw [i64_toInt_bv _ (by omega)]
  omega
theorem dM_or (v : Int64) : 0 ≤ (dM v ||| 4503599627370496).toInt ∧ (dM v ||| 4503599627370496).toInt < 2 ^ 53 := by
  have h := dM_nat v
  have o : (dM v ||| 4503599627370496).toBitVec.toNat < 2 ^ 53 := by
    rw [Int64.toBitVec_or, BitVec.toNat_or, show (4503599627370496 : Int64).toBitVec.toNat = 2 ^ 52 by decide +kernel]
    exact Nat.or_lt_two_pow (by omega) (by decide)
  rw [i64_toInt_bv _ (by omega)]
  omega
