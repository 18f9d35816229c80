/-! WHAT IS READ, in numbers: results are a fault's place or a value -/
def bd {α β : Type} (r : Int ⊕ α) (k : α → Int ⊕ β) : Int ⊕ β := match r with
  | .inl e => .inl e
  | .inr v => k v
def qRes {α : Type} (r : Int ⊕ α) (F : Int → Prop) (K : α → Prop) : Prop := match r with
  | .inl e => F e
  | .inr v => K v
theorem qRes_bd {α β : Type} (r : Int ⊕ α) (k : α → Int ⊕ β) (F : Int → Prop) (K : β → Prop) : qRes (bd r k) F K = qRes r F (fun v => qRes (k v) F K) := by cases r <;> rfl
theorem qRes_mono {α : Type} {r : Int ⊕ α} {F F' : Int → Prop} {K K' : α → Prop} (h : qRes r F K) (h1 : ∀ e, r = .inl e → F e → F' e) (h2 : ∀ v, r = .inr v → K v → K' v) : qRes r F' K' := by
  cases r with
  | inl e => exact h1 e rfl h
  | inr v => exact h2 v rfl h
theorem bd_inl {α β : Type} {r : Int ⊕ α} {k : α → Int ⊕ β} {e : Int} : bd r k = .inl e ↔ r = .inl e ∨ ∃ v, r = .inr v ∧ k v = .inl e := by
  cases r <;> simp [bd]
theorem bd_inr {α β : Type} {r : Int ⊕ α} {k : α → Int ⊕ β} {x : β} : bd r k = .inr x ↔ ∃ v, r = .inr v ∧ k v = .inr x := by
  cases r <;> simp [bd]
def b2 (B : Int → Int) (p : Int) : Int := 256 * B p + B (p + 1)
def b4 (B : Int → Int) (p : Int) : Int := (Int32.ofInt (65536 * b2 B p + b2 B (p + 2))).toInt
def rU1 (B : Int → Int) (n p : Int) : Int ⊕ Int := if n < p + 1 then .inl n else .inr (B p)
def rU2 (B : Int → Int) (n p : Int) : Int ⊕ Int := if n < p + 2 then .inl n else .inr (b2 B p)
def rU4 (B : Int → Int) (n p : Int) : Int ⊕ Int := if n < p + 4 then .inl n else .inr (b4 B p)
def rCk (c : Bool) (e : Int) : Int ⊕ Unit := if c then .inr () else .inl e
theorem rU1_r {B : Int → Int} {n p v : Int} (h : rU1 B n p = .inr v) : p + 1 ≤ n ∧ v = B p := by
  unfold rU1 at h
  split at h
  · cases h
  · cases h; exact ⟨by omega, rfl⟩
theorem rU2_r {B : Int → Int} {n p v : Int} (h : rU2 B n p = .inr v) : p + 2 ≤ n ∧ v = b2 B p := by
  unfold rU2 at h
  split at h
  · cases h
  · cases h; exact ⟨by omega, rfl⟩
theorem rU4_r {B : Int → Int} {n p v : Int} (h : rU4 B n p = .inr v) : p + 4 ≤ n ∧ v = b4 B p := by
  unfold rU4 at h
  split at h
  · cases h
  · cases h; exact ⟨by omega, rfl⟩
theorem rCk_r {c : Bool} {e : Int} {v : Unit} (h : rCk c e = .inr v) : c = true := by
  unfold rCk at h
  split at h
  · assumption
  · cases h
/-- bytes, and how many -/
def qB (B : Int → Int) (n : Int) : Prop := 0 ≤ n ∧ n ≤ 500 ∧ ∀ i, 0 ≤ i → i < n → 0 ≤ B i ∧ B i ≤ 255
theorem b2_rg {B : Int → Int} {n p : Int} (h : qB B n) (h0 : 0 ≤ p) (h1 : p + 2 ≤ n) : 0 ≤ b2 B p ∧ b2 B p ≤ 65535 := by
  have e1 := h.2.2 p h0 (by omega)
  have e2 := h.2.2 (p + 1) (by omega) (by omega)
  unfold b2
  omega
theorem b4_rg (B : Int → Int) (p : Int) : Rg (b4 B p) := qi_rg _
/-- bits: a number that is shifted, with a smaller one behind it -/
theorem qi_bv (a : Int) : (Int32.ofInt a).toBitVec = BitVec.ofInt 32 a := rfl
theorem qshlor8 {a b : Int} (h0 : 0 ≤ b) (h1 : b < 256) : Int32.ofInt (qor (qshl a 8) b) = Int32.ofInt (256 * a + b) := by
  unfold qor qshl
  have he : (Int32.ofInt 8 &&& 31).toBitVec.smod 32 = BitVec.ofNat 32 8 := by decide
  rw [qi_of, qi_of, ← Int32.toBitVec_inj, Int32.toBitVec_or, Int32.toBitVec_shiftLeft, he, qi_bv, qi_bv, qi_bv]
  apply BitVec.eq_of_toNat_eq
  rw [BitVec.toNat_or, BitVec.shiftLeft_eq', BitVec.toNat_shiftLeft, BitVec.toNat_ofInt, BitVec.toNat_ofInt, BitVec.toNat_ofInt, BitVec.toNat_ofNat]
  have hb : (b % ((2 ^ 32 : Nat) : Int)).toNat < 2 ^ 8 := by omega
  have hs : (a % ((2 ^ 32 : Nat) : Int)).toNat <<< (8 % 2 ^ 32) % 2 ^ 32 = ((a % ((2 ^ 32 : Nat) : Int)).toNat % 16777216) <<< 8 := by
    rw [Nat.shiftLeft_eq, Nat.shiftLeft_eq, show (8 % 2 ^ 32 : Nat) = 8 from by decide, show (2 : Nat) ^ 8 = 256 from rfl]
    omega
  rw [hs, ← Nat.shiftLeft_add_eq_or_of_lt hb, Nat.shiftLeft_eq]
  omega
theorem qshlor16 {a b : Int} (h0 : 0 ≤ b) (h1 : b < 65536) : Int32.ofInt (qor (qshl a 16) b) = Int32.ofInt (65536 * a + b) := by
  unfold qor qshl
  have he : (Int32.ofInt 16 &&& 31).toBitVec.smod 32 = BitVec.ofNat 32 16 := by decide
  rw [qi_of, qi_of, ← Int32.toBitVec_inj, Int32.toBitVec_or, Int32.toBitVec_shiftLeft, he, qi_bv, qi_bv, qi_bv]
  apply BitVec.eq_of_toNat_eq
  rw [BitVec.toNat_or, BitVec.shiftLeft_eq', BitVec.toNat_shiftLeft, BitVec.toNat_ofInt, BitVec.toNat_ofInt, BitVec.toNat_ofInt, BitVec.toNat_ofNat]
  have hb : (b % ((2 ^ 32 : Nat) : Int)).toNat < 2 ^ 16 := by omega
  have hs : (a % ((2 ^ 32 : Nat) : Int)).toNat <<< (16 % 2 ^ 32) % 2 ^ 32 = ((a % ((2 ^ 32 : Nat) : Int)).toNat % 65536) <<< 16 := by
    rw [Nat.shiftLeft_eq, Nat.shiftLeft_eq, show (16 % 2 ^ 32 : Nat) = 16 from by decide, show (2 : Nat) ^ 16 = 65536 from rfl]
    omega
  rw [hs, ← Nat.shiftLeft_add_eq_or_of_lt hb, Nat.shiftLeft_eq]
  omega
theorem qi_nat_bv {a : Nat} (h : a < 4294967296) : (Int32.ofInt (a : Int)).toBitVec.toNat = a := by
  rw [qi_bv, BitVec.toNat_ofInt]
  omega
theorem qi_toInt_bv (x : Int32) (h : x.toBitVec.toNat < 2147483648) : x.toInt = (x.toBitVec.toNat : Int) := by
  show x.toBitVec.toInt = _
  rw [BitVec.toInt_eq_toNat_of_lt (by omega)]
theorem qand_nat {a b : Nat} (ha : a < 4294967296) (hb : b < 2147483648) : qand (a : Int) (b : Int) = ((a &&& b : Nat) : Int) := by
  unfold qand
  have e : (Int32.ofInt (a : Int) &&& Int32.ofInt (b : Int)).toBitVec.toNat = a &&& b := by
    rw [Int32.toBitVec_and, BitVec.toNat_and, qi_nat_bv ha, qi_nat_bv (by omega)]
  have hl : a &&& b ≤ b := Nat.and_le_right
  rw [qi_toInt_bv _ (by rw [e]; omega), e]
theorem qor_nat {a b : Nat} (ha : a < 2147483648) (hb : b < 2147483648) : qor (a : Int) (b : Int) = ((a ||| b : Nat) : Int) := by
  unfold qor
  have e : (Int32.ofInt (a : Int) ||| Int32.ofInt (b : Int)).toBitVec.toNat = a ||| b := by
    rw [Int32.toBitVec_or, BitVec.toNat_or, qi_nat_bv (by omega), qi_nat_bv (by omega)]
  have hl : a ||| b < 2 ^ 31 := Nat.or_lt_two_pow (by omega) (by omega)
  rw [qi_toInt_bv _ (by rw [e]; omega), e]
/-- the low bits of a number from 0 on -/
theorem qand_mask {a : Int} (h0 : 0 ≤ a) (h1 : a < 4294967296) {m k : Nat} (hm : m + 1 = 2 ^ k) (hk : m < 2147483648) : qand a (m : Int) = a % ((m : Int) + 1) := by
  obtain ⟨n, rfl⟩ := Int.eq_ofNat_of_zero_le h0
  rw [qand_nat (by omega) hk]
  have e : ((m : Int) + 1) = ((2 ^ k : Nat) : Int) := by omega
  rw [e]
  have : m = 2 ^ k - 1 := by omega
  rw [this, Nat.and_two_pow_sub_one_eq_mod]
  exact Int.natCast_emod n (2 ^ k)
theorem qand_rg {a : Int} {m : Nat} (hk : m < 2147483648) : 0 ≤ qand a (m : Int) ∧ qand a (m : Int) ≤ m := by
  unfold qand
  have e : (Int32.ofInt a &&& Int32.ofInt (m : Int)).toBitVec.toNat ≤ m := by
    rw [Int32.toBitVec_and, BitVec.toNat_and, qi_nat_bv (a := m) (by omega)]
    exact Nat.and_le_right
  rw [qi_toInt_bv _ (by omega)]
  omega
