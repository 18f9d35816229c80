/-! ATTRIBUTES of one place, all of them; the class reads them -/
def kFree (att : Int → Int) (kn : Int) : Bool := if kn = 0 then true else if kn = 6 ∨ kn = 7 then decide (att 6 < 0 ∧ att 7 < 0) else decide (att kn < 0)
def kSet (att : Int → Int) (kn a : Int) : Int → Int := if kn = 0 then att else fun k => if k = kn then a else att k
theorem kSet_0 (att : Int → Int) (a : Int) : kSet att 0 a = att := if_pos rfl
theorem kSet_at (att : Int → Int) {kn : Int} (a k : Int) (h : kn ≠ 0) : kSet att kn a k = if k = kn then a else att k := by unfold kSet; rw [if_neg h]
def rBody (π : qP) (B : Int → Int) (n kn dc a len : Int) : Int ⊕ Int :=
  if kn = 1 then bd (rTake π B n a (kTag π dc)) (fun _ => .inr (a + 2))
  else if kn = 2 then rCode π B n a
  else if kn = 3 then rCls π B n a
  else if kn = 4 then rInner π B n a
  else if kn = 5 then bd (rTake π B n a 7) (fun _ => bd (rTake0 π B n (a + 2) 12) (fun _ => .inr (a + 4)))
  else if kn = 6 then bd (rTake π B n a 7) (fun _ => .inr (a + 2))
  else if kn = 7 then rCls π B n a
  else if kn = 8 then rCls π B n a
  else if kn = 9 then rBoots π B n a
  else bd (rBy n a len) (fun _ => .inr (a + len))
/-- the attributes from q on; att: where the body of each known one stands, or -1 -/
def rAt (π : qP) (B : Int → Int) (n pl dc : Int) : Nat → Int → (Int → Int) → Int ⊕ (Int × (Int → Int))
  | 0, q, att => .inr (q, att)
  | d + 1, q, att => bd (rTake π B n q 1) (fun nm => bd (rCk (kFree att (kFind π pl nm)) q) (fun _ => bd (rLen B n (q + 2)) (fun len => bd (rBody π B n (kFind π pl nm) dc (q + 6) len) (fun r => bd (rCk (decide (r = q + 6 + len)) (q + 2)) (fun _ => rAt π B n pl dc d r (kSet att (kFind π pl nm) (q + 6)))))))
def att0 : Int → Int := fun _ => -1
def rAtts (π : qP) (B : Int → Int) (n pl dc q : Int) : Int ⊕ (Int × (Int → Int)) := bd (rU2 B n q) (fun m => rAt π B n pl dc m.toNat (q + 2) att0)
/-- what a member's attributes say -/
def vVal (B : Int → Int) (att : Int → Int) : Int := if 0 ≤ att 1 then b2 B (att 1) else if 0 ≤ att 2 then b4 B (att 2 + 4) else -2
def vHan (B : Int → Int) (att : Int → Int) : Int := if 0 ≤ att 2 then b2 B (att 2 + 8 + b4 B (att 2 + 4)) else -2
def vThr (B : Int → Int) (att : Int → Int) : Int := if 0 ≤ att 3 then b2 B (att 3) else 0
def qAM (s : qS) (B : Int → Int) (att : Int → Int) : Prop := s 8 2 = vVal B att ∧ s 8 3 = vHan B att ∧ s 8 4 = vThr B att
def qHc (s : qS) (t : Nat) (B : Int → Int) (x : Int) : Prop := if 0 ≤ x then qCol s t B (x + 2) (b2 B x) else s t 2 = 0
def qHi (s : qS) (B : Int → Int) (x : Int) : Prop := if 0 ≤ x then qInn s B (x + 2) (b2 B x) else s 13 2 = 0
def qHb (s : qS) (B : Int → Int) (x : Int) : Prop := if 0 ≤ x then qBoo s B (x + 2) (b2 B x) else s 15 2 = 0
def vAt (B : Int → Int) (x o : Int) : Int := if 0 ≤ x then b2 B (x + o) else -2
/-- what the whole's attributes say -/
def qAH (s : qS) (B : Int → Int) (att : Int → Int) : Prop := s 8 5 = vAt B (att 6) 0 ∧ s 8 6 = vAt B (att 5) 0 ∧ s 8 7 = vAt B (att 5) 2 ∧ qHc s 9 B (att 7) ∧ qHc s 11 B (att 8) ∧ qHi s B (att 4) ∧ qHb s B (att 9)
theorem qHc.fr {s s' : qS} {t : Nat} {B : Int → Int} {x : Int} (h : qHc s t B x) (h1 : s' t = s t) (h2 : s' (t + 1) = s (t + 1)) : qHc s' t B x := by
  unfold qHc qCol at h ⊢
  rw [h1, h2]; exact h
theorem qHi.fr {s s' : qS} {B : Int → Int} {x : Int} (h : qHi s B x) (h1 : s' 13 = s 13) (h2 : s' 14 = s 14) : qHi s' B x := by
  unfold qHi qInn at h ⊢
  rw [h1, h2]; exact h
theorem qHb.fr {s s' : qS} {B : Int → Int} {x : Int} (h : qHb s B x) (h1 : s' 15 = s 15) (h2 : s' 16 = s 16) : qHb s' B x := by
  unfold qHb qBoo at h ⊢
  rw [h1, h2]; exact h
def qFrA (s s' : qS) : Prop := ∀ k, k ≠ 1 → ¬ (8 ≤ k ∧ k ≤ 16) → s' k = s k
/-- the bits of what was seen -/
def qSeen (sv : Int) (att : Int → Int) : Prop := ∃ x : Nat, sv = (x : Int) ∧ x < 512 ∧ ∀ k : Nat, k < 9 → (x.testBit k = true ↔ 0 ≤ att ((k : Int) + 1))
def kRiv (kn : Int) : Int := if kn = 0 then 0 else if kn = 6 ∨ kn = 7 then 96 else (2 : Int) ^ (kn - 1).toNat
def kBit (kn : Int) : Int := if kn = 0 then 0 else (2 : Int) ^ (kn - 1).toNat
theorem kn_cases {kn : Int} (h : 0 ≤ kn ∧ kn ≤ 9) : kn = 0 ∨ kn = 1 ∨ kn = 2 ∨ kn = 3 ∨ kn = 4 ∨ kn = 5 ∨ kn = 6 ∨ kn = 7 ∨ kn = 8 ∨ kn = 9 := by omega
theorem kn_facts {kn : Int} (h : 0 ≤ kn ∧ kn ≤ 9) : qXo (10 + kn.toNat) 5 = some (qI (kRiv kn)) ∧ qXo (10 + kn.toNat) 4 = some (qI (kBit kn)) ∧ qov (10 + kn.toNat) = some (Int32.ofInt kn) := by
  rcases kn_cases h with e | e | e | e | e | e | e | e | e | e <;> (subst e; exact ⟨by decide +kernel, by decide +kernel, by decide +kernel⟩)
theorem two_bit (x j : Nat) : x &&& 2 ^ j = 0 ↔ x.testBit j = false := by
  constructor
  · intro h
    have := congrArg (fun y => Nat.testBit y j) h
    simpa [Nat.testBit_and, Nat.testBit_two_pow_self] using this
  · intro h
    refine Nat.eq_of_testBit_eq (fun i => ?_)
    rw [Nat.testBit_and, Nat.zero_testBit, Nat.testBit_two_pow]
    by_cases c : j = i
    · subst c; rw [h]; rfl
    · simp [c]
theorem qSeen.free {sv kn : Int} {att : Int → Int} (h : qSeen sv att) (hk : 0 ≤ kn ∧ kn ≤ 9) : qand sv (kRiv kn) = 0 ↔ kFree att kn = true := by
  obtain ⟨x, rfl, h1, h2⟩ := h
  have hb : ∀ j : Nat, j < 9 → (qand (x : Int) (((2 ^ j : Nat)) : Int) = 0 ↔ att ((j : Int) + 1) < 0) := by
    intro j hj
    have hp : 2 ^ j ≤ 2 ^ 8 := Nat.pow_le_pow_right (by decide) (by omega)
    rw [qand_nat (by omega) (by omega)]
    have e := two_bit x j
    have e2 := h2 j hj
    constructor
    · intro hz
      have hz : x &&& 2 ^ j = 0 := by omega
      have := e.mp hz
      rw [this] at e2
      have : ¬ 0 ≤ att ((j : Int) + 1) := fun y => absurd (e2.mpr y) (by decide)
      omega
    · intro hz
      have : x.testBit j = false := by
        cases ht : x.testBit j with
        | false => rfl
        | true => have := e2.mp ht; omega
      rw [e.mpr this]
      rfl
  rcases kn_cases hk with e | e | e | e | e | e | e | e | e | e

  · subst e
    have : qand (x : Int) 0 = 0 := by
      have := qand_nat (a := x) (b := 0) (by omega) (by decide)
      rw [Nat.and_zero] at this
      exact this
    unfold kRiv kFree
    rw [if_pos rfl, if_pos rfl, this]
    simp
  · subst e
    have := hb 0 (by decide)
    unfold kRiv kFree
    rw [if_neg (by decide), if_neg (by decide), if_neg (by decide), if_neg (by decide)]
    rw [decide_eq_true_iff]
    exact this
  · subst e
    have := hb 1 (by decide)
    unfold kRiv kFree
    rw [if_neg (by decide), if_neg (by decide), if_neg (by decide), if_neg (by decide)]
    rw [decide_eq_true_iff]
    exact this
  · subst e
    have := hb 2 (by decide)
    unfold kRiv kFree
    rw [if_neg (by decide), if_neg (by decide), if_neg (by decide), if_neg (by decide)]
    rw [decide_eq_true_iff]
    exact this
  · subst e
    have := hb 3 (by decide)
    unfold kRiv kFree
    rw [if_neg (by decide), if_neg (by decide), if_neg (by decide), if_neg (by decide)]
    rw [decide_eq_true_iff]
    exact this
  · subst e
    have := hb 4 (by decide)
    unfold kRiv kFree
    rw [if_neg (by decide), if_neg (by decide), if_neg (by decide), if_neg (by decide)]
    rw [decide_eq_true_iff]
    exact this
  · subst e
    have h5 := hb 5 (by decide)
    have h6 := hb 6 (by decide)
    rw [qand_nat (by omega) (by decide)] at h5 h6
    unfold kRiv kFree
    rw [if_neg (by decide), if_pos (by decide), if_neg (by decide), if_pos (by decide), decide_eq_true_iff]
    have e96 : qand (x : Int) 96 = ((x &&& (2 ^ 5 ||| 2 ^ 6) : Nat) : Int) := qand_nat (a := x) (b := 96) (by omega) (by decide)
    rw [e96, Nat.and_or_distrib_left]
    have e5 : ((5 : Nat) : Int) + 1 = 6 := rfl
    have e6 : ((6 : Nat) : Int) + 1 = 7 := rfl
    rw [e5] at h5
    rw [e6] at h6
    rw [← h5, ← h6]
    constructor
    · intro hz
      have hz : (x &&& 2 ^ 5 ||| x &&& 2 ^ 6) = 0 := by omega
      rw [Nat.or_eq_zero_iff] at hz
      rw [hz.1, hz.2]
      exact ⟨rfl, rfl⟩
    · rintro ⟨z1, z2⟩
      have z1 : x &&& 2 ^ 5 = 0 := by omega
      have z2 : x &&& 2 ^ 6 = 0 := by omega
      rw [z1, z2]
      rfl
  · subst e
    have h5 := hb 5 (by decide)
    have h6 := hb 6 (by decide)
    rw [qand_nat (by omega) (by decide)] at h5 h6
    unfold kRiv kFree
    rw [if_neg (by decide), if_pos (by decide), if_neg (by decide), if_pos (by decide), decide_eq_true_iff]
    have e96 : qand (x : Int) 96 = ((x &&& (2 ^ 5 ||| 2 ^ 6) : Nat) : Int) := qand_nat (a := x) (b := 96) (by omega) (by decide)
    rw [e96, Nat.and_or_distrib_left]
    have e5 : ((5 : Nat) : Int) + 1 = 6 := rfl
    have e6 : ((6 : Nat) : Int) + 1 = 7 := rfl
    rw [e5] at h5
    rw [e6] at h6
    rw [← h5, ← h6]
    constructor
    · intro hz
      have hz : (x &&& 2 ^ 5 ||| x &&& 2 ^ 6) = 0 := by omega
      rw [Nat.or_eq_zero_iff] at hz
      rw [hz.1, hz.2]
      exact ⟨rfl, rfl⟩
    · rintro ⟨z1, z2⟩
      have z1 : x &&& 2 ^ 5 = 0 := by omega
      have z2 : x &&& 2 ^ 6 = 0 := by omega
      rw [z1, z2]
      rfl
  · subst e
    have := hb 7 (by decide)
    unfold kRiv kFree
    rw [if_neg (by decide), if_neg (by decide), if_neg (by decide), if_neg (by decide)]
    rw [decide_eq_true_iff]
    exact this
  · subst e
    have := hb 8 (by decide)
    unfold kRiv kFree
    rw [if_neg (by decide), if_neg (by decide), if_neg (by decide), if_neg (by decide)]
    rw [decide_eq_true_iff]
    exact this
theorem qSeen.set {sv kn a : Int} {att : Int → Int} (h : qSeen sv att) (hk : 0 ≤ kn ∧ kn ≤ 9) (ha : 0 ≤ a) : qSeen (qor sv (kBit kn)) (kSet att kn a) := by
  obtain ⟨x, rfl, h1, h2⟩ := h
  by_cases h0 : kn = 0
  · subst h0
    rw [kSet_0]
    have : qor (x : Int) 0 = (x : Int) := by
      have := qor_nat (a := x) (b := 0) (by omega) (by decide)
      rw [Nat.or_zero] at this
      exact this
    unfold kBit
    rw [if_pos rfl, this]
    exact ⟨x, rfl, h1, h2⟩
  · obtain ⟨j, hj⟩ : ∃ j : Nat, kn = (j : Int) + 1 := ⟨(kn - 1).toNat, by omega⟩
    have hj8 : j ≤ 8 := by omega
    have hp : 2 ^ j ≤ 2 ^ 8 := Nat.pow_le_pow_right (by decide) hj8
    unfold kBit
    rw [if_neg h0]
    have e1 : (kn - 1).toNat = j := by omega
    rw [e1]
    have e2 : ((2 : Int) ^ j) = ((2 ^ j : Nat) : Int) := by norm_cast
    rw [e2, qor_nat (by omega) (by omega)]
    refine ⟨x ||| 2 ^ j, rfl, Nat.or_lt_two_pow (n := 9) (by omega) (by omega), fun k hk9 => ?_⟩
    rw [Nat.testBit_or, Nat.testBit_two_pow, kSet_at _ _ _ h0]
    by_cases c : j = k
    · subst c
      rw [if_pos (by omega)]
      simp [ha]
    · rw [if_neg (by omega)]
      simp only [c, decide_false, Bool.or_false]
      exact h2 k hk9
theorem qAM.fr {s s' : qS} {B : Int → Int} {att att' : Int → Int} (h : qAM s B att) (h8 : ∀ j, 2 ≤ j → j ≤ 4 → s' 8 j = s 8 j) (h1 : att' 1 = att 1) (h2 : att' 2 = att 2) (h3 : att' 3 = att 3) : qAM s' B att' := by
  unfold qAM vVal vHan vThr at h ⊢
  rw [h8 2 (by decide) (by decide), h8 3 (by decide) (by decide), h8 4 (by decide) (by decide), h1, h2, h3]
  exact h
theorem rTks_rg {π : qP} {B : Int → Int} {n : Int} : ∀ (d : Nat) (q r : Int), q ≤ n → rTks π B n d q = .inr r → r = q + 2 * d ∧ r ≤ n := by
  intro d
  induction d with
  | zero => intro q r hq h; cases h; omega
  | succ d ih =>
    intro q r hq h
    unfold rTks at h
    obtain ⟨_, h1, h⟩ := bd_inr.mp h
    have := (rTake_r h1).1
    have := ih _ _ (by omega) h
    omega
theorem rCls_rg {π : qP} {B : Int → Int} {n a r : Int} (h : rCls π B n a = .inr r) (h0 : 0 ≤ a) : 0 ≤ r ∧ r ≤ n := by
  unfold rCls at h
  obtain ⟨m, h1, h⟩ := bd_inr.mp h
  obtain ⟨q1, -⟩ := rU2_r h1
  have := rTks_rg _ _ _ q1 h
  omega
theorem rIns_rg {π : qP} {B : Int → Int} {n : Int} : ∀ (d : Nat) (q r : Int), q ≤ n → rIns π B n d q = .inr r → r = q + 8 * d ∧ r ≤ n := by
  intro d
  induction d with
  | zero => intro q r hq h; cases h; omega
  | succ d ih =>
    intro q r hq h
    unfold rIns rIn1 at h
    obtain ⟨_, h1, h⟩ := bd_inr.mp h
    obtain ⟨_, h2, h3⟩ := bd_inr.mp h1
    obtain ⟨_, h4, h5⟩ := bd_inr.mp h3
    obtain ⟨_, h6, h7⟩ := bd_inr.mp h5
    obtain ⟨_, h8, h9⟩ := bd_inr.mp h7
    have := (rU2_r h8).1
    have := ih _ _ (by omega) h
    omega
theorem rInner_rg {π : qP} {B : Int → Int} {n a r : Int} (h : rInner π B n a = .inr r) (h0 : 0 ≤ a) : 0 ≤ r ∧ r ≤ n := by
  unfold rInner at h
  obtain ⟨m, h1, h⟩ := bd_inr.mp h
  obtain ⟨q1, -⟩ := rU2_r h1
  have := rIns_rg _ _ _ q1 h
  omega
theorem rBts_rg {π : qP} {B : Int → Int} {n : Int} : ∀ (d : Nat) (q r : Int), 0 ≤ q → q ≤ n → rBts π B n d q = .inr r → q ≤ r ∧ r ≤ n := by
  intro d
  induction d with
  | zero => intro q r h0 hq h; cases h; omega
  | succ d ih =>
    intro q r h0 hq h
    unfold rBts at h
    obtain ⟨_, h1, h⟩ := bd_inr.mp h
    obtain ⟨m, h2, h⟩ := bd_inr.mp h
    obtain ⟨x, h3, h⟩ := bd_inr.mp h
    have := (rU2_r h2).1
    have := rLds_r _ _ _ (by omega) h3
    have := ih _ _ (by omega) (by omega) h
    omega
theorem rBoots_rg {π : qP} {B : Int → Int} {n a r : Int} (h : rBoots π B n a = .inr r) (h0 : 0 ≤ a) : 0 ≤ r ∧ r ≤ n := by
  unfold rBoots at h
  obtain ⟨m, h1, h⟩ := bd_inr.mp h
  obtain ⟨q1, -⟩ := rU2_r h1
  have := rBts_rg _ _ _ (by omega) q1 h
  omega
theorem rSk_rg {π : qP} {B : Int → Int} {n : Int} : ∀ (d : Nat) (q r : Int), q ≤ n → rSk π B n d q = .inr r → q ≤ r ∧ r ≤ n := by
  intro d
  induction d with
  | zero => intro q r hq h; cases h; omega
  | succ d ih =>
    intro q r hq h
    unfold rSk at h
    obtain ⟨_, h1, h⟩ := bd_inr.mp h
    obtain ⟨m, h2, h⟩ := bd_inr.mp h
    have := rLen_r h2
    have := ih _ _ (by omega) h
    omega
theorem rSks_rg {π : qP} {B : Int → Int} {n q r : Int} (h : rSks π B n q = .inr r) : q + 2 ≤ r ∧ r ≤ n := by
  unfold rSks at h
  obtain ⟨m, h1, h⟩ := bd_inr.mp h
  obtain ⟨q1, -⟩ := rU2_r h1
  exact rSk_rg _ _ _ q1 h
theorem rCode_rg {π : qP} {B : Int → Int} {n a r : Int} (h : rCode π B n a = .inr r) (h0 : 0 ≤ a) : 0 ≤ r ∧ r ≤ n := by
  unfold rCode at h
  obtain ⟨_, h1, h⟩ := bd_inr.mp h
  obtain ⟨_, h1, h⟩ := bd_inr.mp h
  obtain ⟨_, h1, h⟩ := bd_inr.mp h
  obtain ⟨_, h2, h⟩ := bd_inr.mp h
  obtain ⟨_, h3, h⟩ := bd_inr.mp h
  obtain ⟨x, h4, h⟩ := bd_inr.mp h
  have e2 := rBy_r h2
  have e3 := (rU2_r h3).1
  have e4 := rHands_rg _ _ _ e3 h4
  have := rSks_rg h
  omega
section LOADA
variable {w : qE} {s s0 : qS} {B : Int → Int} {n p pl dc : Int} {π : qP} {f : Int → qS → Prop} {fv : qS → Prop} {g : Nat → qS → Prop}
theorem c69_loop (hw : qfv w) (hB : qB B n) (hpl : pl = 1 ∨ pl = 2 ∨ pl = 3) (hdc : Rg dc) {m : Int} (hm : 0 ≤ m ∧ m ≤ 65535) : ∀ (d : Nat) (q : Int) (s : qS) (sv : Int) (att : Int → Int), (d : Int) ≤ m → 10 ≤ q → q ≤ n → qAt s0 B n q s → qCP s π → qSeen sv att → qAM s B att → (pl = 3 → qAH s B att) → (pl ≠ 1 → att 1 = -1) →
    qRes (rAt π B n pl dc d q att) (fun e => ∀ s', qFt s0 n e s' → g 0 s') (fun r => ∀ s', qAt s0 B n r.1 s' → qFrA s s' → qAM s' B r.2 → (pl = 3 → qAH s' B r.2) → f m s') →
    qR w 7 qm69 32 [(0, .ref 8), (1, qI pl), (2, qI dc), (3, qI m), (4, qI sv), (5, qI (m - d))] [] s (qPI f g) := by
  have h5 := hB.2.1
  intro d
  induction d with
  | zero =>
    intro q s sv att hd h0 h1 hA hP hS hM hH hx H
    exact k69_32 ⟨⟨by omega, by omega⟩, ⟨by omega, by omega⟩, fun c => absurd c (by omega), fun _ => H s hA (fun _ _ _ => rfl) hM hH⟩
  | succ d ih =>
    intro q s sv att hd h0 h1 hA hP hS hM hH hx H
    unfold rAt at H
    rw [qRes_bd] at H
    refine k69_32 ⟨⟨by omega, by omega⟩, ⟨by omega, by omega⟩, fun _ => c21 ?_, fun c => absurd c (by omega)⟩
    rw [hA.2.1]
    refine c70 hB hP hA (by omega) h1 ⟨by decide, by decide⟩ (qRes_mono H (fun _ _ h => h) (fun nm hv H => ?_))
    obtain ⟨q1, e1, -⟩ := rTake_r hv
    have rn := b2_rg hB (p := q) (by omega) q1
    have hA1 := hA.mv (q + 2)
    have hP1 := qAt.pool hP (q + 2)
    obtain ⟨kn, hkn⟩ : ∃ kn, kn = kFind π pl nm := ⟨_, rfl⟩
    have hkr := kFind_rg π pl nm
    have hkp := kFind_pl (π := π) (pl := pl) (nm := nm)
    rw [← hkn] at H hkr hkp
    obtain ⟨x5, x4, xo⟩ := kn_facts hkr
    refine c71 hw (by rw [e1]; exact ⟨by omega, by omega⟩) hpl hP1 ?_
    rw [← hkn]
    rw [qRes_bd] at H
    have h82 : ∀ b : Bool, b = kFree att kn → qR w 7 qm69 82 [(0, .ref 8), (1, qI pl), (2, qI dc), (3, qI m), (4, qI sv), (5, qI (m - ((d + 1 : Nat) : Int))), (6, qI q), (7, .retAddr (10 + kn.toNat))] [qI (bi b), .ref 1] (qset s 1 2 (q + 2)) (qPI f g) := by
      intro b hb
      refine k69_82 (c_ck (p := q) hA1 rfl rfl ?_)
      rw [hb]
      refine qRes_mono H (fun _ _ h => h) (fun _ hck H => ?_)
      have hfree := rCk_r hck
      refine ⟨kBit kn, x4, by omega, c21 ?_⟩
      rw [hA1.2.1]
      rw [qRes_bd] at H
      refine c73 hB hA1 (by omega) q1 (qRes_mono H (fun _ _ h => h) (fun len hl H => ?_))
      obtain ⟨q2, e2, q3, q4⟩ := rLen_r hl
      have hA2 := hA1.mv (q + 2 + 4)
      have hP2 := qAt.pool hP1 (q + 2 + 4)
      rw [qset_qset, show q + 2 + 4 = q + 6 by omega] at hA2 hP2 ⊢
      refine c21 ?_
      rw [hA2.2.1]
      rw [qRes_bd] at H
      have hS2 := hS.set hkr (a := q + 6) (by omega)
      have hx2 : pl ≠ 1 → kSet att kn (q + 6) 1 = -1 := by
        intro hp1
        by_cases k0 : kn = 0
        · rw [k0, kSet_0]; exact hx hp1
        · rw [kSet_at _ _ _ k0, if_neg (by have := hkp k0; omega)]
          exact hx hp1
      obtain ⟨u, hu⟩ : ∃ u, u = qset s 1 2 (q + 6) := ⟨_, rfl⟩
      have uc : ∀ c, c ≠ 1 → u c = s c := fun c hc => by rw [hu, qset_cell _ hc]
      rw [← hu] at hA2 hP2 ⊢
      -- behind the body: at 315
      have h315 : ∀ (r : Int) (z : qS), rBody π B n kn dc (q + 6) len = .inr r → qAt s0 B n r z → qFrA u z → qAM z B (kSet att kn (q + 6)) → (pl = 3 → qAH z B (kSet att kn (q + 6))) → qRes (bd (rCk (decide (r = q + 6 + len)) (q + 2)) (fun _ => rAt π B n pl dc d r (kSet att kn (q + 6)))) (fun e => ∀ s', qFt s0 n e s' → g 0 s') (fun r => ∀ s', qAt s0 B n r.1 s' → qFrA s s' → qAM s' B r.2 → (pl = 3 → qAH s' B r.2) → f m s') → 0 ≤ r → r ≤ n →
          qR w 7 qm69 315 [(0, .ref 8), (1, qI pl), (2, qI dc), (3, qI m), (4, qI (qor sv (kBit kn))), (5, qI (m - ((d + 1 : Nat) : Int))), (8, qI (q + 2)), (10, qI (q + 6 + len))] [] z (qPI f g) := by
        intro r z hr hz hfr hM2 hH2 H r0 r1
        rw [qRes_bd] at H
        have h336 : ∀ b : Bool, b = decide (r = q + 6 + len) → qR w 7 qm69 336 [(0, .ref 8), (1, qI pl), (2, qI dc), (3, qI m), (4, qI (qor sv (kBit kn))), (5, qI (m - ((d + 1 : Nat) : Int))), (8, qI (q + 2))] [qI (bi b), .ref 1] z (qPI f g) := by
          intro b hb
          refine k69_336 (c_ck (p := q + 2) hz rfl rfl ?_)
          rw [hb]
          refine qRes_mono H (fun _ _ h => h) (fun _ hck H => ?_)
          have hr2 := of_decide_eq_true (rCk_r hck)
          have e3 : m - ((d + 1 : Nat) : Int) + 1 = m - (d : Int) := by omega
          rw [e3]
          have hPz : qCP z π := hP2.fr (hfr 4 (by decide) (by decide)) (hfr 5 (by decide) (by decide)) (hfr 6 (by decide) (by decide))
          refine ih r z _ _ (by omega) (by omega) r1 hz hPz hS2 hM2 hH2 hx2 (qRes_mono H (fun _ _ h => h) (fun r _ H s' a1 a2 a3 a4 => H s' a1 (fun k k1 k2 => ?_) a3 a4))
          rw [a2 k k1 k2, hfr k k1 k2, uc k k1]
        refine k69_315 (c21 ?_)
        rw [hz.2.1]
        exact ⟨⟨by omega, by omega⟩, ⟨by omega, by omega⟩, fun c => h336 true (decide_eq_true c).symm, fun c => h336 false (decide_eq_false c).symm⟩
      have hMu : qAM u B att := hM.fr (fun j _ _ => by rw [uc 8 (by decide)]) rfl rfl rfl
      have hHu : pl = 3 → qAH u B att := by
        intro h3
        obtain ⟨a1, a2, a3, a4, a5, a6, a7⟩ := hH h3
        exact ⟨by rw [uc 8 (by decide)]; exact a1, by rw [uc 8 (by decide)]; exact a2, by rw [uc 8 (by decide)]; exact a3, a4.fr (uc _ (by decide)) (uc _ (by decide)), a5.fr (uc _ (by decide)) (uc _ (by decide)), a6.fr (uc _ (by decide)) (uc _ (by decide)), a7.fr (uc _ (by decide)) (uc _ (by decide))⟩
      refine ⟨kn, xo, by omega, by omega, by omega, ⟨by omega, by omega⟩, fun c => ?_, fun c => ?_, fun c => ?_, fun c => ?_, fun c => ?_, fun c => ?_, fun c => ?_, fun c => ?_, fun c => ?_, fun c1 c2 c3 c4 c5 c6 c7 c8 c9 => ?_⟩
      · -- ConstantValue
        subst c
        have hp1 : pl = 1 := by have := hkp (by decide); omega
        refine c74 hw hdc hP2 ?_
        unfold rBody at H h315
        rw [if_pos rfl] at H h315
        rw [qRes_bd] at H
        refine c70 hB hP2 hA2 (by omega) (by omega) (kTag_rg _ _) (qRes_mono H (fun _ _ h => h) (fun v hv H => ?_))
        obtain ⟨y1, y2, -⟩ := rTake_r hv
        have hz := (hA2.mv (q + 6 + 2)).set (k := 8) (j := 2) (v := v) ⟨by decide, by decide⟩
        refine h315 (q + 6 + 2) _ (by rw [hv]; rfl) hz (fun k k1 k2 => ?_) ⟨?_, ?_, ?_⟩ (fun h3 => absurd h3 (by omega)) H (by omega) (by omega)
        · rw [qset_cell _ (by omega), qset_cell _ k1]
        · rw [qset_same, if_pos rfl]
          unfold vVal
          rw [kSet_at _ _ _ (by decide), if_pos rfl, if_pos (by omega), y2]
        · rw [qset_same, if_neg (by decide), qset_cell _ (by decide), hMu.2.1]
          unfold vHan
          rw [kSet_at _ _ _ (by decide), if_neg (show ¬ (2 : Int) = 1 by decide)]
        · rw [qset_same, if_neg (by decide), qset_cell _ (by decide), hMu.2.2]
          unfold vThr
          rw [kSet_at _ _ _ (by decide), if_neg (show ¬ (3 : Int) = 1 by decide)]
      · -- Code
        subst c
        have hp2 : pl = 2 := by have := hkp (by decide); omega
        unfold rBody at H h315
        rw [if_neg (by decide), if_pos rfl] at H h315
        refine c75 hB hP2 hA2 (by omega) (by omega) (qRes_mono H (fun _ _ h => h) (fun r hr H => ?_))
        have hz := ((hA2.mv r).set (k := 8) (j := 2) (v := b4 B (q + 6 + 4)) ⟨by decide, by decide⟩).set (k := 8) (j := 3) (v := b2 B (q + 6 + 8 + b4 B (q + 6 + 4))) ⟨by decide, by decide⟩
        have hrr := rCode_rg hr (by omega)
        refine h315 r _ hr hz (fun k k1 k2 => ?_) ⟨?_, ?_, ?_⟩ (fun h3 => absurd h3 (by omega)) H hrr.1 hrr.2
        · rw [qset_cell _ (by omega), qset_cell _ (by omega), qset_cell _ k1]
        · rw [qset_same, if_neg (by decide), qset_same, if_pos rfl]
          unfold vVal
          rw [kSet_at _ _ _ (by decide), kSet_at _ _ _ (by decide), if_neg (show ¬ (1 : Int) = 2 by decide), hx (by omega), if_neg (by decide), if_pos rfl, if_pos (by omega)]
        · rw [qset_same, if_pos rfl]
          unfold vHan
          rw [kSet_at _ _ _ (by decide), if_pos rfl, if_pos (by omega)]
        · rw [qset_same, if_neg (by decide), qset_same, if_neg (by decide), qset_cell _ (by decide), hMu.2.2]
          unfold vThr
          rw [kSet_at _ _ _ (by decide), if_neg (show ¬ (3 : Int) = 2 by decide)]
      · -- Exceptions
        subst c
        have hp2 : pl = 2 := by have := hkp (by decide); omega
        unfold rBody at H h315
        rw [if_neg (by decide), if_neg (by decide), if_pos rfl] at H h315
        refine c80 hB hP2 hA2 (by omega) (by omega) (qRes_mono H (fun _ _ h => h) (fun r hr H => ?_))
        have hz := (hA2.mv r).set (k := 8) (j := 4) (v := b2 B (q + 6)) ⟨by decide, by decide⟩
        have hrr := rCls_rg hr (by omega)
        refine h315 r _ hr hz (fun k k1 k2 => ?_) ⟨?_, ?_, ?_⟩ (fun h3 => absurd h3 (by omega)) H hrr.1 hrr.2
        · rw [qset_cell _ (by omega), qset_cell _ k1]
        · rw [qset_same, if_neg (by decide), qset_cell _ (by decide), hMu.1]
          unfold vVal
          rw [kSet_at _ _ _ (by decide), kSet_at _ _ _ (by decide), if_neg (show ¬ (1 : Int) = 3 by decide), if_neg (show ¬ (2 : Int) = 3 by decide)]
        · rw [qset_same, if_neg (by decide), qset_cell _ (by decide), hMu.2.1]
          unfold vHan
          rw [kSet_at _ _ _ (by decide), if_neg (show ¬ (2 : Int) = 3 by decide)]
        · rw [qset_same, if_pos rfl]
          unfold vThr
          rw [kSet_at _ _ _ (by decide), if_pos rfl, if_pos (by omega)]
      · -- InnerClasses
        subst c
        have hp3 : pl = 3 := by have := hkp (by decide); omega
        obtain ⟨b1, b2', b3, b4', b5, b6, b7⟩ := hHu hp3
        have hneg : att 4 < 0 := by
          have hfree := hfree
          unfold kFree at hfree
          rw [if_neg (by decide), if_neg (by decide), decide_eq_true_iff] at hfree
          exact hfree
        unfold rBody at H h315
        rw [if_neg (by decide), if_neg (by decide), if_neg (by decide), if_pos rfl] at H h315
        refine c81 hB hP2 hA2 (by omega) (by omega) (by unfold qHi at b6; rw [if_neg (by omega)] at b6; exact b6) (qRes_mono H (fun _ _ h => h) (fun r hr H z hz hc hfr => ?_))
        have hrr := rInner_rg hr (by omega)
        refine h315 r z hr hz (fun k k1 k2 => hfr k k1 (by omega) (by omega)) (hMu.fr (fun j _ _ => by rw [hfr 8 (by decide) (by decide) (by decide)]) (by rw [kSet_at _ _ _ (by decide), if_neg (by decide)]) (by rw [kSet_at _ _ _ (by decide), if_neg (by decide)]) (by rw [kSet_at _ _ _ (by decide), if_neg (by decide)])) (fun _ => ⟨?_, ?_, ?_, ?_, ?_, ?_, ?_⟩) H hrr.1 hrr.2
        · rw [hfr 8 (by decide) (by decide) (by decide), kSet_at _ _ _ (by decide), if_neg (by decide)]; exact b1
        · rw [hfr 8 (by decide) (by decide) (by decide), kSet_at _ _ _ (by decide), if_neg (by decide)]; exact b2'
        · rw [hfr 8 (by decide) (by decide) (by decide), kSet_at _ _ _ (by decide), if_neg (by decide)]; exact b3
        · rw [kSet_at _ _ _ (by decide), if_neg (by decide)]; exact b4'.fr (hfr _ (by decide) (by decide) (by decide)) (hfr _ (by decide) (by decide) (by decide))
        · rw [kSet_at _ _ _ (by decide), if_neg (by decide)]; exact b5.fr (hfr _ (by decide) (by decide) (by decide)) (hfr _ (by decide) (by decide) (by decide))
        · rw [kSet_at _ _ _ (by decide), if_pos rfl]; unfold qHi; rw [if_pos (by omega)]; exact hc
        · rw [kSet_at _ _ _ (by decide), if_neg (by decide)]; exact b7.fr (hfr _ (by decide) (by decide) (by decide)) (hfr _ (by decide) (by decide) (by decide))
      · -- EnclosingMethod
        subst c
        have hp3 : pl = 3 := by have := hkp (by decide); omega
        obtain ⟨b1, b2', b3, b4', b5, b6, b7⟩ := hHu hp3
        unfold rBody at H h315
        rw [if_neg (by decide), if_neg (by decide), if_neg (by decide), if_neg (by decide), if_pos rfl] at H h315
        rw [qRes_bd] at H
        refine c70 hB hP2 hA2 (by omega) (by omega) ⟨by decide, by decide⟩ (qRes_mono H (fun _ _ h => h) (fun v hv H => ?_))
        obtain ⟨y1, y2, -⟩ := rTake_r hv
        have hz := (hA2.mv (q + 6 + 2)).set (k := 8) (j := 6) (v := v) ⟨by decide, by decide⟩
        have hPz : qCP (qset (qset u 1 2 (q + 6 + 2)) 8 6 v) π := (hP2.setW (Or.inr rfl)).setW (Or.inl (by decide))
        rw [qRes_bd] at H
        refine c78 hB hPz hz (by omega) (by omega) ⟨by decide, by decide⟩ (qRes_mono H (fun _ _ h => h) (fun v2 hv2 H => ?_))
        obtain ⟨y3, y4⟩ := rTake0_r hv2
        have hz2 := (hz.mv (q + 6 + 2 + 2)).set (k := 8) (j := 7) (v := v2) ⟨by decide, by decide⟩
        rw [show q + 6 + 2 + 2 = q + 6 + 4 by omega] at hz2 ⊢
        have e8 : ∀ j, j ≠ 6 → j ≠ 7 → qset (qset (qset (qset u 1 2 (q + 6 + 2)) 8 6 v) 1 2 (q + 6 + 4)) 8 7 v2 8 j = u 8 j := fun j j6 j7 => by rw [qset_same, if_neg j7, qset_cell _ (by decide), qset_same, if_neg j6, qset_cell _ (by decide)]
        have ec : ∀ k, k ≠ 1 → k ≠ 8 → qset (qset (qset (qset u 1 2 (q + 6 + 2)) 8 6 v) 1 2 (q + 6 + 4)) 8 7 v2 k = u k := fun k k1 k8 => by rw [qset_cell _ k8, qset_cell _ k1, qset_cell _ k8, qset_cell _ k1]
        refine h315 (q + 6 + 4) _ (by rw [hv]; show bd (rTake0 π B n (q + 6 + 2) 12) _ = _; rw [hv2]; rfl) hz2 (fun k k1 k2 => ec k k1 (by omega)) (hMu.fr (fun j j2 j4 => e8 j (by omega) (by omega)) (by rw [kSet_at _ _ _ (by decide), if_neg (by decide)]) (by rw [kSet_at _ _ _ (by decide), if_neg (by decide)]) (by rw [kSet_at _ _ _ (by decide), if_neg (by decide)])) (fun _ => ⟨?_, ?_, ?_, ?_, ?_, ?_, ?_⟩) H (by omega) (by omega)
        · rw [e8 5 (by decide) (by decide), kSet_at _ _ _ (by decide), if_neg (by decide)]; exact b1
        · rw [qset_same, if_neg (by decide), qset_cell _ (by decide), qset_same, if_pos rfl, kSet_at _ _ _ (by decide), if_pos rfl]
          unfold vAt
          rw [if_pos (by omega), Int.add_zero, y2]
        · rw [qset_same, if_pos rfl, kSet_at _ _ _ (by decide), if_pos rfl]
          unfold vAt
          rw [if_pos (by omega), y4]
        · rw [kSet_at _ _ _ (by decide), if_neg (by decide)]; exact b4'.fr (ec _ (by decide) (by decide)) (ec _ (by decide) (by decide))
        · rw [kSet_at _ _ _ (by decide), if_neg (by decide)]; exact b5.fr (ec _ (by decide) (by decide)) (ec _ (by decide) (by decide))
        · rw [kSet_at _ _ _ (by decide), if_neg (by decide)]; exact b6.fr (ec _ (by decide) (by decide)) (ec _ (by decide) (by decide))
        · rw [kSet_at _ _ _ (by decide), if_neg (by decide)]; exact b7.fr (ec _ (by decide) (by decide)) (ec _ (by decide) (by decide))
      · -- NestHost
        subst c
        have hp3 : pl = 3 := by have := hkp (by decide); omega
        obtain ⟨b1, b2', b3, b4', b5, b6, b7⟩ := hHu hp3
        unfold rBody at H h315
        rw [if_neg (by decide), if_neg (by decide), if_neg (by decide), if_neg (by decide), if_neg (by decide), if_pos rfl] at H h315
        rw [qRes_bd] at H
        refine c70 hB hP2 hA2 (by omega) (by omega) ⟨by decide, by decide⟩ (qRes_mono H (fun _ _ h => h) (fun v hv H => ?_))
        obtain ⟨y1, y2, -⟩ := rTake_r hv
        have hz := (hA2.mv (q + 6 + 2)).set (k := 8) (j := 5) (v := v) ⟨by decide, by decide⟩
        have e8 : ∀ j, j ≠ 5 → qset (qset u 1 2 (q + 6 + 2)) 8 5 v 8 j = u 8 j := fun j j5 => by rw [qset_same, if_neg j5, qset_cell _ (by decide)]
        have ec : ∀ k, k ≠ 1 → k ≠ 8 → qset (qset u 1 2 (q + 6 + 2)) 8 5 v k = u k := fun k k1 k8 => by rw [qset_cell _ k8, qset_cell _ k1]
        refine h315 (q + 6 + 2) _ (by rw [hv]; rfl) hz (fun k k1 k2 => ec k k1 (by omega)) (hMu.fr (fun j j2 j4 => e8 j (by omega)) (by rw [kSet_at _ _ _ (by decide), if_neg (by decide)]) (by rw [kSet_at _ _ _ (by decide), if_neg (by decide)]) (by rw [kSet_at _ _ _ (by decide), if_neg (by decide)])) (fun _ => ⟨?_, ?_, ?_, ?_, ?_, ?_, ?_⟩) H (by omega) (by omega)
        · rw [qset_same, if_pos rfl, kSet_at _ _ _ (by decide), if_pos rfl]
          unfold vAt
          rw [if_pos (by omega), Int.add_zero, y2]
        · rw [e8 6 (by decide), kSet_at _ _ _ (by decide), if_neg (by decide)]; exact b2'
        · rw [e8 7 (by decide), kSet_at _ _ _ (by decide), if_neg (by decide)]; exact b3
        · rw [kSet_at _ _ _ (by decide), if_neg (by decide)]; exact b4'.fr (ec _ (by decide) (by decide)) (ec _ (by decide) (by decide))
        · rw [kSet_at _ _ _ (by decide), if_neg (by decide)]; exact b5.fr (ec _ (by decide) (by decide)) (ec _ (by decide) (by decide))
        · rw [kSet_at _ _ _ (by decide), if_neg (by decide)]; exact b6.fr (ec _ (by decide) (by decide)) (ec _ (by decide) (by decide))
        · rw [kSet_at _ _ _ (by decide), if_neg (by decide)]; exact b7.fr (ec _ (by decide) (by decide)) (ec _ (by decide) (by decide))
      · -- NestMembers
        subst c
        have hp3 : pl = 3 := by have := hkp (by decide); omega
        obtain ⟨b1, b2', b3, b4', b5, b6, b7⟩ := hHu hp3
        have hneg : att 7 < 0 := by
          have hfree := hfree
          unfold kFree at hfree
          rw [if_neg (by decide), if_pos (by decide), decide_eq_true_iff] at hfree
          exact hfree.2
        unfold rBody at H h315
        rw [if_neg (by decide), if_neg (by decide), if_neg (by decide), if_neg (by decide), if_neg (by decide), if_neg (by decide), if_pos rfl] at H h315
        refine c82 hB (t := 9) ⟨by decide, by decide⟩ rfl rfl hP2 hA2 (by omega) (by omega) (by unfold qHc at b4'; rw [if_neg (by omega)] at b4'; exact b4') (qRes_mono H (fun _ _ h => h) (fun r hr H z hz hc hfr => ?_))
        have hrr := rCls_rg hr (by omega)
        refine h315 r z hr hz (fun k k1 k2 => hfr k k1 (by omega) (by omega)) (hMu.fr (fun j _ _ => by rw [hfr 8 (by decide) (by decide) (by decide)]) (by rw [kSet_at _ _ _ (by decide), if_neg (by decide)]) (by rw [kSet_at _ _ _ (by decide), if_neg (by decide)]) (by rw [kSet_at _ _ _ (by decide), if_neg (by decide)])) (fun _ => ⟨?_, ?_, ?_, ?_, ?_, ?_, ?_⟩) H hrr.1 hrr.2
        · rw [hfr 8 (by decide) (by decide) (by decide), kSet_at _ _ _ (by decide), if_neg (by decide)]; exact b1
        · rw [hfr 8 (by decide) (by decide) (by decide), kSet_at _ _ _ (by decide), if_neg (by decide)]; exact b2'
        · rw [hfr 8 (by decide) (by decide) (by decide), kSet_at _ _ _ (by decide), if_neg (by decide)]; exact b3
        · rw [kSet_at _ _ _ (by decide), if_pos rfl]; unfold qHc; rw [if_pos (by omega)]; exact hc
        · rw [kSet_at _ _ _ (by decide), if_neg (by decide)]; exact b5.fr (hfr _ (by decide) (by decide) (by decide)) (hfr _ (by decide) (by decide) (by decide))
        · rw [kSet_at _ _ _ (by decide), if_neg (by decide)]; exact b6.fr (hfr _ (by decide) (by decide) (by decide)) (hfr _ (by decide) (by decide) (by decide))
        · rw [kSet_at _ _ _ (by decide), if_neg (by decide)]; exact b7.fr (hfr _ (by decide) (by decide) (by decide)) (hfr _ (by decide) (by decide) (by decide))
      · -- PermittedSubclasses
        subst c
        have hp3 : pl = 3 := by have := hkp (by decide); omega
        obtain ⟨b1, b2', b3, b4', b5, b6, b7⟩ := hHu hp3
        have hneg : att 8 < 0 := by
          have hfree := hfree
          unfold kFree at hfree
          rw [if_neg (by decide), if_neg (by decide), decide_eq_true_iff] at hfree
          exact hfree
        unfold rBody at H h315
        rw [if_neg (by decide), if_neg (by decide), if_neg (by decide), if_neg (by decide), if_neg (by decide), if_neg (by decide), if_neg (by decide), if_pos rfl] at H h315
        refine c82 hB (t := 11) ⟨by decide, by decide⟩ rfl rfl hP2 hA2 (by omega) (by omega) (by unfold qHc at b5; rw [if_neg (by omega)] at b5; exact b5) (qRes_mono H (fun _ _ h => h) (fun r hr H z hz hc hfr => ?_))
        have hrr := rCls_rg hr (by omega)
        refine h315 r z hr hz (fun k k1 k2 => hfr k k1 (by omega) (by omega)) (hMu.fr (fun j _ _ => by rw [hfr 8 (by decide) (by decide) (by decide)]) (by rw [kSet_at _ _ _ (by decide), if_neg (by decide)]) (by rw [kSet_at _ _ _ (by decide), if_neg (by decide)]) (by rw [kSet_at _ _ _ (by decide), if_neg (by decide)])) (fun _ => ⟨?_, ?_, ?_, ?_, ?_, ?_, ?_⟩) H hrr.1 hrr.2
        · rw [hfr 8 (by decide) (by decide) (by decide), kSet_at _ _ _ (by decide), if_neg (by decide)]; exact b1
        · rw [hfr 8 (by decide) (by decide) (by decide), kSet_at _ _ _ (by decide), if_neg (by decide)]; exact b2'
        · rw [hfr 8 (by decide) (by decide) (by decide), kSet_at _ _ _ (by decide), if_neg (by decide)]; exact b3
        · rw [kSet_at _ _ _ (by decide), if_neg (by decide)]; exact b4'.fr (hfr _ (by decide) (by decide) (by decide)) (hfr _ (by decide) (by decide) (by decide))
        · rw [kSet_at _ _ _ (by decide), if_pos rfl]; unfold qHc; rw [if_pos (by omega)]; exact hc
        · rw [kSet_at _ _ _ (by decide), if_neg (by decide)]; exact b6.fr (hfr _ (by decide) (by decide) (by decide)) (hfr _ (by decide) (by decide) (by decide))
        · rw [kSet_at _ _ _ (by decide), if_neg (by decide)]; exact b7.fr (hfr _ (by decide) (by decide) (by decide)) (hfr _ (by decide) (by decide) (by decide))
      · -- BootstrapMethods
        subst c
        have hp3 : pl = 3 := by have := hkp (by decide); omega
        obtain ⟨b1, b2', b3, b4', b5, b6, b7⟩ := hHu hp3
        have hneg : att 9 < 0 := by
          have hfree := hfree
          unfold kFree at hfree
          rw [if_neg (by decide), if_neg (by decide), decide_eq_true_iff] at hfree
          exact hfree
        unfold rBody at H h315
        rw [if_neg (by decide), if_neg (by decide), if_neg (by decide), if_neg (by decide), if_neg (by decide), if_neg (by decide), if_neg (by decide), if_neg (by decide), if_pos rfl] at H h315
        refine c83 hB hP2 hA2 (by omega) (by omega) (by unfold qHb at b7; rw [if_neg (by omega)] at b7; exact b7) (qRes_mono H (fun _ _ h => h) (fun r hr H z hz hc hfr => ?_))
        have hrr := rBoots_rg hr (by omega)
        refine h315 r z hr hz (fun k k1 k2 => hfr k k1 (by omega) (by omega)) (hMu.fr (fun j _ _ => by rw [hfr 8 (by decide) (by decide) (by decide)]) (by rw [kSet_at _ _ _ (by decide), if_neg (by decide)]) (by rw [kSet_at _ _ _ (by decide), if_neg (by decide)]) (by rw [kSet_at _ _ _ (by decide), if_neg (by decide)])) (fun _ => ⟨?_, ?_, ?_, ?_, ?_, ?_, ?_⟩) H hrr.1 hrr.2
        · rw [hfr 8 (by decide) (by decide) (by decide), kSet_at _ _ _ (by decide), if_neg (by decide)]; exact b1
        · rw [hfr 8 (by decide) (by decide) (by decide), kSet_at _ _ _ (by decide), if_neg (by decide)]; exact b2'
        · rw [hfr 8 (by decide) (by decide) (by decide), kSet_at _ _ _ (by decide), if_neg (by decide)]; exact b3
        · rw [kSet_at _ _ _ (by decide), if_neg (by decide)]; exact b4'.fr (hfr _ (by decide) (by decide) (by decide)) (hfr _ (by decide) (by decide) (by decide))
        · rw [kSet_at _ _ _ (by decide), if_neg (by decide)]; exact b5.fr (hfr _ (by decide) (by decide) (by decide)) (hfr _ (by decide) (by decide) (by decide))
        · rw [kSet_at _ _ _ (by decide), if_neg (by decide)]; exact b6.fr (hfr _ (by decide) (by decide) (by decide)) (hfr _ (by decide) (by decide) (by decide))
        · rw [kSet_at _ _ _ (by decide), if_pos rfl]; unfold qHb; rw [if_pos (by omega)]; exact hc
      · -- another one
        have k0 : kn = 0 := by omega
        subst k0
        rw [kSet_0] at H h315
        unfold rBody at H h315
        rw [if_neg (by decide), if_neg (by decide), if_neg (by decide), if_neg (by decide), if_neg (by decide), if_neg (by decide), if_neg (by decide), if_neg (by decide), if_neg (by decide)] at H h315
        rw [qRes_bd] at H
        refine c76 hB hA2 (by omega) (by omega) ⟨by omega, by omega⟩ (qRes_mono H (fun _ _ h => h) (fun x hv H => ?_))
        have y1 := rBy_r hv
        refine h315 (q + 6 + len) _ (by rw [hv]; rfl) (hA2.mv _) (fun k k1 _ => by rw [qset_cell _ k1]) (hMu.fr (fun j _ _ => by rw [qset_cell _ (by decide)]) rfl rfl rfl) (fun h3 => ?_) H (by omega) y1.2
        obtain ⟨a1, a2, a3, a4, a5, a6, a7⟩ := hHu h3
        exact ⟨by rw [qset_cell _ (by decide)]; exact a1, by rw [qset_cell _ (by decide)]; exact a2, by rw [qset_cell _ (by decide)]; exact a3, a4.fr (qset_cell _ (by decide)) (qset_cell _ (by decide)), a5.fr (qset_cell _ (by decide)) (qset_cell _ (by decide)), a6.fr (qset_cell _ (by decide)) (qset_cell _ (by decide)), a7.fr (qset_cell _ (by decide)) (qset_cell _ (by decide))⟩
    refine ⟨kRiv kn, x5, by omega, qand_Rg _ _, fun c => h82 true ?_, fun c => h82 false ?_⟩
    · exact ((hS.free hkr).mp c).symm
    · cases hf : kFree att kn with
      | false => rfl
      | true => exact absurd ((hS.free hkr).mpr hf) c
theorem qSeen0 : qSeen 0 att0 := ⟨0, rfl, by decide, fun k hk => by rw [Nat.zero_testBit]; unfold att0; simp⟩
theorem c69 (hw : qfv w) (hB : qB B n) (hpl : pl = 1 ∨ pl = 2 ∨ pl = 3) (hdc : Rg dc) (hP : qCP s π) (hA : qAt s0 B n p s) (h0 : 8 ≤ p) (h1 : p ≤ n) (hH : pl = 3 → qAH s B att0) (H : qRes (rAtts π B n pl dc p) (fun e => ∀ s', qFt s0 n e s' → g 0 s') (fun r => ∀ s', qAt s0 B n r.1 s' → qFrA s s' → qAM s' B r.2 → (pl = 3 → qAH s' B r.2) → f (b2 B p) s')) : qW w 8 69 [.ref 8, qI pl, qI dc] s (qPI f g) := by
  unfold rAtts at H
  rw [qRes_bd] at H
  have hA1 := ((hA.set (k := 8) (j := 2) (v := -2) ⟨by decide, by decide⟩).set (k := 8) (j := 3) (v := -2) ⟨by decide, by decide⟩).set (k := 8) (j := 4) (v := 0) ⟨by decide, by decide⟩
  have hP1 : qCP (qset (qset (qset s 8 2 (-2)) 8 3 (-2)) 8 4 0) π := ((hP.setW (Or.inl (by decide))).setW (Or.inl (by decide))).setW (Or.inl (by decide))
  obtain ⟨u, hu⟩ : ∃ u, u = qset (qset (qset s 8 2 (-2)) 8 3 (-2)) 8 4 0 := ⟨_, rfl⟩
  have u8 : ∀ j, 5 ≤ j → u 8 j = s 8 j := fun j hj => by rw [hu, qset_same, if_neg (by omega), qset_same, if_neg (by omega), qset_same, if_neg (by omega)]
  have uc : ∀ k, k ≠ 8 → u k = s k := fun k hk => by rw [hu, qset_cell _ hk, qset_cell _ hk, qset_cell _ hk]
  have hMu : qAM u B att0 := by
    unfold qAM vVal vHan vThr att0
    rw [hu]
    simp [qset_eq]
  have hHu : pl = 3 → qAH u B att0 := by
    intro h3
    obtain ⟨a1, a2, a3, a4, a5, a6, a7⟩ := hH h3
    exact ⟨by rw [u8 5 (by decide)]; exact a1, by rw [u8 6 (by decide)]; exact a2, by rw [u8 7 (by decide)]; exact a3, a4.fr (uc _ (by decide)) (uc _ (by decide)), a5.fr (uc _ (by decide)) (uc _ (by decide)), a6.fr (uc _ (by decide)) (uc _ (by decide)), a7.fr (uc _ (by decide)) (uc _ (by decide))⟩
  refine k69 ?_
  rw [← hu] at hA1 hP1 ⊢
  refine c_u2 hB hA1 (by omega) h1 (qRes_mono H (fun _ _ h => h) (fun m hm H => ?_))
  obtain ⟨q1, rfl⟩ := rU2_r hm
  have r1 := b2_rg hB (p := p) (by omega) q1
  have e0 : b2 B p - ((b2 B p).toNat : Int) = 0 := by omega
  have := c69_loop (w := w) (f := f) (g := g) hw hB hpl hdc r1 (b2 B p).toNat (p + 2) (qset u 1 2 (p + 2)) 0 att0 (by omega) (by omega) q1 (hA1.mv _) (qAt.pool hP1 _) qSeen0 (hMu.fr (fun j _ _ => by rw [qset_cell _ (by decide)]) rfl rfl rfl) (fun h3 => by
    obtain ⟨a1, a2, a3, a4, a5, a6, a7⟩ := hHu h3
    exact ⟨by rw [qset_cell _ (by decide)]; exact a1, by rw [qset_cell _ (by decide)]; exact a2, by rw [qset_cell _ (by decide)]; exact a3, a4.fr (qset_cell _ (by decide)) (qset_cell _ (by decide)), a5.fr (qset_cell _ (by decide)) (qset_cell _ (by decide)), a6.fr (qset_cell _ (by decide)) (qset_cell _ (by decide)), a7.fr (qset_cell _ (by decide)) (qset_cell _ (by decide))⟩) (fun _ => rfl) (qRes_mono H (fun _ _ h => h) (fun r _ H s' a1 a2 a3 a4 => H s' a1 (fun k k1 k2 => by rw [a2 k k1 k2, qset_cell _ k1, uc k (by omega)]) a3 a4))
  rw [e0] at this
  exact this
theorem c91 (hw : qfv w) (hB : qB B n) (hP : qCP s π) (hA : qAt s0 B n p s) (h0 : 8 ≤ p) (h1 : p ≤ n) (H : qRes (rAtts π B n 3 (-2) p) (fun e => ∀ s', qFt s0 n e s' → g 0 s') (fun r => ∀ s', qAt s0 B n r.1 s' → qFrA s s' → qAH s' B r.2 → fv s')) : qW w 9 91 [.ref 8] s (qPV fv g) := by
  refine k91 (c24 (t := 9) (by decide) (c24 (t := 11) (by decide) (c24 (t := 13) (by decide) (c24 (t := 15) (by decide) ?_))))
  obtain ⟨u, hu⟩ : ∃ u, u = qset (qset (qset (qset (qset (qset (qset s 8 5 (-2)) 8 6 (-2)) 8 7 (-2)) 9 2 0) 11 2 0) 13 2 0) 15 2 0 := ⟨_, rfl⟩
  have hAu : qAt s0 B n p u := by
    rw [hu]
    exact ((((((hA.set ⟨by decide, by decide⟩).set ⟨by decide, by decide⟩).set ⟨by decide, by decide⟩).set ⟨by decide, by decide⟩).set ⟨by decide, by decide⟩).set ⟨by decide, by decide⟩).set ⟨by decide, by decide⟩
  have hPu : qCP u π := by
    rw [hu]
    exact ((((((hP.setW (Or.inl (by decide))).setW (Or.inl (by decide))).setW (Or.inl (by decide))).setW (Or.inl (by decide))).setW (Or.inl (by decide))).setW (Or.inl (by decide))).setW (Or.inl (by decide))
  have hHu : qAH u B att0 := by
    unfold qAH qHc qHi qHb vAt att0
    rw [hu]
    simp [qset_eq]
  rw [← hu]
  refine c69 hw hB (Or.inr (Or.inr rfl)) ⟨by decide, by decide⟩ hPu hAu h0 h1 (fun _ => hHu) (qRes_mono H (fun _ _ h => h) (fun r _ H s' a1 a2 a3 a4 => H s' a1 (fun k k1 k2 => ?_) (a4 rfl)))
  rw [a2 k k1 k2, hu, qset_cell _ (by omega), qset_cell _ (by omega), qset_cell _ (by omega), qset_cell _ (by omega), qset_cell _ (by omega), qset_cell _ (by omega), qset_cell _ (by omega)]
end LOADA
