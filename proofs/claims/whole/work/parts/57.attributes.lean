/-! ATTRIBUTES: what is read of each, as functions of the bytes; the class reads them -/
def rHand (π : qP) (B : Int → Int) (n sz q : Int) : Int ⊕ Unit := bd (rU2 B n q) (fun st => bd (rU2 B n (q + 2)) (fun en => bd (rU2 B n (q + 4)) (fun hd => bd (rCk (decide (st < en)) q) (fun _ => bd (rCk (decide (en ≤ sz)) (q + 2)) (fun _ => bd (rCk (decide (hd < sz)) (q + 4)) (fun _ => bd (rTake0 π B n (q + 6) 7) (fun _ => .inr ())))))))
def rHands (π : qP) (B : Int → Int) (n sz : Int) : Nat → Int → Int ⊕ Int
  | 0, q => .inr q
  | d + 1, q => bd (rHand π B n sz q) (fun _ => rHands π B n sz d (q + 8))
def rSk (π : qP) (B : Int → Int) (n : Int) : Nat → Int → Int ⊕ Int
  | 0, q => .inr q
  | d + 1, q => bd (rTake π B n q 1) (fun _ => bd (rLen B n (q + 2)) (fun m => rSk π B n d (q + 6 + m)))
def rSks (π : qP) (B : Int → Int) (n q : Int) : Int ⊕ Int := bd (rU2 B n q) (fun m => rSk π B n m.toNat (q + 2))
def rCode (π : qP) (B : Int → Int) (n a : Int) : Int ⊕ Int := bd (rBy n a 4) (fun _ => bd (rU4 B n (a + 4)) (fun sz => bd (rCk (decide (1 ≤ sz ∧ sz ≤ 65535)) (a + 4)) (fun _ => bd (rBy n (a + 8) sz) (fun _ => bd (rU2 B n (a + 8 + sz)) (fun m => bd (rHands π B n sz m.toNat (a + 8 + sz + 2)) (fun q => rSks π B n q))))))
def rTks (π : qP) (B : Int → Int) (n : Int) : Nat → Int → Int ⊕ Int
  | 0, q => .inr q
  | d + 1, q => bd (rTake π B n q 7) (fun _ => rTks π B n d (q + 2))
def rCls (π : qP) (B : Int → Int) (n a : Int) : Int ⊕ Int := bd (rU2 B n a) (fun m => rTks π B n m.toNat (a + 2))
def rIn1 (π : qP) (B : Int → Int) (n q : Int) : Int ⊕ Unit := bd (rTake π B n q 7) (fun _ => bd (rTake0 π B n (q + 2) 7) (fun _ => bd (rTake0 π B n (q + 4) 1) (fun _ => bd (rU2 B n (q + 6)) (fun _ => .inr ()))))
def rIns (π : qP) (B : Int → Int) (n : Int) : Nat → Int → Int ⊕ Int
  | 0, q => .inr q
  | d + 1, q => bd (rIn1 π B n q) (fun _ => rIns π B n d (q + 8))
def rInner (π : qP) (B : Int → Int) (n a : Int) : Int ⊕ Int := bd (rU2 B n a) (fun m => rIns π B n m.toNat (a + 2))
def okLd (t : Int) : Bool := decide (t = 3 ∨ t = 4 ∨ t = 5 ∨ t = 6 ∨ t = 7 ∨ t = 8 ∨ t = 15 ∨ t = 16 ∨ t = 17)
def rLds (π : qP) (B : Int → Int) (n : Int) : Nat → Int → Int ⊕ Int
  | 0, q => .inr q
  | d + 1, q => bd (rU2 B n q) (fun v => bd (rCk (okLd (pT π v)) q) (fun _ => rLds π B n d (q + 2)))
def rBts (π : qP) (B : Int → Int) (n : Int) : Nat → Int → Int ⊕ Int
  | 0, q => .inr q
  | d + 1, q => bd (rTake π B n q 15) (fun _ => bd (rU2 B n (q + 2)) (fun m => bd (rLds π B n m.toNat (q + 4)) (fun r => rBts π B n d r)))
def rBoots (π : qP) (B : Int → Int) (n a : Int) : Int ⊕ Int := bd (rU2 B n a) (fun m => rBts π B n m.toNat (a + 2))
/-- where the k-th of them stands -/
def bpos (B : Int → Int) (q : Int) : Nat → Int
  | 0 => q
  | k + 1 => bpos B q k + 4 + 2 * b2 B (bpos B q k + 2)
theorem bpos_succ (B : Int → Int) (q : Int) (k : Nat) : bpos B q (k + 1) = bpos B (q + 4 + 2 * b2 B (q + 2)) k := by
  induction k with
  | zero => rfl
  | succ k ih => rw [bpos, ih, bpos]
theorem rTake_r {π : qP} {B : Int → Int} {n p tag v : Int} (h : rTake π B n p tag = .inr v) : p + 2 ≤ n ∧ v = b2 B p ∧ pg π (pT π) v = tag := by
  unfold rTake at h
  obtain ⟨u, h1, h⟩ := bd_inr.mp h
  obtain ⟨x, h2, h⟩ := bd_inr.mp h
  obtain ⟨q1, rfl⟩ := rU2_r h1
  cases h
  exact ⟨q1, rfl, of_decide_eq_true (rCk_r h2)⟩
theorem rTake0_r {π : qP} {B : Int → Int} {n p tag v : Int} (h : rTake0 π B n p tag = .inr v) : p + 2 ≤ n ∧ v = b2 B p := by
  unfold rTake0 at h
  obtain ⟨u, h1, h⟩ := bd_inr.mp h
  obtain ⟨x, h2, h⟩ := bd_inr.mp h
  obtain ⟨q1, rfl⟩ := rU2_r h1
  cases h
  exact ⟨q1, rfl⟩
theorem rLen_r {B : Int → Int} {n p v : Int} (h : rLen B n p = .inr v) : p + 4 ≤ n ∧ v = b4 B p ∧ 0 ≤ v ∧ p + 4 + v ≤ n := by
  unfold rLen at h
  obtain ⟨u, h1, h⟩ := bd_inr.mp h
  obtain ⟨x, h2, h⟩ := bd_inr.mp h
  obtain ⟨q1, rfl⟩ := rU4_r h1
  have := rBy_r h2
  cases h
  exact ⟨q1, rfl, this.1, this.2⟩
theorem rHand_r {π : qP} {B : Int → Int} {n sz q : Int} {v : Unit} (h : rHand π B n sz q = .inr v) : q + 8 ≤ n := by
  unfold rHand at h
  obtain ⟨_, h1, h⟩ := bd_inr.mp h
  obtain ⟨_, h1, h⟩ := bd_inr.mp h
  obtain ⟨_, h1, h⟩ := bd_inr.mp h
  obtain ⟨_, h1, h⟩ := bd_inr.mp h
  obtain ⟨_, h1, h⟩ := bd_inr.mp h
  obtain ⟨_, h1, h⟩ := bd_inr.mp h
  obtain ⟨_, h1, h⟩ := bd_inr.mp h
  have := (rTake0_r h1).1
  omega
theorem qset_id {s : qS} {k : Nat} {j v : Int} (h : s k j = v) : qset s k j v = s := by
  funext k' j'
  rw [qset_eq]
  split
  · next c => rw [c.1, c.2, h]
  · rfl
section AT
variable {w : qE} {s s0 : qS} {B : Int → Int} {n p : Int} {π : qP} {f : Int → qS → Prop} {fv : qS → Prop} {g : Nat → qS → Prop}
theorem c84 {t : Int} (ht : Rg t) (H : f (bi (okLd t)) s) : qW w 1 84 [qI t] s (qPI f g) := by
  refine k84 ⟨ht, fun c => ?_, fun c1 c2 c3 c4 c5 c6 c7 c8 c9 => ?_⟩
  · have : okLd t = true := decide_eq_true c
    rw [this] at H; exact H
  · have : okLd t = false := decide_eq_false (by omega)
    rw [this] at H; exact H
theorem c77 {sz : Int} (hz : Rg sz) (hB : qB B n) (hP : qCP s π) (hA : qAt s0 B n p s) (h0 : 0 ≤ p) (h1 : p ≤ n) (H : qRes (rHand π B n sz p) (fun e => ∀ s', qFt s0 n e s' → g 0 s') (fun _ => fv (qset s 1 2 (p + 8)))) : qW w 3 77 [.ref 8, qI sz] s (qPV fv g) := by
  have h5 := hB.2.1
  unfold rHand at H
  rw [qRes_bd] at H
  refine k77 (c21 ?_)
  rw [hA.2.1]
  refine c_u2 hB hA h0 h1 (qRes_mono H (fun _ _ h => h) (fun st hs H => ?_))
  obtain ⟨q1, rfl⟩ := rU2_r hs
  have r1 := b2_rg hB h0 q1
  rw [qRes_bd] at H
  refine c_u2 hB (hA.mv _) (by omega) q1 (qRes_mono H (fun _ _ h => h) (fun en he H => ?_))
  obtain ⟨q2, rfl⟩ := rU2_r he
  have r2 := b2_rg hB (p := p + 2) (by omega) q2
  rw [qRes_bd, show p + 4 = p + 2 + 2 by omega] at H
  refine c_u2 hB ((hA.mv _).mv _) (by omega) q2 (qRes_mono H (fun _ _ h => h) (fun hd hh H => ?_))
  obtain ⟨q3, rfl⟩ := rU2_r hh
  have r3 := b2_rg hB (p := p + 2 + 2) (by omega) q3
  have hA3 := hA.mv (p + 2 + 2 + 2)
  rw [qset_qset, qset_qset]
  rw [qRes_bd] at H
  have h52 : ∀ b : Bool, b = decide (b2 B p < b2 B (p + 2)) → qR w 2 qm77 52 [(0, .ref 8), (1, qI sz), (2, qI p), (4, qI (b2 B (p + 2))), (5, qI (b2 B (p + 2 + 2)))] [qI (bi b), .ref 1] (qset s 1 2 (p + 2 + 2 + 2)) (qPV fv g) := by
    intro b hb
    refine k77_52 (c_ck (p := p) hA3 rfl rfl ?_)
    rw [hb]
    refine qRes_mono H (fun _ _ h => h) (fun _ _ H => ?_)
    rw [qRes_bd] at H
    have h71 : ∀ b : Bool, b = decide (b2 B (p + 2) ≤ sz) → qR w 2 qm77 71 [(0, .ref 8), (1, qI sz), (2, qI p), (5, qI (b2 B (p + 2 + 2)))] [qI (bi b), .ref 1] (qset s 1 2 (p + 2 + 2 + 2)) (qPV fv g) := by
      intro b hb
      refine k77_71 (c_ck (p := p + 2) hA3 rfl rfl ?_)
      rw [hb]
      refine qRes_mono H (fun _ _ h => h) (fun _ _ H => ?_)
      rw [qRes_bd] at H
      have h92 : ∀ b : Bool, b = decide (b2 B (p + 2 + 2) < sz) → qR w 2 qm77 92 [(0, .ref 8), (2, qI p)] [qI (bi b), .ref 1] (qset s 1 2 (p + 2 + 2 + 2)) (qPV fv g) := by
        intro b hb
        refine k77_92 (c_ck (p := p + 4) hA3 rfl rfl ?_)
        rw [show p + 4 = p + 2 + 2 by omega, hb]
        refine qRes_mono H (fun _ _ h => h) (fun _ _ H => ?_)
        rw [qRes_bd, show p + 6 = p + 2 + 2 + 2 by omega] at H
        refine c78 hB (qAt.pool hP _) hA3 (by omega) q3 ⟨by decide, by decide⟩ (qRes_mono H (fun _ _ h => h) (fun v _ H => ?_))
        have H : fv (qset s 1 2 (p + 8)) := H
        rw [qset_qset, show p + 2 + 2 + 2 + 2 = p + 8 by omega]
        exact H
      exact ⟨⟨by omega, by omega⟩, hz, fun c => h92 true (decide_eq_true c).symm, fun c => h92 false (decide_eq_false (by omega)).symm⟩
    exact ⟨⟨by omega, by omega⟩, hz, fun c => h71 false (decide_eq_false (by omega)).symm, fun c => h71 true (decide_eq_true c).symm⟩
  exact ⟨⟨by omega, by omega⟩, ⟨by omega, by omega⟩, fun c => h52 true (decide_eq_true c).symm, fun c => h52 false (decide_eq_false (by omega)).symm⟩
theorem c79_loop (hB : qB B n) {m : Int} (hm : 0 ≤ m ∧ m ≤ 65535) (hP : qCP s π) : ∀ (d : Nat) (q : Int), (d : Int) ≤ m → qAt s0 B n q (qset s 1 2 q) → 0 ≤ q → q ≤ n → qRes (rSk π B n d q) (fun e => ∀ s', qFt s0 n e s' → g 0 s') (fun r => fv (qset s 1 2 r)) → qR w 2 qm79 11 [(0, .ref 8), (1, qI m), (2, qI (m - d))] [] (qset s 1 2 q) (qPV fv g) := by
  have h5 := hB.2.1
  intro d
  induction d with
  | zero =>
    intro q hd hA h0 h1 H
    exact k79_11 ⟨⟨by omega, by omega⟩, ⟨by omega, by omega⟩, fun c => absurd c (by omega), fun _ => H⟩
  | succ d ih =>
    intro q hd hA h0 h1 H
    unfold rSk at H
    rw [qRes_bd] at H
    refine k79_11 ⟨⟨by omega, by omega⟩, ⟨by omega, by omega⟩, fun _ => c70 hB (qAt.pool hP _) hA h0 h1 ⟨by decide, by decide⟩ (qRes_mono H (fun _ _ h => h) (fun v hv H => ?_)), fun c => absurd c (by omega)⟩
    have q1 := (rTake_r hv).1
    rw [qRes_bd] at H
    refine c73 hB (hA.mv _) (by omega) q1 (qRes_mono H (fun _ _ h => h) (fun len hl H => ?_))
    obtain ⟨q2, e2, q3, q4⟩ := rLen_r hl
    have hA2 := (hA.mv (q + 2)).mv (q + 2 + 4)
    refine c76 hB hA2 (by omega) q2 ⟨by omega, by omega⟩ ?_
    have eb : rBy n (q + 2 + 4) len = .inr () := by unfold rBy; rw [if_neg (by omega)]
    rw [eb]
    show qR w 2 qm79 11 _ _ _ _
    rw [qset_qset, qset_qset, qset_qset]
    have e3 : m - ((d + 1 : Nat) : Int) + 1 = m - (d : Int) := by omega
    rw [e3, show q + 2 + 4 + len = q + 6 + len by omega]
    have hA3 := hA.mv (q + 6 + len)
    rw [qset_qset] at hA3
    exact ih (q + 6 + len) (by omega) hA3 (by omega) (by omega) H
theorem c79 (hB : qB B n) (hP : qCP s π) (hA : qAt s0 B n p s) (h0 : 0 ≤ p) (h1 : p ≤ n) (H : qRes (rSks π B n p) (fun e => ∀ s', qFt s0 n e s' → g 0 s') (fun r => fv (qset s 1 2 r))) : qW w 3 79 [.ref 8] s (qPV fv g) := by
  unfold rSks at H
  rw [qRes_bd] at H
  refine k79 (c_u2 hB hA h0 h1 (qRes_mono H (fun _ _ h => h) (fun m hm H => ?_)))
  obtain ⟨q1, rfl⟩ := rU2_r hm
  have r1 := b2_rg hB h0 q1
  have := c79_loop (w := w) (fv := fv) hB r1 hP (b2 B p).toNat (p + 2) (by omega) (hA.mv _) (by omega) q1 H
  rw [show b2 B p - ((b2 B p).toNat : Int) = 0 by omega] at this
  exact this
theorem c80_loop (hB : qB B n) {m : Int} (hm : 0 ≤ m ∧ m ≤ 65535) (hP : qCP s π) : ∀ (d : Nat) (q : Int), (d : Int) ≤ m → qAt s0 B n q (qset s 1 2 q) → 0 ≤ q → q ≤ n → qRes (rTks π B n d q) (fun e => ∀ s', qFt s0 n e s' → g 0 s') (fun r => f m (qset s 1 2 r)) → qR w 2 qm80 11 [(0, .ref 8), (1, qI m), (2, qI (m - d))] [] (qset s 1 2 q) (qPI f g) := by
  have h5 := hB.2.1
  intro d
  induction d with
  | zero =>
    intro q hd hA h0 h1 H
    exact k80_11 ⟨⟨by omega, by omega⟩, ⟨by omega, by omega⟩, fun c => absurd c (by omega), fun _ => H⟩
  | succ d ih =>
    intro q hd hA h0 h1 H
    unfold rTks at H
    rw [qRes_bd] at H
    refine k80_11 ⟨⟨by omega, by omega⟩, ⟨by omega, by omega⟩, fun _ => c70 hB (qAt.pool hP _) hA h0 h1 ⟨by decide, by decide⟩ (qRes_mono H (fun _ _ h => h) (fun v hv H => ?_)), fun c => absurd c (by omega)⟩
    have q1 := (rTake_r hv).1
    rw [qset_qset]
    have e3 : m - ((d + 1 : Nat) : Int) + 1 = m - (d : Int) := by omega
    rw [e3]
    have hA3 := hA.mv (q + 2)
    rw [qset_qset] at hA3
    exact ih (q + 2) (by omega) hA3 (by omega) q1 H
theorem c80 (hB : qB B n) (hP : qCP s π) (hA : qAt s0 B n p s) (h0 : 0 ≤ p) (h1 : p ≤ n) (H : qRes (rCls π B n p) (fun e => ∀ s', qFt s0 n e s' → g 0 s') (fun r => f (b2 B p) (qset s 1 2 r))) : qW w 3 80 [.ref 8] s (qPI f g) := by
  unfold rCls at H
  rw [qRes_bd] at H
  refine k80 (c_u2 hB hA h0 h1 (qRes_mono H (fun _ _ h => h) (fun m hm H => ?_)))
  obtain ⟨q1, rfl⟩ := rU2_r hm
  have r1 := b2_rg hB h0 q1
  have := c80_loop (w := w) (f := f) hB r1 hP (b2 B p).toNat (p + 2) (by omega) (hA.mv _) (by omega) q1 H
  rw [show b2 B p - ((b2 B p).toNat : Int) = 0 by omega] at this
  exact this
theorem rHands_rg {sz : Int} : ∀ (d : Nat) (q r : Int), q ≤ n → rHands π B n sz d q = .inr r → r = q + 8 * d ∧ r ≤ n := by
  intro d
  induction d with
  | zero => intro q r hq h; cases h; omega
  | succ d ih =>
    intro q r hq h
    unfold rHands at h
    obtain ⟨_, h1, h⟩ := bd_inr.mp h
    have := rHand_r h1
    have := ih _ _ (by omega) h
    omega
theorem c75_loop (hB : qB B n) {sz m : Int} (hz : Rg sz) (hm : 0 ≤ m ∧ m ≤ 65535) (hP : qCP s π) : ∀ (d : Nat) (q : Int), (d : Int) ≤ m → qAt s0 B n q (qset s 1 2 q) → 0 ≤ q → q ≤ n → qRes (bd (rHands π B n sz d q) (fun r => rSks π B n r)) (fun e => ∀ s', qFt s0 n e s' → g 0 s') (fun r => fv (qset (qset (qset s 1 2 r) 8 2 sz) 8 3 m)) → qR w 3 qm75 68 [(0, .ref 8), (1, qI sz), (2, qI m), (3, qI (m - d))] [] (qset s 1 2 q) (qPV fv g) := by
  have h5 := hB.2.1
  intro d
  induction d with
  | zero =>
    intro q hd hA h0 h1 H
    refine k75_68 ⟨⟨by omega, by omega⟩, ⟨by omega, by omega⟩, fun c => absurd c (by omega), fun _ => c79 hB (qAt.pool hP _) hA h0 h1 ?_⟩
    refine qRes_mono H (fun _ _ h => h) (fun r _ H => ?_)
    rw [qset_qset]
    exact H
  | succ d ih =>
    intro q hd hA h0 h1 H
    unfold rHands at H
    rw [qRes_bd, qRes_bd] at H
    refine k75_68 ⟨⟨by omega, by omega⟩, ⟨by omega, by omega⟩, fun _ => c77 hz hB (qAt.pool hP _) hA h0 h1 (qRes_mono H (fun _ _ h => h) (fun v hv H => ?_)), fun c => absurd c (by omega)⟩
    have q1 := rHand_r hv
    rw [qset_qset]
    have e3 : m - ((d + 1 : Nat) : Int) + 1 = m - (d : Int) := by omega
    rw [e3]
    have hA3 := hA.mv (q + 8)
    rw [qset_qset] at hA3
    exact ih (q + 8) (by omega) hA3 (by omega) q1 (by rw [qRes_bd]; exact H)
theorem c75 (hB : qB B n) (hP : qCP s π) (hA : qAt s0 B n p s) (h0 : 0 ≤ p) (h1 : p ≤ n) (H : qRes (rCode π B n p) (fun e => ∀ s', qFt s0 n e s' → g 0 s') (fun r => fv (qset (qset (qset s 1 2 r) 8 2 (b4 B (p + 4))) 8 3 (b2 B (p + 8 + b4 B (p + 4)))))) : qW w 4 75 [.ref 8] s (qPV fv g) := by
  have h5 := hB.2.1
  unfold rCode at H
  rw [qRes_bd] at H
  refine k75 (c76 hB hA h0 h1 ⟨by decide, by decide⟩ (qRes_mono H (fun _ _ h => h) (fun _ hb H => ?_)))
  have q0 := rBy_r hb
  rw [qRes_bd] at H
  refine c_u4 hB (hA.mv _) (by omega) q0.2 (qRes_mono H (fun _ _ h => h) (fun sz hs H => ?_))
  obtain ⟨q1, rfl⟩ := rU4_r hs
  have rz := b4_rg B (p + 4)
  have hA2 := (hA.mv (p + 4)).mv (p + 4 + 4)
  rw [qset_qset] at hA2
  rw [qset_qset]
  rw [qRes_bd] at H
  have h37 : ∀ b : Bool, b = decide (1 ≤ b4 B (p + 4) ∧ b4 B (p + 4) ≤ 65535) → qR w 3 qm75 37 [(0, .ref 8), (1, qI (b4 B (p + 4)))] [qI (bi b), .ref 1] (qset s 1 2 (p + 4 + 4)) (qPV fv g) := by
    intro b hb
    refine k75_37 (c21 (c_ck (p := p + 4) hA2 rfl (by rw [hA2.2.1]; omega) ?_))
    rw [hb]
    refine qRes_mono H (fun _ _ h => h) (fun _ hck H => ?_)
    have hck := of_decide_eq_true (rCk_r hck)
    rw [qRes_bd, show p + 8 = p + 4 + 4 by omega] at H
    refine c76 hB hA2 (by omega) q1 rz (qRes_mono H (fun _ _ h => h) (fun _ hb H => ?_))
    have q3 := rBy_r hb
    rw [qset_qset, qRes_bd] at *
    have hA3 := hA.mv (p + 4 + 4 + b4 B (p + 4))
    refine c_u2 hB hA3 (by omega) q3.2 (qRes_mono H (fun _ _ h => h) (fun m hm H => ?_))
    obtain ⟨q4, rfl⟩ := rU2_r hm
    have r2 := b2_rg hB (p := p + 4 + 4 + b4 B (p + 4)) (by omega) q4
    have hA4 := hA3.mv (p + 4 + 4 + b4 B (p + 4) + 2)
    rw [qset_qset] at hA4 ⊢
    have := c75_loop (w := w) (fv := fv) (s := s) hB (sz := b4 B (p + 4)) rz r2 hP (b2 B (p + 4 + 4 + b4 B (p + 4))).toNat (p + 4 + 4 + b4 B (p + 4) + 2) (by omega) hA4 (by omega) q4 H
    rw [show b2 B (p + 4 + 4 + b4 B (p + 4)) - ((b2 B (p + 4 + 4 + b4 B (p + 4))).toNat : Int) = 0 by omega] at this
    exact this
  exact ⟨rz, fun c => k75_36 (h37 false (decide_eq_false (by omega)).symm), fun c => ⟨fun c2 => k75_36 (h37 false (decide_eq_false (by omega)).symm), fun c2 => h37 true (decide_eq_true ⟨c, c2⟩).symm⟩⟩
/-- the TAG of a constant value -/
def wStr : List Nat := [76, 106, 97, 118, 97, 47, 108, 97, 110, 103, 47, 83, 116, 114, 105, 110, 103, 59]
theorem q106 : qstr 106 = wStr := by decide +kernel
def kTag (π : qP) (dc : Int) : Int := if pspells π dc wStr = true then 8 else if pg π (pF π) dc ≠ 1 then -1 else if pchar π dc 0 = 68 then 6 else if pchar π dc 0 = 70 then 4 else if pchar π dc 0 = 74 then 5 else 3
theorem kTag_rg (π : qP) (dc : Int) : Rg (kTag π dc) := by
  unfold kTag
  split
  · exact ⟨by decide, by decide⟩
  · split
    · exact ⟨by decide, by decide⟩
    · split
      · exact ⟨by decide, by decide⟩
      · split
        · exact ⟨by decide, by decide⟩
        · split <;> exact ⟨by decide, by decide⟩
theorem pchar_rg (hP : qPok π) (i k : Int) : Rg (pchar π i k) := by
  unfold pchar
  split
  · next c =>
    obtain ⟨t1, t2, t3, t4⟩ := hP.2.2.2.2 i c.1
    split
    · exact ⟨by omega, by omega⟩
    · next c2 =>
      have := t4 k (by omega) c.2.2
      exact ⟨by omega, by omega⟩
  · exact ⟨by decide, by decide⟩
theorem c74 (hw : qfv w) {dc : Int} (hr : Rg dc) (hP : qCP s π) (H : f (kTag π dc) s) : qW w 7 74 [.ref 8, qI dc] s (qPI f g) := by
  unfold kTag at H
  refine k74 (c72 hw qso106 hP hr ?_)
  rw [q106]
  refine ⟨bi_rg _, fun z => c49 hP hr ⟨pg_rg hP.1 (pF_rg hP.1 _), fun c => ?_, fun c => ?_⟩, fun z => ?_⟩
  · rw [bi_0] at z
    rw [if_neg (by rw [z]; decide), if_neg (by omega)] at H
    refine c65 hP hr ⟨by decide, by decide⟩ ⟨pchar_rg hP.1 _ _, fun d => ?_, fun d => ?_, fun d => ?_, fun d1 d2 d3 => ?_⟩
    · rw [if_pos d] at H; exact H
    · rw [if_neg (by omega), if_pos d] at H; exact H
    · rw [if_neg (by omega), if_neg (by omega), if_pos d] at H; exact H
    · rw [if_neg d1, if_neg d2, if_neg d3] at H; exact H
  · rw [bi_0] at z
    rw [if_neg (by rw [z]; decide), if_pos c] at H
    exact H
  · rw [bi_n] at z
    rw [if_pos z] at H
    exact H
end AT
