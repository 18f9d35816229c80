/-! THE CLASS, its leaves: Source, Table, the pool's columns -/
theorem qset_cell (s : qS) {k : Nat} {j v : Int} {k' : Nat} (h : k' ≠ k) : qset s k j v k' = s k' := by
  unfold qset
  simp [h]
theorem qset_same (s : qS) (k : Nat) (j v j' : Int) : qset s k j v k j' = if j' = j then v else s k j' := by simp [qset_eq]
/-- the place that READING has come to in the bytes B, n of them; what stays while it reads: s0 -/
def qAt (s0 : qS) (B : Int → Int) (n p : Int) (s : qS) : Prop := s 1 1 = n ∧ s 1 2 = p ∧ (∀ i, 0 ≤ i → i < n → s 2 i = B i) ∧ (s 0 = s0 0 ∧ s 1 3 = s0 1 3) ∧ s 2 = s0 2 ∧ ∀ k, 25 ≤ k → s k = s0 k
/-- behind a fault -/
def qFt (s0 : qS) (n e : Int) (s : qS) : Prop := s 1 1 = n ∧ s 1 3 = e ∧ s 0 = s0 0 ∧ s 2 = s0 2 ∧ ∀ k, 25 ≤ k → s k = s0 k
theorem qAt.mv {s0 s : qS} {B : Int → Int} {n p : Int} (h : qAt s0 B n p s) (q : Int) : qAt s0 B n q (qset s 1 2 q) := by
  obtain ⟨h1, h2, h3, h4, h5, h6⟩ := h
  refine ⟨?_, ?_, ?_, ?_, ?_, ?_⟩
  · rw [qset_same]; simpa using h1
  · rw [qset_same]; simp
  · intro i; rw [qset_cell _ (by decide)]; exact h3 i
  · rw [qset_cell _ (by decide), qset_same, if_neg (by decide)]; exact h4
  · rw [qset_cell _ (by decide)]; exact h5
  · intro k hk; rw [qset_cell _ (by omega)]; exact h6 k hk
theorem qAt.set {s0 s : qS} {B : Int → Int} {n p : Int} (h : qAt s0 B n p s) {k : Nat} {j v : Int} (hk : 3 ≤ k ∧ k < 25) : qAt s0 B n p (qset s k j v) := by
  obtain ⟨h1, h2, h3, h4, h5, h6⟩ := h
  refine ⟨?_, ?_, ?_, ?_, ?_, ?_⟩
  · rw [qset_cell _ (by omega)]; exact h1
  · rw [qset_cell _ (by omega)]; exact h2
  · intro i; rw [qset_cell _ (by omega)]; exact h3 i
  · rw [qset_cell _ (by omega), qset_cell _ (by omega)]; exact h4
  · rw [qset_cell _ (by omega)]; exact h5
  · intro q hq; rw [qset_cell _ (by omega)]; exact h6 q hq
theorem qAt.ft {s0 s : qS} {B : Int → Int} {n p : Int} (h : qAt s0 B n p s) (e : Int) : qFt s0 n e (qset s 1 3 e) := by
  obtain ⟨h1, h2, h3, h4, h5, h6⟩ := h
  refine ⟨?_, ?_, ?_, ?_, ?_⟩
  · rw [qset_same]; simpa using h1
  · rw [qset_same]; simp
  · rw [qset_cell _ (by decide)]; exact h4.1
  · rw [qset_cell _ (by decide)]; exact h5
  · intro k hk; rw [qset_cell _ (by omega)]; exact h6 k hk
theorem qI_shlor8 {a b : Int} (h0 : 0 ≤ b) (h1 : b ≤ 255) : qI (qor (qshl a 8) b) = qI (256 * a + b) := by rw [qI, qI, qshlor8 h0 (by omega)]
theorem qI_shlor16 {a b : Int} (h0 : 0 ≤ b) (h1 : b ≤ 65535) : qI (qor (qshl a 16) b) = qI (65536 * a + b) := by rw [qI, qI, qshlor16 h0 (by omega)]
theorem qI_norm (a : Int) : qI a = qI (Int32.ofInt a).toInt := by rw [qI, qI, qi_of]
section SRC
variable {w : qE} {s s0 : qS} {B : Int → Int} {n p : Int} {f : Int → qS → Prop} {g : Nat → qS → Prop} {fv : qS → Prop}
theorem c21 (H : f (s 1 2) s) : qW w 1 21 [.ref 1] s (qPI f g) := k21 H
theorem c20 {c e : Int} (hc : Rg c) (H0 : c = 0 → g 0 (qset s 1 3 e)) (H1 : c ≠ 0 → fv s) : qW w 1 20 [.ref 1, qI c, qI e] s (qPV fv g) := k20 ⟨hc, H0, H1⟩
theorem c22 {c e : Int} (hc : Rg c) (H0 : c = 0 → g 1 (qset s 1 3 e)) (H1 : c ≠ 0 → fv s) : qW w 1 22 [.ref 1, qI c, qI e] s (qPV fv g) := k22 ⟨hc, H0, H1⟩
/-- the bytes of a number, one after the other -/
theorem c19_step {v1 v2 v3 v : Int} (hB : qB B n) (h : qAt s0 B n p s) (h0 : 0 ≤ p) (hv : 0 ≤ v3 ∧ v3 < v1 ∧ p + v3 < n ∧ v1 ≤ 4) (he : qI (256 * v2 + B (p + v3)) = qI v) (k : qR w 0 qm19 33 [(0, .ref 1), (1, qI v1), (2, qI v), (3, qI (v3 + 1))] [] s (qPI f g)) : qR w 0 qm19 33 [(0, .ref 1), (1, qI v1), (2, qI v2), (3, qI v3)] [] s (qPI f g) := by
  have e1 := h.2.2.1 (p + v3) (by omega) (by omega)
  have e2 := hB.2.2 (p + v3) (by omega) (by omega)
  have e3 := hB.2.1
  refine k19_33 ⟨⟨by omega, by omega⟩, ⟨by omega, by omega⟩, fun _ => ?_, fun c => absurd c (by omega)⟩
  rw [h.2.1, e1]
  refine ⟨by omega, by omega, ?_⟩
  rw [qI_shlor8 e2.1 e2.2, he]
  exact k
theorem c19_end {v1 v2 v3 : Int} (h : qAt s0 B n p s) (hv : v3 = v1 ∧ Rg v1) (k : f v2 (qset s 1 2 (p + v1))) : qR w 0 qm19 33 [(0, .ref 1), (1, qI v1), (2, qI v2), (3, qI v3)] [] s (qPI f g) := by
  refine k19_33 ⟨by rw [hv.1]; exact hv.2, hv.2, fun c => absurd c (by omega), fun _ => ?_⟩
  rw [h.2.1]
  exact k
theorem c_u1 (hB : qB B n) (h : qAt s0 B n p s) (h0 : 0 ≤ p) (h1 : p ≤ n) (H : qRes (rU1 B n p) (fun e => ∀ s', qFt s0 n e s' → g 0 s') (fun v => f v (qset s 1 2 (p + 1)))) : qW w 1 19 [.ref 1, qI 1] s (qPI f g) := by
  have e3 := hB.2.1
  unfold rU1 at H
  refine k19 ⟨⟨by decide, by decide⟩, ?_, fun c => ?_, fun c => ?_⟩ <;> rw [h.1, h.2.1] at *
  · exact ⟨by omega, by omega⟩
  · rw [if_pos (by omega)] at H
    exact H _ (h.ft n)
  · rw [if_neg (by omega)] at H
    refine c19_step (v := B p) hB h h0 ⟨by omega, by omega, by omega, by omega⟩ (by simp) (c19_end h ⟨rfl, by decide, by decide⟩ H)
theorem c_u2 (hB : qB B n) (h : qAt s0 B n p s) (h0 : 0 ≤ p) (h1 : p ≤ n) (H : qRes (rU2 B n p) (fun e => ∀ s', qFt s0 n e s' → g 0 s') (fun v => f v (qset s 1 2 (p + 2)))) : qW w 1 19 [.ref 1, qI 2] s (qPI f g) := by
  have e3 := hB.2.1
  unfold rU2 at H
  refine k19 ⟨⟨by decide, by decide⟩, ?_, fun c => ?_, fun c => ?_⟩ <;> rw [h.1, h.2.1] at *
  · exact ⟨by omega, by omega⟩
  · rw [if_pos (by omega)] at H
    exact H _ (h.ft n)
  · rw [if_neg (by omega)] at H
    refine c19_step (v := B p) hB h h0 ⟨by omega, by omega, by omega, by omega⟩ (by simp) ?_
    exact c19_step (v := b2 B p) hB h h0 ⟨by omega, by omega, by omega, by omega⟩ rfl (c19_end h ⟨rfl, by decide, by decide⟩ H)
theorem c_u4 (hB : qB B n) (h : qAt s0 B n p s) (h0 : 0 ≤ p) (h1 : p ≤ n) (H : qRes (rU4 B n p) (fun e => ∀ s', qFt s0 n e s' → g 0 s') (fun v => f v (qset s 1 2 (p + 4)))) : qW w 1 19 [.ref 1, qI 4] s (qPI f g) := by
  have e3 := hB.2.1
  unfold rU4 at H
  refine k19 ⟨⟨by decide, by decide⟩, ?_, fun c => ?_, fun c => ?_⟩ <;> rw [h.1, h.2.1] at *
  · exact ⟨by omega, by omega⟩
  · rw [if_pos (by omega)] at H
    exact H _ (h.ft n)
  · rw [if_neg (by omega)] at H
    refine c19_step (v := B p) hB h h0 ⟨by omega, by omega, by omega, by omega⟩ (by simp) ?_
    refine c19_step (v := b2 B p) hB h h0 ⟨by omega, by omega, by omega, by omega⟩ rfl ?_
    refine c19_step (v := 256 * b2 B p + B (p + 2)) hB h h0 ⟨by omega, by omega, by omega, by omega⟩ rfl ?_
    refine c19_step (v := b4 B p) hB h h0 ⟨by omega, by omega, by omega, by omega⟩ ?_ (c19_end h ⟨rfl, by decide, by decide⟩ H)
    rw [b4, ← qI_norm]
    have e : 256 * (256 * b2 B p + B (p + 2)) + B (p + (0 + 1 + 1 + 1)) = 65536 * b2 B p + b2 B (p + 2) := by
      have : p + (0 + 1 + 1 + 1) = p + 2 + 1 := by omega
      rw [this]
      unfold b2
      omega
    rw [e]
/-- so many bytes must be there -/
def rBy (n p m : Int) : Int ⊕ Unit := if m < 0 ∨ n < p + m then .inl n else .inr ()
theorem rBy_r {m : Int} {v : Unit} (h : rBy n p m = .inr v) : 0 ≤ m ∧ p + m ≤ n := by
  unfold rBy at h
  split at h
  · cases h
  · omega
theorem c29 {m : Int} (hB : qB B n) (h : qAt s0 B n p s) (h0 : 0 ≤ p) (h1 : p ≤ n) (hm : Rg m) (H : qRes (rBy n p m) (fun e => ∀ s', qFt s0 n e s' → g 0 s') (fun _ => fv s)) : qW w 1 29 [.ref 1, qI m] s (qPV fv g) := by
  have e3 := hB.2.1
  unfold rBy at H
  refine k29 ⟨hm, fun c => k29_17 ?_, fun c => ⟨?_, fun c2 => k29_17 ?_, fun c2 => ?_⟩⟩
  · rw [if_pos (by omega)] at H
    rw [h.1]
    exact H _ (h.ft n)
  · rw [h.1, h.2.1]; exact ⟨by omega, by omega⟩
  · rw [h.1, h.2.1] at c2
    rw [if_pos (by omega)] at H
    rw [h.1]
    exact H _ (h.ft n)
  · rw [h.1, h.2.1] at c2
    rw [if_neg (by omega)] at H
    exact H
theorem c76 {m : Int} (hB : qB B n) (h : qAt s0 B n p s) (h0 : 0 ≤ p) (h1 : p ≤ n) (hm : Rg m) (H : qRes (rBy n p m) (fun e => ∀ s', qFt s0 n e s' → g 0 s') (fun _ => fv (qset s 1 2 (p + m)))) : qW w 2 76 [.ref 1, qI m] s (qPV fv g) := by
  refine k76 (c29 hB h h0 h1 hm ?_)
  rw [h.2.1]
  exact H
/-- a u4 that so many bytes stand behind -/
def rLen (B : Int → Int) (n p : Int) : Int ⊕ Int := bd (rU4 B n p) (fun m => bd (rBy n (p + 4) m) (fun _ => .inr m))
theorem c73 (hB : qB B n) (h : qAt s0 B n p s) (h0 : 0 ≤ p) (h1 : p ≤ n) (H : qRes (rLen B n p) (fun e => ∀ s', qFt s0 n e s' → g 0 s') (fun v => f v (qset s 1 2 (p + 4)))) : qW w 2 73 [.ref 1] s (qPI f g) := by
  unfold rLen at H
  rw [qRes_bd] at H
  refine k73 (c_u4 hB h h0 h1 (qRes_mono H (fun e _ h => h) (fun v hv H => ?_)))
  obtain ⟨q1, rfl⟩ := rU4_r hv
  rw [qRes_bd] at H
  exact c29 hB (h.mv _) (by omega) q1 (b4_rg _ _) H
/-- the tables -/
theorem qwid_le (t : Nat) : qwid t ≤ 8 := by unfold qwid; split <;> omega
theorem tab_ix {r c W m l : Int} (h0 : 0 ≤ r) (h1 : r < m) (c0 : 0 ≤ c) (c1 : c < W) (hl : m * W ≤ l) : 0 ≤ r * W + c ∧ r * W + c < l := by
  have e1 : (r + 1) * W ≤ m * W := Int.mul_le_mul_of_nonneg_right (by omega) (by omega)
  rw [Int.add_mul] at e1
  have e2 : 0 ≤ r * W := Int.mul_nonneg h0 (by omega)
  omega
theorem tab_rows {m W l : Int} (h0 : 0 ≤ m) (hW : 0 < W) (hl : m * W ≤ l) : m ≤ l := by
  have : m * 1 ≤ m * W := Int.mul_le_mul_of_nonneg_left (by omega) h0
  omega
theorem c36 {t : Nat} {r c : Int} (ht : 0 < qwid t) (hr : Rg r) (hc : Rg c) (hn : 0 ≤ s t 2 ∧ s t 2 * qwid t ≤ (qlen (t + 1) : Int)) (H1 : 0 ≤ r → r < s t 2 → 0 ≤ c → c < qwid t → f (s (t + 1) (r * qwid t + c)) s) (H2 : ¬ (0 ≤ r ∧ r < s t 2 ∧ 0 ≤ c ∧ c < qwid t) → f (-2) s) : qW w 1 36 [.ref t, qI r, qI c] s (qPI f g) := by
  have e1 := tab_rows hn.1 ht hn.2
  have e2 := qlen_le (t + 1)
  have e3 := qwid_le t
  refine k36 ht ⟨hr, fun d => k36_24 (H2 (by omega)), fun d1 => ⟨⟨by omega, by omega⟩, fun d2 => ⟨hc, fun d => k36_24 (H2 (by omega)), fun d3 => ⟨⟨by omega, by omega⟩, fun d4 => ?_, fun d => k36_24 (H2 (by omega))⟩⟩, fun d => k36_24 (H2 (by omega))⟩⟩
  obtain ⟨q1, q2⟩ := tab_ix d1 d2 d3 d4 hn.2
  exact ⟨q1, q2, H1 d1 d2 d3 d4⟩
theorem c34 {t : Nat} (ht : 0 < qwid t) (H : f (s t 2) s) : qW w 1 34 [.ref t] s (qPI f g) := k34 ht H
theorem c24 {t : Nat} (ht : 0 < qwid t) (H : fv (qset s t 2 0)) : qW w 1 24 [.ref t] s (qPV fv g) := k24 ht H
theorem c27 {t : Nat} {r c x : Int} (ht : 0 < qwid t) (hr : Rg r) (hc : Rg c) (hn : 0 ≤ s t 2 ∧ s t 2 * qwid t ≤ (qlen (t + 1) : Int)) (hi : 0 ≤ r ∧ r < s t 2 ∧ 0 ≤ c ∧ c < qwid t) (H1 : fv (qset s (t + 1) (r * qwid t + c) x)) : qW w 1 27 [.ref t, qI r, qI c, qI x] s (qPV fv g) := by
  have e1 := tab_rows hn.1 ht hn.2
  have e2 := qlen_le (t + 1)
  have e3 := qwid_le t
  obtain ⟨q1, q2⟩ := tab_ix hi.1 hi.2.1 hi.2.2.1 hi.2.2.2 hn.2
  exact k27 ht ⟨hr, fun d => absurd d (by omega), fun d1 => ⟨⟨by omega, by omega⟩, fun d2 => ⟨hc, fun d => absurd d (by omega), fun d3 => ⟨⟨by omega, by omega⟩, fun d4 => ⟨q1, q2, k27_38 H1⟩, fun d => absurd d (by omega)⟩⟩, fun d => absurd d (by omega)⟩⟩
/-- a stretch of an array filled -/
def qfill (s : qS) (a : Nat) (lo hi x : Int) : qS := fun k j => if k = a ∧ lo ≤ j ∧ j < hi then x else s k j
theorem c203_loop {a : Nat} (ha : 0 < qlen a) {hi x : Int} (hh : hi ≤ (qlen a : Int)) : ∀ (m : Nat) (lo : Int) (s : qS), 0 ≤ lo → lo + m = hi → fv (qfill s a lo hi x) → qR w 1 qm203 10 [(0, .ref a), (2, qI hi), (3, qI x), (4, qI lo)] [] s (qPV fv g) := by
  have e2 := qlen_le a
  intro m
  induction m with
  | zero =>
    intro lo s h0 h1 H
    refine k203_10 ha ⟨⟨by omega, by omega⟩, ⟨by omega, by omega⟩, fun d => absurd d (by omega), fun _ => ?_⟩
    have : qfill s a lo hi x = s := by
      funext k j
      unfold qfill
      rw [if_neg (by omega)]
    rwa [this] at H
  | succ m ih =>
    intro lo s h0 h1 H
    refine k203_10 ha ⟨⟨by omega, by omega⟩, ⟨by omega, by omega⟩, fun _ => ⟨h0, by omega, ih (lo + 1) _ (by omega) (by omega) ?_⟩, fun d => absurd d (by omega)⟩
    have : qfill (qset s a lo x) a (lo + 1) hi x = qfill s a lo hi x := by
      funext k j
      unfold qfill
      by_cases hk : k = a
      · subst hk
        by_cases hj : lo + 1 ≤ j ∧ j < hi
        · rw [if_pos ⟨rfl, hj⟩, if_pos ⟨rfl, by omega, hj.2⟩]
        · rw [if_neg (fun c => hj c.2), qset_same]
          by_cases he : j = lo
          · rw [if_pos he, if_pos ⟨rfl, by omega, by omega⟩]
          · rw [if_neg he, if_neg (by omega)]
      · rw [if_neg (fun c => hk c.1), if_neg (fun c => hk c.1), qset_cell _ hk]
    rwa [this]
theorem c203 {a : Nat} {lo hi x : Int} (ha : 0 < qlen a) (h0 : 0 ≤ lo) (h1 : lo ≤ hi) (hh : hi ≤ (qlen a : Int)) (H : fv (qfill s a lo hi x)) : qW w 2 203 [.ref a, qI lo, qI hi, qI x] s (qPV fv g) := by
  have e2 := qlen_le a
  refine k203 ha (k204 ⟨⟨by omega, by omega⟩, ⟨by omega, by omega⟩, fun d => absurd d (by omega), fun _ => ⟨fun d => absurd d (by omega), fun _ => ⟨⟨by omega, by omega⟩, fun d => absurd d (by omega), fun _ => ?_⟩⟩⟩)
  exact c203_loop ha hh (hi - lo).toNat lo s h0 (by omega) H
/-- a new row: its number and zeros behind it -/
def qadd (s : qS) (t : Nat) (x : Int) : qS := qset (qset (qfill s (t + 1) (s t 2 * qwid t) (s t 2 * qwid t + qwid t) 0) (t + 1) (s t 2 * qwid t) x) t 2 (s t 2 + 1)
theorem c25 {t : Nat} {x : Int} (ht : 0 < qwid t) (hn : 0 ≤ s t 2 ∧ (s t 2 + 1) * qwid t ≤ (qlen (t + 1) : Int)) (H : f (s t 2) (qadd s t x)) : qW w 3 25 [.ref t, qI x] s (qPI f g) := by
  have e0 : (s t 2 + 1) * qwid t = s t 2 * qwid t + qwid t := by rw [Int.add_mul]; omega
  have e1 := hn.2
  have e2 := qlen_le (t + 1)
  have e4 : 0 ≤ s t 2 * qwid t := Int.mul_nonneg hn.1 (by omega)
  have hq : 0 < qlen (t + 1) := by omega
  refine k25 ht ⟨⟨by omega, by omega⟩, ⟨by omega, by omega⟩, fun d => absurd d (by omega), fun _ => ?_⟩
  refine c203 hq e4 (by omega) (by omega) ⟨e4, by omega, ?_⟩
  have e5 : qfill s (t + 1) (s t 2 * qwid t) (s t 2 * qwid t + qwid t) 0 t 2 = s t 2 := by
    unfold qfill
    rw [if_neg (by omega)]
  have e6 : ∀ z : Int, qset (qfill s (t + 1) (s t 2 * qwid t) (s t 2 * qwid t + qwid t) 0) (t + 1) (s t 2 * qwid t) z t 2 = s t 2 := by
    intro z
    rw [qset_cell _ (by omega), e5]
  have e7 : ∀ (u : qS) (z : Int), qset u t 2 z t 2 = z := by
    intro u z
    rw [qset_same]
    simp
  rw [e6, e7]
  have : s t 2 + 1 - 1 = s t 2 := by omega
  rw [this]
  exact H
end SRC
