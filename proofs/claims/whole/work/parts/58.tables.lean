/-! ATTRIBUTES, the tables: classes, inner classes, bootstrap methods; which attribute it is -/
/-- the names of the known attributes -/
def wK : Nat → List Nat
  | 1 => [67, 111, 110, 115, 116, 97, 110, 116, 86, 97, 108, 117, 101]
  | 2 => [67, 111, 100, 101]
  | 3 => [69, 120, 99, 101, 112, 116, 105, 111, 110, 115]
  | 4 => [73, 110, 110, 101, 114, 67, 108, 97, 115, 115, 101, 115]
  | 5 => [69, 110, 99, 108, 111, 115, 105, 110, 103, 77, 101, 116, 104, 111, 100]
  | 6 => [78, 101, 115, 116, 72, 111, 115, 116]
  | 7 => [78, 101, 115, 116, 77, 101, 109, 98, 101, 114, 115]
  | 8 => [80, 101, 114, 109, 105, 116, 116, 101, 100, 83, 117, 98, 99, 108, 97, 115, 115, 101, 115]
  | 9 => [66, 111, 111, 116, 115, 116, 114, 97, 112, 77, 101, 116, 104, 111, 100, 115]
  | _ => []
/-- which known attribute a name is at a place (1: a field's, 2: a method's, 3: the whole's), or 0 -/
def kFind (π : qP) (pl nm : Int) : Int := if pl = 1 ∧ pspells π nm (wK 1) = true then 1 else if pl = 2 ∧ pspells π nm (wK 2) = true then 2 else if pl = 2 ∧ pspells π nm (wK 3) = true then 3 else if pl = 3 ∧ pspells π nm (wK 4) = true then 4 else if pl = 3 ∧ pspells π nm (wK 5) = true then 5 else if pl = 3 ∧ pspells π nm (wK 6) = true then 6 else if pl = 3 ∧ pspells π nm (wK 7) = true then 7 else if pl = 3 ∧ pspells π nm (wK 8) = true then 8 else if pl = 3 ∧ pspells π nm (wK 9) = true then 9 else 0
theorem qw1 : qstr 132 = wK 1 := by decide +kernel
theorem qso132 : qso 132 := ⟨by decide, by decide, by decide +kernel⟩
theorem qw2 : qstr 134 = wK 2 := by decide +kernel
theorem qso134 : qso 134 := ⟨by decide, by decide, by decide +kernel⟩
theorem qw3 : qstr 136 = wK 3 := by decide +kernel
theorem qso136 : qso 136 := ⟨by decide, by decide, by decide +kernel⟩
theorem qw4 : qstr 138 = wK 4 := by decide +kernel
theorem qso138 : qso 138 := ⟨by decide, by decide, by decide +kernel⟩
theorem qw5 : qstr 140 = wK 5 := by decide +kernel
theorem qso140 : qso 140 := ⟨by decide, by decide, by decide +kernel⟩
theorem qw6 : qstr 142 = wK 6 := by decide +kernel
theorem qso142 : qso 142 := ⟨by decide, by decide, by decide +kernel⟩
theorem qw7 : qstr 144 = wK 7 := by decide +kernel
theorem qso144 : qso 144 := ⟨by decide, by decide, by decide +kernel⟩
theorem qw8 : qstr 146 = wK 8 := by decide +kernel
theorem qso146 : qso 146 := ⟨by decide, by decide, by decide +kernel⟩
theorem qw9 : qstr 148 = wK 9 := by decide +kernel
theorem qso148 : qso 148 := ⟨by decide, by decide, by decide +kernel⟩
theorem kFind_rg (π : qP) (pl nm : Int) : 0 ≤ kFind π pl nm ∧ kFind π pl nm ≤ 9 := by
  unfold kFind
  repeat' split
  all_goals omega
theorem kFind_pl {π : qP} {pl nm : Int} (h : kFind π pl nm ≠ 0) : (pl = 1 ∧ kFind π pl nm = 1) ∨ (pl = 2 ∧ (kFind π pl nm = 2 ∨ kFind π pl nm = 3)) ∨ (pl = 3 ∧ 4 ≤ kFind π pl nm) := by
  unfold kFind at h ⊢
  by_cases c0 : pl = 1 ∧ pspells π nm (wK 1) = true
  · rw [if_pos c0]; have := c0.1; omega
  rw [if_neg c0] at h ⊢
  by_cases c1 : pl = 2 ∧ pspells π nm (wK 2) = true
  · rw [if_pos c1]; have := c1.1; omega
  rw [if_neg c1] at h ⊢
  by_cases c2 : pl = 2 ∧ pspells π nm (wK 3) = true
  · rw [if_pos c2]; have := c2.1; omega
  rw [if_neg c2] at h ⊢
  by_cases c3 : pl = 3 ∧ pspells π nm (wK 4) = true
  · rw [if_pos c3]; have := c3.1; omega
  rw [if_neg c3] at h ⊢
  by_cases c4 : pl = 3 ∧ pspells π nm (wK 5) = true
  · rw [if_pos c4]; have := c4.1; omega
  rw [if_neg c4] at h ⊢
  by_cases c5 : pl = 3 ∧ pspells π nm (wK 6) = true
  · rw [if_pos c5]; have := c5.1; omega
  rw [if_neg c5] at h ⊢
  by_cases c6 : pl = 3 ∧ pspells π nm (wK 7) = true
  · rw [if_pos c6]; have := c6.1; omega
  rw [if_neg c6] at h ⊢
  by_cases c7 : pl = 3 ∧ pspells π nm (wK 8) = true
  · rw [if_pos c7]; have := c7.1; omega
  rw [if_neg c7] at h ⊢
  by_cases c8 : pl = 3 ∧ pspells π nm (wK 9) = true
  · rw [if_pos c8]; have := c8.1; omega
  rw [if_neg c8] at h ⊢
  exact absurd rfl h
theorem qaddW {t : Nat} {W : Int} (hW : qwid t = W) (s : qS) {i x : Int} (h : s t 2 = i) : qadd s t x t 2 = i + 1 ∧ (∀ k, k ≠ t → k ≠ t + 1 → qadd s t x k = s k) ∧ (∀ y, y < i * W → qadd s t x (t + 1) y = s (t + 1) y) ∧ (0 < W → qadd s t x (t + 1) (i * W + 0) = x) ∧ ∀ y, 0 < y → y < W → qadd s t x (t + 1) (i * W + y) = 0 := by
  unfold qadd
  rw [h, hW]
  have hf : ∀ y, qset (qfill s (t + 1) (i * W) (i * W + W) 0) (t + 1) (i * W) x (t + 1) y = if y = i * W then x else if i * W ≤ y ∧ y < i * W + W then 0 else s (t + 1) y := by
    intro y
    rw [qset_same]
    unfold qfill
    by_cases c : y = i * W
    · rw [if_pos c, if_pos c]
    · rw [if_neg c, if_neg c]
      by_cases c2 : i * W ≤ y ∧ y < i * W + W
      · rw [if_pos ⟨rfl, c2⟩, if_pos c2]
      · rw [if_neg (fun z => c2 z.2), if_neg c2]
  refine ⟨?_, fun k k4 k5 => ?_, fun y hy => ?_, fun h0 => ?_, fun y y0 y6 => ?_⟩
  · rw [qset_same, if_pos rfl]
  · rw [qset_cell _ k4, qset_cell _ k5]
    funext j
    unfold qfill
    rw [if_neg (fun z => k5 z.1)]
  · rw [qset_cell _ (by omega), hf, if_neg (by omega), if_neg (by omega)]
  · rw [qset_cell _ (by omega), hf, if_pos (by omega)]
  · rw [qset_cell _ (by omega), hf, if_neg (by omega), if_pos (by omega)]
theorem qAt.fr {s0 s s' : qS} {B : Int → Int} {n p : Int} (h : qAt s0 B n p s) (h1 : s' 1 = s 1) (h0 : s' 0 = s 0) (h2 : s' 2 = s 2) (h3 : ∀ k, 25 ≤ k → s' k = s k) : qAt s0 B n p s' := by
  obtain ⟨a1, a2, a3, a4, a5, a6⟩ := h
  refine ⟨by rw [h1]; exact a1, by rw [h1]; exact a2, fun i => by rw [h2]; exact a3 i, by rw [h0, h1]; exact a4, by rw [h2]; exact a5, fun k hk => by rw [h3 k hk]; exact a6 k hk⟩
theorem qAt.addW {s0 s : qS} {B : Int → Int} {n p : Int} (h : qAt s0 B n p s) {t : Nat} (ht : 7 < t ∧ t < 24) (x : Int) : qAt s0 B n p (qadd s t x) := by
  obtain ⟨-, a2, -⟩ := qaddW (t := t) rfl s (x := x) rfl
  exact h.fr (a2 1 (by omega) (by omega)) (a2 0 (by omega) (by omega)) (a2 2 (by omega) (by omega)) (fun k hk => a2 k (by omega) (by omega))
theorem qCP.addW {s : qS} {π : qP} (h : qCP s π) {t : Nat} (ht : 7 < t) (x : Int) : qCP (qadd s t x) π := by
  obtain ⟨-, a2, -⟩ := qaddW (t := t) rfl s (x := x) rfl
  exact h.fr (a2 4 (by omega) (by omega)) (a2 5 (by omega) (by omega)) (a2 6 (by omega) (by omega))
theorem qCP.setW {s : qS} {π : qP} (h : qCP s π) {k : Nat} {j v : Int} (hk : 7 < k ∨ k = 1) : qCP (qset s k j v) π :=
  h.fr (qset_cell _ (by omega)) (qset_cell _ (by omega)) (qset_cell _ (by omega))
section AT2
variable {w : qE} {s s0 : qS} {B : Int → Int} {n p : Int} {π : qP} {f : Int → qS → Prop} {fa : Nat → qS → Prop} {fv : qS → Prop} {g : Nat → qS → Prop}
/-- what a table of one column holds -/
def qCol (s : qS) (t : Nat) (B : Int → Int) (a m : Int) : Prop := s t 2 = m ∧ ∀ k, 0 ≤ k → k < m → s (t + 1) (k * 1 + 0) = b2 B (a + 2 * k)
theorem c82_loop (hB : qB B n) {t : Nat} (ht : 7 < t ∧ t < 24) (hW : qwid t = 1) (hL : qlen (t + 1) = 250) {a m : Int} (ha : 0 ≤ a) (hm : 0 ≤ m ∧ m ≤ 65535) : ∀ (d : Nat) (s : qS), (d : Int) ≤ m → qAt s0 B n (a + 2 * (m - d)) s → a + 2 * (m - d) ≤ n → qCP s π → qCol s t B a (m - d) → qRes (rTks π B n d (a + 2 * (m - d))) (fun e => ∀ s', qFt s0 n e s' → g 0 s') (fun r => ∀ s', qAt s0 B n r s' → qCol s' t B a m → (∀ c, c ≠ 1 → c ≠ t → c ≠ t + 1 → s' c = s c) → fv s') → qR w 3 qm82 11 [(0, .ref 8), (1, .ref t), (2, qI m), (3, qI (m - d))] [] s (qPV fv g) := by
  have h5 := hB.2.1
  have ht0 : 0 < qwid t := by omega
  intro d
  induction d with
  | zero =>
    intro s hd hA h1 hP hC H
    refine k82_11 ht0 ⟨⟨by omega, by omega⟩, ⟨by omega, by omega⟩, fun c => absurd c (by omega), fun _ => H s hA ?_ (fun _ _ _ _ => rfl)⟩
    rw [show m - ((0 : Nat) : Int) = m by omega] at hC
    exact hC
  | succ d ih =>
    intro s hd hA h1 hP hC H
    unfold rTks at H
    rw [qRes_bd] at H
    have e3 : m - ((d + 1 : Nat) : Int) + 1 = m - (d : Int) := by omega
    refine k82_11 ht0 ⟨⟨by omega, by omega⟩, ⟨by omega, by omega⟩, fun _ => c70 hB hP hA (by omega) h1 ⟨by decide, by decide⟩ (qRes_mono H (fun _ _ h => h) (fun v hv H => ?_)), fun c => absurd c (by omega)⟩
    obtain ⟨q1, q2, -⟩ := rTake_r hv
    have hr : qset s 1 2 (a + 2 * (m - ((d + 1 : Nat) : Int)) + 2) t 2 = m - ((d + 1 : Nat) : Int) := by rw [qset_cell _ (by omega)]; exact hC.1
    refine c25 ht0 (by rw [hr, hW, hL]; omega) ?_
    rw [e3]
    obtain ⟨d1, d2, d3, d4, -⟩ := qaddW hW (qset s 1 2 (a + 2 * (m - ((d + 1 : Nat) : Int)) + 2)) (x := v) hr
    have hA2 := (hA.mv (a + 2 * (m - ((d + 1 : Nat) : Int)) + 2)).addW ht v
    have eq : a + 2 * (m - ((d + 1 : Nat) : Int)) + 2 = a + 2 * (m - (d : Int)) := by omega
    rw [eq] at hA2 H d1 d2 d3 d4 ⊢
    refine ih _ (by omega) hA2 (by omega) (((qAt.pool hP _)).addW ht.1 v) ⟨by rw [d1]; omega, fun k k0 k1 => ?_⟩ (qRes_mono H (fun _ _ h => h) (fun r _ H s' a1 a2 a3 => H s' a1 a2 (fun c c1 c2 c3 => ?_)))
    · by_cases hk : k = m - ((d + 1 : Nat) : Int)
      · rw [hk, d4 (by decide), q2]
      · rw [d3 _ (by omega), qset_cell _ (by omega)]
        exact hC.2 k k0 (by omega)
    · rw [a3 c c1 c2 c3, d2 c c2 c3, qset_cell _ c1]
theorem c82 (hB : qB B n) {t : Nat} (ht : 7 < t ∧ t < 24) (hW : qwid t = 1) (hL : qlen (t + 1) = 250) (hP : qCP s π) (hA : qAt s0 B n p s) (h0 : 0 ≤ p) (h1 : p ≤ n) (hr : s t 2 = 0) (H : qRes (rCls π B n p) (fun e => ∀ s', qFt s0 n e s' → g 0 s') (fun r => ∀ s', qAt s0 B n r s' → qCol s' t B (p + 2) (b2 B p) → (∀ c, c ≠ 1 → c ≠ t → c ≠ t + 1 → s' c = s c) → fv s')) : qW w 4 82 [.ref 8, .ref t] s (qPV fv g) := by
  unfold rCls at H
  rw [qRes_bd] at H
  refine k82 (by omega) (c_u2 hB hA h0 h1 (qRes_mono H (fun _ _ h => h) (fun m hm H => ?_)))
  obtain ⟨q1, rfl⟩ := rU2_r hm
  have r1 := b2_rg hB h0 q1
  have e0 : b2 B p - ((b2 B p).toNat : Int) = 0 := by omega
  have := c82_loop (w := w) (fv := fv) (g := g) (π := π) (s0 := s0) hB ht hW hL (a := p + 2) (m := b2 B p) (by omega) r1 (b2 B p).toNat (qset s 1 2 (p + 2)) (by omega) (by rw [e0, show p + 2 + 2 * 0 = p + 2 by omega]; exact hA.mv _) (by rw [e0]; omega) (qAt.pool hP _) (by rw [e0]; exact ⟨by rw [qset_cell _ (by omega)]; exact hr, fun k k0 k1 => absurd k1 (by omega)⟩) (by
    rw [e0, show p + 2 + 2 * 0 = p + 2 by omega]
    refine qRes_mono H (fun _ _ h => h) (fun r _ H s' a1 a2 a3 => H s' a1 a2 (fun c c1 c2 c3 => ?_))
    rw [a3 c c1 c2 c3, qset_cell _ c1])
  rw [e0] at this
  exact this
/-- what the table of inner classes holds -/
def qInn (s : qS) (B : Int → Int) (a m : Int) : Prop := s 13 2 = m ∧ ∀ k, 0 ≤ k → k < m → s 14 (k * 4 + 0) = b2 B (a + 8 * k) ∧ s 14 (k * 4 + 1) = b2 B (a + 8 * k + 2) ∧ s 14 (k * 4 + 2) = b2 B (a + 8 * k + 4) ∧ s 14 (k * 4 + 3) = b2 B (a + 8 * k + 6)
theorem c_set13 {r c x : Int} (hn : 0 ≤ s 13 2 ∧ s 13 2 ≤ 62) (hi : 0 ≤ r ∧ r < s 13 2) (hc : 0 ≤ c ∧ c < 4) (H : fv (qset s 14 (r * 4 + c) x)) : qW w 1 27 [.ref 13, qI r, qI c, qI x] s (qPV fv g) := by
  have e1 : qwid 13 = 4 := rfl
  have e2 : (qlen (13 + 1) : Int) = 248 := rfl
  refine c27 (t := 13) (by decide) ⟨by omega, by omega⟩ ⟨by omega, by omega⟩ ⟨hn.1, by rw [e1, e2]; omega⟩ ⟨hi.1, hi.2, hc.1, by rw [e1]; exact hc.2⟩ ?_
  rw [e1]
  exact H
theorem c81_loop (hB : qB B n) {a m : Int} (ha : 10 ≤ a) (hm : 0 ≤ m ∧ m ≤ 65535) : ∀ (d : Nat) (s : qS), (d : Int) ≤ m → qAt s0 B n (a + 8 * (m - d)) s → a + 8 * (m - d) ≤ n → qCP s π → qInn s B a (m - d) → qRes (rIns π B n d (a + 8 * (m - d))) (fun e => ∀ s', qFt s0 n e s' → g 0 s') (fun r => ∀ s', qAt s0 B n r s' → qInn s' B a m → (∀ c, c ≠ 1 → c ≠ 13 → c ≠ 14 → s' c = s c) → fv s') → qR w 3 qm81 11 [(0, .ref 8), (1, qI m), (2, qI (m - d))] [] s (qPV fv g) := by
  have h5 := hB.2.1
  intro d
  induction d with
  | zero =>
    intro s hd hA h1 hP hC H
    refine k81_11 ⟨⟨by omega, by omega⟩, ⟨by omega, by omega⟩, fun c => absurd c (by omega), fun _ => H s hA ?_ (fun _ _ _ _ => rfl)⟩
    rw [show m - ((0 : Nat) : Int) = m by omega] at hC
    exact hC
  | succ d ih =>
    intro s hd hA h1 hP hC H
    have e3 : m - ((d + 1 : Nat) : Int) + 1 = m - (d : Int) := by omega
    -- the row's number and place
    obtain ⟨i, hi⟩ : ∃ i, i = m - ((d + 1 : Nat) : Int) := ⟨_, rfl⟩
    rw [← hi] at hA h1 hC H e3 ⊢
    unfold rIns rIn1 at H
    rw [qRes_bd, qRes_bd] at H
    refine k81_11 ⟨⟨by omega, by omega⟩, ⟨by omega, by omega⟩, fun _ => c70 hB hP hA (by omega) h1 ⟨by decide, by decide⟩ (qRes_mono H (fun _ _ h => h) (fun v1 hv H => ?_)), fun c => absurd c (by omega)⟩
    obtain ⟨q1, e1, -⟩ := rTake_r hv
    have hr : qset s 1 2 (a + 8 * i + 2) 13 2 = i := by rw [qset_cell _ (by decide)]; exact hC.1
    have eW : qwid 13 = 4 := rfl
    have eL : (qlen (13 + 1) : Int) = 248 := rfl
    refine c25 (t := 13) (by decide) (by rw [hr, eW, eL]; omega) ?_
    rw [hr]
    obtain ⟨d1, d2, d3, d4, d5⟩ := qaddW eW (qset s 1 2 (a + 8 * i + 2)) (x := v1) hr
    have hA1 := (hA.mv (a + 8 * i + 2)).addW (t := 13) ⟨by decide, by decide⟩ v1
    have hP1 := (qAt.pool hP (a + 8 * i + 2)).addW (t := 13) (by decide) v1
    obtain ⟨u, hu⟩ : ∃ u, u = qadd (qset s 1 2 (a + 8 * i + 2)) 13 v1 := ⟨_, rfl⟩
    rw [← hu] at d1 d2 d3 d4 d5 hA1 hP1 ⊢
    rw [qRes_bd] at H
    refine c78 hB hP1 hA1 (by omega) (by omega) ⟨by decide, by decide⟩ (qRes_mono H (fun _ _ h => h) (fun v2 hv2 H => ?_))
    obtain ⟨q2, e2⟩ := rTake0_r hv2
    refine c_set13 (by rw [qset_cell _ (by decide), d1]; omega) (by rw [qset_cell _ (by decide), d1]; omega) (by decide) ?_
    have hA2 := (hA1.mv (a + 8 * i + 2 + 2)).set (k := 14) (j := i * 4 + 1) (v := v2) ⟨by decide, by decide⟩
    have hP2 : qCP (qset (qset u 1 2 (a + 8 * i + 2 + 2)) 14 (i * 4 + 1) v2) π := (hP1.setW (Or.inr rfl)).setW (Or.inl (by decide))
    rw [qRes_bd, show a + 8 * i + 4 = a + 8 * i + 2 + 2 by omega] at H
    refine c78 hB hP2 hA2 (by omega) (by omega) ⟨by decide, by decide⟩ (qRes_mono H (fun _ _ h => h) (fun v3 hv3 H => ?_))
    obtain ⟨q3, e4⟩ := rTake0_r hv3
    refine c_set13 (by rw [qset_cell _ (by decide), qset_cell _ (by decide), qset_cell _ (by decide), d1]; omega) (by rw [qset_cell _ (by decide), qset_cell _ (by decide), qset_cell _ (by decide), d1]; omega) (by decide) ?_
    have hA3 := (hA2.mv (a + 8 * i + 2 + 2 + 2)).set (k := 14) (j := i * 4 + 2) (v := v3) ⟨by decide, by decide⟩
    rw [qRes_bd, show a + 8 * i + 6 = a + 8 * i + 2 + 2 + 2 by omega] at H
    refine c_u2 hB hA3 (by omega) (by omega) (qRes_mono H (fun _ _ h => h) (fun v4 hv4 H => ?_))
    obtain ⟨q4, e5⟩ := rU2_r hv4
    refine c_set13 (by rw [qset_cell _ (by decide), qset_cell _ (by decide), qset_cell _ (by decide), qset_cell _ (by decide), qset_cell _ (by decide), d1]; omega) (by rw [qset_cell _ (by decide), qset_cell _ (by decide), qset_cell _ (by decide), qset_cell _ (by decide), qset_cell _ (by decide), d1]; omega) (by decide) ?_
    have hA4 := (hA3.mv (a + 8 * i + 2 + 2 + 2 + 2)).set (k := 14) (j := i * 4 + 3) (v := v4) ⟨by decide, by decide⟩
    have hP4 : qCP (qset (qset (qset (qset (qset (qset u 1 2 (a + 8 * i + 2 + 2)) 14 (i * 4 + 1) v2) 1 2 (a + 8 * i + 2 + 2 + 2)) 14 (i * 4 + 2) v3) 1 2 (a + 8 * i + 2 + 2 + 2 + 2)) 14 (i * 4 + 3) v4) π := (((hP2.setW (Or.inr rfl)).setW (Or.inl (by decide))).setW (Or.inr rfl)).setW (Or.inl (by decide))
    rw [e3]
    have eq : a + 8 * i + 2 + 2 + 2 + 2 = a + 8 * (m - (d : Int)) := by omega
    have eq2 : a + 8 * i + 8 = a + 8 * (m - (d : Int)) := by omega
    obtain ⟨z, hz⟩ : ∃ z, z = qset (qset (qset (qset (qset (qset u 1 2 (a + 8 * i + 2 + 2)) 14 (i * 4 + 1) v2) 1 2 (a + 8 * i + 2 + 2 + 2)) 14 (i * 4 + 2) v3) 1 2 (a + 8 * i + 2 + 2 + 2 + 2)) 14 (i * 4 + 3) v4 := ⟨_, rfl⟩
    have zc : ∀ c, c ≠ 1 → c ≠ 14 → z c = u c := fun c c1 c2 => by rw [hz, qset_cell _ c2, qset_cell _ c1, qset_cell _ c2, qset_cell _ c1, qset_cell _ c2, qset_cell _ c1]
    have z14 : ∀ x, z 14 x = if x = i * 4 + 3 then v4 else if x = i * 4 + 2 then v3 else if x = i * 4 + 1 then v2 else u 14 x := fun x => by
      rw [hz, qset_same, qset_cell _ (by decide), qset_same, qset_cell _ (by decide), qset_same, qset_cell _ (by decide)]
    rw [← hz] at hA4 hP4 ⊢
    rw [eq] at hA4
    have H : qRes (rIns π B n d (a + 8 * i + 8)) (fun e => ∀ s', qFt s0 n e s' → g 0 s') (fun r => ∀ s', qAt s0 B n r s' → qInn s' B a m → (∀ c, c ≠ 1 → c ≠ 13 → c ≠ 14 → s' c = s c) → fv s') := H
    rw [eq2] at H
    refine ih z (by omega) hA4 (by omega) hP4 ⟨by rw [zc 13 (by decide) (by decide), d1]; omega, fun k k0 k1 => ?_⟩ (qRes_mono H (fun _ _ h => h) (fun r _ H s' a1 a2 a3 => H s' a1 a2 (fun c c1 c2 c3 => ?_)))
    · by_cases hk : k = i
      · subst hk
        refine ⟨?_, ?_, ?_, ?_⟩
        · rw [z14, if_neg (by omega), if_neg (by omega), if_neg (by omega), d4 (by decide), e1]
        · rw [z14, if_neg (by omega), if_neg (by omega), if_pos rfl, e2]
        · rw [z14, if_neg (by omega), if_pos rfl, e4, show a + 8 * k + 4 = a + 8 * k + 2 + 2 by omega]
        · rw [z14, if_pos rfl, e5, show a + 8 * k + 6 = a + 8 * k + 2 + 2 + 2 by omega]
      · have ho : ∀ x, 0 ≤ x → x < 4 → z 14 (k * 4 + x) = s 14 (k * 4 + x) := fun x x0 x1 => by
          rw [z14, if_neg (by omega), if_neg (by omega), if_neg (by omega), d3 _ (by omega), qset_cell _ (by decide)]
        rw [ho 0 (by decide) (by decide), ho 1 (by decide) (by decide), ho 2 (by decide) (by decide), ho 3 (by decide) (by decide)]
        exact hC.2 k k0 (by omega)
    · rw [a3 c c1 c2 c3, zc c c1 c3, d2 c c2 c3, qset_cell _ c1]
theorem c81 (hB : qB B n) (hP : qCP s π) (hA : qAt s0 B n p s) (h0 : 8 ≤ p) (h1 : p ≤ n) (hr : s 13 2 = 0) (H : qRes (rInner π B n p) (fun e => ∀ s', qFt s0 n e s' → g 0 s') (fun r => ∀ s', qAt s0 B n r s' → qInn s' B (p + 2) (b2 B p) → (∀ c, c ≠ 1 → c ≠ 13 → c ≠ 14 → s' c = s c) → fv s')) : qW w 4 81 [.ref 8] s (qPV fv g) := by
  unfold rInner at H
  rw [qRes_bd] at H
  refine k81 (c_u2 hB hA (by omega) h1 (qRes_mono H (fun _ _ h => h) (fun m hm H => ?_)))
  obtain ⟨q1, rfl⟩ := rU2_r hm
  have r1 := b2_rg hB (p := p) (by omega) q1
  have e0 : b2 B p - ((b2 B p).toNat : Int) = 0 := by omega
  have := c81_loop (w := w) (fv := fv) (g := g) (π := π) (s0 := s0) hB (a := p + 2) (m := b2 B p) (by omega) r1 (b2 B p).toNat (qset s 1 2 (p + 2)) (by omega) (by rw [e0, show p + 2 + 8 * 0 = p + 2 by omega]; exact hA.mv _) (by rw [e0]; omega) (qAt.pool hP _) (by rw [e0]; exact ⟨by rw [qset_cell _ (by decide)]; exact hr, fun k k0 k1 => absurd k1 (by omega)⟩) (by
    rw [e0, show p + 2 + 8 * 0 = p + 2 by omega]
    refine qRes_mono H (fun _ _ h => h) (fun r _ H s' a1 a2 a3 => H s' a1 a2 (fun c c1 c2 c3 => ?_))
    rw [a3 c c1 c2 c3, qset_cell _ c1])
  rw [e0] at this
  exact this
/-- what the table of bootstrap methods holds -/
def qBoo (s : qS) (B : Int → Int) (a m : Int) : Prop := s 15 2 = m ∧ ∀ k, 0 ≤ k → k < m → s 16 (k * 2 + 0) = b2 B (bpos B a k.toNat) ∧ s 16 (k * 2 + 1) = b2 B (bpos B a k.toNat + 2)
theorem rLds_r : ∀ (d : Nat) (q r : Int), q ≤ n → rLds π B n d q = .inr r → r = q + 2 * d ∧ r ≤ n := by
  intro d
  induction d with
  | zero => intro q r hq h; cases h; omega
  | succ d ih =>
    intro q r hq h
    unfold rLds at h
    obtain ⟨_, h1, h⟩ := bd_inr.mp h
    obtain ⟨_, h2, h⟩ := bd_inr.mp h
    have := (rU2_r h1).1
    have := ih _ _ (by omega) h
    omega
theorem okLd_pg (hP : qPok π) (i : Int) : okLd (pg π (pT π) i) = okLd (pT π i) := by
  have e : ∀ v, 0 < v → (pg π (pT π) i = v ↔ pT π i = v) := fun v hv => pg_T hP hv
  unfold okLd
  simp only [e 3 (by decide), e 4 (by decide), e 5 (by decide), e 6 (by decide), e 7 (by decide), e 8 (by decide), e 15 (by decide), e 16 (by decide), e 17 (by decide)]
theorem c83_in (hB : qB B n) {v1 v2 m : Int} (hm : 0 ≤ m ∧ m ≤ 65535) (hP : qCP s π) : ∀ (d : Nat) (q : Int), (d : Int) ≤ m → qAt s0 B n q (qset s 1 2 q) → 0 ≤ q → q ≤ n → qRes (rLds π B n d q) (fun e => ∀ s', qFt s0 n e s' → g 0 s') (fun r => qR w 3 qm83 11 [(0, .ref 8), (1, qI v1), (2, qI (v2 + 1))] [] (qset s 1 2 r) (qPV fv g)) → qR w 3 qm83 57 [(0, .ref 8), (1, qI v1), (2, qI v2), (4, qI m), (5, qI (m - d))] [] (qset s 1 2 q) (qPV fv g) := by
  have h5 := hB.2.1
  intro d
  induction d with
  | zero =>
    intro q hd hA h0 h1 H
    exact k83_57 ⟨⟨by omega, by omega⟩, ⟨by omega, by omega⟩, fun c => absurd c (by omega), fun _ => H⟩
  | succ d ih =>
    intro q hd hA h0 h1 H
    unfold rLds at H
    rw [qRes_bd] at H
    refine k83_57 ⟨⟨by omega, by omega⟩, ⟨by omega, by omega⟩, fun _ => c_u2 hB hA h0 h1 (qRes_mono H (fun _ _ h => h) (fun v hv H => ?_)), fun c => absurd c (by omega)⟩
    obtain ⟨q1, rfl⟩ := rU2_r hv
    have r1 := b2_rg hB h0 q1
    have hA2 := hA.mv (q + 2)
    rw [qset_qset] at hA2 ⊢
    have hP2 := qAt.pool hP (q + 2)
    rw [qRes_bd] at H
    refine c35 hP2 ⟨by omega, by omega⟩ (c84 (pg_rg hP.1 (pT_rg hP.1 _)) (c21 ?_))
    rw [okLd_pg hP.1]
    refine c_ck (p := q) hA2 rfl (by rw [hA2.2.1]; omega) (qRes_mono H (fun _ _ h => h) (fun _ _ H => ?_))
    have e3 : m - ((d + 1 : Nat) : Int) + 1 = m - (d : Int) := by omega
    rw [e3]
    exact ih (q + 2) (by omega) hA2 (by omega) q1 H
theorem c_set15 {r c x : Int} (hn : 0 ≤ s 15 2 ∧ s 15 2 ≤ 125) (hi : 0 ≤ r ∧ r < s 15 2) (hc : 0 ≤ c ∧ c < 2) (H : fv (qset s 16 (r * 2 + c) x)) : qW w 1 27 [.ref 15, qI r, qI c, qI x] s (qPV fv g) := by
  have e1 : qwid 15 = 2 := rfl
  have e2 : (qlen (15 + 1) : Int) = 250 := rfl
  refine c27 (t := 15) (by decide) ⟨by omega, by omega⟩ ⟨by omega, by omega⟩ ⟨hn.1, by rw [e1, e2]; omega⟩ ⟨hi.1, hi.2, hc.1, by rw [e1]; exact hc.2⟩ ?_
  rw [e1]
  exact H
theorem c83_loop (hB : qB B n) {a m : Int} (ha : 10 ≤ a) (hm : 0 ≤ m ∧ m ≤ 65535) : ∀ (d i : Nat) (s : qS), (d : Int) + i = m → qAt s0 B n (bpos B a i) s → a + 4 * i ≤ bpos B a i → bpos B a i ≤ n → qCP s π → qBoo s B a i → qRes (rBts π B n d (bpos B a i)) (fun e => ∀ s', qFt s0 n e s' → g 0 s') (fun r => ∀ s', qAt s0 B n r s' → qBoo s' B a m → (∀ c, c ≠ 1 → c ≠ 15 → c ≠ 16 → s' c = s c) → fv s') → qR w 3 qm83 11 [(0, .ref 8), (1, qI m), (2, qI i)] [] s (qPV fv g) := by
  have h5 := hB.2.1
  intro d
  induction d with
  | zero =>
    intro i s hd hA h2 h1 hP hC H
    refine k83_11 ⟨⟨by omega, by omega⟩, ⟨by omega, by omega⟩, fun c => absurd c (by omega), fun _ => H s hA ?_ (fun _ _ _ _ => rfl)⟩
    rw [show m = (i : Int) by omega]
    exact hC
  | succ d ih =>
    intro i s hd hA h2 h1 hP hC H
    unfold rBts at H
    rw [qRes_bd] at H
    refine k83_11 ⟨⟨by omega, by omega⟩, ⟨by omega, by omega⟩, fun _ => c70 hB hP hA (by omega) h1 ⟨by decide, by decide⟩ (qRes_mono H (fun _ _ h => h) (fun v1 hv H => ?_)), fun c => absurd c (by omega)⟩
    obtain ⟨q1, e1, -⟩ := rTake_r hv
    have hr : qset s 1 2 (bpos B a i + 2) 15 2 = (i : Int) := by rw [qset_cell _ (by decide)]; exact hC.1
    have eW : qwid 15 = 2 := rfl
    have eL : (qlen (15 + 1) : Int) = 250 := rfl
    refine c25 (t := 15) (by decide) (by rw [hr, eW, eL]; omega) ?_
    rw [hr]
    obtain ⟨d1, d2, d3, d4, d5⟩ := qaddW eW (qset s 1 2 (bpos B a i + 2)) (x := v1) hr
    have hA1 := (hA.mv (bpos B a i + 2)).addW (t := 15) ⟨by decide, by decide⟩ v1
    have hP1 := (qAt.pool hP (bpos B a i + 2)).addW (t := 15) (by decide) v1
    obtain ⟨u, hu⟩ : ∃ u, u = qadd (qset s 1 2 (bpos B a i + 2)) 15 v1 := ⟨_, rfl⟩
    rw [← hu] at d1 d2 d3 d4 d5 hA1 hP1 ⊢
    rw [qRes_bd] at H
    refine c_u2 hB hA1 (by omega) (by omega) (qRes_mono H (fun _ _ h => h) (fun v2 hv2 H => ?_))
    obtain ⟨q2, e2⟩ := rU2_r hv2
    have r2 := b2_rg hB (p := bpos B a i + 2) (by omega) (by omega)
    refine c_set15 (by rw [qset_cell _ (by decide), d1]; omega) (by rw [qset_cell _ (by decide), d1]; omega) (by decide) ?_
    have hA2 := (hA1.mv (bpos B a i + 2 + 2)).set (k := 16) (j := (i : Int) * 2 + 1) (v := v2) ⟨by decide, by decide⟩
    have hP2 : qCP (qset (qset u 1 2 (bpos B a i + 2 + 2)) 16 ((i : Int) * 2 + 1) v2) π := (hP1.setW (Or.inr rfl)).setW (Or.inl (by decide))
    obtain ⟨z, hz⟩ : ∃ z, z = qset (qset u 1 2 (bpos B a i + 2 + 2)) 16 ((i : Int) * 2 + 1) v2 := ⟨_, rfl⟩
    have zc : ∀ c, c ≠ 1 → c ≠ 16 → z c = u c := fun c c1 c2 => by rw [hz, qset_cell _ c2, qset_cell _ c1]
    have z16 : ∀ x, z 16 x = if x = (i : Int) * 2 + 1 then v2 else u 16 x := fun x => by rw [hz, qset_same, qset_cell _ (by decide)]
    rw [← hz] at hA2 hP2 ⊢
    rw [qRes_bd, show bpos B a i + 4 = bpos B a i + 2 + 2 by omega] at H
    have hid : qset z 1 2 (bpos B a i + 2 + 2) = z := qset_id hA2.2.1
    have := c83_in (w := w) (fv := fv) (g := g) (s := z) (s0 := s0) (v1 := m) (v2 := (i : Int)) (m := v2) hB (by omega) hP2 v2.toNat (bpos B a i + 2 + 2) (by omega) (by rw [hid]; exact hA2) (by omega) (by omega) (qRes_mono H (fun _ _ h => h) (fun r hr2 H => ?_))
    · rw [hid, show v2 - (v2.toNat : Int) = 0 by omega] at this
      exact this
    · obtain ⟨e5, q5⟩ := rLds_r _ _ _ (by omega) hr2
      have eb : bpos B a (i + 1) = r := by rw [bpos, e5, ← e2]; omega
      have hA3 := hA2.mv r
      rw [← eb] at H hA3 ⊢
      have ei : (i : Int) + 1 = ((i + 1 : Nat) : Int) := by omega
      rw [ei]
      refine ih (i + 1) _ (by omega) hA3 (by omega) (by omega) (hP2.setW (Or.inr rfl)) ⟨?_, fun k k0 k1 => ?_⟩ (qRes_mono H (fun _ _ h => h) (fun r _ H s' a1 a2 a3 => H s' a1 a2 (fun c c1 c2 c3 => ?_)))
      · rw [qset_cell _ (by decide), zc 15 (by decide) (by decide), d1]; omega
      · rw [qset_cell _ (by decide)]
        by_cases hk : k = (i : Int)
        · subst hk
          rw [show ((i : Int)).toNat = i by omega]
          refine ⟨?_, ?_⟩
          · rw [z16, if_neg (by omega), d4 (by decide), e1]
          · rw [z16, if_pos rfl, e2]
        · have ho : ∀ x, 0 ≤ x → x < 2 → z 16 (k * 2 + x) = s 16 (k * 2 + x) := fun x x0 x1 => by
            rw [z16, if_neg (by omega), d3 _ (by omega), qset_cell _ (by decide)]
          rw [ho 0 (by decide) (by decide), ho 1 (by decide) (by decide)]
          exact hC.2 k k0 (by omega)
      · rw [a3 c c1 c2 c3, qset_cell _ c1, zc c c1 c3, d2 c c2 c3, qset_cell _ c1]
theorem c83 (hB : qB B n) (hP : qCP s π) (hA : qAt s0 B n p s) (h0 : 8 ≤ p) (h1 : p ≤ n) (hr : s 15 2 = 0) (H : qRes (rBoots π B n p) (fun e => ∀ s', qFt s0 n e s' → g 0 s') (fun r => ∀ s', qAt s0 B n r s' → qBoo s' B (p + 2) (b2 B p) → (∀ c, c ≠ 1 → c ≠ 15 → c ≠ 16 → s' c = s c) → fv s')) : qW w 4 83 [.ref 8] s (qPV fv g) := by
  unfold rBoots at H
  rw [qRes_bd] at H
  refine k83 (c_u2 hB hA (by omega) h1 (qRes_mono H (fun _ _ h => h) (fun m hm H => ?_)))
  obtain ⟨q1, rfl⟩ := rU2_r hm
  have r1 := b2_rg hB (p := p) (by omega) q1
  refine c83_loop (π := π) (s0 := s0) hB (a := p + 2) (m := b2 B p) (by omega) r1 (b2 B p).toNat 0 (qset s 1 2 (p + 2)) (by omega) (hA.mv _) (by unfold bpos; omega) q1 (qAt.pool hP _) ⟨by rw [qset_cell _ (by decide)]; exact hr, fun k k0 k1 => absurd k1 (by omega)⟩ (qRes_mono H (fun _ _ h => h) (fun r _ H s' a1 a2 a3 => H s' a1 a2 (fun c c1 c2 c3 => ?_)))
  rw [a3 c c1 c2 c3, qset_cell _ c1]
/-- one step of find -/
theorem c71_step (hw : qfv w) {nm pl v i : Int} {o : Nat} (hi : 0 ≤ i ∧ i < 10) (hr : Rg nm) (hv : Rg v) (hP : qCP s π) (h2 : qXo (10 + i.toNat) 2 = some (qI pl)) (hpl : Rg pl) (h3 : qXo (10 + i.toNat) 3 = some (.retAddr o)) (ho : qso o)
    (H1 : pl = v → pspells π nm (qstr o) = true → fa (10 + i.toNat) s) (H2 : ¬ (pl = v ∧ pspells π nm (qstr o) = true) → qR w 6 qm71 2 [(0, .ref 8), (1, qI v), (2, qI nm), (3, qI (i + 1))] [] s (qPA fa g)) : qR w 6 qm71 2 [(0, .ref 8), (1, qI v), (2, qI nm), (3, qI i)] [] s (qPA fa g) := by
  refine k71_2 ⟨⟨by omega, by omega⟩, fun _ => ⟨hi.1, hi.2, pl, h2, by omega, hpl, hv, fun c => ⟨hi.1, hi.2, o, h3, by omega, c72 hw ho hP hr ⟨bi_rg _, fun z => k71_47 (H2 ?_), fun z => ⟨hi.1, hi.2, H1 c ?_⟩⟩⟩, fun c => k71_47 (H2 (fun y => c y.1))⟩, fun c => absurd c (by omega)⟩
  · rw [bi_0] at z
    rintro ⟨-, y⟩
    rw [z] at y
    exact absurd y (by decide)
  · rw [bi_n] at z
    exact z
theorem c71 (hw : qfv w) {nm v : Int} (hr : Rg nm) (hv : v = 1 ∨ v = 2 ∨ v = 3) (hP : qCP s π) (H : fa (10 + (kFind π v nm).toNat) s) : qW w 7 71 [.ref 8, qI v, qI nm] s (qPA fa g) := by
  have hv2 : Rg v := ⟨by omega, by omega⟩
  unfold kFind at H
  refine k71 ?_
  refine c71_step hw (pl := 0) (o := 130) ⟨by decide, by decide⟩ hr hv2 hP rfl ⟨by decide, by decide⟩ rfl ⟨by decide, by decide, by decide +kernel⟩ (fun c => absurd c (by omega)) (fun _ => ?_)
  refine c71_step hw (pl := 1) (o := 132) ⟨by decide, by decide⟩ hr hv2 hP rfl ⟨by decide, by decide⟩ rfl qso132 (fun c1 c2 => ?_) (fun c10 => ?_)
  · rw [qw1] at c2
    rw [if_pos ⟨c1.symm, c2⟩] at H
    exact H
  rw [qw1] at c10
  rw [if_neg (fun y => c10 ⟨y.1.symm, y.2⟩)] at H
  refine c71_step hw (pl := 2) (o := 134) ⟨by decide, by decide⟩ hr hv2 hP rfl ⟨by decide, by decide⟩ rfl qso134 (fun c1 c2 => ?_) (fun c11 => ?_)
  · rw [qw2] at c2
    rw [if_pos ⟨c1.symm, c2⟩] at H
    exact H
  rw [qw2] at c11
  rw [if_neg (fun y => c11 ⟨y.1.symm, y.2⟩)] at H
  refine c71_step hw (pl := 2) (o := 136) ⟨by decide, by decide⟩ hr hv2 hP rfl ⟨by decide, by decide⟩ rfl qso136 (fun c1 c2 => ?_) (fun c12 => ?_)
  · rw [qw3] at c2
    rw [if_pos ⟨c1.symm, c2⟩] at H
    exact H
  rw [qw3] at c12
  rw [if_neg (fun y => c12 ⟨y.1.symm, y.2⟩)] at H
  refine c71_step hw (pl := 3) (o := 138) ⟨by decide, by decide⟩ hr hv2 hP rfl ⟨by decide, by decide⟩ rfl qso138 (fun c1 c2 => ?_) (fun c13 => ?_)
  · rw [qw4] at c2
    rw [if_pos ⟨c1.symm, c2⟩] at H
    exact H
  rw [qw4] at c13
  rw [if_neg (fun y => c13 ⟨y.1.symm, y.2⟩)] at H
  refine c71_step hw (pl := 3) (o := 140) ⟨by decide, by decide⟩ hr hv2 hP rfl ⟨by decide, by decide⟩ rfl qso140 (fun c1 c2 => ?_) (fun c14 => ?_)
  · rw [qw5] at c2
    rw [if_pos ⟨c1.symm, c2⟩] at H
    exact H
  rw [qw5] at c14
  rw [if_neg (fun y => c14 ⟨y.1.symm, y.2⟩)] at H
  refine c71_step hw (pl := 3) (o := 142) ⟨by decide, by decide⟩ hr hv2 hP rfl ⟨by decide, by decide⟩ rfl qso142 (fun c1 c2 => ?_) (fun c15 => ?_)
  · rw [qw6] at c2
    rw [if_pos ⟨c1.symm, c2⟩] at H
    exact H
  rw [qw6] at c15
  rw [if_neg (fun y => c15 ⟨y.1.symm, y.2⟩)] at H
  refine c71_step hw (pl := 3) (o := 144) ⟨by decide, by decide⟩ hr hv2 hP rfl ⟨by decide, by decide⟩ rfl qso144 (fun c1 c2 => ?_) (fun c16 => ?_)
  · rw [qw7] at c2
    rw [if_pos ⟨c1.symm, c2⟩] at H
    exact H
  rw [qw7] at c16
  rw [if_neg (fun y => c16 ⟨y.1.symm, y.2⟩)] at H
  refine c71_step hw (pl := 3) (o := 146) ⟨by decide, by decide⟩ hr hv2 hP rfl ⟨by decide, by decide⟩ rfl qso146 (fun c1 c2 => ?_) (fun c17 => ?_)
  · rw [qw8] at c2
    rw [if_pos ⟨c1.symm, c2⟩] at H
    exact H
  rw [qw8] at c17
  rw [if_neg (fun y => c17 ⟨y.1.symm, y.2⟩)] at H
  refine c71_step hw (pl := 3) (o := 148) ⟨by decide, by decide⟩ hr hv2 hP rfl ⟨by decide, by decide⟩ rfl qso148 (fun c1 c2 => ?_) (fun c18 => ?_)
  · rw [qw9] at c2
    rw [if_pos ⟨c1.symm, c2⟩] at H
    exact H
  rw [qw9] at c18
  rw [if_neg (fun y => c18 ⟨y.1.symm, y.2⟩)] at H
  exact k71_2 ⟨⟨by decide, by decide⟩, fun c => absurd c (by decide), fun _ => H⟩
end AT2
