/-! MEMBERS: fields and methods; the class reads them -/
def isTw (π : qP) (B : Int → Int) (MP : Int → Int) (nm ds : Int) : Nat → Int → Bool
  | 0, _ => false
  | d + 1, j => (psame π (b2 B (MP j + 2)) nm && psame π (b2 B (MP j + 4)) ds) || isTw π B MP nm ds d (j + 1)
def aM (π : qP) (nm ds : Int) : Bool := if pfit π nm 128 = true then pspells π ds [40, 41, 86] else (!pfit π nm 64 || decide (pchar π ds (pF π ds - 1) = 86))
def rFH (π : qP) (B : Int → Int) (n k : Int) (MP : Int → Int) (q : Int) : Int ⊕ Unit := bd (rU2 B n q) (fun fl => bd (rCk (okFF fl) q) (fun _ => bd (rText π B n (q + 2) 1) (fun nm => bd (rText π B n (q + 4) 16) (fun ds => bd (rCk (!isTw π B MP nm ds k.toNat 0) (q + 2)) (fun _ => .inr ())))))
def rMH (π : qP) (B : Int → Int) (n k : Int) (MP : Int → Int) (q : Int) : Int ⊕ Unit := bd (rU2 B n q) (fun fl => bd (rCk (okMF fl) q) (fun _ => bd (rText π B n (q + 2) 2) (fun nm => bd (rText π B n (q + 4) 32) (fun ds => bd (rCk (aM π nm ds) (q + 4)) (fun _ => bd (rCk (!isTw π B MP nm ds k.toNat 0) (q + 2)) (fun _ => .inr ()))))))
/-- one member: its head, its attributes, and whether it has code where it must -/
def rMem (π : qP) (B : Int → Int) (n : Int) (me : Bool) (k : Int) (MP : Int → Int) (q : Int) : Int ⊕ (Int × (Int → Int)) :=
  if me = true then bd (rMH π B n k MP q) (fun _ => bd (rAtts π B n 2 (-2) (q + 6)) (fun r => bd (rCk (decide (qand (b2 B q) 1280 ≠ 0) != decide (0 ≤ r.2 2)) q) (fun _ => .inr r)))
  else bd (rFH π B n k MP q) (fun _ => rAtts π B n 1 (b2 B (q + 4)) (q + 6))
def upI (F : Int → Int) (k v : Int) : Int → Int := fun j => if j = k then v else F j
def upF (F : Int → Int → Int) (k : Int) (v : Int → Int) : Int → Int → Int := fun j => if j = k then v else F j
def rMs (π : qP) (B : Int → Int) (n : Int) (me : Bool) : Nat → Int → Int → (Int → Int) → (Int → Int → Int) → Int ⊕ (Int × (Int → Int) × (Int → Int → Int))
  | 0, _, q, MP, MA => .inr (q, MP, MA)
  | d + 1, k, q, MP, MA => bd (rMem π B n me k MP q) (fun r => rMs π B n me d (k + 1) r.1 (upI MP k q) (upF MA k r.2))
def rMbs (π : qP) (B : Int → Int) (n : Int) (me : Bool) (p : Int) : Int ⊕ (Int × (Int → Int) × (Int → Int → Int)) := bd (rU2 B n p) (fun m => rMs π B n me m.toNat 0 (p + 2) (fun _ => 0) (fun _ => att0))
def slF (π : qP) (ds : Int) : Int := if pchar π ds 0 = 74 ∨ pchar π ds 0 = 68 then 2 else 1
def slM (π : qP) (ds : Int) : Int := gSl (pC π ds) (pN π ds) 500 1 0
def qMRow (s : qS) (t : Nat) (B : Int → Int) (sl : Int → Int) (q : Int) (att : Int → Int) (k : Int) : Prop := s (t + 1) (k * 8 + 0) = b2 B q ∧ s (t + 1) (k * 8 + 1) = b2 B (q + 2) ∧ s (t + 1) (k * 8 + 2) = b2 B (q + 4) ∧ s (t + 1) (k * 8 + 3) = b2 B (q + 6) ∧ s (t + 1) (k * 8 + 4) = sl (b2 B (q + 4)) ∧ s (t + 1) (k * 8 + 5) = vVal B att ∧ s (t + 1) (k * 8 + 6) = vHan B att ∧ s (t + 1) (k * 8 + 7) = vThr B att
def qMem (s : qS) (t : Nat) (B : Int → Int) (sl : Int → Int) (MP : Int → Int) (MA : Int → Int → Int) (m : Int) : Prop := s t 2 = m ∧ ∀ k, 0 ≤ k → k < m → qMRow s t B sl (MP k) (MA k) k
theorem qMRow.fr {s s' : qS} {t : Nat} {B : Int → Int} {sl : Int → Int} {q : Int} {att : Int → Int} {k i : Int} (h : qMRow s t B sl q att k) (hk : k < i) (hy : ∀ y, y < i * 8 → s' (t + 1) y = s (t + 1) y) : qMRow s' t B sl q att k := by
  have e : ∀ x, 0 ≤ x → x < 8 → s' (t + 1) (k * 8 + x) = s (t + 1) (k * 8 + x) := fun x x0 x1 => hy _ (by omega)
  obtain ⟨a0, a1, a2, a3, a4, a5, a6, a7⟩ := h
  exact ⟨by rw [e 0 (by decide) (by decide)]; exact a0, by rw [e 1 (by decide) (by decide)]; exact a1, by rw [e 2 (by decide) (by decide)]; exact a2, by rw [e 3 (by decide) (by decide)]; exact a3, by rw [e 4 (by decide) (by decide)]; exact a4, by rw [e 5 (by decide) (by decide)]; exact a5, by rw [e 6 (by decide) (by decide)]; exact a6, by rw [e 7 (by decide) (by decide)]; exact a7⟩
/-- what a member's head leaves in row i -/
def qHR (s s' : qS) (t : Nat) (i fl nm ds sl : Int) : Prop := s' t 2 = i + 1 ∧ (∀ y, y < i * 8 → s' (t + 1) y = s (t + 1) y) ∧ s' (t + 1) (i * 8 + 0) = fl ∧ s' (t + 1) (i * 8 + 1) = nm ∧ s' (t + 1) (i * 8 + 2) = ds ∧ s' (t + 1) (i * 8 + 4) = sl ∧ ∀ c, c ≠ 1 → c ≠ t → c ≠ t + 1 → s' c = s c
theorem rText_r {π : qP} {B : Int → Int} {n q m v : Int} (h : rText π B n q m = .inr v) : q + 2 ≤ n ∧ v = b2 B q ∧ pfit π v m = true := by
  unfold rText at h
  obtain ⟨u, h1, h⟩ := bd_inr.mp h
  obtain ⟨x, h2, h⟩ := bd_inr.mp h
  obtain ⟨q1, rfl⟩ := rU2_r h1
  cases h
  exact ⟨q1, rfl, rCk_r h2⟩
theorem pfit_T {π : qP} {i m : Int} (h : pfit π i m = true) : pT π i = 1 := (of_decide_eq_true h).1
theorem qso108w : qstr 108 = [40, 41, 86] := by decide +kernel
section MB
variable {w : qE} {s s0 : qS} {B : Int → Int} {n p q : Int} {π : qP} {f : Int → qS → Prop} {fv : qS → Prop} {g : Nat → qS → Prop}
theorem c_set8 {t : Nat} (hW : qwid t = 8) (hL : (qlen (t + 1) : Int) = 496) {r c x : Int} (hn : 0 ≤ s t 2 ∧ s t 2 ≤ 62) (hi : 0 ≤ r ∧ r < s t 2) (hc : 0 ≤ c ∧ c < 8) (H : fv (qset s (t + 1) (r * 8 + c) x)) : qW w 1 27 [.ref t, qI r, qI c, qI x] s (qPV fv g) := by
  refine c27 (t := t) (by omega) ⟨by omega, by omega⟩ ⟨by omega, by omega⟩ ⟨hn.1, by rw [hW]; omega⟩ ⟨hi.1, hi.2, hc.1, by rw [hW]; exact hc.2⟩ ?_
  rw [hW]
  exact H
theorem c_get8 {t : Nat} (hW : qwid t = 8) (hL : (qlen (t + 1) : Int) = 496) {r c : Int} (hn : 0 ≤ s t 2 ∧ s t 2 ≤ 62) (hi : 0 ≤ r ∧ r < s t 2) (hc : 0 ≤ c ∧ c < 8) (H : f (s (t + 1) (r * 8 + c)) s) : qW w 1 36 [.ref t, qI r, qI c] s (qPI f g) := by
  refine c36 (t := t) (by omega) ⟨by omega, by omega⟩ ⟨by omega, by omega⟩ ⟨hn.1, by rw [hW]; omega⟩ (fun _ _ _ _ => ?_) (fun y => absurd ⟨hi.1, hi.2, hc.1, by rw [hW]; exact hc.2⟩ y)
  rw [hW]
  exact H
theorem c67_loop {t : Nat} (hW : qwid t = 8) (hL : (qlen (t + 1) : Int) = 496) (hP : qCP s π) {MP : Int → Int} {i nm ds : Int} (hn : 0 ≤ i ∧ i < s t 2 ∧ s t 2 ≤ 62) (hR : ∀ j, 0 ≤ j → j < i → s (t + 1) (j * 8 + 1) = b2 B (MP j + 2) ∧ s (t + 1) (j * 8 + 2) = b2 B (MP j + 4) ∧ Rg (b2 B (MP j + 2)) ∧ Rg (b2 B (MP j + 4))) (rn : Rg nm) (rd : Rg ds) : ∀ (d : Nat) (j : Int), 0 ≤ j → j + d = i → f (bi (isTw π B MP nm ds d j)) s → qR w 3 qm67 18 [(0, .ref 17), (1, .ref t), (2, qI i), (3, qI nm), (4, qI ds), (5, qI j)] [] s (qPI f g) := by
  have ht : 0 < qwid t := by omega
  intro d
  induction d with
  | zero =>
    intro j j0 h1 H
    exact k67_18 ht ⟨⟨by omega, by omega⟩, ⟨by omega, by omega⟩, fun c => absurd c (by omega), fun _ => H⟩
  | succ d ih =>
    intro j j0 h1 H
    obtain ⟨e1, e2, r1, r2⟩ := hR j j0 (by omega)
    unfold isTw at H
    refine k67_18 ht ⟨⟨by omega, by omega⟩, ⟨by omega, by omega⟩, fun _ => c_get8 hW hL ⟨by omega, by omega⟩ ⟨by omega, by omega⟩ (by decide) ?_, fun c => absurd c (by omega)⟩
    rw [e1]
    refine c68 hP r1 rn ⟨bi_rg _, fun z => k67_63 ht (ih (j + 1) (by omega) (by omega) ?_), fun z => c_get8 hW hL ⟨by omega, by omega⟩ ⟨by omega, by omega⟩ (by decide) ?_⟩
    · rw [bi_0] at z
      rw [z, Bool.false_and, Bool.false_or] at H
      exact H
    · rw [bi_n] at z
      rw [z, Bool.true_and] at H
      rw [e2]
      refine c68 hP r2 rd ⟨bi_rg _, fun z2 => k67_63 ht (ih (j + 1) (by omega) (by omega) ?_), fun z2 => ?_⟩
      · rw [bi_0] at z2
        rw [z2, Bool.false_or] at H
        exact H
      · rw [bi_n] at z2
        rw [z2, Bool.true_or] at H
        exact H
theorem c67 {t : Nat} (hW : qwid t = 8) (hL : (qlen (t + 1) : Int) = 496) (hP : qCP s π) {MP : Int → Int} {i nm ds : Int} (hn : 0 ≤ i ∧ i < s t 2 ∧ s t 2 ≤ 62) (hR : ∀ j, 0 ≤ j → j < i → s (t + 1) (j * 8 + 1) = b2 B (MP j + 2) ∧ s (t + 1) (j * 8 + 2) = b2 B (MP j + 4) ∧ Rg (b2 B (MP j + 2)) ∧ Rg (b2 B (MP j + 4))) (rn : Rg nm) (rd : Rg ds) (en : s (t + 1) (i * 8 + 1) = nm) (ed : s (t + 1) (i * 8 + 2) = ds) (H : f (bi (isTw π B MP nm ds i.toNat 0)) s) : qW w 4 67 [.ref 17, .ref t, qI i] s (qPI f g) := by
  refine k67 (by omega) (c_get8 hW hL ⟨by omega, by omega⟩ ⟨by omega, by omega⟩ (by decide) (c_get8 hW hL ⟨by omega, by omega⟩ ⟨by omega, by omega⟩ (by decide) ?_))
  rw [en, ed]
  exact c67_loop hW hL hP hn hR rn rd i.toNat 0 (by decide) (by omega) H
theorem c64 {t : Nat} (hW : qwid t = 8) (hL : (qlen (t + 1) : Int) = 496) {i fl nm ds : Int} (hi : s t 2 = i ∧ 0 ≤ i ∧ i ≤ 61) (H : ∀ s', s' t 2 = i + 1 → (∀ y, y < i * 8 → s' (t + 1) y = s (t + 1) y) → s' (t + 1) (i * 8 + 0) = fl → s' (t + 1) (i * 8 + 1) = nm → s' (t + 1) (i * 8 + 2) = ds → (∀ c, c ≠ t → c ≠ t + 1 → s' c = s c) → f i s') : qW w 4 64 [.ref t, qI fl, qI nm, qI ds] s (qPI f g) := by
  obtain ⟨d1, d2, d3, d4, d5⟩ := qaddW hW s (x := fl) hi.1
  refine k64 (by omega) (c25 (by omega) (by rw [hi.1, hW, hL]; omega) ?_)
  rw [hi.1]
  refine c_set8 hW hL ⟨by omega, by omega⟩ ⟨by omega, by omega⟩ (by decide) (c_set8 hW hL (by rw [qset_cell _ (by omega)]; omega) (by rw [qset_cell _ (by omega)]; omega) (by decide) (H _ ?_ (fun y hy => ?_) ?_ ?_ ?_ (fun c c1 c2 => ?_)))
  · rw [qset_cell _ (by omega), qset_cell _ (by omega), d1]
  · rw [qset_same, if_neg (by omega), qset_same, if_neg (by omega), d3 y hy]
  · rw [qset_same, if_neg (by omega), qset_same, if_neg (by omega), d4 (by decide)]
  · rw [qset_same, if_neg (by omega), qset_same, if_pos rfl]
  · rw [qset_same, if_pos rfl]
  · rw [qset_cell _ c2, qset_cell _ c2, d2 c c1 c2]
theorem c85 {t : Nat} (hW : qwid t = 8) (hL : (qlen (t + 1) : Int) = 496) (ht : 8 < t) {i cnt : Int} (hn : 0 ≤ i ∧ i < s t 2 ∧ s t 2 ≤ 62) (H : ∀ s', (∀ y, y < i * 8 → s' (t + 1) y = s (t + 1) y) → s' (t + 1) (i * 8 + 0) = s (t + 1) (i * 8 + 0) → s' (t + 1) (i * 8 + 1) = s (t + 1) (i * 8 + 1) → s' (t + 1) (i * 8 + 2) = s (t + 1) (i * 8 + 2) → s' (t + 1) (i * 8 + 3) = cnt → s' (t + 1) (i * 8 + 4) = s (t + 1) (i * 8 + 4) → s' (t + 1) (i * 8 + 5) = s 8 2 → s' (t + 1) (i * 8 + 6) = s 8 3 → s' (t + 1) (i * 8 + 7) = s 8 4 → (∀ c, c ≠ t + 1 → s' c = s c) → fv s') : qW w 2 85 [.ref 17, .ref t, qI i, qI cnt] s (qPV fv g) := by
  refine k85 (by omega) (c_set8 hW hL ⟨by omega, by omega⟩ ⟨by omega, by omega⟩ (by decide) ?_)
  rw [show qset s (t + 1) (i * 8 + 3) cnt 8 2 = s 8 2 by rw [qset_cell _ (by omega)]]
  refine c_set8 hW hL (by rw [qset_cell _ (by omega)]; omega) (by rw [qset_cell _ (by omega)]; omega) (by decide) ?_
  rw [show qset (qset s (t + 1) (i * 8 + 3) cnt) (t + 1) (i * 8 + 5) (s 8 2) 8 3 = s 8 3 by rw [qset_cell _ (by omega), qset_cell _ (by omega)]]
  refine c_set8 hW hL (by rw [qset_cell _ (by omega), qset_cell _ (by omega)]; omega) (by rw [qset_cell _ (by omega), qset_cell _ (by omega)]; omega) (by decide) ?_
  rw [show qset (qset (qset s (t + 1) (i * 8 + 3) cnt) (t + 1) (i * 8 + 5) (s 8 2)) (t + 1) (i * 8 + 6) (s 8 3) 8 4 = s 8 4 by rw [qset_cell _ (by omega), qset_cell _ (by omega), qset_cell _ (by omega)]]
  refine c_set8 hW hL (by rw [qset_cell _ (by omega), qset_cell _ (by omega), qset_cell _ (by omega)]; omega) (by rw [qset_cell _ (by omega), qset_cell _ (by omega), qset_cell _ (by omega)]; omega) (by decide) (H _ (fun y hy => ?_) ?_ ?_ ?_ ?_ ?_ ?_ ?_ ?_ (fun c hc => ?_))
  · rw [qset_same, if_neg (by omega), qset_same, if_neg (by omega), qset_same, if_neg (by omega), qset_same, if_neg (by omega)]
  · rw [qset_same, if_neg (by omega), qset_same, if_neg (by omega), qset_same, if_neg (by omega), qset_same, if_neg (by omega)]
  · rw [qset_same, if_neg (by omega), qset_same, if_neg (by omega), qset_same, if_neg (by omega), qset_same, if_neg (by omega)]
  · rw [qset_same, if_neg (by omega), qset_same, if_neg (by omega), qset_same, if_neg (by omega), qset_same, if_neg (by omega)]
  · rw [qset_same, if_neg (by omega), qset_same, if_neg (by omega), qset_same, if_neg (by omega), qset_same, if_pos rfl]
  · rw [qset_same, if_neg (by omega), qset_same, if_neg (by omega), qset_same, if_neg (by omega), qset_same, if_neg (by omega)]
  · rw [qset_same, if_neg (by omega), qset_same, if_neg (by omega), qset_same, if_pos rfl]
  · rw [qset_same, if_neg (by omega), qset_same, if_pos rfl]
  · rw [qset_same, if_pos rfl]
  · rw [qset_cell _ hc, qset_cell _ hc, qset_cell _ hc, qset_cell _ hc]
theorem c61 (hB : qB B n) (hP : qCP s π) (hK : qCK s π) (hA : qAt s0 B n q s) (h0 : 0 ≤ q) (h1 : q ≤ n) {i : Int} {MP : Int → Int} (hi : s 20 2 = i ∧ 0 ≤ i ∧ i ≤ 61) (hR : ∀ j, 0 ≤ j → j < i → s 21 (j * 8 + 1) = b2 B (MP j + 2) ∧ s 21 (j * 8 + 2) = b2 B (MP j + 4) ∧ Rg (b2 B (MP j + 2)) ∧ Rg (b2 B (MP j + 4))) (H : qRes (rFH π B n i MP q) (fun e => ∀ s', qFt s0 n e s' → g 0 s') (fun _ => ∀ s', qAt s0 B n (q + 6) s' → qHR s s' 20 i (b2 B q) (b2 B (q + 2)) (b2 B (q + 4)) (slF π (b2 B (q + 4))) → f i s')) : qW w 5 61 [.ref 17] s (qPI f g) := by
  have h5 := hB.2.1
  unfold rFH at H
  rw [qRes_bd] at H
  refine k61 (c_u2 hB hA h0 h1 (qRes_mono H (fun _ _ h => h) (fun fl hv H => c62 (c21 ?_))))
  obtain ⟨q1, rfl⟩ := rU2_r hv
  have hA1 := hA.mv (q + 2)
  have hP1 := qAt.pool hP (q + 2)
  have hK1 := qAt.kinds hK (q + 2)
  rw [qRes_bd] at H
  refine c_ck (p := q) hA1 rfl (by rw [hA1.2.1]; omega) (qRes_mono H (fun _ _ h => h) (fun _ _ H => ?_))
  rw [qRes_bd] at H
  refine c63 hB hP1 hK1 hA1 (by omega) q1 (qRes_mono H (fun _ _ h => h) (fun nm hn H => ?_))
  obtain ⟨q2, rfl, n1⟩ := rText_r hn
  have hA2 := hA1.mv (q + 2 + 2)
  have hP2 := qAt.pool hP1 (q + 2 + 2)
  have hK2 := qAt.kinds hK1 (q + 2 + 2)
  refine c21 ?_
  rw [hA2.2.1]
  rw [qRes_bd, show q + 4 = q + 2 + 2 by omega] at H
  refine c63 hB hP2 hK2 hA2 (by omega) q2 (qRes_mono H (fun _ _ h => h) (fun ds hd H => ?_))
  obtain ⟨q3, rfl, n2⟩ := rText_r hd
  have hA3 := hA2.mv (q + 2 + 2 + 2)
  have hP3 := qAt.pool hP2 (q + 2 + 2 + 2)
  have rn := b2_rg hB (p := q + 2) (by omega) q2
  have rd := b2_rg hB (p := q + 2 + 2) (by omega) q3
  obtain ⟨u, hu⟩ : ∃ u, u = qset (qset (qset s 1 2 (q + 2)) 1 2 (q + 2 + 2)) 1 2 (q + 2 + 2 + 2) := ⟨_, rfl⟩
  have uc : ∀ c, c ≠ 1 → u c = s c := fun c hc => by rw [hu, qset_cell _ hc, qset_cell _ hc, qset_cell _ hc]
  rw [← hu] at hA3 hP3 ⊢
  refine c64 (t := 20) rfl rfl (by rw [uc 20 (by decide)]; exact hi) (fun z z1 z2 z3 z4 z5 z6 => ?_)
  have hAz : qAt s0 B n (q + 2 + 2 + 2) z := hA3.fr (z6 1 (by decide) (by decide)) (z6 0 (by decide) (by decide)) (z6 2 (by decide) (by decide)) (fun k hk => z6 k (by omega) (by omega))
  have hPz : qCP z π := hP3.fr (z6 4 (by decide) (by decide)) (z6 5 (by decide) (by decide)) (z6 6 (by decide) (by decide))
  refine c65 hPz ⟨by omega, by omega⟩ ⟨by decide, by decide⟩ (c66 (pchar_rg hPz.1 _ _) ?_)
  rw [qRes_bd] at H
  have h100 : ∀ v : Int, v = slF π (b2 B (q + 2 + 2)) → qR w 4 qm61 100 [(0, .ref 17), (3, qI (q + 2 + 2 - 2)), (5, qI i)] [qI v, qI 4, qI i, .ref 20] z (qPI f g) := by
    intro v hv2
    refine k61_100 (c_set8 (t := 20) rfl rfl (by rw [z1]; omega) (by rw [z1]; omega) (by decide) ?_)
    have hAy := hAz.set (k := 20 + 1) (j := i * 8 + 4) (v := v) ⟨by decide, by decide⟩
    have hPy : qCP (qset z (20 + 1) (i * 8 + 4) v) π := hPz.setW (Or.inl (by decide))
    have yc : ∀ x, x ≠ 4 → 0 ≤ x → x < 8 → qset z (20 + 1) (i * 8 + 4) v 21 (i * 8 + x) = z 21 (i * 8 + x) := fun x x4 _ _ => by rw [qset_same, if_neg (by omega)]
    refine c67 (B := B) (t := 20) (MP := MP) (nm := b2 B (q + 2)) (ds := b2 B (q + 2 + 2)) rfl rfl hPy (by rw [qset_cell _ (by decide), z1]; omega) (fun j j0 j1 => ?_) ⟨by omega, by omega⟩ ⟨by omega, by omega⟩ (by rw [yc 1 (by decide) (by decide) (by decide)]; exact z4) (by rw [yc 2 (by decide) (by decide) (by decide)]; exact z5) ?_
    · have := hR j j0 j1
      rw [qset_same, if_neg (by omega), qset_same, if_neg (by omega), z2 _ (by omega), z2 _ (by omega), uc 21 (by decide)]
      exact this
    · have h125 : ∀ b : Bool, b = !isTw π B MP (b2 B (q + 2)) (b2 B (q + 2 + 2)) i.toNat 0 → qR w 4 qm61 125 [(3, qI (q + 2 + 2 - 2)), (5, qI i)] [qI (bi b), .ref 1] (qset z (20 + 1) (i * 8 + 4) v) (qPI f g) := by
        intro b hb
        refine k61_125 (c_ck (p := q + 2) hAy rfl (by omega) ?_)
        rw [hb]
        refine qRes_mono H (fun _ _ h => h) (fun _ _ H => ?_)
        have e6 : q + 6 = q + 2 + 2 + 2 := by omega
        have e4 : q + 4 = q + 2 + 2 := by omega
        have H : ∀ s', qAt s0 B n (q + 6) s' → qHR s s' 20 i (b2 B q) (b2 B (q + 2)) (b2 B (q + 2 + 2)) (slF π (b2 B (q + 2 + 2))) → f i s' := H
        rw [e6] at H
        refine H _ hAy ⟨by rw [qset_cell _ (by decide)]; exact z1, fun y hy => ?_, ?_, ?_, ?_, ?_, fun c c1 c2 c3 => ?_⟩
        · rw [qset_same, if_neg (by omega), z2 y hy, uc 21 (by decide)]
        · rw [yc 0 (by decide) (by decide) (by decide)]; exact z3
        · rw [yc 1 (by decide) (by decide) (by decide)]; exact z4
        · rw [yc 2 (by decide) (by decide) (by decide)]; exact z5
        · rw [qset_same, if_pos rfl]; exact hv2
        · rw [qset_cell _ c3, z6 c c2 c3, uc c c1]
      refine ⟨bi_rg _, fun z => h125 true ?_, fun z => h125 false ?_⟩
      · rw [bi_0] at z; rw [z]; rfl
      · rw [bi_n] at z; rw [z]; rfl
  refine ⟨bi_rg _, fun z => h100 1 ?_, fun z => h100 2 ?_⟩
  · rw [bi_0, decide_eq_false_iff_not] at z; unfold slF; rw [if_neg z]
  · rw [bi_n, decide_eq_true_iff] at z; unfold slF; rw [if_pos z]
/-- what is known of the attributes that were read -/
def attOk (B : Int → Int) (n pl : Int) (att : Int → Int) : Prop := (0 ≤ att 2 → 1 ≤ b4 B (att 2 + 4) ∧ b4 B (att 2 + 4) ≤ 65535) ∧ (pl ≠ 1 → att 1 = -1) ∧ (pl ≠ 2 → att 2 = -1 ∧ att 3 = -1) ∧ ∀ k, att k = -1 ∨ (8 ≤ att k ∧ att k + 2 ≤ n)
theorem rBody_rg {kn dc a len r : Int} (h : rBody π B n kn dc a len = .inr r) (h0 : 0 ≤ a) : 0 ≤ r ∧ r ≤ n := by
  unfold rBody at h
  by_cases c1 : kn = 1
  · rw [if_pos c1] at h
    obtain ⟨v, h1, h⟩ := bd_inr.mp h
    have := (rTake_r h1).1
    cases h; omega
  rw [if_neg c1] at h
  by_cases c2 : kn = 2
  · rw [if_pos c2] at h; exact rCode_rg h h0
  rw [if_neg c2] at h
  by_cases c3 : kn = 3
  · rw [if_pos c3] at h; exact rCls_rg h h0
  rw [if_neg c3] at h
  by_cases c4 : kn = 4
  · rw [if_pos c4] at h; exact rInner_rg h h0
  rw [if_neg c4] at h
  by_cases c5 : kn = 5
  · rw [if_pos c5] at h
    obtain ⟨v, h1, h⟩ := bd_inr.mp h
    obtain ⟨v, h2, h⟩ := bd_inr.mp h
    have := (rTake0_r h2).1
    cases h; omega
  rw [if_neg c5] at h
  by_cases c6 : kn = 6
  · rw [if_pos c6] at h
    obtain ⟨v, h1, h⟩ := bd_inr.mp h
    have := (rTake_r h1).1
    cases h; omega
  rw [if_neg c6] at h
  by_cases c7 : kn = 7
  · rw [if_pos c7] at h; exact rCls_rg h h0
  rw [if_neg c7] at h
  by_cases c8 : kn = 8
  · rw [if_pos c8] at h; exact rCls_rg h h0
  rw [if_neg c8] at h
  by_cases c9 : kn = 9
  · rw [if_pos c9] at h; exact rBoots_rg h h0
  rw [if_neg c9] at h
  obtain ⟨v, h1, h⟩ := bd_inr.mp h
  have := rBy_r h1
  cases h; omega
theorem rBody_2 {kn dc a len r : Int} (h : rBody π B n kn dc a len = .inr r) (h0 : 0 ≤ a) (hk : 1 ≤ kn ∧ kn ≤ 9) : a + 2 ≤ n := by
  unfold rBody at h
  by_cases c1 : kn = 1
  · rw [if_pos c1] at h
    obtain ⟨v, h1, h⟩ := bd_inr.mp h
    exact (rTake_r h1).1
  rw [if_neg c1] at h
  by_cases c2 : kn = 2
  · rw [if_pos c2] at h
    unfold rCode at h
    obtain ⟨v, h1, h⟩ := bd_inr.mp h
    have := rBy_r h1
    omega
  rw [if_neg c2] at h
  by_cases c3 : kn = 3
  · rw [if_pos c3] at h
    unfold rCls at h
    obtain ⟨v, h1, h⟩ := bd_inr.mp h
    exact (rU2_r h1).1
  rw [if_neg c3] at h
  by_cases c4 : kn = 4
  · rw [if_pos c4] at h
    unfold rInner at h
    obtain ⟨v, h1, h⟩ := bd_inr.mp h
    exact (rU2_r h1).1
  rw [if_neg c4] at h
  by_cases c5 : kn = 5
  · rw [if_pos c5] at h
    obtain ⟨v, h1, h⟩ := bd_inr.mp h
    exact (rTake_r h1).1
  rw [if_neg c5] at h
  by_cases c6 : kn = 6
  · rw [if_pos c6] at h
    obtain ⟨v, h1, h⟩ := bd_inr.mp h
    exact (rTake_r h1).1
  rw [if_neg c6] at h
  by_cases c7 : kn = 7
  · rw [if_pos c7] at h
    unfold rCls at h
    obtain ⟨v, h1, h⟩ := bd_inr.mp h
    exact (rU2_r h1).1
  rw [if_neg c7] at h
  by_cases c8 : kn = 8
  · rw [if_pos c8] at h
    unfold rCls at h
    obtain ⟨v, h1, h⟩ := bd_inr.mp h
    exact (rU2_r h1).1
  rw [if_neg c8, if_pos (by omega)] at h
  unfold rBoots at h
  obtain ⟨v, h1, h⟩ := bd_inr.mp h
  exact (rU2_r h1).1
theorem rCode_sz {a r : Int} (h : rCode π B n a = .inr r) : 1 ≤ b4 B (a + 4) ∧ b4 B (a + 4) ≤ 65535 := by
  unfold rCode at h
  obtain ⟨_, h1, h⟩ := bd_inr.mp h
  obtain ⟨sz, h2, h⟩ := bd_inr.mp h
  obtain ⟨_, h3, h⟩ := bd_inr.mp h
  obtain ⟨-, rfl⟩ := rU4_r h2
  exact of_decide_eq_true (rCk_r h3)
theorem rAt_inv {pl dc : Int} : ∀ (d : Nat) (q : Int) (att : Int → Int) (r : Int × (Int → Int)), 2 ≤ q → q ≤ n → attOk B n pl att → rAt π B n pl dc d q att = .inr r → attOk B n pl r.2 ∧ q ≤ r.1 ∧ r.1 ≤ n := by
  intro d
  induction d with
  | zero => intro q att r h0 h1 hI h; cases h; exact ⟨hI, by omega, h1⟩
  | succ d ih =>
    intro q att r h0 h1 hI h
    unfold rAt at h
    obtain ⟨nm, h2, h⟩ := bd_inr.mp h
    obtain ⟨_, h3, h⟩ := bd_inr.mp h
    obtain ⟨len, h4, h⟩ := bd_inr.mp h
    obtain ⟨z, h5, h⟩ := bd_inr.mp h
    obtain ⟨_, h6, h⟩ := bd_inr.mp h
    have e4 := rLen_r h4
    have e6 := of_decide_eq_true (rCk_r h6)
    have e5 := rBody_rg h5 (by omega)
    have kp := kFind_pl (π := π) (pl := pl) (nm := nm)
    have := ih z _ r (by omega) e5.2 ?_ h
    · exact ⟨this.1, by omega, this.2.2⟩
    · obtain ⟨i1, i2, i3, i4⟩ := hI
      by_cases k0 : kFind π pl nm = 0
      · rw [k0, kSet_0]; exact ⟨i1, i2, i3, i4⟩
      · have kp := kp k0
        refine ⟨fun y => ?_, fun y => ?_, fun y => ⟨?_, ?_⟩, fun k => ?_⟩
        · rw [kSet_at _ _ _ k0] at y ⊢
          by_cases c : 2 = kFind π pl nm
          · rw [if_pos c]
            unfold rBody at h5
            rw [if_neg (by omega), if_pos c.symm] at h5
            exact rCode_sz h5
          · rw [if_neg c] at y ⊢; exact i1 y
        · rw [kSet_at _ _ _ k0, if_neg (by omega)]; exact i2 y
        · rw [kSet_at _ _ _ k0, if_neg (by omega)]; exact (i3 y).1
        · rw [kSet_at _ _ _ k0, if_neg (by omega)]; exact (i3 y).2
        · rw [kSet_at _ _ _ k0]
          split
          · have := rBody_2 h5 (by omega) (by have := kFind_rg π pl nm; omega)
            right; omega
          · exact i4 k
theorem attOk0 (pl : Int) : attOk B n pl att0 := ⟨fun y => absurd y (by decide), fun _ => rfl, fun _ => ⟨rfl, rfl⟩, fun _ => Or.inl rfl⟩
theorem rAtts_inv {pl dc : Int} {r : Int × (Int → Int)} (h0 : 0 ≤ q) (h : rAtts π B n pl dc q = .inr r) : attOk B n pl r.2 ∧ q + 2 ≤ r.1 ∧ r.1 ≤ n := by
  unfold rAtts at h
  obtain ⟨m, h1, h⟩ := bd_inr.mp h
  exact rAt_inv _ _ _ _ (by omega) (rU2_r h1).1 (attOk0 pl) h
theorem upI_at (F : Int → Int) (k v j : Int) : upI F k v j = if j = k then v else F j := rfl
theorem upF_at (F : Int → Int → Int) (k : Int) (v : Int → Int) (j : Int) : upF F k v j = if j = k then v else F j := rfl
theorem rFH_r {k : Int} {MP : Int → Int} {v : Unit} (h : rFH π B n k MP q = .inr v) : q + 6 ≤ n ∧ pT π (b2 B (q + 4)) = 1 := by
  unfold rFH at h
  obtain ⟨_, h1, h⟩ := bd_inr.mp h
  obtain ⟨_, h2, h⟩ := bd_inr.mp h
  obtain ⟨_, h3, h⟩ := bd_inr.mp h
  obtain ⟨_, h4, h⟩ := bd_inr.mp h
  obtain ⟨e1, rfl, e3⟩ := rText_r h4
  exact ⟨by omega, pfit_T e3⟩
theorem c60_loop (hw : qfv w) (hB : qB B n) {m p0 : Int} (hp : 10 ≤ p0) (hm : 0 ≤ m ∧ m ≤ 65535) : ∀ (d : Nat) (k q : Int) (MP : Int → Int) (MA : Int → Int → Int) (s : qS), (d : Int) + k = m → 0 ≤ k → p0 + 8 * k ≤ q → q ≤ n → qAt s0 B n q s → qCP s π → qCK s π → qMem s 20 B (slF π) MP MA k → (∀ j, 0 ≤ j → j < k → Rg (b2 B (MP j + 2)) ∧ Rg (b2 B (MP j + 4))) → qRes (rMs π B n false d k q MP MA) (fun e => ∀ s', qFt s0 n e s' → g 0 s') (fun r => ∀ s', qAt s0 B n r.1 s' → qMem s' 20 B (slF π) r.2.1 r.2.2 m → (∀ c, c ≠ 1 → ¬ (8 ≤ c ∧ c ≤ 16) → c ≠ 20 → c ≠ 21 → s' c = s c) → fv s') → qR w 8 qm60 18 [(0, .ref 17), (1, qI m), (2, qI k)] [] s (qPV fv g) := by
  have h5 := hB.2.1
  intro d
  induction d with
  | zero =>
    intro k q MP MA s hd k0 hq h1 hA hP hK hC hR H
    have : k = m := by omega
    subst this
    exact k60_18 ⟨⟨by omega, by omega⟩, ⟨by omega, by omega⟩, fun c => absurd c (by omega), fun _ => H s hA hC (fun _ _ _ _ _ => rfl)⟩
  | succ d ih =>
    intro k q MP MA s hd k0 hq h1 hA hP hK hC hR H
    unfold rMs rMem at H
    rw [if_neg (by decide), qRes_bd, qRes_bd] at H
    have hk61 : k ≤ 61 := by omega
    refine k60_18 ⟨⟨by omega, by omega⟩, ⟨by omega, by omega⟩, fun _ => c61 (MP := MP) hB hP hK hA (by omega) h1 ⟨hC.1, k0, hk61⟩ (fun j j0 j1 => ?_) (qRes_mono H (fun _ _ h => h) (fun _ hv H z hAz hH => ?_)), fun c => absurd c (by omega)⟩
    · have := hC.2 j j0 j1
      exact ⟨this.2.1, this.2.2.1, hR j j0 j1⟩
    · obtain ⟨q6, t1⟩ := rFH_r hv
      obtain ⟨x1, x2, x3, x4, x5, x6, x7⟩ := hH
      have rn := b2_rg hB (p := q + 2) (by omega) (by omega)
      have rd := b2_rg hB (p := q + 4) (by omega) (by omega)
      have hPz : qCP z π := hP.fr (x7 4 (by decide) (by decide) (by decide)) (x7 5 (by decide) (by decide) (by decide)) (x7 6 (by decide) (by decide) (by decide))
      refine c_get8 (t := 20) rfl rfl (by rw [x1]; omega) (by rw [x1]; omega) (by decide) ?_
      rw [show z (20 + 1) (k * 8 + 2) = b2 B (q + 4) from x5]
      refine c69 hw hB (Or.inl rfl) ⟨by omega, by omega⟩ hPz hAz (by omega) q6 (fun y => absurd y (by decide)) (qRes_mono H (fun _ _ h => h) (fun r hr H y hAy hF hM _ => ?_))
      obtain ⟨iv, r1, r2⟩ := rAtts_inv (by omega) hr
      have y20 : y 20 = z 20 := hF 20 (by decide) (by decide)
      have y21 : y 21 = z 21 := hF 21 (by decide) (by decide)
      refine c85 (t := 20) rfl rfl (by decide) (by rw [y20, x1]; omega) (fun v v1 v2 v3 v4 v5 v6 v7 v8 v9 v10 => ?_)
      have hPv : qCP v π := hPz.fr (by rw [v10 4 (by decide), hF 4 (by decide) (by decide)]) (by rw [v10 5 (by decide), hF 5 (by decide) (by decide)]) (by rw [v10 6 (by decide), hF 6 (by decide) (by decide)])
      have hKv : qCK v π := hK.fr (by rw [v10 5 (by decide), hF 5 (by decide) (by decide), x7 5 (by decide) (by decide) (by decide)])
      have hAv : qAt s0 B n r.1 v := hAy.fr (v10 1 (by decide)) (v10 0 (by decide)) (v10 2 (by decide)) (fun c hc => v10 c (by omega))
      refine ih (k + 1) r.1 (upI MP k q) (upF MA k r.2) v (by omega) (by omega) (by omega) r2 hAv hPv hKv ⟨by rw [v10 20 (by decide), y20, x1], fun j j0 j1 => ?_⟩ (fun j j0 j1 => ?_) (qRes_mono H (fun _ _ h => h) (fun r _ H s' a1 a2 a3 => H s' a1 a2 (fun c c1 c2 c3 c4 => ?_)))
      · rw [upI_at, upF_at]
        by_cases hj : j = k
        · subst hj
          rw [if_pos rfl, if_pos rfl]
          refine ⟨?_, ?_, ?_, v5, ?_, ?_, ?_, ?_⟩
          · rw [v2, show y (20 + 1) = z 21 from y21]; exact x3
          · rw [v3, show y (20 + 1) = z 21 from y21]; exact x4
          · rw [v4, show y (20 + 1) = z 21 from y21]; exact x5
          · rw [v6, show y (20 + 1) = z 21 from y21]; exact x6
          · rw [v7]; exact hM.1
          · rw [v8]; exact hM.2.1
          · rw [v9]; exact hM.2.2
        · rw [if_neg hj, if_neg hj]
          refine (hC.2 j j0 (by omega)).fr (i := k) (by omega) (fun x hx => ?_)
          rw [v1 x hx, show y (20 + 1) = z 21 from y21]
          exact x2 x hx
      · rw [upI_at]
        by_cases hj : j = k
        · rw [if_pos hj]; exact ⟨⟨by omega, by omega⟩, ⟨by omega, by omega⟩⟩
        · rw [if_neg hj]; exact hR j j0 (by omega)
      · rw [a3 c c1 c2 c3 c4, v10 c c4, hF c c1 c2, x7 c c1 c3 c4]
theorem c60 (hw : qfv w) (hB : qB B n) (hP : qCP s π) (hK : qCK s π) (hA : qAt s0 B n p s) (h0 : 8 ≤ p) (h1 : p ≤ n) (H : qRes (rMbs π B n false p) (fun e => ∀ s', qFt s0 n e s' → g 0 s') (fun r => ∀ s', qAt s0 B n r.1 s' → qMem s' 20 B (slF π) r.2.1 r.2.2 (b2 B p) → (∀ c, c ≠ 1 → ¬ (8 ≤ c ∧ c ≤ 16) → c ≠ 20 → c ≠ 21 → s' c = s c) → fv s')) : qW w 9 60 [.ref 17] s (qPV fv g) := by
  unfold rMbs at H
  rw [qRes_bd] at H
  refine k60 (c24 (t := 20) (by decide) ?_)
  have hA1 := hA.set (k := 20) (j := 2) (v := 0) ⟨by decide, by decide⟩
  have hP1 : qCP (qset s 20 2 0) π := hP.setW (Or.inl (by decide))
  have hK1 : qCK (qset s 20 2 0) π := hK.setW (by decide)
  refine c_u2 hB hA1 (by omega) h1 (qRes_mono H (fun _ _ h => h) (fun m hm H => ?_))
  obtain ⟨q1, rfl⟩ := rU2_r hm
  have r1 := b2_rg hB (p := p) (by omega) q1
  refine c60_loop hw hB (p0 := p + 2) (by omega) r1 (b2 B p).toNat 0 (p + 2) (fun _ => 0) (fun _ => att0) _ (by omega) (by decide) (by omega) q1 (hA1.mv _) (qAt.pool hP1 _) (qAt.kinds hK1 _) ⟨by simp [qset_eq], fun k k0 k1 => absurd k1 (by omega)⟩ (fun j j0 j1 => absurd j1 (by omega)) (qRes_mono H (fun _ _ h => h) (fun r _ H s' a1 a2 a3 => H s' a1 a2 (fun c c1 c2 c3 c4 => ?_)))
  rw [a3 c c1 c2 c3 c4, qset_cell _ c1, qset_cell _ c3]
end MB
