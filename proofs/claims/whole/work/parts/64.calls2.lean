/-! THE CLASS'S CALLS, the plain ones: bytes, patch, cut, where, entry, text, whole, member, linkage -/
/-- byte i of a long -/
def wb (x : Int64) (i : Int) : Int := qand (((Int64.toInt32 (((x).toUInt64 >>> ((Int32.ofInt (8 * i)).toInt64.toUInt64 &&& Int64.toUInt64 63)).toInt64))).toInt) 255
def apF (x : Int64) : Nat → (Int → Int) → Int → (Int → Int)
  | 0, F, _ => F
  | c + 1, F, sz => apF x c (upI F sz (wb x c)) (sz + 1)
theorem qset_upI (s : qS) (k : Nat) (j v : Int) : qset s k j v k = upI (s k) j v := by
  funext j'
  rw [qset_same]
  rfl
theorem wb_rg (x : Int64) (i : Int) : 0 ≤ wb x i ∧ wb x i ≤ 255 := qand_rg (m := 255) (by decide)
theorem apF_rg (x : Int64) : ∀ (c : Nat) (F : Int → Int) (sz : Int), (∀ i, 0 ≤ i → i < sz → 0 ≤ F i ∧ F i ≤ 255) → ∀ i, 0 ≤ i → i < sz + c → 0 ≤ apF x c F sz i ∧ apF x c F sz i ≤ 255 := by
  intro c
  induction c with
  | zero => intro F sz h i i0 i1; exact h i i0 (by omega)
  | succ c ih =>
    intro F sz h i i0 i1
    refine ih _ _ (fun j j0 j1 => ?_) i i0 (by omega)
    rw [upI_at]
    split
    · exact wb_rg _ _
    · exact h j j0 (by omega)
theorem apF_cong (x : Int64) : ∀ (c : Nat) (F G : Int → Int) (sz : Int), (∀ i, 0 ≤ i → i < sz → F i = G i) → ∀ i, 0 ≤ i → i < sz + c → apF x c F sz i = apF x c G sz i := by
  intro c
  induction c with
  | zero => intro F G sz h i i0 i1; exact h i i0 (by omega)
  | succ c ih =>
    intro F G sz h i i0 i1
    refine ih _ _ _ (fun j j0 j1 => ?_) i i0 (by omega)
    rw [upI_at, upI_at]
    split
    · rfl
    · exact h j j0 (by omega)
/-- what is asked of the class behind a read, and what is left alone by the calls between -/
def qRd (B : Int → Int) (r : qRes2) (s : qS) : Prop := qCP s (mkP B r.1) ∧ qCK s (mkP B r.1) ∧ s 17 6 = b2 B 4 ∧ s 17 7 = b2 B 6 ∧ qHd s B r.2.1 ∧ qMem s 20 B (slF (mkP B r.1)) r.2.2.2.1.2.1 r.2.2.2.1.2.2 (b2 B r.2.2.1) ∧ qMem s 22 B (slM (mkP B r.1)) r.2.2.2.2.1.2.1 r.2.2.2.2.1.2.2 (b2 B r.2.2.2.1.1) ∧ qAH s B r.2.2.2.2.2.2
theorem qFin.rd {s0 s : qS} {B : Int → Int} {n : Int} {r : qRes2} (h : qFin s0 B n r s) : qRd B r s := h.2.2.2.2.2
theorem qMem.fr {s s' : qS} {t : Nat} {B : Int → Int} {sl : Int → Int} {MP : Int → Int} {MA : Int → Int → Int} {m : Int} (h : qMem s t B sl MP MA m) (h0 : s' t = s t) (h1 : s' (t + 1) = s (t + 1)) : qMem s' t B sl MP MA m := ⟨by rw [h0]; exact h.1, fun k a b => (h.2 k a b).fr (i := k + 1) (by omega) (fun y _ => by rw [h1])⟩
theorem qRd.fr {s s' : qS} {B : Int → Int} {r : qRes2} (h : qRd B r s) (hk : ∀ k, 3 ≤ k → k ≤ 23 → s' k = s k) : qRd B r s' := by
  obtain ⟨a1, a2, a3, a4, a5, a6, a7, a8⟩ := h
  have e : ∀ k, (3 ≤ k ∧ k ≤ 23) → s' k = s k := fun k h => hk k h.1 h.2
  refine ⟨a1.fr (e 4 (by decide)) (e 5 (by decide)) (e 6 (by decide)), a2.fr (e 5 (by decide)), by rw [e 17 (by decide)]; exact a3, by rw [e 17 (by decide)]; exact a4, ?_, a6.fr (e 20 (by decide)) (e 21 (by decide)), a7.fr (e 22 (by decide)) (e 23 (by decide)), ?_⟩
  · unfold qHd qCol at a5 ⊢
    rw [e 17 (by decide), e 18 (by decide), e (18 + 1) (by decide)]
    exact a5
  · obtain ⟨b1, b2', b3, b4', b5, b6, b7⟩ := a8
    refine ⟨by rw [e 8 (by decide)]; exact b1, by rw [e 8 (by decide)]; exact b2', by rw [e 8 (by decide)]; exact b3, b4'.fr (e 9 (by decide)) (e 10 (by decide)), b5.fr (e 11 (by decide)) (e 12 (by decide)), b6.fr (e 13 (by decide)) (e 14 (by decide)), b7.fr (e 15 (by decide)) (e 16 (by decide))⟩
def aEntry (π : qP) (i wh : Int) : Int := if wh < 0 ∨ 3 < wh then -1 else if pT π i = 0 then -2 else if wh = 0 then pT π i else if wh = 1 then pF π i else if wh = 2 then pS π i else pO π i
def aText (π : qP) (i k : Int) : Int := pchar π (ptext π i) k
def cntE (π : qP) : Nat → Int → Int
  | 0, _ => 0
  | d + 1, i => (if 0 < pT π i then 1 else 0) + cntE π d (i + 1)
def aWhole (B : Int → Int) (r : qRes2) (wh : Int) : Int := if wh = 0 then b2 B r.2.1 else if wh = 1 then b2 B (r.2.1 + 2) else if wh = 2 then b2 B (r.2.1 + 4) else if wh = 3 then b2 B (r.2.1 + 6) else if wh = 4 then b2 B r.2.2.1 else if wh = 5 then b2 B r.2.2.2.1.1 else if wh = 6 then b2 B 6 else if wh = 7 then b2 B 4 else if wh = 8 then cntE (mkP B r.1) (r.1 - 1).toNat 1 else if 20 ≤ wh ∧ wh ≤ 119 then (if wh - 20 < b2 B (r.2.1 + 6) then b2 B (r.2.1 + 8 + 2 * (wh - 20)) else -2) else -1
def mCol (B : Int → Int) (sl : Int → Int) (q : Int) (att : Int → Int) (wh : Int) : Int := if wh = 0 then b2 B q else if wh = 1 then b2 B (q + 2) else if wh = 2 then b2 B (q + 4) else if wh = 3 then b2 B (q + 6) else if wh = 4 then sl (b2 B (q + 4)) else if wh = 5 then vVal B att else if wh = 6 then vHan B att else vThr B att
def aMem (B : Int → Int) (sl : Int → Int) (MP : Int → Int) (MA : Int → Int → Int) (m k wh : Int) : Int := if wh < 0 ∨ 8 ≤ wh then -1 else if 0 ≤ k ∧ k < m then mCol B sl (MP k) (MA k) wh else -2
def aMember (B : Int → Int) (r : qRes2) (me : Int) (k wh : Int) : Int := if me = 0 then aMem B (slF (mkP B r.1)) r.2.2.2.1.2.1 r.2.2.2.1.2.2 (b2 B r.2.2.1) k wh else aMem B (slM (mkP B r.1)) r.2.2.2.2.1.2.1 r.2.2.2.2.1.2.2 (b2 B r.2.2.2.1.1) k wh
/-- a list at x (its count, its rows' k-th column), or none -/
def vCnt (B : Int → Int) (x : Int) : Int := if 0 ≤ x then b2 B x else 0
def aLs (B : Int → Int) (x k : Int) (col : Int → Int) : Int := if k = -1 then vCnt B x else if 0 ≤ k ∧ k < vCnt B x then col k else -2
def aLink (B : Int → Int) (att : Int → Int) (wh k : Int) : Int := if wh = 0 then vAt B (att 6) 0 else if wh = 1 then vAt B (att 5) 0 else if wh = 2 then vAt B (att 5) 2 else if wh = 3 then aLs B (att 7) k (fun k => b2 B (att 7 + 2 + 2 * k)) else if wh = 4 then aLs B (att 8) k (fun k => b2 B (att 8 + 2 + 2 * k)) else if 5 ≤ wh ∧ wh ≤ 8 then aLs B (att 4) k (fun k => b2 B (att 4 + 2 + 8 * k + 2 * (wh - 5))) else if wh = 9 ∨ wh = 10 then aLs B (att 9) k (fun k => b2 B (bpos B (att 9 + 2) k.toNat + 2 * (wh - 9))) else -1
section CL
variable {w : qE} {s s0 : qS} {B : Int → Int} {n : Int} {r : qRes2} {f : Int → qS → Prop} {fv : qS → Prop} {g : Nat → qS → Prop}
/-- what bytes leaves: the file and its size, at the cells that the class, or the model, keeps them in -/
theorem c9_loop {x : Int64} : ∀ (c : Nat) (s : qS), c ≤ 8 → 0 ≤ s 1 1 → s 1 1 + c ≤ 500 → (∀ s', s' 2 = apF x c (s 2) (s 1 1) → s' 1 1 = s 1 1 + c → (∀ j, j ≠ 1 → s' 1 j = s 1 j) → (∀ k, k ≠ 1 → k ≠ 2 → s' k = s k) → f (s 1 1 + c) s') → qR w 0 qm9 33 [(0, .ref 1), (1, .long x), (4, qI (c - 1))] [] s (qPI f g) := by
  intro c
  induction c with
  | zero =>
    intro s hc h0 h1 H
    refine k9_33 ⟨⟨by omega, by omega⟩, fun _ => ?_, fun y => absurd y (by omega)⟩
    have := H s rfl (by omega) (fun _ _ => rfl) (fun _ _ _ => rfl)
    rwa [show s 1 1 + ((0 : Nat) : Int) = s 1 1 by omega] at this
  | succ c ih =>
    intro s hc h0 h1 H
    refine k9_33 ⟨⟨by omega, by omega⟩, fun y => absurd y (by omega), fun _ => ⟨h0, by omega, ?_⟩⟩
    rw [show ((c + 1 : Nat) : Int) - 1 = (c : Int) by omega]
    have e1 : qset (qset s 2 (s 1 1) (wb x c)) 1 1 (s 1 1 + 1) 1 1 = s 1 1 + 1 := by simp [qset_eq]
    have := ih (qset (qset s 2 (s 1 1) (wb x c)) 1 1 (s 1 1 + 1)) (by omega) (by rw [e1]; omega) (by rw [e1]; omega) (fun s' a1 a2 a3 a4 => by
      rw [e1] at a1 a2 ⊢
      rw [show s 1 1 + 1 + (c : Int) = s 1 1 + ((c + 1 : Nat) : Int) by omega] at a2 ⊢
      refine H s' ?_ a2 (fun j hj => ?_) (fun k k1 k2 => ?_)
      · rw [a1, qset_cell _ (by decide), qset_upI]
        rfl
      · rw [a3 j hj, qset_same, if_neg hj, qset_cell _ (by decide)]
      · rw [a4 k k1 k2, qset_cell _ k1, qset_cell _ k2])
    exact this
theorem c8 {x : Int64} {m : Int} (hm : Rg m) (h0 : 0 ≤ s 1 1 ∧ s 1 1 ≤ 500) (H1 : (m < 1 ∨ 8 < m) → f (-1) s) (H2 : 1 ≤ m → m ≤ 8 → 500 < s 1 1 + m → f (-3) s) (H3 : 1 ≤ m → m ≤ 8 → s 1 1 + m ≤ 500 → ∀ s', s' 2 = apF x m.toNat (s 2) (s 1 1) → s' 1 1 = s 1 1 + m → (∀ j, j ≠ 1 → s' 1 j = s 1 j) → (∀ k, k ≠ 1 → k ≠ 2 → s' k = s k) → f (s 1 1 + m) s') : qW w 2 8 [.ref 0, .long x, qI m] s (qPI f g) := by
  refine k8 (k9 ⟨hm, fun c => k9_11 (H1 (by omega)), fun c1 => ⟨fun c => k9_11 (H1 (by omega)), fun c2 => ⟨⟨by omega, by omega⟩, fun c3 => H2 c1 c2 c3, fun c3 => ?_⟩⟩⟩)
  have := c9_loop (w := w) (g := g) (f := f) (x := x) m.toNat s (by omega) h0.1 (by omega) (by
    rw [show ((m.toNat : Nat) : Int) = m by omega]
    exact H3 c1 c2 c3)
  rw [show ((m.toNat : Nat) : Int) = m by omega] at this
  exact this
theorem c10 {a b : Int} (ha : Rg a) (hb : Rg b) (h0 : 0 ≤ s 1 1 ∧ s 1 1 ≤ 500) (H1 : ¬ (0 ≤ a ∧ a < s 1 1 ∧ 0 ≤ b ∧ b ≤ 255) → f 0 s) (H2 : 0 ≤ a → a < s 1 1 → 0 ≤ b → b ≤ 255 → f 1 (qset s 2 a b)) : qW w 2 10 [.ref 0, qI a, qI b] s (qPI f g) :=
  k10 (k11 ⟨ha, fun c => k11_23 ⟨Or.inl rfl, H1 (by omega)⟩, fun c1 => ⟨⟨by omega, by omega⟩, fun c2 => ⟨hb, fun c => k11_23 ⟨Or.inl rfl, H1 (by omega)⟩, fun c3 => ⟨fun c => k11_23 ⟨Or.inl rfl, H1 (by omega)⟩, fun c4 => ⟨c1, by omega, Or.inr rfl, H2 c1 c2 c3 c4⟩⟩⟩, fun c => k11_23 ⟨Or.inl rfl, H1 (by omega)⟩⟩⟩)
theorem c12 {a : Int} (ha : Rg a) (h0 : 0 ≤ s 1 1 ∧ s 1 1 ≤ 500) (H1 : ¬ (0 ≤ a ∧ a ≤ s 1 1) → f (-1) s) (H2 : 0 ≤ a → a ≤ s 1 1 → f (s 1 1 - a) (qset s 1 1 a)) : qW w 2 12 [.ref 0, qI a] s (qPI f g) :=
  k12 (k13 ⟨ha, fun c => k13_12 (H1 (by omega)), fun c1 => ⟨⟨by omega, by omega⟩, fun c => k13_12 (H1 (by omega)), fun c2 => H2 c1 c2⟩⟩)
theorem c14 (H : f (s 1 3) s) : qW w 2 14 [.ref 0] s (qPI f g) := k14 (k15 H)
theorem c95 (h : s 0 6 = 0 ∨ s 0 6 = 1) (H0 : s 0 6 = 0 → g 2 s) (H1 : s 0 6 = 1 → fv s) : qW w 1 95 [.ref 0] s (qPV fv g) :=
  k95 ⟨⟨by omega, by omega⟩, H0, fun c => H1 (by omega)⟩
theorem c94 {i wh : Int} (hi : Rg i) (hw : Rg wh) (h : s 0 6 = 0 ∨ s 0 6 = 1) (H0 : s 0 6 = 0 → g 2 s) (hF : s 0 6 = 1 → qRd B r s) (H1 : s 0 6 = 1 → f (aEntry (mkP B r.1) i wh) s) : qW w 3 94 [.ref 0, qI i, qI wh] s (qPI f g) := by
  refine k94 (c95 h H0 (fun h1 => ?_))
  have H := H1 h1
  obtain ⟨hP, -⟩ := hF h1
  have hok := hP.1
  have hT := (hok.2.2.2.1 i).1
  unfold aEntry at H
  refine ⟨hw, fun c => k94_13 ?_, fun c1 => ⟨fun c => k94_13 ?_, fun c2 => c96 hP hi ⟨bi_rg _, fun z => k94_43 ?_, fun z => ?_⟩⟩⟩
  · rw [if_pos (by omega)] at H; exact H
  · rw [if_pos (by omega)] at H; exact H
  · rw [bi_0, decide_eq_false_iff_not] at z
    rw [if_neg (by omega), if_pos (by omega)] at H; exact H
  · rw [bi_n, decide_eq_true_iff] at z
    have hr := hok.inr z
    rw [if_neg (by omega), if_neg (by omega)] at H
    obtain ⟨b0, b1, b2', b3, -⟩ := hP.2.2 i (by omega) hr.2
    refine c_get hP hi (by omega) (fun _ _ => k94_43 ?_) (fun y => absurd y (by omega))
    by_cases w0 : wh = 0
    · rw [if_pos w0] at H; rw [w0, b0]; exact H
    rw [if_neg w0] at H
    by_cases w1 : wh = 1
    · rw [if_pos w1] at H; rw [w1, b1]; exact H
    rw [if_neg w1] at H
    by_cases w2 : wh = 2
    · rw [if_pos w2] at H; rw [w2, b2']; exact H
    rw [if_neg w2] at H
    have w3 : wh = 3 := by omega
    rw [w3, b3]; exact H
theorem ptext_rg {π : qP} (h : qPok π) {i : Int} (hi : Rg i) : Rg (ptext π i) := by
  unfold ptext
  split
  · exact hi
  · split
    · exact pF_rg h i
    · exact ⟨by decide, by decide⟩
theorem c103 {i k : Int} (hi : Rg i) (hk : Rg k) (h : s 0 6 = 0 ∨ s 0 6 = 1) (H0 : s 0 6 = 0 → g 2 s) (hF : s 0 6 = 1 → qRd B r s) (H1 : s 0 6 = 1 → f (aText (mkP B r.1) i k) s) : qW w 4 103 [.ref 0, qI i, qI k] s (qPI f g) := by
  refine k103 (c95 h H0 (fun h1 => ?_))
  obtain ⟨hP, -⟩ := hF h1
  exact c104 hP hi (c65 hP (ptext_rg hP.1 hi) hk (H1 h1))
theorem c118_loop {π : qP} (hP : qCP s π) : ∀ (d : Nat) (i acc : Int), i + d = pE π → 1 ≤ i → f (acc + cntE π d i) s → qR w 2 qm118 4 [(0, .ref 3), (1, qI acc), (2, qI i)] [] s (qPI f g) := by
  have e1 := hP.1.2.1
  intro d
  induction d with
  | zero =>
    intro i acc h1 h2 H
    refine k118_4 (c34 (t := 4) (by decide) ?_)
    rw [hP.2.1]
    refine ⟨⟨by omega, by omega⟩, ⟨by omega, by omega⟩, fun c => absurd c (by omega), fun _ => ?_⟩
    rwa [cntE, Int.add_zero] at H
  | succ d ih =>
    intro i acc h1 h2 H
    refine k118_4 (c34 (t := 4) (by decide) ?_)
    rw [hP.2.1]
    unfold cntE at H
    refine ⟨⟨by omega, by omega⟩, ⟨by omega, by omega⟩, fun _ => c96 hP ⟨by omega, by omega⟩ ⟨bi_rg _, fun z => k118_26 (ih (i + 1) acc (by omega) (by omega) ?_), fun z => k118_26 (ih (i + 1) (acc + 1) (by omega) (by omega) ?_)⟩, fun c => absurd c (by omega)⟩
    · rw [bi_0, decide_eq_false_iff_not] at z
      rw [if_neg z, Int.zero_add] at H; exact H
    · rw [bi_n, decide_eq_true_iff] at z
      rw [if_pos z, ← Int.add_assoc] at H; exact H
theorem c117 {wh : Int} (hw : Rg wh) (hB : qB B n) (hR : s 0 6 = 1 → rRest B n = .inr r) (h : s 0 6 = 0 ∨ s 0 6 = 1) (H0 : s 0 6 = 0 → g 2 s) (hF : s 0 6 = 1 → qRd B r s) (H1 : s 0 6 = 1 → f (aWhole B r wh) s) : qW w 4 117 [.ref 0, qI wh] s (qPI f g) := by
  refine k117 (c95 h H0 (fun h1 => ?_))
  have H := H1 h1
  obtain ⟨hP, -, m6, m7, hH, hM1, hM2, -⟩ := hF h1
  have hok := hP.1
  unfold aWhole at H
  refine ⟨hw, fun c => ?_, fun c => ?_, fun c => ?_, fun c => c34 (t := 18) (by decide) ?_, fun c => c34 (t := 20) (by decide) ?_, fun c => c34 (t := 22) (by decide) ?_, fun c => ?_, fun c => ?_, fun c => ?_, fun n0 n1 n2 n3 n4 n5 n6 n7 n8 => ?_⟩
  · rw [if_pos c] at H; rw [hH.1]; exact H
  · rw [if_neg (by omega), if_pos c] at H; rw [hH.2.1]; exact H
  · rw [if_neg (by omega), if_neg (by omega), if_pos c] at H; rw [hH.2.2.1]; exact H
  · rw [if_neg (by omega), if_neg (by omega), if_neg (by omega), if_pos c] at H; rw [hH.2.2.2.1]; exact H
  · rw [if_neg (by omega), if_neg (by omega), if_neg (by omega), if_neg (by omega), if_pos c] at H; rw [hM1.1]; exact H
  · rw [if_neg (by omega), if_neg (by omega), if_neg (by omega), if_neg (by omega), if_neg (by omega), if_pos c] at H; rw [hM2.1]; exact H
  · rw [if_neg (by omega), if_neg (by omega), if_neg (by omega), if_neg (by omega), if_neg (by omega), if_neg (by omega), if_pos c] at H; rw [m7]; exact H
  · rw [if_neg (by omega), if_neg (by omega), if_neg (by omega), if_neg (by omega), if_neg (by omega), if_neg (by omega), if_neg (by omega), if_pos c] at H; rw [m6]; exact H
  · rw [if_neg (by omega), if_neg (by omega), if_neg (by omega), if_neg (by omega), if_neg (by omega), if_neg (by omega), if_neg (by omega), if_neg (by omega), if_pos c] at H
    have e := hok.1
    exact k118 (c118_loop hP (pE (mkP B r.1) - 1).toNat 1 0 (by omega) (by omega) (by rw [Int.zero_add]; exact H))
  · rw [if_neg n0, if_neg n1, if_neg n2, if_neg n3, if_neg n4, if_neg n5, if_neg n6, if_neg n7, if_neg n8] at H
    have eW : qwid 18 = 1 := rfl
    have eL : (qlen (18 + 1) : Int) = 250 := rfl
    obtain ⟨c1, c2⟩ := hH.2.2.2
    obtain ⟨-, f1, f2, f3, -⟩ := rRest_fin hB (hR h1)
    have h5 := hB.2.1
    refine ⟨fun c => k117_167 (k117_168 ?_), fun c => ⟨fun c3 => k117_167 (k117_168 ?_), fun c3 => ?_⟩⟩
    · rw [if_neg (by omega)] at H; exact H
    · rw [if_neg (by omega)] at H; exact H
    · rw [if_pos ⟨c, c3⟩] at H
      refine c36 (t := 18) (by decide) ⟨by omega, by omega⟩ ⟨by decide, by decide⟩ ⟨by rw [c1]; exact f3, by rw [c1, eW, eL]; omega⟩ (fun a1 a2 _ _ => k117_168 ?_) (fun a => k117_168 ?_)
      · rw [c1] at a2
        rw [if_pos a2] at H
        have := c2 _ a1 a2
        rw [eW]
        rw [show (18 + 1 : Nat) = 19 from rfl] at this ⊢
        rw [this]
        exact H
      · rw [c1, eW] at a
        rw [if_neg (by omega)] at H
        exact H
theorem c119 {me k wh : Int} (hme : Rg me) (hk : Rg k) (hw : Rg wh) (h : s 0 6 = 0 ∨ s 0 6 = 1) (H0 : s 0 6 = 0 → g 2 s) (hF : s 0 6 = 1 → qRd B r s) (hB : qB B n) (hR : s 0 6 = 1 → rRest B n = .inr r) (H1 : s 0 6 = 1 → f (aMember B r me k wh) s) : qW w 2 119 [.ref 0, qI me, qI k, qI wh] s (qPI f g) := by
  refine k119 (c95 h H0 (fun h1 => ?_))
  have H := H1 h1
  obtain ⟨hP, -, m6, m7, hH, hM1, hM2, -⟩ := hF h1
  obtain ⟨-, -, -, -, -, -, f1, f2, f3, f4, -⟩ := rRest_fin hB (hR h1)
  have key : ∀ (t : Nat) (sl : Int → Int) (MP : Int → Int) (MA : Int → Int → Int) (m : Int), qwid t = 8 → (qlen (t + 1) : Int) = 496 → qMem s t B sl MP MA m → 0 ≤ m ∧ m ≤ 62 → 0 ≤ wh → wh < 8 → f (aMem B sl MP MA m k wh) s → qW w 1 36 [.ref t, qI k, qI wh] s (qPI (fun r2 s2 => qR w 1 qm119 47 [] [qI r2] s2 (qPI f g)) g) := by
    intro t sl MP MA m hW hL hM hm w0 w8 H
    unfold aMem at H
    rw [if_neg (by omega)] at H
    refine c36 (t := t) (by omega) hk hw ⟨by rw [hM.1]; exact hm.1, by rw [hM.1, hW, hL]; omega⟩ (fun a1 a2 _ _ => k119_47 ?_) (fun a => k119_47 ?_)
    · rw [hM.1] at a2
      rw [if_pos ⟨a1, a2⟩] at H
      obtain ⟨e0, e1, e2, e3, e4, e5, e6, e7⟩ := hM.2 k a1 a2
      rw [hW]
      unfold mCol at H
      by_cases c0 : wh = 0
      · rw [if_pos c0] at H; rw [c0, e0]; exact H
      rw [if_neg c0] at H
      by_cases c1 : wh = 1
      · rw [if_pos c1] at H; rw [c1, e1]; exact H
      rw [if_neg c1] at H
      by_cases c2 : wh = 2
      · rw [if_pos c2] at H; rw [c2, e2]; exact H
      rw [if_neg c2] at H
      by_cases c3 : wh = 3
      · rw [if_pos c3] at H; rw [c3, e3]; exact H
      rw [if_neg c3] at H
      by_cases c4 : wh = 4
      · rw [if_pos c4] at H; rw [c4, e4]; exact H
      rw [if_neg c4] at H
      by_cases c5 : wh = 5
      · rw [if_pos c5] at H; rw [c5, e5]; exact H
      rw [if_neg c5] at H
      by_cases c6 : wh = 6
      · rw [if_pos c6] at H; rw [c6, e6]; exact H
      rw [if_neg c6] at H
      have c7 : wh = 7 := by omega
      rw [c7, e7]; exact H
    · rw [hM.1, hW] at a
      rw [if_neg (by omega)] at H; exact H
  unfold aMember at H
  refine ⟨hw, fun c => k119_14 ?_, fun c1 => ⟨fun c2 => ⟨hme, fun c => ?_, fun c => ?_⟩, fun c2 => k119_14 ?_⟩⟩
  · unfold aMem at H
    rw [if_pos (Or.inl c), if_pos (Or.inl c)] at H
    split at H <;> exact H
  · rw [if_pos c] at H
    exact key 20 _ _ _ _ rfl rfl hM1 ⟨f1, by omega⟩ c1 c2 H
  · rw [if_neg c] at H
    exact key 22 _ _ _ _ rfl rfl hM2 ⟨f3, by omega⟩ c1 c2 H
  · unfold aMem at H
    rw [if_pos (Or.inr c2), if_pos (Or.inr c2)] at H
    split at H <;> exact H
theorem c121 {t : Nat} {k c m cap : Int} {col : Int → Int} (ht : 0 < qwid t) (hk : Rg k) (hc : 0 ≤ c ∧ c < qwid t) (hm : s t 2 = m) (hn : 0 ≤ m ∧ m * qwid t ≤ (qlen (t + 1) : Int)) (hcol : ∀ k, 0 ≤ k → k < m → s (t + 1) (k * qwid t + c) = col k) (H : f (if k = -1 then m else if 0 ≤ k ∧ k < m then col k else -2) s) : qW w 2 121 [.ref t, qI k, qI c] s (qPI f g) := by
  have e3 := qwid_le t
  refine k121 ht ⟨hk, fun z => c34 ht (k121_18 ?_), fun z => c36 ht hk ⟨by omega, by omega⟩ (by rw [hm]; exact hn) (fun a1 a2 _ _ => k121_18 ?_) (fun a => k121_18 ?_)⟩
  · rw [if_pos z] at H; rw [hm]; exact H
  · rw [hm] at a2
    rw [if_neg z, if_pos ⟨a1, a2⟩] at H
    rw [hcol k a1 a2]; exact H
  · rw [hm] at a
    rw [if_neg z, if_neg (by omega)] at H; exact H
theorem aLs_eq {x k : Int} {col : Int → Int} {m : Int} (hm : m = vCnt B x) : aLs B x k col = if k = -1 then m else if 0 ≤ k ∧ k < m then col k else -2 := by rw [hm]; rfl
theorem c120 {wh k : Int} (hw : Rg wh) (hk : Rg k) (hB : qB B n) (hR : s 0 6 = 1 → rRest B n = .inr r) (h : s 0 6 = 0 ∨ s 0 6 = 1) (H0 : s 0 6 = 0 → g 2 s) (hF : s 0 6 = 1 → qRd B r s) (H1 : s 0 6 = 1 → f (aLink B r.2.2.2.2.2.2 wh k) s) : qW w 3 120 [.ref 0, qI wh, qI k] s (qPI f g) := by
  have h5 := hB.2.1
  refine k120 (c95 h H0 (fun h1 => ?_))
  have H := H1 h1
  obtain ⟨-, -, -, -, -, -, -, hA⟩ := hF h1
  obtain ⟨-, -, -, -, -, -, -, -, -, -, -, -, hO, hW, -, -⟩ := rRest_fin hB (hR h1)
  obtain ⟨a1, a2, a3, a4, a5, a6, a7⟩ := hA
  obtain ⟨w4, w5, w7, w8, w9⟩ := hW
  unfold aLink at H
  have hcol : ∀ (t : Nat) (x : Int), qwid t = 1 → (qlen (t + 1) : Int) = 250 → (x = -1 ∨ 8 ≤ x) → qHc s t B x → (0 ≤ x → 0 ≤ b2 B x ∧ x + 2 + 2 * b2 B x ≤ n) → f (aLs B x k (fun k => b2 B (x + 2 + 2 * k))) s → qW w 2 121 [.ref t, qI k, qI 0] s (qPI (fun r2 s2 => f r2 s2) g) := by
    intro t x e1 e2 hx hc hw H
    unfold qHc at hc
    by_cases c : 0 ≤ x
    · rw [if_pos c] at hc
      have hw := hw c
      refine c121 (m := b2 B x) (cap := 0) (col := fun k => b2 B (x + 2 + 2 * k)) (by omega) hk ⟨by decide, by omega⟩ hc.1 ⟨hw.1, by rw [e1, e2]; omega⟩ (fun k k0 k1 => by rw [e1]; exact hc.2 k k0 k1) ?_
      rw [aLs_eq (m := b2 B x) (by unfold vCnt; rw [if_pos c])] at H
      exact H
    · rw [if_neg c] at hc
      refine c121 (m := 0) (cap := 0) (col := fun k => b2 B (x + 2 + 2 * k)) (by omega) hk ⟨by decide, by omega⟩ hc ⟨by decide, by rw [e1, e2]; decide⟩ (fun k k0 k1 => absurd k1 (by omega)) ?_
      rw [aLs_eq (m := 0) (by unfold vCnt; rw [if_neg c])] at H
      exact H
  have hx : ∀ k, r.2.2.2.2.2.2 k = -1 ∨ 8 ≤ r.2.2.2.2.2.2 k := fun k => by have := hO.2.2.2 k; omega
  refine ⟨hw, fun c => ?_, fun c => ?_, fun c => ?_, fun c => ?_, fun c => ?_, fun c => ?_, fun c => ?_, fun n0 n1 n2 n3 n4 n5 n6 n7 n8 n9 n10 => ?_⟩
  · rw [if_pos c] at H; rw [a1]; exact H
  · rw [if_neg (by omega), if_pos c] at H; rw [a2]; exact H
  · rw [if_neg (by omega), if_neg (by omega), if_pos c] at H; rw [a3]; exact H
  · rw [if_neg (by omega), if_neg (by omega), if_neg (by omega), if_pos c] at H
    exact hcol 9 _ rfl rfl (hx 7) a4 w7 H
  · rw [if_neg (by omega), if_neg (by omega), if_neg (by omega), if_neg (by omega), if_pos c] at H
    exact hcol 11 _ rfl rfl (hx 8) a5 w8 H
  · rw [if_neg (by omega), if_neg (by omega), if_neg (by omega), if_neg (by omega), if_neg (by omega), if_pos (by omega)] at H
    have e1 : qwid 13 = 4 := rfl
    have e2 : (qlen (13 + 1) : Int) = 248 := rfl
    unfold qHi at a6
    by_cases cx : 0 ≤ r.2.2.2.2.2.2 4
    · rw [if_pos cx] at a6
      have hw4 := w4 cx
      have hx4 := hx 4
      refine c121 (t := 13) (c := wh - 5) (m := b2 B (r.2.2.2.2.2.2 4)) (cap := 0) (col := fun k => b2 B (r.2.2.2.2.2.2 4 + 2 + 8 * k + 2 * (wh - 5))) (by decide) hk ⟨by omega, by rw [e1]; omega⟩ a6.1 ⟨hw4.1, by rw [e1, e2]; omega⟩ (fun k k0 k1 => ?_) ?_
      · obtain ⟨b0, b1, b2', b3⟩ := a6.2 k k0 k1
        rw [e1, show (13 + 1 : Nat) = 14 from rfl]
        have : wh - 5 = 0 ∨ wh - 5 = 1 ∨ wh - 5 = 2 ∨ wh - 5 = 3 := by omega
        rcases this with y | y | y | y
        · rw [y, b0]; congr 1; omega
        · rw [y, b1]; congr 1
        · rw [y, b2']; congr 1
        · rw [y, b3]; congr 1
      · rw [aLs_eq (m := b2 B (r.2.2.2.2.2.2 4)) (by unfold vCnt; rw [if_pos cx])] at H
        exact H
    · rw [if_neg cx] at a6
      refine c121 (t := 13) (c := wh - 5) (m := 0) (cap := 0) (col := fun k => b2 B (r.2.2.2.2.2.2 4 + 2 + 8 * k + 2 * (wh - 5))) (by decide) hk ⟨by omega, by rw [e1]; omega⟩ a6 ⟨by decide, by decide⟩ (fun k k0 k1 => absurd k1 (by omega)) ?_
      rw [aLs_eq (m := 0) (by unfold vCnt; rw [if_neg cx])] at H
      exact H
  · rw [if_neg (by omega), if_neg (by omega), if_neg (by omega), if_neg (by omega), if_neg (by omega), if_neg (by omega), if_pos c] at H
    have e1 : qwid 15 = 2 := rfl
    have e2 : (qlen (15 + 1) : Int) = 250 := rfl
    unfold qHb at a7
    by_cases cx : 0 ≤ r.2.2.2.2.2.2 9
    · rw [if_pos cx] at a7
      have hw9 := w9 cx
      have hx9 := hx 9
      have hcap := hw9.2.2 (b2 B (r.2.2.2.2.2.2 9)).toNat (by omega)
      refine c121 (t := 15) (c := wh - 9) (m := b2 B (r.2.2.2.2.2.2 9)) (cap := 0) (col := fun k => b2 B (bpos B (r.2.2.2.2.2.2 9 + 2) k.toNat + 2 * (wh - 9))) (by decide) hk ⟨by omega, by rw [e1]; omega⟩ a7.1 ⟨hw9.1, by rw [e1, e2]; omega⟩ (fun k k0 k1 => ?_) ?_
      · obtain ⟨b0, b1⟩ := a7.2 k k0 k1
        rw [e1, show (15 + 1 : Nat) = 16 from rfl]
        have : wh - 9 = 0 ∨ wh - 9 = 1 := by omega
        rcases this with y | y
        · rw [y, b0]; congr 1; omega
        · rw [y, b1]; congr 1
      · rw [aLs_eq (m := b2 B (r.2.2.2.2.2.2 9)) (by unfold vCnt; rw [if_pos cx])] at H
        exact H
    · rw [if_neg cx] at a7
      refine c121 (t := 15) (c := wh - 9) (m := 0) (cap := 0) (col := fun k => b2 B (bpos B (r.2.2.2.2.2.2 9 + 2) k.toNat + 2 * (wh - 9))) (by decide) hk ⟨by omega, by rw [e1]; omega⟩ a7 ⟨by decide, by decide⟩ (fun k k0 k1 => absurd k1 (by omega)) ?_
      rw [aLs_eq (m := 0) (by unfold vCnt; rw [if_neg cx])] at H
      exact H
  · rw [if_neg n0, if_neg n1, if_neg n2, if_neg n3, if_neg n4, if_neg (by omega), if_neg (by omega)] at H
    exact H
end CL
