/-! SHAPE: flags, the head; the class reads them -/
def bc3 (x : Int) : Int := x % 2 + x / 2 % 2 + x / 4 % 2
def fWays (fl : Int) : Int := bc3 (qand fl 7)
def okFl (fl : Int) : Bool := if qand fl 512 ≠ 0 then decide (qand fl 1024 ≠ 0 ∧ qand fl 16 = 0) else decide (¬ (qand fl 1024 ≠ 0 ∧ qand fl 16 ≠ 0))
def okFF (fl : Int) : Bool := decide (fWays fl ≤ 1 ∧ ¬ (qand fl 16 ≠ 0 ∧ qand fl 64 ≠ 0))
def okMF (fl : Int) : Bool := decide (fWays fl ≤ 1 ∧ ¬ (qand fl 1024 ≠ 0 ∧ qand fl 314 ≠ 0))
def rPl (π : qP) (B : Int → Int) (n q : Int) : Int ⊕ Int := bd (rU2 B n q) (fun v => bd (rCk (pplain π v) q) (fun _ => .inr v))
def rPls (π : qP) (B : Int → Int) (n : Int) : Nat → Int → Int ⊕ Int
  | 0, q => .inr q
  | d + 1, q => bd (rPl π B n q) (fun _ => rPls π B n d (q + 2))
def okPar (π : qP) (fl v : Int) : Bool := if v = 0 then decide (qand fl 512 = 0) else pplain π v
def rHead (π : qP) (B : Int → Int) (n p : Int) : Int ⊕ Int := bd (rU2 B n p) (fun fl => bd (rCk (okFl fl) p) (fun _ => bd (rPl π B n (p + 2)) (fun _ => bd (rU2 B n (p + 4)) (fun v => bd (rCk (okPar π fl v) (p + 4)) (fun _ => bd (rU2 B n (p + 6)) (fun m => rPls π B n m.toNat (p + 8)))))))
theorem rPl_r {π : qP} {B : Int → Int} {n q v : Int} (h : rPl π B n q = .inr v) : q + 2 ≤ n ∧ v = b2 B q ∧ pplain π v = true := by
  unfold rPl at h
  obtain ⟨u, h1, h⟩ := bd_inr.mp h
  obtain ⟨x, h2, h⟩ := bd_inr.mp h
  obtain ⟨q1, rfl⟩ := rU2_r h1
  cases h
  exact ⟨q1, rfl, rCk_r h2⟩
section SH
variable {w : qE} {s s0 : qS} {B : Int → Int} {n p : Int} {π : qP} {f : Int → qS → Prop} {fv : qS → Prop} {g : Nat → qS → Prop}
theorem seven {x : Int} (h : 0 ≤ x ∧ x ≤ 7) : x = 0 ∨ x = 1 ∨ x = 2 ∨ x = 3 ∨ x = 4 ∨ x = 5 ∨ x = 6 ∨ x = 7 := by omega
theorem c205 {x : Int} (h : 0 ≤ x ∧ x ≤ 7) (H : f (bc3 x) s) : qW w 1 205 [qI x] s (qPI f g) := by
  refine k205 ?_
  rcases seven h with e | e | e | e | e | e | e | e <;> (subst e; exact H)
theorem q7 (fl : Int) : 0 ≤ qand fl 7 ∧ qand fl 7 ≤ 7 := qand_rg (m := 7) (by decide)
theorem bc3_rg (x : Int) : 0 ≤ bc3 x ∧ bc3 x ≤ 3 := by unfold bc3; omega
theorem c57 {fl : Int} (H : f (bi (okFl fl)) s) : qW w 1 57 [qI fl] s (qPI f g) := by
  have key : ∀ b1 b2' : Bool, b1 = decide (qand fl 16 ≠ 0) → b2' = decide (qand fl 1024 ≠ 0) → qR w 0 qm57 26 [(0, qI fl), (1, qI (bi b1))] [qI (bi b2')] s (qPI f g) := by
    intro b1 b2' h1 h2
    unfold okFl at H
    have n1 : b1 = false → qand fl 16 = 0 := fun z => by rw [z] at h1; have := of_decide_eq_false h1.symm; omega
    have n2 : b2' = false → qand fl 1024 = 0 := fun z => by rw [z] at h2; have := of_decide_eq_false h2.symm; omega
    have y1 : b1 = true → qand fl 16 ≠ 0 := fun z => by rw [z] at h1; exact of_decide_eq_true h1.symm
    have y2 : b2' = true → qand fl 1024 ≠ 0 := fun z => by rw [z] at h2; exact of_decide_eq_true h2.symm
    refine k57_26 ⟨qand_Rg _ _, fun c => ⟨bi_rg _, fun z => k57_57 (k57_62 ⟨Or.inr rfl, ?_⟩), fun z => ⟨bi_rg _, fun z2 => k57_57 (k57_62 ⟨Or.inr rfl, ?_⟩), fun z2 => k57_62 ⟨Or.inl rfl, ?_⟩⟩⟩, fun c => ⟨bi_rg _, fun z => k57_47 (k57_48 ⟨Or.inl rfl, ?_⟩), fun z => ⟨bi_rg _, fun z2 => k57_48 ⟨Or.inr rfl, ?_⟩, fun z2 => k57_47 (k57_48 ⟨Or.inl rfl, ?_⟩)⟩⟩⟩
    · rw [bi_0] at z
      rw [if_neg (fun y => y c), decide_eq_true (show ¬ (qand fl 1024 ≠ 0 ∧ qand fl 16 ≠ 0) from fun y => y.1 (n2 z))] at H; exact H
    · rw [bi_0] at z2
      rw [if_neg (fun y => y c), decide_eq_true (show ¬ (qand fl 1024 ≠ 0 ∧ qand fl 16 ≠ 0) from fun y => y.2 (n1 z2))] at H; exact H
    · rw [bi_n] at z z2
      rw [if_neg (fun y => y c), decide_eq_false (fun y => y ⟨y2 z, y1 z2⟩)] at H; exact H
    · rw [bi_0] at z
      rw [if_pos c, decide_eq_false (fun y => y.1 (n2 z))] at H; exact H
    · rw [bi_n] at z; rw [bi_0] at z2
      rw [if_pos c, decide_eq_true ⟨y2 z, n1 z2⟩] at H; exact H
    · rw [bi_n] at z2
      rw [if_pos c, decide_eq_false (fun y => y1 z2 y.2)] at H; exact H
  have k12 : ∀ b1 : Bool, b1 = decide (qand fl 16 ≠ 0) → qR w 0 qm57 12 [(0, qI fl)] [qI (bi b1)] s (qPI f g) := by
    intro b1 h1
    exact k57_12 ⟨qand_Rg _ _, fun c => key b1 false h1 (decide_eq_false (fun y => y c)).symm, fun c => key b1 true h1 (decide_eq_true c).symm⟩
  exact k57 ⟨qand_Rg _ _, fun c => k12 false (decide_eq_false (fun y => y c)).symm, fun c => k12 true (decide_eq_true c).symm⟩
theorem c62 {fl : Int} (H : f (bi (okFF fl)) s) : qW w 2 62 [qI fl] s (qPI f g) := by
  have r7 := q7 fl
  have rb := bc3_rg (qand fl 7)
  unfold okFF fWays at H
  have k19 : ∀ b : Bool, b = decide (qand fl 16 ≠ 0 ∧ qand fl 64 ≠ 0) → qR w 1 qm62 19 [(0, qI fl)] [qI (bi b)] s (qPI f g) := by
    intro b hb
    refine k62_19 (c205 r7 ⟨⟨by omega, by omega⟩, fun c => k62_39 (k62_40 ⟨Or.inl rfl, ?_⟩), fun c => ⟨bi_rg _, fun z => k62_40 ⟨Or.inr rfl, ?_⟩, fun z => k62_39 (k62_40 ⟨Or.inl rfl, ?_⟩)⟩⟩)
    · rw [decide_eq_false (by omega)] at H; exact H
    · rw [bi_0] at z; rw [z] at hb
      rw [decide_eq_true ⟨c, of_decide_eq_false hb.symm⟩] at H; exact H
    · rw [bi_n] at z; rw [z] at hb
      rw [decide_eq_false (fun y => y.2 (of_decide_eq_true hb.symm))] at H; exact H
  exact k62 ⟨qand_Rg _ _, fun c => k62_18 (k19 false (decide_eq_false (fun y => y.1 c)).symm), fun c => ⟨qand_Rg _ _, fun c2 => k62_18 (k19 false (decide_eq_false (fun y => y.2 c2)).symm), fun c2 => k19 true (decide_eq_true ⟨c, c2⟩).symm⟩⟩
theorem c88 {fl : Int} (H : f (bi (okMF fl)) s) : qW w 2 88 [qI fl] s (qPI f g) := by
  have r7 := q7 fl
  have rb := bc3_rg (qand fl 7)
  unfold okMF fWays at H
  have k27 : ∀ b1 b2' : Bool, b1 = decide (qand fl 1024 ≠ 0) → b2' = decide (qand fl 314 ≠ 0) → qR w 1 qm88 27 [(0, qI fl), (1, qI (bi b1))] [qI (bi b2')] s (qPI f g) := by
    intro b1 b2' h1 h2
    refine k88_27 (c205 r7 ⟨⟨by omega, by omega⟩, fun c => k88_51 (k88_52 ⟨Or.inl rfl, ?_⟩), fun c => ⟨bi_rg _, fun z => k88_47 (k88_52 ⟨Or.inr rfl, ?_⟩), fun z => ⟨bi_rg _, fun z2 => k88_47 (k88_52 ⟨Or.inr rfl, ?_⟩), fun z2 => k88_51 (k88_52 ⟨Or.inl rfl, ?_⟩)⟩⟩⟩)
    · rw [decide_eq_false (by omega)] at H; exact H
    · rw [bi_0] at z; rw [z] at h1
      rw [decide_eq_true ⟨c, fun y => of_decide_eq_false h1.symm y.1⟩] at H; exact H
    · rw [bi_0] at z2; rw [z2] at h2
      rw [decide_eq_true ⟨c, fun y => of_decide_eq_false h2.symm y.2⟩] at H; exact H
    · rw [bi_n] at z z2; rw [z] at h1; rw [z2] at h2
      rw [decide_eq_false (fun y => y.2 ⟨of_decide_eq_true h1.symm, of_decide_eq_true h2.symm⟩)] at H; exact H
  have k13 : ∀ b1 : Bool, b1 = decide (qand fl 1024 ≠ 0) → qR w 1 qm88 13 [(0, qI fl)] [qI (bi b1)] s (qPI f g) := fun b1 h1 =>
    k88_13 ⟨qand_Rg _ _, fun c => k27 b1 false h1 (decide_eq_false (fun y => y c)).symm, fun c => k27 b1 true h1 (decide_eq_true c).symm⟩
  exact k88 ⟨qand_Rg _ _, fun c => k13 false (decide_eq_false (fun y => y c)).symm, fun c => k13 true (decide_eq_true c).symm⟩
theorem c58 (hB : qB B n) (hP : qCP s π) (hK : qCK s π) (hA : qAt s0 B n p s) (h0 : 0 ≤ p) (h1 : p ≤ n) (H : qRes (rPl π B n p) (fun e => ∀ s', qFt s0 n e s' → g 0 s') (fun v => f v (qset s 1 2 (p + 2)))) : qW w 4 58 [.ref 17] s (qPI f g) := by
  unfold rPl at H
  rw [qRes_bd] at H
  refine k58 (c_u2 hB hA h0 h1 (qRes_mono H (fun e _ h => h) (fun v hv H => ?_)))
  obtain ⟨q1, rfl⟩ := rU2_r hv
  have r := b2_rg hB h0 q1
  have hA2 := hA.mv (p + 2)
  rw [qRes_bd] at H
  exact c59 (qAt.pool hP (p + 2)) (qAt.kinds hK (p + 2)) ⟨by omega, by omega⟩ (c21 (c_ck (p := p) hA2 rfl (by rw [hA2.2.1]; omega) H))
theorem qCK.setW (h : qCK s π) {k : Nat} {j v : Int} (hk : k ≠ 5) : qCK (qset s k j v) π := h.fr (qset_cell _ (by omega))
theorem qCK.addW (h : qCK s π) {t : Nat} (ht : 7 < t) (x : Int) : qCK (qadd s t x) π := by
  obtain ⟨-, a2, -⟩ := qaddW (t := t) rfl s (x := x) rfl
  exact h.fr (a2 5 (by omega) (by omega))
theorem c56_loop (hB : qB B n) {a m : Int} (ha : 0 ≤ a) (hm : 0 ≤ m ∧ m ≤ 65535) : ∀ (d : Nat) (s : qS), (d : Int) ≤ m → qAt s0 B n (a + 2 * (m - d)) s → a + 2 * (m - d) ≤ n → qCP s π → qCK s π → qCol s 18 B a (m - d) → qRes (rPls π B n d (a + 2 * (m - d))) (fun e => ∀ s', qFt s0 n e s' → g 0 s') (fun r => ∀ s', qAt s0 B n r s' → qCol s' 18 B a m → (∀ c, c ≠ 1 → c ≠ 18 → c ≠ 19 → s' c = s c) → fv s') → qR w 4 qm56 128 [(0, .ref 17), (2, qI m), (3, qI (m - d))] [] s (qPV fv g) := by
  have h5 := hB.2.1
  intro d
  induction d with
  | zero =>
    intro s hd hA h1 hP hK hC H
    refine k56_128 ⟨⟨by omega, by omega⟩, ⟨by omega, by omega⟩, fun c => absurd c (by omega), fun _ => H s hA ?_ (fun _ _ _ _ => rfl)⟩
    rw [show m - ((0 : Nat) : Int) = m by omega] at hC
    exact hC
  | succ d ih =>
    intro s hd hA h1 hP hK hC H
    unfold rPls at H
    rw [qRes_bd] at H
    have e3 : m - ((d + 1 : Nat) : Int) + 1 = m - (d : Int) := by omega
    refine k56_128 ⟨⟨by omega, by omega⟩, ⟨by omega, by omega⟩, fun _ => c58 hB hP hK hA (by omega) h1 (qRes_mono H (fun _ _ h => h) (fun v hv H => ?_)), fun c => absurd c (by omega)⟩
    obtain ⟨q1, q2, -⟩ := rPl_r hv
    have hr : qset s 1 2 (a + 2 * (m - ((d + 1 : Nat) : Int)) + 2) 18 2 = m - ((d + 1 : Nat) : Int) := by rw [qset_cell _ (by omega)]; exact hC.1
    have eW : qwid 18 = 1 := rfl
    have eL : (qlen (18 + 1) : Int) = 250 := rfl
    refine c25 (t := 18) (by decide) (by rw [hr, eW, eL]; omega) ?_
    rw [e3]
    obtain ⟨d1, d2, d3, d4, -⟩ := qaddW eW (qset s 1 2 (a + 2 * (m - ((d + 1 : Nat) : Int)) + 2)) (x := v) hr
    have hA2 := (hA.mv (a + 2 * (m - ((d + 1 : Nat) : Int)) + 2)).addW (t := 18) ⟨by decide, by decide⟩ v
    have eq : a + 2 * (m - ((d + 1 : Nat) : Int)) + 2 = a + 2 * (m - (d : Int)) := by omega
    rw [eq] at hA2 H d1 d2 d3 d4 ⊢
    refine ih _ (by omega) hA2 (by omega) ((qAt.pool hP _).addW (by decide) v) ((qAt.kinds hK _).addW (by decide) v) ⟨by rw [d1]; omega, fun k k0 k1 => ?_⟩ (qRes_mono H (fun _ _ h => h) (fun r _ H s' a1 a2 a3 => H s' a1 a2 (fun c c1 c2 c3 => ?_)))
    · by_cases hk : k = m - ((d + 1 : Nat) : Int)
      · rw [hk, d4 (by decide), q2]
      · rw [d3 _ (by omega), qset_cell _ (by omega)]
        exact hC.2 k k0 (by omega)
    · rw [a3 c c1 c2 c3, d2 c c2 c3, qset_cell _ c1]
/-- what the head leaves -/
def qHd (s : qS) (B : Int → Int) (p : Int) : Prop := s 17 8 = b2 B p ∧ s 17 9 = b2 B (p + 2) ∧ s 17 10 = b2 B (p + 4) ∧ qCol s 18 B (p + 8) (b2 B (p + 6))
theorem c56 (hB : qB B n) (hP : qCP s π) (hK : qCK s π) (hA : qAt s0 B n p s) (h0 : 0 ≤ p) (h1 : p ≤ n) (H : qRes (rHead π B n p) (fun e => ∀ s', qFt s0 n e s' → g 0 s') (fun r => ∀ s', qAt s0 B n r s' → qHd s' B p → s' 17 6 = s 17 6 → s' 17 7 = s 17 7 → (∀ c, c ≠ 1 → c ≠ 17 → c ≠ 18 → c ≠ 19 → s' c = s c) → fv s')) : qW w 5 56 [.ref 17] s (qPV fv g) := by
  unfold rHead at H
  rw [qRes_bd] at H
  refine k56 (c_u2 hB hA h0 h1 (qRes_mono H (fun _ _ h => h) (fun fl hv H => c57 ?_)))
  obtain ⟨q1, e1⟩ := rU2_r hv
  have hA1 := (hA.mv (p + 2)).set (k := 17) (j := 8) (v := fl) ⟨by decide, by decide⟩
  have hP1 : qCP (qset (qset s 1 2 (p + 2)) 17 8 fl) π := (hP.setW (Or.inr rfl)).setW (Or.inl (by decide))
  have hK1 : qCK (qset (qset s 1 2 (p + 2)) 17 8 fl) π := (hK.setW (by decide)).setW (by decide)
  rw [qRes_bd] at H
  refine c21 (c_ck (p := p) hA1 rfl (by rw [hA1.2.1]; omega) (qRes_mono H (fun _ _ h => h) (fun _ _ H => ?_)))
  rw [qRes_bd] at H
  refine c58 hB hP1 hK1 hA1 (by omega) q1 (qRes_mono H (fun _ _ h => h) (fun v5 hv5 H => ?_))
  obtain ⟨q2, e2, -⟩ := rPl_r hv5
  have hA2 := (hA1.mv (p + 2 + 2)).set (k := 17) (j := 9) (v := v5) ⟨by decide, by decide⟩
  have hP2 : qCP (qset (qset (qset (qset s 1 2 (p + 2)) 17 8 fl) 1 2 (p + 2 + 2)) 17 9 v5) π := (hP1.setW (Or.inr rfl)).setW (Or.inl (by decide))
  have hK2 : qCK (qset (qset (qset (qset s 1 2 (p + 2)) 17 8 fl) 1 2 (p + 2 + 2)) 17 9 v5) π := (hK1.setW (by decide)).setW (by decide)
  rw [qRes_bd, show p + 4 = p + 2 + 2 by omega] at H
  refine c_u2 hB hA2 (by omega) q2 (qRes_mono H (fun _ _ h => h) (fun v6 hv6 H => ?_))
  obtain ⟨q3, e3⟩ := rU2_r hv6
  have r6 := b2_rg hB (p := p + 2 + 2) (by omega) q3
  have hA3 := (hA2.mv (p + 2 + 2 + 2)).set (k := 17) (j := 10) (v := v6) ⟨by decide, by decide⟩
  have hP3 : qCP (qset (qset (qset (qset (qset (qset s 1 2 (p + 2)) 17 8 fl) 1 2 (p + 2 + 2)) 17 9 v5) 1 2 (p + 2 + 2 + 2)) 17 10 v6) π := (hP2.setW (Or.inr rfl)).setW (Or.inl (by decide))
  have hK3 : qCK (qset (qset (qset (qset (qset (qset s 1 2 (p + 2)) 17 8 fl) 1 2 (p + 2 + 2)) 17 9 v5) 1 2 (p + 2 + 2 + 2)) 17 10 v6) π := (hK2.setW (by decide)).setW (by decide)
  have efl : qset (qset (qset (qset (qset s 1 2 (p + 2)) 17 8 fl) 1 2 (p + 2 + 2)) 17 9 v5) 1 2 (p + 2 + 2 + 2) 17 8 = fl := by simp [qset_eq]
  rw [efl]
  obtain ⟨u, hu⟩ : ∃ u, u = qset (qset (qset (qset (qset (qset s 1 2 (p + 2)) 17 8 fl) 1 2 (p + 2 + 2)) 17 9 v5) 1 2 (p + 2 + 2 + 2)) 17 10 v6 := ⟨_, rfl⟩
  have u8 : u 17 8 = fl ∧ u 17 9 = v5 ∧ u 17 10 = v6 ∧ u 17 6 = s 17 6 ∧ u 17 7 = s 17 7 := by rw [hu]; simp [qset_eq]
  have uc : ∀ c, c ≠ 1 → c ≠ 17 → u c = s c := fun c c1 c2 => by rw [hu, qset_cell _ c2, qset_cell _ c1, qset_cell _ c2, qset_cell _ c1, qset_cell _ c2, qset_cell _ c1]
  rw [← hu] at hA3 hP3 hK3 ⊢
  rw [qRes_bd] at H
  have h92 : ∀ b : Bool, b = okPar π fl v6 → qR w 4 qm56 92 [(0, .ref 17)] [qI (bi b)] u (qPV fv g) := by
    intro b hb
    refine k56_92 (c21 (c_ck (p := p + 2 + 2) (b := okPar π fl v6) hA3 (by rw [hb]) (by rw [hA3.2.1]; omega) (qRes_mono H (fun _ _ h => h) (fun _ _ H => c24 (t := 18) (by decide) ?_))))
    have hA4 := hA3.set (k := 18) (j := 2) (v := 0) ⟨by decide, by decide⟩
    have hP4 : qCP (qset u 18 2 0) π := hP3.setW (Or.inl (by decide))
    have hK4 : qCK (qset u 18 2 0) π := hK3.setW (by decide)
    rw [qRes_bd, show p + 6 = p + 2 + 2 + 2 by omega] at H
    refine c_u2 hB hA4 (by omega) q3 (qRes_mono H (fun _ _ h => h) (fun m hm H => ?_))
    obtain ⟨q4, rfl⟩ := rU2_r hm
    have rm := b2_rg hB (p := p + 2 + 2 + 2) (by omega) q4
    have e0 : b2 B (p + 2 + 2 + 2) - ((b2 B (p + 2 + 2 + 2)).toNat : Int) = 0 := by omega
    have := c56_loop (w := w) (fv := fv) (g := g) (s0 := s0) (π := π) hB (a := p + 8) (m := b2 B (p + 2 + 2 + 2)) (by omega) rm (b2 B (p + 2 + 2 + 2)).toNat (qset (qset u 18 2 0) 1 2 (p + 2 + 2 + 2 + 2)) (by omega) (by rw [e0, show p + 8 + 2 * 0 = p + 2 + 2 + 2 + 2 by omega]; exact hA4.mv _) (by omega) (qAt.pool hP4 _) (qAt.kinds hK4 _) (by
      rw [e0]
      exact ⟨by simp [qset_eq], fun k k0 k1 => absurd k1 (by omega)⟩) (by
      rw [e0, show p + 8 + 2 * 0 = p + 8 by omega]
      refine qRes_mono H (fun _ _ h => h) (fun r _ H s' a1 a2 a3 => H s' a1 ⟨?_, ?_, ?_, ?_⟩ ?_ ?_ (fun c c1 c2 c3 c4 => ?_))
      · rw [a3 17 (by decide) (by decide) (by decide), qset_cell _ (by decide), qset_cell _ (by decide), u8.1, e1]
      · rw [a3 17 (by decide) (by decide) (by decide), qset_cell _ (by decide), qset_cell _ (by decide), u8.2.1, e2]
      · rw [a3 17 (by decide) (by decide) (by decide), qset_cell _ (by decide), qset_cell _ (by decide), u8.2.2.1, e3, show p + 4 = p + 2 + 2 by omega]
      · rw [show p + 6 = p + 2 + 2 + 2 by omega]; exact a2
      · rw [a3 17 (by decide) (by decide) (by decide), qset_cell _ (by decide), qset_cell _ (by decide), u8.2.2.2.1]
      · rw [a3 17 (by decide) (by decide) (by decide), qset_cell _ (by decide), qset_cell _ (by decide), u8.2.2.2.2]
      · rw [a3 c c1 c3 c4, qset_cell _ c1, qset_cell _ c3, uc c c1 c2])
    rw [e0] at this
    exact this
  refine ⟨by rw [e3]; exact ⟨by omega, by omega⟩, fun c => ⟨qand_Rg _ _, fun c2 => h92 true ?_, fun c2 => h92 false ?_⟩, fun c => ?_⟩
  · unfold okPar; rw [if_pos c, decide_eq_true c2]
  · unfold okPar; rw [if_pos c, decide_eq_false c2]
  · refine c59 hP3 hK3 (by rw [e3]; exact ⟨by omega, by omega⟩) (h92 _ ?_)
    unfold okPar; rw [if_neg c]
end SH
