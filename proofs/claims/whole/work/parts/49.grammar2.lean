/-! the class's Grammar, the rest of it -/
theorem bi_0 {b : Bool} : bi b = 0 ↔ b = false := by cases b <;> simp [bi]
theorem bi_n {b : Bool} : bi b ≠ 0 ↔ b = true := by cases b <;> simp [bi]
theorem qso100 : qso 100 := ⟨by decide, by decide, by decide +kernel⟩
theorem qso102 : qso 102 := ⟨by decide, by decide, by decide +kernel⟩
theorem qso104 : qso 104 := ⟨by decide, by decide, by decide +kernel⟩
theorem qso106 : qso 106 := ⟨by decide, by decide, by decide +kernel⟩
theorem qso108 : qso 108 := ⟨by decide, by decide, by decide +kernel⟩
theorem q100 : qstr 100 = wInit := by decide +kernel
theorem q102 : qstr 102 = wClinit := by decide +kernel
theorem q104 : qstr 104 = [86] := by decide +kernel
section GR2
variable {w : qE} {s : qS} {a m e k x y : Int} {C : Int → Int} {f : Int → qS → Prop} {g : Nat → qS → Prop}
theorem c45 (hw : qfv w) (hG : gcx s a m C) (h0 : 0 ≤ k) (hk : k ≤ e) (he : e ≤ m) (hx : x = a + k) (hy : y = a + e) (H : f (bi (gMeth C e k)) s) : qW w 6 45 [.ref 6, qI x, qI y] s (qPI f g) := by
  subst hx hy
  have hG2 := hG
  obtain ⟨g1, g2, g3, g4⟩ := hG
  refine k45 ⟨⟨by omega, by omega⟩, ⟨by omega, by omega⟩, fun c => ?_, fun c => k45_13 ?_⟩
  · obtain ⟨q1, q2, q3⟩ := g4 k h0 (by omega)
    rw [q1]
    refine ⟨by omega, by omega, ⟨by omega, by omega⟩, fun c1 => ?_, fun c1 => k45_13 ?_⟩
    · have r := gCl_rg C e 500 (k + 1)
      refine c46 hG2 h0 (by omega) he rfl rfl ⟨gab_rg ⟨by omega, by omega⟩ (by omega), fun z => ?_, fun z => ?_⟩
      · rw [gab_m g1 (by omega)] at z
        have hM : gMeth C e k = false := by unfold gMeth; simp [z]
        rw [hM] at H; exact H
      · have z2 : gCl C e 500 (k + 1) ≠ -1 := fun z2 => z ((gab_m g1 (by omega)).mpr z2)
        have e1 : gab a (gCl C e 500 (k + 1)) + 1 = a + (gCl C e 500 (k + 1) + 1) := by unfold gab; rw [if_neg z2]; omega
        refine c41 hw qso104 hG2 (k := gCl C e 500 (k + 1) + 1) (e := e) (by omega) (by omega) he e1 rfl ?_
        rw [q104]
        refine ⟨bi_rg _, fun z3 => ?_, fun z3 => k45_54 (k45_59 ⟨Or.inr rfl, ?_⟩)⟩
        · rw [bi_0] at z3
          have r2 := gField_rg C e (gCl C e 500 (k + 1) + 1)
          refine c43 hG2 (k := gCl C e 500 (k + 1) + 1) (by omega) (by omega) he e1 rfl ⟨gab_rg ⟨by omega, by omega⟩ (by omega), fun z4 => k45_54 (k45_59 ⟨Or.inr rfl, ?_⟩), fun z4 => k45_59 ⟨Or.inl rfl, ?_⟩⟩
          · have z5 : gField C e (gCl C e 500 (k + 1) + 1) = e := by
              unfold gab at z4
              split at z4 <;> omega
            have hM : gMeth C e k = true := by
              unfold gMeth
              rw [decide_eq_true (by omega), decide_eq_true c1, decide_eq_true z2, decide_eq_true z5]
              simp
            rw [hM] at H; exact H
          · have z5 : gField C e (gCl C e 500 (k + 1) + 1) ≠ e := by
              intro z5
              unfold gab at z4
              rw [if_neg (by omega)] at z4
              omega
            have hM : gMeth C e k = false := by
              unfold gMeth
              rw [decide_eq_false z5, z3]
              simp
            rw [hM] at H; exact H
        · rw [bi_n] at z3
          have hM : gMeth C e k = true := by
            unfold gMeth
            rw [decide_eq_true (by omega), decide_eq_true c1, decide_eq_true z2, z3]
            simp
          rw [hM] at H; exact H
    · have hM : gMeth C e k = false := by unfold gMeth; rw [decide_eq_false c1]; simp
      rw [hM] at H; exact H
  · have hM : gMeth C e k = false := by unfold gMeth; rw [decide_eq_false (by omega)]; simp
    rw [hM] at H; exact H
theorem c40_loop (hG : gcx s a m C) : ∀ (d : Nat) (k : Int) (b1 b2 : Bool), 0 ≤ k → k + d = m → f (if (b1 && gNoSl C d k) = true then (if (b2 || gAng C d k) = true then 1 else 3) else 0) s → qR w 5 qm40 42 [(0, .ref 6), (2, qI (a + m)), (3, qI (bi b1)), (4, qI (bi b2)), (5, qI (a + k))] [] s (qPI f g) := by
  obtain ⟨g1, g2, g3, g4⟩ := hG
  intro d
  induction d with
  | zero =>
    intro k b1 b2 h0 h1 H
    rw [gNoSl, gAng, Bool.and_true, Bool.or_false] at H
    refine k40_42 ⟨⟨by omega, by omega⟩, ⟨by omega, by omega⟩, fun c => absurd c (by omega), fun _ => ⟨bi_rg _, fun z => ?_, fun z => ⟨bi_rg _, fun z2 => k40_119 ?_, fun z2 => k40_119 ?_⟩⟩⟩
    · rw [bi_0] at z; rw [z] at H; exact H
    · rw [bi_n] at z; rw [bi_0] at z2; rw [z, z2] at H; exact H
    · rw [bi_n] at z; rw [bi_n] at z2; rw [z, z2] at H; exact H
  | succ d ih =>
    intro k b1 b2 h0 h1 H
    obtain ⟨q1, q2, q3⟩ := g4 k h0 (by omega)
    have hn : ∀ b3 : Bool, f (if (b3 && gNoSl C d (k + 1)) = true then (if (b2 || gAng C (d + 1) k) = true then 1 else 3) else 0) s → qR w 5 qm40 66 [(0, .ref 6), (2, qI (a + m)), (4, qI (bi b2)), (5, qI (a + k))] [qI (bi b3)] s (qPI f g) := by
      intro b3 H
      have hm : ∀ b4 : Bool, b4 = (b2 || decide (C k = 60 ∨ C k = 62)) → qR w 5 qm40 95 [(0, .ref 6), (2, qI (a + m)), (3, qI (bi b3)), (5, qI (a + k))] [qI (bi b4)] s (qPI f g) := by
        intro b4 h4
        refine k40_95 ?_
        rw [Int.add_assoc]
        refine ih (k + 1) b3 b4 (by omega) (by omega) ?_
        rw [gAng, ← Bool.or_assoc, ← h4] at H
        exact H
      refine k40_66 ⟨bi_rg _, fun z => ⟨by omega, by omega, ?_⟩, fun z => ?_⟩
      · rw [bi_0] at z
        rw [q1]
        refine ⟨⟨by omega, by omega⟩, fun c => k40_90 (hm true ?_), fun c => ⟨by omega, by omega, fun c2 => k40_90 (hm true ?_), fun c2 => hm false ?_⟩⟩
        · rw [decide_eq_true (Or.inl c)]; simp
        · rw [decide_eq_true (Or.inr c2)]; simp
        · rw [z, decide_eq_false (by omega)]; rfl
      · rw [bi_n] at z
        refine k40_90 (hm true ?_)
        rw [z]; rfl
    rw [gNoSl] at H
    refine k40_42 ⟨⟨by omega, by omega⟩, ⟨by omega, by omega⟩, fun _ => ⟨bi_rg _, fun z => k40_65 (hn false ?_), fun z => ⟨by omega, by omega, ?_⟩⟩, fun c => absurd c (by omega)⟩
    · rw [bi_0] at z
      rw [z, Bool.false_and] at H
      rw [Bool.false_and]
      exact H
    · rw [bi_n] at z
      rw [q1]
      rw [z, Bool.true_and] at H
      refine ⟨⟨by omega, by omega⟩, fun c => k40_65 (hn false ?_), fun c => hn true ?_⟩
      · rw [decide_eq_false (by simpa using c), Bool.false_and] at H
        rw [Bool.false_and]; exact H
      · rw [decide_eq_true c, Bool.true_and] at H
        rw [Bool.true_and]; exact H
theorem c40 (hw : qfv w) (hG : gcx s a m C) (hx : x = a) (hy : y = a + m) (H : f (gNK C m) s) : qW w 6 40 [.ref 6, qI x, qI y] s (qPI f g) := by
  subst hx hy
  have hG2 := hG
  obtain ⟨g1, g2, g3, g4⟩ := hG
  unfold gNK at H
  refine k40 (c41 hw qso100 hG2 (k := 0) (e := m) (by omega) g2 (by omega) (by omega) rfl ?_)
  rw [q100]
  refine ⟨bi_rg _, fun z => ?_, fun z => ?_⟩
  · rw [bi_0] at z
    rw [z, if_neg (by decide)] at H
    refine c41 hw qso102 hG2 (k := 0) (e := m) (by omega) g2 (by omega) (by omega) rfl ?_
    rw [q102]
    refine ⟨bi_rg _, fun z2 => ?_, fun z2 => ?_⟩
    · rw [bi_0] at z2
      rw [z2, if_neg (by decide)] at H
      refine c42 hG2 (k := 0) (e := m) (by omega) g2 (by omega) (by omega) rfl ?_
      have := c40_loop (w := w) (g := g) (f := f) hG2 m.toNat 0 (gPath C m.toNat 0 true) false (by omega) (by omega) (by rw [Bool.false_or]; exact H)
      rw [Int.add_zero] at this
      rw [show (m - 0).toNat = m.toNat by omega]
      exact this
    · rw [bi_n] at z2
      rw [if_pos z2] at H
      exact H
  · rw [bi_n] at z
    rw [if_pos z] at H
    exact H
theorem c39 (hw : qfv w) (hG : gcx s a m C) (hx : x = a) (hy : y = a + m) (H : f (gK C m) s) : qW w 7 39 [.ref 6, qI x, qI y] s (qPI f g) := by
  subst hx hy
  have hG2 := hG
  obtain ⟨g1, g2, g3, g4⟩ := hG
  unfold gK at H
  have hm : (m - 0).toNat = m.toNat := by omega
  have h49 : ∀ v : Int, f (gK3 (gMeth C m 0) v) s → qR w 6 qm39 49 [(0, .ref 6), (1, qI x), (2, qI (x + m)), (3, qI v)] [] s (qPI f g) := by
    intro v H
    refine k39_49 (c45 hw hG2 (k := 0) (e := m) (by omega) g2 (by omega) (by omega) rfl ⟨bi_rg _, fun z => k39_63 ?_, fun z => k39_63 ?_⟩)
    · rw [bi_0] at z; rw [z] at H; exact H
    · rw [bi_n] at z; rw [z] at H; exact H
  have h21 : ∀ v : Int, f (gK3 (gMeth C m 0) (gK2 (decide (gField C m 0 = m)) (decide (C 0 = 91)) v)) s → qR w 6 qm39 21 [(0, .ref 6), (1, qI x), (2, qI (x + m)), (3, qI v)] [] s (qPI f g) := by
    intro v H
    have r := gField_rg C m 0
    refine k39_21 (c43 hG2 (k := 0) (e := m) (by omega) g2 (by omega) (by omega) rfl ⟨gab_rg ⟨by omega, by omega⟩ (by omega), ⟨by omega, by omega⟩, fun z => ?_, fun z => ?_⟩)
    · have z2 : gField C m 0 = m := by
        unfold gab at z
        split at z <;> omega
      have hm0 : 0 < m := by
        rcases r with r | r <;> omega
      obtain ⟨q1, q2, q3⟩ := g4 0 (by omega) hm0
      rw [Int.add_zero] at q1
      rw [q1]
      rw [decide_eq_true z2] at H
      refine ⟨by omega, by omega, ⟨by omega, by omega⟩, fun c => k39_47 (h49 _ ?_), fun c => k39_47 (h49 _ ?_)⟩
      · rw [decide_eq_true c] at H; exact H
      · rw [decide_eq_false c] at H; exact H
    · have z2 : gField C m 0 ≠ m := by
        intro z2
        unfold gab at z
        rw [if_neg (by omega)] at z
        omega
      rw [decide_eq_false z2] at H
      exact h49 _ H
  refine k39 (c40 hw hG2 rfl rfl (c42 hG2 (k := 0) (e := m) (by omega) g2 (by omega) (by omega) rfl ?_))
  rw [hm]
  refine ⟨bi_rg _, fun z => h21 _ ?_, fun z => h21 _ ?_⟩
  · rw [bi_0] at z; rw [z] at H; exact H
  · rw [bi_n] at z; rw [z] at H; exact H
theorem c90_loop (hG : gcx s a m C) (he : e ≤ m) (he0 : 0 ≤ e) : ∀ (d : Nat) (k acc : Int), d ≤ 500 → (k = -1 ∨ (0 ≤ k ∧ k ≤ e)) → f (gSl C e d k acc) s → qR w 2 qm90 10 [(0, .ref 6), (2, qI (a + e)), (3, qI acc), (4, qI (gab a k)), (5, qI (500 - d))] [] s (qPI f g) := by
  have hG2 := hG
  obtain ⟨g1, g2, g3, g4⟩ := hG
  intro d
  induction d with
  | zero =>
    intro k acc hd h0 H
    exact k90_10 ⟨⟨by omega, by omega⟩, fun c => absurd c (by omega), fun _ => k90_71 H⟩
  | succ d ih =>
    intro k acc hd h0 H
    unfold gSl at H
    refine k90_10 ⟨⟨by omega, by omega⟩, fun _ => ⟨gab_rg ⟨by omega, by omega⟩ (by omega), fun c => k90_71 ?_, fun c => ⟨⟨by omega, by omega⟩, fun c2 => ?_, fun c2 => k90_71 ?_⟩⟩, fun c => absurd c (by omega)⟩
    · rw [if_neg (by
        unfold gab at c
        split at c <;> omega)] at H
      exact H
    · have hk : k ≠ -1 := by
        intro z
        unfold gab at c
        rw [if_pos z] at c
        omega
      have e1 : gab a k = a + k := by unfold gab; rw [if_neg hk]
      rw [e1] at c2 ⊢
      obtain ⟨q1, q2, q3⟩ := g4 k (by omega) (by omega)
      rw [q1]
      refine ⟨by omega, by omega, ⟨by omega, by omega⟩, fun c3 => k90_71 ?_, fun c3 => ⟨by omega, by omega, c66 ⟨by omega, by omega⟩ ?_⟩⟩
      · rw [if_neg (by rintro ⟨-, -, z⟩; exact z c3)] at H
        exact H
      · rw [if_pos ⟨by omega, by omega, c3⟩] at H
        have r := gField_rg C e k
        have hn : ∀ v : Int, v = gWide (C k) → qR w 2 qm90 54 [(0, .ref 6), (2, qI (a + e)), (4, qI (a + k)), (5, qI (500 - ((d + 1 : Nat) : Int)))] [qI v, qI acc] s (qPI f g) := by
          intro v hv
          subst hv
          refine k90_54 (c43 hG2 (by omega) (by omega) he rfl rfl ?_)
          have e2 : (500 - ((d + 1 : Nat) : Int) + 1) = 500 - (d : Int) := by omega
          rw [e2]
          exact ih _ _ (by omega) (by omega) H
        refine ⟨bi_rg _, fun z => hn 1 ?_, fun z => hn 2 ?_⟩
        · rw [bi_0, decide_eq_false_iff_not] at z
          unfold gWide
          rw [if_neg z]
        · rw [bi_n, decide_eq_true_iff] at z
          unfold gWide
          rw [if_pos z]
    · rw [if_neg (by
        unfold gab at c c2
        rintro ⟨z1, z2, -⟩
        rw [if_neg (by omega)] at c2
        omega)] at H
      exact H
theorem c90 (hG : gcx s a m C) (h0 : 0 ≤ k) (hk : k < e) (he : e ≤ m) (hx : x = a + k) (hy : y = a + e) (H : f (gSl C e 500 (k + 1) 0) s) : qW w 3 90 [.ref 6, qI x, qI y] s (qPI f g) := by
  subst hx hy
  refine k90 ?_
  have := c90_loop (w := w) (g := g) hG he (by omega) 500 (k + 1) 0 (by omega) (by omega) H
  unfold gab at this
  rw [if_neg (by omega), ← Int.add_assoc] at this
  exact this
end GR2
