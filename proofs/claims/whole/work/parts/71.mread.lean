/-! THE MODEL reads: at, fault -/
def mS (s0 : qS) (B : Int → Int) (n : Int) : Prop := qB B n ∧ s0 25 4 = n ∧ (∀ i, 0 ≤ i → i < n → s0 28 i = B i) ∧ mL s0
def mFr (s0 s : qS) : Prop := (∀ k, k < 25 → s k = s0 k) ∧ s 26 = s0 26 ∧ s 27 = s0 27 ∧ s 28 = s0 28 ∧ s 25 3 = s0 25 3 ∧ s 25 4 = s0 25 4 ∧ s 25 8 = s0 25 8 ∧ Rg (s 25 11) ∧ Rg (s 37 8)
/-- well, and at p -/
def mAt (s0 : qS) (p : Int) (s : qS) : Prop := mFr s0 s ∧ s 25 5 = p ∧ s 25 6 = -2
/-- a fault has been found -/
def mFt (s0 : qS) (e : Int) (s : qS) : Prop := mFr s0 s ∧ Rg (s 25 5) ∧ s 25 6 = e ∧ 0 ≤ e ∧ Rg e
def mDd (s : qS) (q e : Int) : qS := qset (qset s 25 5 q) 25 6 e
theorem mFr.set {s0 s : qS} (h : mFr s0 s) {k : Nat} {j v : Int} (hk : 25 ≤ k ∧ k ≠ 26 ∧ k ≠ 27 ∧ k ≠ 28) (hj : k = 25 → j ≠ 3 ∧ j ≠ 4 ∧ j ≠ 8) (hv : ((k = 25 ∧ j = 11) ∨ k = 37) → Rg v) : mFr s0 (qset s k j v) := by
  obtain ⟨a1, a2, a3, a4, a5, a6, a7, a8, a9⟩ := h
  have e25 : ∀ x : Int, (k = 25 → j ≠ x) → qset s k j v 25 x = s 25 x := fun x hx => by
    rcases Nat.decEq k 25 with y | y
    · rw [qset_cell _ (by omega)]
    · subst y
      rw [qset_same, if_neg (fun z => hx rfl z.symm)]
  refine ⟨fun c hc => by rw [qset_cell _ (by omega)]; exact a1 c hc, by rw [qset_cell _ (by omega)]; exact a2, by rw [qset_cell _ (by omega)]; exact a3, by rw [qset_cell _ (by omega)]; exact a4, ?_, ?_, ?_, ?_, ?_⟩
  · rw [e25 3 (fun y => (hj y).1)]; exact a5
  · rw [e25 4 (fun y => (hj y).2.1)]; exact a6
  · rw [e25 8 (fun y => (hj y).2.2)]; exact a7
  · by_cases y : k = 25 ∧ j = 11
    · obtain ⟨rfl, rfl⟩ := y
      rw [qset_same, if_pos rfl]
      exact hv (Or.inl ⟨rfl, rfl⟩)
    · rw [e25 11 (fun z => fun u => y ⟨z, u⟩)]; exact a8
  · rcases Nat.decEq k 37 with y | y
    · rw [qset_cell _ (by omega)]; exact a9
    · subst y
      rw [qset_same]
      split
      · exact hv (Or.inr rfl)
      · exact a9
theorem mAt.set {s0 s : qS} {p : Int} (h : mAt s0 p s) {k : Nat} {j v : Int} (hk : 25 ≤ k ∧ k ≠ 26 ∧ k ≠ 27 ∧ k ≠ 28) (hj : k = 25 → j ≠ 3 ∧ j ≠ 4 ∧ j ≠ 8 ∧ j ≠ 5 ∧ j ≠ 6) (hv : ((k = 25 ∧ j = 11) ∨ k = 37) → Rg v) : mAt s0 p (qset s k j v) := by
  refine ⟨h.1.set hk (fun y => ⟨(hj y).1, (hj y).2.1, (hj y).2.2.1⟩) hv, ?_, ?_⟩
  · rcases Nat.decEq k 25 with y | y
    · rw [qset_cell _ (by omega)]; exact h.2.1
    · subst y
      rw [qset_same, if_neg (fun z => (hj rfl).2.2.2.1 z.symm)]; exact h.2.1
  · rcases Nat.decEq k 25 with y | y
    · rw [qset_cell _ (by omega)]; exact h.2.2
    · subst y
      rw [qset_same, if_neg (fun z => (hj rfl).2.2.2.2 z.symm)]; exact h.2.2
theorem mFt.set {s0 s : qS} {e : Int} (h : mFt s0 e s) {k : Nat} {j v : Int} (hk : 25 ≤ k ∧ k ≠ 26 ∧ k ≠ 27 ∧ k ≠ 28) (hj : k = 25 → j ≠ 3 ∧ j ≠ 4 ∧ j ≠ 8 ∧ j ≠ 5 ∧ j ≠ 6) (hv : ((k = 25 ∧ j = 11) ∨ k = 37) → Rg v) : mFt s0 e (qset s k j v) := by
  refine ⟨h.1.set hk (fun y => ⟨(hj y).1, (hj y).2.1, (hj y).2.2.1⟩) hv, ?_, ?_, h.2.2.2⟩
  · rcases Nat.decEq k 25 with y | y
    · rw [qset_cell _ (by omega)]; exact h.2.1
    · subst y
      rw [qset_same, if_neg (fun z => (hj rfl).2.2.2.1 z.symm)]; exact h.2.1
  · rcases Nat.decEq k 25 with y | y
    · rw [qset_cell _ (by omega)]; exact h.2.2.1
    · subst y
      rw [qset_same, if_neg (fun z => (hj rfl).2.2.2.2 z.symm)]; exact h.2.2.1
theorem mAt.mv {s0 s : qS} {p : Int} (h : mAt s0 p s) (q : Int) : mAt s0 q (qset s 25 5 q) :=
  ⟨h.1.set (by omega) (fun _ => by omega) (fun y => absurd y (by omega)), by rw [qset_same, if_pos rfl], by rw [qset_same, if_neg (by decide)]; exact h.2.2⟩
theorem mAt.ft {s0 s : qS} {p : Int} (h : mAt s0 p s) (hp : Rg p) {e : Int} (h0 : 0 ≤ e) (h1 : Rg e) : mFt s0 e (qset s 25 6 e) :=
  ⟨h.1.set (by omega) (fun _ => by omega) (fun y => absurd y (by omega)), by rw [qset_same, if_neg (by decide), h.2.1]; exact hp, by rw [qset_same, if_pos rfl], h0, h1⟩
theorem mAt.dd {s0 s : qS} {p : Int} (h : mAt s0 p s) {q e : Int} (hq : Rg q) (h0 : 0 ≤ e) (h1 : Rg e) : mFt s0 e (mDd s q e) := (h.mv q).ft hq h0 h1
theorem qset_id' {s : qS} {k : Nat} {j v : Int} (h : s k j = v) : qset s k j v = s := by
  funext k' j'
  rw [qset_eq]
  split
  · next h2 => obtain ⟨rfl, rfl⟩ := h2; exact h.symm
  · rfl
theorem mAt.sg {s0 s s' : qS} {p : Int} (h : mAt s0 p s) (hM : mSg s s') : mAt s0 p s' := by
  obtain ⟨⟨a1, a2, a3, a4, a5, a6, a7, a8, a9⟩, b1, b2'⟩ := h
  refine ⟨⟨fun k hk => ?_, ?_, ?_, ?_, ?_, ?_, ?_, ?_, ?_⟩, ?_, ?_⟩
  · rw [hM.1 k (by omega)]; exact a1 k hk
  · rw [hM.1 26 (by omega)]; exact a2
  · rw [hM.1 27 (by omega)]; exact a3
  · rw [hM.1 28 (by omega)]; exact a4
  · rw [hM.2 3 (by omega) (by omega)]; exact a5
  · rw [hM.2 4 (by omega) (by omega)]; exact a6
  · rw [hM.2 8 (by omega) (by omega)]; exact a7
  · rw [hM.2 11 (by omega) (by omega)]; exact a8
  · rw [hM.1 37 (by omega)]; exact a9
  · rw [hM.2 5 (by omega) (by omega)]; exact b1
  · rw [hM.2 6 (by omega) (by omega)]; exact b2'
theorem mDd_po {s : qS} {B : Int → Int} {n c : Int} (h : mPo s B n c) (q e : Int) : mPo (mDd s q e) B n c := h.fr rfl rfl rfl rfl
theorem mSet_po {s : qS} {B : Int → Int} {n c : Int} (h : mPo s B n c) {k : Nat} {j : Int} (v : Int) (hk : k ≠ 26 ∧ k ≠ 28 ∧ k ≠ 29) (hj : k = 25 → j ≠ 11) : mPo (qset s k j v) B n c := by
  refine h.fr ?_ (qset_cell _ (by omega)) (qset_cell _ (by omega)) (qset_cell _ (by omega))
  rcases Nat.decEq k 25 with y | y
  · rw [qset_cell _ (by omega)]
  · subst y
    rw [qset_same, if_neg (fun z => hj rfl z.symm)]
section MR
variable {w : qE} {s s0 : qS} {B : Int → Int} {n c i k p e : Int} {f : Int → qS → Prop} {fv : qS → Prop} {g : Nat → qS → Prop}
theorem m133 (hA : mAt s0 p s) (H : f 0 (qset s 25 6 e)) : qW w 1 133 [.ref 25, qI e] s (qPI f g) :=
  k133 ⟨by rw [hA.2.2]; exact ⟨by decide, by decide⟩, fun _ => k133_12 H, fun y => absurd y (by rw [hA.2.2]; decide)⟩
theorem m133_d {e' : Int} (hF : mFt s0 e s) (H : f 0 s) : qW w 1 133 [.ref 25, qI e'] s (qPI f g) := by
  have h0 := hF.2.2.2.1
  exact k133 ⟨by rw [hF.2.2.1]; exact hF.2.2.2.2, fun y => absurd y (by rw [hF.2.2.1]; omega), fun _ => k133_12 H⟩
theorem m134 (hA : mAt s0 p s) (H : f 1 s) : qW w 1 134 [.ref 25] s (qPI f g) :=
  k134 ⟨by rw [hA.2.2]; exact ⟨by decide, by decide⟩, fun _ => k134_12 ⟨Or.inr rfl, H⟩, fun y => absurd y (by rw [hA.2.2]; decide)⟩
theorem m134_d (hF : mFt s0 e s) (H : f 0 s) : qW w 1 134 [.ref 25] s (qPI f g) := by
  have h0 := hF.2.2.2.1
  exact k134 ⟨by rw [hF.2.2.1]; exact hF.2.2.2.2, fun y => absurd y (by rw [hF.2.2.1]; omega), fun _ => k134_12 ⟨Or.inl rfl, H⟩⟩
theorem mS.kp (hS : mS s0 B n) (hF : mFr s0 s) {i : Int} (h0 : 0 ≤ i) (h1 : i < n) : s 28 i = B i := by rw [hF.2.2.2.1]; exact hS.2.2.1 i h0 h1
theorem m132 (hS : mS s0 B n) (hA : mAt s0 p s) (h0 : 0 ≤ p) (h1 : p ≤ n) (H : qRes (rU1 B n p) (fun e => f 0 (qset s 25 6 e)) (fun v => f v (qset s 25 5 (p + 1)))) : qW w 2 132 [.ref 25] s (qPI f g) := by
  have h5 := hS.1.2.1
  have e4 : s 25 4 = n := hA.1.2.2.2.2.2.1.trans hS.2.1
  unfold rU1 at H
  refine k132 ?_
  rw [hA.2.1, e4]
  refine ⟨⟨by omega, by omega⟩, ⟨by omega, by omega⟩, fun y => k132_20 (m134 hA ?_), fun y => m133 hA (k132_20 (m134_d (hA.ft ⟨by omega, by omega⟩ (by omega) ⟨by omega, by omega⟩) ?_))⟩
  · rw [if_neg (by omega)] at H
    rw [hA.2.1, qset_cell _ (by decide : (28 : Nat) ≠ 25), show p + 1 - 1 = p by omega, hS.kp hA.1 h0 (by omega)]
    exact ⟨⟨by decide, by decide⟩, fun z => absurd z (by decide), fun _ => ⟨h0, by omega, H⟩⟩
  · rw [if_pos (by omega)] at H
    exact ⟨⟨by decide, by decide⟩, fun _ => H, fun z => absurd rfl z⟩
theorem m132_d (hS : mS s0 B n) (hF : mFt s0 e s) (H : f 0 s) : qW w 2 132 [.ref 25] s (qPI f g) := by
  have h5 := hS.1.2.1
  have h6 := hS.1.1
  have e4 : s 25 4 = n := hF.1.2.2.2.2.2.1.trans hS.2.1
  have key : qR w 1 qm132 20 [(0, .ref 25)] [] s (qPI f g) := k132_20 (m134_d hF ⟨⟨by decide, by decide⟩, fun _ => H, fun z => absurd rfl z⟩)
  exact k132 ⟨hF.2.1, by rw [e4]; exact ⟨by omega, by omega⟩, fun _ => key, fun _ => m133_d hF key⟩
/-- two bytes: the value, or a fault behind which nothing is read -/
theorem m131 (hS : mS s0 B n) (hA : mAt s0 p s) (h0 : 0 ≤ p) (h1 : p ≤ n) (H : qRes (rU2 B n p) (fun e => ∀ v q, 0 ≤ v → v ≤ 65535 → p ≤ q → q ≤ n → f v (mDd s q e)) (fun v => f v (qset s 25 5 (p + 2)))) : qW w 3 131 [.ref 25] s (qPI f g) := by
  have h5 := hS.1.2.1
  unfold rU2 at H
  refine k131 (m132 hS hA h0 h1 ?_)
  unfold rU1
  split
  · next h2 =>
    rw [if_pos (by omega)] at H
    refine m132_d hS (hA.ft ⟨by omega, by omega⟩ (by omega) ⟨by omega, by omega⟩) ?_
    have := H 0 p (by omega) (by omega) (by omega) (by omega)
    unfold mDd at this
    rw [qset_id' hA.2.1] at this
    exact this
  · next h2 =>
    have hb := hS.1.2.2 p h0 (by omega)
    refine m132 hS (hA.mv (p + 1)) (by omega) (by omega) ?_
    unfold rU1
    split
    · next h3 =>
      rw [if_pos (by omega)] at H
      have := H (256 * B p + 0) (p + 1) (by omega) (by omega) (by omega) (by omega)
      rw [← qor8 hb (by omega)] at this
      exact this
    · next h3 =>
      rw [if_neg (by omega)] at H
      have hb2 := hS.1.2.2 (p + 1) (by omega) (by omega)
      show f (qor (qshl (B p) 8) (B (p + 1))) _
      rw [qor8 hb hb2, qset_qset, show p + 1 + 1 = p + 2 by omega]
      exact H
theorem m131_d (hS : mS s0 B n) (hF : mFt s0 e s) (H : f 0 s) : qW w 3 131 [.ref 25] s (qPI f g) := by
  refine k131 (m132_d hS hF (m132_d hS hF ?_))
  rw [qor8 (by omega) (by omega)]
  exact H
theorem mDd_mDd (s : qS) (q e q' : Int) : mDd (qset s 25 5 q) q' e = mDd s q' e := by unfold mDd; rw [qset_qset]
theorem m130 (hS : mS s0 B n) (hA : mAt s0 p s) (h0 : 0 ≤ p) (h1 : p ≤ n) (H : qRes (rU4 B n p) (fun e => ∀ v q, Rg v → p ≤ q → q ≤ n → f v (mDd s q e)) (fun v => f v (qset s 25 5 (p + 4)))) : qW w 4 130 [.ref 25] s (qPI f g) := by
  have h5 := hS.1.2.1
  unfold rU4 at H
  refine k130 (m131 hS hA h0 h1 ?_)
  unfold rU2
  split
  · next h2 =>
    rw [if_pos (by omega)] at H
    intro v q v0 v1 q0 q1
    refine m131_d hS (hA.dd ⟨by omega, by omega⟩ (by omega) ⟨by omega, by omega⟩) ?_
    rw [qor16 (by omega)]
    exact H _ q (qi_rg _) q0 q1
  · next h2 =>
    refine m131 hS (hA.mv (p + 2)) (by omega) (by omega) ?_
    unfold rU2
    split
    · next h3 =>
      rw [if_pos (by omega)] at H
      intro v q v0 v1 q0 q1
      rw [qor16 ⟨v0, v1⟩, mDd_mDd]
      exact H _ q (qi_rg _) (by omega) q1
    · next h3 =>
      rw [if_neg (by omega)] at H
      have hb2 := b2_rg hS.1 (p := p + 2) (by omega) (by omega)
      show f (qor (qshl (b2 B p) 16) (b2 B (p + 2))) _
      rw [qor16 hb2, qset_qset, show p + 2 + 2 = p + 4 by omega]
      exact H
theorem m130_d (hS : mS s0 B n) (hF : mFt s0 e s) (H : f 0 s) : qW w 4 130 [.ref 25] s (qPI f g) := by
  refine k130 (m131_d hS hF (m131_d hS hF ?_))
  rw [qor16 (by omega)]
  exact H
/-- a text's bytes -/
theorem cOk_1 (h : p < e) (hb : 1 ≤ B p ∧ B p ≤ 127) : cOk B e p = true ∧ cw (B p) = 1 := by
  have : cFur (B p) = 0 := by unfold cFur; rw [if_pos hb]
  constructor
  · unfold cOk
    rw [this, decide_eq_true (by omega), decide_eq_true (by omega : p + 1 + 0 ≤ e)]
    rfl
  · unfold cw; rw [if_pos (by omega)]
theorem cOk_0 (hb : ¬ (1 ≤ B p ∧ B p ≤ 127)) (hb2 : ¬ (192 ≤ B p ∧ B p ≤ 239)) : cOk B e p = false := by
  have : cFur (B p) = -1 := by unfold cFur; rw [if_neg hb, if_neg (by omega), if_neg (by omega)]
  unfold cOk
  rw [this]
  rfl
theorem cOk_n (hb2 : 192 ≤ B p ∧ B p ≤ 239) (h : e < p + cw (B p)) : cOk B e p = false := by
  rw [← Bool.not_eq_true]
  intro z
  have := cOk_r z
  omega
theorem cOk_2 (hb : 192 ≤ B p ∧ B p ≤ 223) (h : p + 2 ≤ e) : cOk B e p = cCon (B (p + 1)) ∧ cw (B p) = 2 := by
  have : cFur (B p) = 1 := by unfold cFur; rw [if_neg (by omega), if_pos hb]
  constructor
  · unfold cOk
    rw [this, decide_eq_true (by omega), decide_eq_true (by omega : p + 1 + 1 ≤ e), decide_eq_false (by decide), decide_eq_true (by decide), Bool.true_and, Bool.true_and, Bool.false_or, Bool.true_or, Bool.and_true]
  · unfold cw; rw [if_neg (by omega), if_pos (by omega)]
theorem cOk_3 (hb : 224 ≤ B p ∧ B p ≤ 239) (h : p + 3 ≤ e) : cOk B e p = (cCon (B (p + 1)) && cCon (B (p + 2))) ∧ cw (B p) = 3 := by
  have : cFur (B p) = 2 := by unfold cFur; rw [if_neg (by omega), if_neg (by omega), if_pos hb]
  constructor
  · unfold cOk
    rw [this, decide_eq_true (by omega), decide_eq_true (by omega : p + 1 + 2 ≤ e), decide_eq_false (by decide), decide_eq_false (by decide), Bool.true_and, Bool.true_and, Bool.false_or, Bool.false_or]
  · unfold cw; rw [if_neg (by omega), if_neg (by omega)]
theorem m136_loop (hS : mS s0 B n) (he : e ≤ n) : ∀ (d : Nat) (p : Int) (s : qS), mAt s0 p s → 0 ≤ p → p ≤ e → e - p ≤ d → qRes (rTx B e d p) (fun e' => ∀ q, Rg q → fv (mDd s q e')) (fun q => fv (qset s 25 5 q)) → qR w 3 qm136 36 [(0, .ref 25), (2, qI e)] [] s (qPV fv g) := by
  have h5 := hS.1.2.1
  intro d
  induction d with
  | zero =>
    intro p s hA h0 h1 h2 H
    have H : fv (qset s 25 5 p) := H
    rw [qset_id' hA.2.1] at H
    refine k136_36 (m134 hA ⟨⟨by decide, by decide⟩, fun z => absurd z (by decide), fun _ => ?_⟩)
    rw [hA.2.1]
    exact ⟨⟨by omega, by omega⟩, ⟨by omega, by omega⟩, fun y => absurd y (by omega), fun _ => k136_183 H⟩
  | succ d ih =>
    intro p s hA h0 h1 h2 H
    refine k136_36 (m134 hA ⟨⟨by decide, by decide⟩, fun z => absurd z (by decide), fun _ => ?_⟩)
    rw [hA.2.1]
    refine ⟨⟨by omega, by omega⟩, ⟨by omega, by omega⟩, fun hlt => ⟨h0, by omega, ?_⟩, fun y => k136_183 ?_⟩
    · rw [hS.kp hA.1 h0 (by omega)]
      have hb := hS.1.2.2 p h0 (by omega)
      have hRb : Rg (B p) := ⟨by omega, by omega⟩
      have hcw := cw_rg (B p)
      unfold rTx at H
      rw [if_pos hlt] at H
      have h152 : ∀ b : Bool, b = cOk B e p → qR w 3 qm136 152 [(0, .ref 25), (2, qI e), (4, qI (cw (B p))), (5, qI (bi b))] [] s (qPV fv g) := by
        intro b hbb
        refine k136_152 ⟨bi_rg _, fun z => ?_, fun z => ?_⟩
        · rw [bi_0] at z
          rw [← hbb, z, if_neg (by decide)] at H
          rw [hA.2.1]
          refine m133 hA (k136_180 (k136_36 (m134_d (hA.ft ⟨by omega, by omega⟩ h0 ⟨by omega, by omega⟩) ⟨⟨by decide, by decide⟩, fun _ => k136_183 ?_, fun z => absurd rfl z⟩)))
          have H : ∀ q, Rg q → fv (mDd s q p) := H
          have := H p ⟨by omega, by omega⟩
          unfold mDd at this
          rw [qset_id' hA.2.1] at this
          exact this
        · rw [bi_n] at z
          rw [z] at hbb
          rw [← hbb, if_pos rfl] at H
          have hk := cOk_r hbb.symm
          rw [hA.2.1]
          refine k136_180 (ih (p + cw (B p)) _ (hA.mv _) (by omega) hk.2 (by omega) ?_)
          refine qRes_mono H (fun e' _ H q hq => ?_) (fun q _ H => ?_)
          · rw [mDd_mDd]; exact H q hq
          · rw [qset_qset]; exact H
      have h105 : cOk B e p = false → qR w 3 qm136 105 [(0, .ref 25), (2, qI e), (4, qI (cw (B p)))] [] s (qPV fv g) := fun z => by
        refine k136_105 (k136_106 (k136_111 ⟨⟨by decide, by decide⟩, ⟨by omega, by omega⟩, fun _ => ⟨⟨by decide, by decide⟩, fun _ => h152 false z.symm, fun y => absurd rfl y⟩, fun _ => h152 false z.symm⟩))
      refine m137 hRb (m125 hRb ⟨by decide, by decide⟩ ⟨by decide, by decide⟩ ⟨bi_rg _, fun z1 => m125 hRb ⟨by decide, by decide⟩ ⟨by decide, by decide⟩ ⟨bi_rg _, fun z2 => h105 ?_, fun z2 => ?_⟩, fun z1 => ?_⟩)
      · rw [bi_0, decide_eq_false_iff_not] at z1 z2
        exact cOk_0 z1 z2
      · rw [bi_n, decide_eq_true_iff] at z2
        rw [hA.2.1]
        refine ⟨⟨by omega, by omega⟩, fun y => h105 (cOk_n z2 y), fun y => k136_101 (k136_106 ?_)⟩
        have e1 : s 28 (p + 1) = B (p + 1) := hS.kp hA.1 (by omega) (by have := cw_rg (B p); unfold cw at y; rw [if_neg (by omega)] at y; split at y <;> omega)
        have hb1 : Rg (B (p + 1)) := by
          have := hS.1.2.2 (p + 1) (by omega) (by unfold cw at y; rw [if_neg (by omega)] at y; split at y <;> omega)
          exact ⟨by omega, by omega⟩
        rcases Int.lt_or_le (B p) 224 with h3 | h3
        · obtain ⟨a1, a2⟩ := cOk_2 (B := B) (p := p) (e := e) (by omega) (by unfold cw at y; rw [if_neg (by omega), if_pos h3] at y; exact y)
          refine k136_111 ⟨⟨by decide, by decide⟩, ⟨by omega, by omega⟩, fun _ => ⟨⟨by decide, by decide⟩, fun z => absurd z (by decide), fun _ => ?_⟩, fun z => absurd z (by omega)⟩
          rw [hA.2.1]
          refine ⟨by omega, by omega, ?_⟩
          rw [e1]
          refine m125 hb1 ⟨by decide, by decide⟩ ⟨by decide, by decide⟩ (k136_111 ⟨⟨by decide, by decide⟩, ⟨by omega, by omega⟩, fun z => absurd z (by omega), fun _ => h152 _ ?_⟩)
          rw [a1]
          rfl
        · have y3 : p + 3 ≤ e := by unfold cw at y; rw [if_neg (by omega), if_neg (by omega)] at y; exact y
          obtain ⟨a1, a2⟩ := cOk_3 (B := B) (p := p) (e := e) (by omega) y3
          refine k136_111 ⟨⟨by decide, by decide⟩, ⟨by omega, by omega⟩, fun _ => ⟨⟨by decide, by decide⟩, fun z => absurd z (by decide), fun _ => ?_⟩, fun z => absurd z (by omega)⟩
          rw [hA.2.1]
          refine ⟨by omega, by omega, ?_⟩
          rw [e1]
          refine m125 hb1 ⟨by decide, by decide⟩ ⟨by decide, by decide⟩ (k136_111 ⟨⟨by decide, by decide⟩, ⟨by omega, by omega⟩, fun _ => ⟨bi_rg _, fun z => h152 _ ?_, fun z => ?_⟩, fun z => absurd z (by omega)⟩)
          · rw [bi_0] at z
            rw [a1]
            unfold cCon
            rw [z]
            rfl
          · rw [bi_n] at z
            have hb2 := hS.1.2.2 (p + 2) (by omega) (by omega)
            rw [hA.2.1]
            refine ⟨by omega, by omega, ?_⟩
            rw [show p + (1 + 1) = p + 2 by omega, hS.kp hA.1 (i := p + 2) (by omega) (by omega)]
            refine m125 ⟨by omega, by omega⟩ ⟨by decide, by decide⟩ ⟨by decide, by decide⟩ (k136_111 ⟨⟨by decide, by decide⟩, ⟨by omega, by omega⟩, fun z => absurd z (by omega), fun _ => h152 _ ?_⟩)
            rw [a1]
            unfold cCon
            rw [z, Bool.true_and]
      · rw [bi_n, decide_eq_true_iff] at z1
        obtain ⟨a1, a2⟩ := cOk_1 (B := B) hlt z1
        refine k136_101 (k136_106 (k136_111 ⟨⟨by decide, by decide⟩, ⟨by omega, by omega⟩, fun z => absurd z (by omega), fun _ => h152 true a1.symm⟩))
    · have hpe : p = e := by omega
      unfold rTx at H
      rw [if_neg (by omega)] at H
      have H : fv (qset s 25 5 p) := H
      rwa [qset_id' hA.2.1] at H
theorem m136 (hS : mS s0 B n) (hA : mAt s0 (p + 1) s) (h0 : 0 ≤ p) (h1 : p + 1 ≤ n) (H : qRes (bd (rU2 B n (p + 1)) (fun m => bd (rBy n (p + 3) m) (fun _ => rTx B (p + 3 + m) m.toNat (p + 3)))) (fun e' => ∀ q, Rg q → fv (mDd s q e')) (fun q => fv (qset s 25 5 q))) : qW w 4 136 [.ref 25] s (qPV fv g) := by
  have h5 := hS.1.2.1
  rw [qRes_bd] at H
  refine k136 (m131 hS hA (by omega) h1 (qRes_mono H (fun e' he H v q v0 v1 q0 q1 => ?_) (fun v hv H => ?_)))
  · have hF : mFt s0 e' (mDd s q e') := by
      unfold rU2 at he
      split at he
      · cases he; exact hA.dd ⟨by omega, by omega⟩ (by omega) ⟨by omega, by omega⟩
      · cases he
    refine m134_d hF ⟨⟨by decide, by decide⟩, fun _ => ?_, fun z => absurd rfl z⟩
    exact k136_36 (m134_d hF ⟨⟨by decide, by decide⟩, fun _ => k136_183 (H q ⟨by omega, by omega⟩), fun z => absurd rfl z⟩)
  · obtain ⟨q1, rfl⟩ := rU2_r hv
    have r := b2_rg hS.1 (p := p + 1) (by omega) q1
    have hA2 := hA.mv (p + 1 + 2)
    rw [show p + 1 + 2 = p + 3 by omega] at hA2 ⊢
    have e4 : qset s 25 5 (p + 3) 25 4 = n := hA2.1.2.2.2.2.2.1.trans hS.2.1
    refine m134 hA2 ?_
    rw [hA2.2.1, e4]
    rw [qRes_bd] at H
    unfold rBy at H
    refine ⟨⟨by decide, by decide⟩, fun z => absurd z (by decide), fun _ => ⟨⟨by omega, by omega⟩, ⟨by omega, by omega⟩, fun y => ?_, fun y => ?_⟩⟩
    · rw [if_pos (by omega)] at H
      refine m133 hA2 ?_
      refine k136_36 (m134_d (hA2.ft ⟨by omega, by omega⟩ (by omega) ⟨by omega, by omega⟩) ⟨⟨by decide, by decide⟩, fun _ => k136_183 ?_, fun z => absurd rfl z⟩)
      exact H (p + 3) ⟨by omega, by omega⟩
    · rw [if_neg (by omega)] at H
      refine m136_loop hS (by omega) (b2 B (p + 1)).toNat (p + 3) _ hA2 (by omega) (by omega) (by omega) ?_
      refine qRes_mono H (fun e' _ H q hq => ?_) (fun q _ H => ?_)
      · rw [mDd_mDd]; exact H q hq
      · rw [qset_qset]; exact H
end MR
