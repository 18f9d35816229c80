/-! THE MODEL: what is wanted at a place; the head -/
theorem and2 {x a b : Nat} (i j : Nat) (ha : a = 2 ^ i) (hb : b = 2 ^ j) (hij : i ≠ j) : ((x &&& (a ||| b)) = (a ||| b) ↔ (x &&& a) ≠ 0 ∧ (x &&& b) ≠ 0) ∧ ((x &&& (a ||| b)) = a ↔ (x &&& a) ≠ 0 ∧ (x &&& b) = 0) := by
  have ta : ∀ k, a.testBit k = decide (i = k) := fun k => by rw [ha, Nat.testBit_two_pow]
  have tb : ∀ k, b.testBit k = decide (j = k) := fun k => by rw [hb, Nat.testBit_two_pow]
  have z : ∀ (y : Nat) (k : Nat), (∀ m, y.testBit m = decide (k = m)) → ((x &&& y) ≠ 0 ↔ x.testBit k = true) := by
    intro y k hy
    constructor
    · intro h
      rcases Bool.eq_false_or_eq_true (x.testBit k) with h2 | h2
      · exact h2
      · refine absurd (Nat.eq_of_testBit_eq (fun m => ?_)) h
        rw [Nat.testBit_and, hy, Nat.zero_testBit]
        by_cases hm : k = m
        · subst hm; rw [h2, Bool.false_and]
        · rw [decide_eq_false hm, Bool.and_false]
    · intro h h2
      have := congrArg (fun n => Nat.testBit n k) h2
      simp only [Nat.testBit_and, hy, Nat.zero_testBit, h, decide_true, Bool.and_true] at this
      exact absurd this (by decide)
  rw [z a i ta, ← Decidable.not_not (p := (x &&& b) = 0), show (¬ (x &&& b) = 0) = ((x &&& b) ≠ 0) from rfl, z b j tb]
  have e : ∀ m, (x &&& (a ||| b)).testBit m = (x.testBit m && (decide (i = m) || decide (j = m))) := fun m => by rw [Nat.testBit_and, Nat.testBit_or, ta, tb]
  constructor
  · constructor
    · intro h
      have h1 := congrArg (fun n => Nat.testBit n i) h
      have h2 := congrArg (fun n => Nat.testBit n j) h
      simp only [e, Nat.testBit_or, ta, tb, decide_true, Bool.true_or, Bool.or_true, Bool.and_true] at h1 h2
      exact ⟨h1, h2⟩
    · rintro ⟨h1, h2⟩
      refine Nat.eq_of_testBit_eq (fun m => ?_)
      rw [e, Nat.testBit_or, ta, tb]
      by_cases hm : i = m
      · subst hm; rw [h1, Bool.true_and]
      · by_cases hm2 : j = m
        · subst hm2; rw [h2, Bool.true_and]
        · rw [decide_eq_false hm, decide_eq_false hm2, Bool.or_false, Bool.and_false]
  · constructor
    · intro h
      have h1 := congrArg (fun n => Nat.testBit n i) h
      have h2 := congrArg (fun n => Nat.testBit n j) h
      simp only [e, ta, decide_true, Bool.true_or, Bool.or_true, Bool.and_true] at h1 h2
      rw [decide_eq_false hij] at h2
      exact ⟨h1, by rw [h2]; decide⟩
    · rintro ⟨h1, h2⟩
      rw [Bool.not_eq_true] at h2
      refine Nat.eq_of_testBit_eq (fun m => ?_)
      rw [e, ta]
      by_cases hm : i = m
      · subst hm; rw [h1, Bool.true_and, decide_eq_true rfl, Bool.true_or]
      · rw [decide_eq_false hm, Bool.false_or]
        by_cases hm2 : j = m
        · subst hm2; rw [h2, Bool.false_and]
        · rw [decide_eq_false hm2, Bool.and_false]
theorem q1040 {x : Int} (h : 0 ≤ x ∧ x ≤ 65535) : (qand x 1040 = 1040 ↔ qand x 1024 ≠ 0 ∧ qand x 16 ≠ 0) ∧ (qand x 1040 = 1024 ↔ qand x 1024 ≠ 0 ∧ qand x 16 = 0) := by
  obtain ⟨y, rfl⟩ := Int.eq_ofNat_of_zero_le h.1
  have a := and2 (x := y) (a := 1024) (b := 16) 10 4 rfl rfl (by decide)
  rw [show (1024 ||| 16 : Nat) = 1040 from rfl] at a
  have e1 := qand_nat (a := y) (b := 1040) (by omega) (by decide)
  have e2 := qand_nat (a := y) (b := 1024) (by omega) (by decide)
  have e3 := qand_nat (a := y) (b := 16) (by omega) (by decide)
  rw [show ((1040 : Nat) : Int) = 1040 from rfl] at e1
  rw [show ((1024 : Nat) : Int) = 1024 from rfl] at e2
  rw [show ((16 : Nat) : Int) = 16 from rfl] at e3
  rw [e1, e2, e3]
  constructor
  · rw [show ((y &&& 1040 : Nat) : Int) = 1040 ↔ (y &&& 1040) = 1040 by omega, a.1]; omega
  · rw [show ((y &&& 1040 : Nat) : Int) = 1024 ↔ (y &&& 1040) = 1024 by omega, a.2]; omega
theorem q80 {x : Int} (h : 0 ≤ x ∧ x ≤ 65535) : qand x 80 = 80 ↔ qand x 16 ≠ 0 ∧ qand x 64 ≠ 0 := by
  obtain ⟨y, rfl⟩ := Int.eq_ofNat_of_zero_le h.1
  have a := and2 (x := y) (a := 16) (b := 64) 4 6 rfl rfl (by decide)
  rw [show (16 ||| 64 : Nat) = 80 from rfl] at a
  have e1 := qand_nat (a := y) (b := 80) (by omega) (by decide)
  have e2 := qand_nat (a := y) (b := 16) (by omega) (by decide)
  have e3 := qand_nat (a := y) (b := 64) (by omega) (by decide)
  rw [show ((80 : Nat) : Int) = 80 from rfl] at e1
  rw [show ((16 : Nat) : Int) = 16 from rfl] at e2
  rw [show ((64 : Nat) : Int) = 64 from rfl] at e3
  rw [e1, e2, e3, show ((y &&& 80 : Nat) : Int) = 80 ↔ (y &&& 80) = 80 by omega, a.1]
  omega
section MW
variable {w : qE} {s s0 s1 : qS} {B P : Int → Int} {n c i k p e : Int} {f : Int → qS → Prop} {fv : qS → Prop} {g : Nat → qS → Prop}
theorem mG.zero (h : mG B n c) : pT (mkP B c) 0 = 0 := h.ok.2.2.1 0 (by omega)
theorem mPg {t v : Int} (hG : mG B n c) (ht : 1 ≤ t) : (pg (mkP B c) (pT (mkP B c)) v = t) ↔ pT (mkP B c) v = t := by
  unfold pg
  split
  · exact Iff.rfl
  · next h =>
    have := hG.ok.2.2.1 v (by omega)
    omega
theorem m171_d (hS : mS s0 B n) (hF : mFt s0 e s) {t x : Int} (H : fv s) : qW w 4 171 [.ref 25, qI t, qI x] s (qPV fv g) :=
  k171 (m131_d hS hF (m134_d hF ⟨⟨by decide, by decide⟩, fun _ => k171_43 H, fun y => absurd rfl y⟩))
theorem m171_27 (hA : mAt s0 (p + 2) s) (hP : mPo s B n c) {t v : Int} (ht : 1 ≤ t ∧ t ≤ 18) (hv : Rg v) (H : qRes (bd (rCk (decide (pg (mkP B c) (pT (mkP B c)) v = t)) p) (fun _ => .inr v)) (fun e => fv (qset s 25 6 e)) (fun _ => fv s)) : qR w 3 qm171 27 [(0, .ref 25), (1, qI t), (3, qI p), (4, qI v)] [] s (qPV fv g) := by
  refine k171_27 (m139 hP hv ⟨(mRg hP v).1, ⟨by omega, by omega⟩, fun y => k171_43 ?_, fun y => m133 hA (k171_43 ?_)⟩)
  · rw [decide_eq_true ((mPg hP.1 ht.1).mpr y)] at H; exact H
  · rw [decide_eq_false (fun z => y ((mPg hP.1 ht.1).mp z))] at H; exact H
theorem m171_0 (hS : mS s0 B n) (hA : mAt s0 p s) (h0 : 0 ≤ p) (h1 : p ≤ n) (hP : mPo s B n c) {t : Int} (ht : 1 ≤ t ∧ t ≤ 18) (H : qRes (rTake (mkP B c) B n p t) (fun e => ∀ q, Rg q → fv (mDd s q e)) (fun _ => fv (qset s 25 5 (p + 2)))) : qW w 4 171 [.ref 25, qI t, qI 0] s (qPV fv g) := by
  have h5 := hS.1.2.1
  unfold rTake at H
  rw [qRes_bd] at H
  refine k171 (m131 hS hA h0 h1 (qRes_mono H (fun e he H1 v q v0 v1 q0 q1 => ?_) (fun v hv H => ?_)))
  · have := rU2_l he; subst this
    exact m134_d (hA.dd ⟨by omega, by omega⟩ (by omega) ⟨by omega, by omega⟩) ⟨⟨by decide, by decide⟩, fun _ => k171_43 (H1 q ⟨by omega, by omega⟩), fun y => absurd rfl y⟩
  · obtain ⟨q1, rfl⟩ := rU2_r hv
    have r := b2_rg hS.1 h0 q1
    refine m134 (hA.mv (p + 2)) ⟨⟨by decide, by decide⟩, fun y => absurd y (by decide), fun _ => ⟨⟨by decide, by decide⟩, fun _ => ?_, fun y => absurd rfl y⟩⟩
    rw [hA.2.1]
    refine m171_27 (hA.mv (p + 2)) (mSet_po hP _ (by decide) (fun _ => by decide)) ht ⟨by omega, by omega⟩ (qRes_mono H (fun e _ H => ?_) (fun _ _ H => H))
    exact H (p + 2) ⟨by omega, by omega⟩
theorem m171_1 (hS : mS s0 B n) (hA : mAt s0 p s) (h0 : 0 ≤ p) (h1 : p ≤ n) (hP : mPo s B n c) {t : Int} (ht : 1 ≤ t ∧ t ≤ 18) (H : qRes (rTake0 (mkP B c) B n p t) (fun e => ∀ q, Rg q → fv (mDd s q e)) (fun _ => fv (qset s 25 5 (p + 2)))) : qW w 4 171 [.ref 25, qI t, qI 1] s (qPV fv g) := by
  have h5 := hS.1.2.1
  unfold rTake0 at H
  rw [qRes_bd] at H
  refine k171 (m131 hS hA h0 h1 (qRes_mono H (fun e he H1 v q v0 v1 q0 q1 => ?_) (fun v hv H => ?_)))
  · have := rU2_l he; subst this
    exact m134_d (hA.dd ⟨by omega, by omega⟩ (by omega) ⟨by omega, by omega⟩) ⟨⟨by decide, by decide⟩, fun _ => k171_43 (H1 q ⟨by omega, by omega⟩), fun y => absurd rfl y⟩
  · obtain ⟨q1, rfl⟩ := rU2_r hv
    have r := b2_rg hS.1 h0 q1
    refine m134 (hA.mv (p + 2)) ⟨⟨by decide, by decide⟩, fun y => absurd y (by decide), fun _ => ⟨⟨by decide, by decide⟩, fun y => absurd y (by decide), fun _ => ⟨⟨by omega, by omega⟩, fun y => k171_43 ?_, fun y => ?_⟩⟩⟩
    · rw [decide_eq_true (Or.inl y)] at H; exact H
    · rw [hA.2.1]
      refine m171_27 (hA.mv (p + 2)) (mSet_po hP _ (by decide) (fun _ => by decide)) ht ⟨by omega, by omega⟩ ?_
      rw [show decide (b2 B p = 0 ∨ pg (mkP B c) (pT (mkP B c)) (b2 B p) = t) = decide (pg (mkP B c) (pT (mkP B c)) (b2 B p) = t) from decide_eq_decide.mpr ⟨fun z => z.resolve_left y, Or.inr⟩] at H
      exact qRes_mono H (fun e _ H => H (p + 2) ⟨by omega, by omega⟩) (fun _ _ H => H)
theorem m159_d (hS : mS s0 B n) (hF : mFt s0 e s) {x : Int} (H : f 0 s) : qW w 5 159 [.ref 25, qI x] s (qPI f g) :=
  k159 (m131_d hS hF (m134_d hF ⟨⟨by decide, by decide⟩, fun _ => k159_39 H, fun y => absurd rfl y⟩))
theorem m159 {b : Bool} (hS : mS s0 B n) (hA : mAt s0 p s) (h0 : 0 ≤ p) (h1 : p ≤ n) (hP : mPo s B n c) (hQ : pSound (mkP B c)) (H : qRes (bd (rU2 B n p) (fun v => bd (rCk ((b && decide (v = 0)) || pplain (mkP B c) v) p) (fun _ => .inr v))) (fun e => ∀ v q, Rg v → Rg q → f v (mDd s q e)) (fun v => f v (qset s 25 5 (p + 2)))) : qW w 5 159 [.ref 25, qI (bi b)] s (qPI f g) := by
  have h5 := hS.1.2.1
  rw [qRes_bd] at H
  refine k159 (m131 hS hA h0 h1 (qRes_mono H (fun e he H1 v q v0 v1 q0 q1 => ?_) (fun v hv H => ?_)))
  · have := rU2_l he; subst this
    exact m134_d (hA.dd ⟨by omega, by omega⟩ (by omega) ⟨by omega, by omega⟩) ⟨⟨by decide, by decide⟩, fun _ => k159_39 (H1 v q ⟨by omega, by omega⟩ ⟨by omega, by omega⟩), fun y => absurd rfl y⟩
  · obtain ⟨q1, rfl⟩ := rU2_r hv
    have r := b2_rg hS.1 h0 q1
    have hA2 := hA.mv (p + 2)
    have hRv : Rg (b2 B p) := ⟨by omega, by omega⟩
    have h25 : (b && decide (b2 B p = 0)) = false → qR w 4 qm159 25 [(0, .ref 25), (2, qI p), (3, qI (b2 B p))] [] (qset s 25 5 (p + 2)) (qPI f g) := fun z => by
      rw [z, Bool.false_or] at H
      refine k159_25 (m160 (mSet_po hP _ (by decide) (fun _ => by decide)) hQ hRv ⟨bi_rg _, fun y => m133 hA2 (k159_39 ?_), fun y => k159_39 ?_⟩)
      · rw [bi_0] at y
        rw [y] at H
        exact H _ (p + 2) hRv ⟨by omega, by omega⟩
      · rw [bi_n] at y
        rw [y] at H
        exact H
    refine m134 hA2 ⟨⟨by decide, by decide⟩, fun y => absurd y (by decide), fun _ => ⟨bi_rg _, fun y => ?_, fun y => ⟨hRv, fun z => k159_39 ?_, fun z => ?_⟩⟩⟩
    · rw [hA.2.1]
      rw [bi_0] at y
      exact h25 (by rw [y]; rfl)
    · rw [bi_n] at y
      rw [y, decide_eq_true z] at H; exact H
    · rw [hA.2.1]
      exact h25 (by rw [decide_eq_false z, Bool.and_false])
def mHd (s : qS) (B : Int → Int) (p : Int) : Prop := s 25 12 = b2 B p ∧ s 25 13 = b2 B (p + 2) ∧ s 25 14 = b2 B (p + 4) ∧ s 25 15 = b2 B (p + 6) ∧ s 25 16 = p + 8
theorem m158_133_d (hF : mFt s0 e s) (h15 : Rg (s 25 15)) (H : fv s) : qR w 5 qm158 133 [(0, .ref 25), (4, qI 0)] [] s (qPV fv g) :=
  k158_133 ⟨⟨by decide, by decide⟩, h15, fun _ => m134_d hF ⟨⟨by decide, by decide⟩, fun _ => k158_161 H, fun y => absurd rfl y⟩, fun _ => k158_161 H⟩
theorem mFt.s12 (h : mFt s0 e s) {j v : Int} (hj : 12 ≤ j) : mFt s0 e (qset s 25 j v) := h.set (by omega) (fun _ => by omega) (fun y => absurd y (by omega))
theorem mAt.s12 (h : mAt s0 p s) {j v : Int} (hj : 12 ≤ j) : mAt s0 p (qset s 25 j v) := h.set (by omega) (fun _ => by omega) (fun y => absurd y (by omega))
/-- the head's end, behind a fault -/
theorem m158_108_d (hS : mS s0 B n) (hF : mFt s0 e s) {k2 : Int} (H : ∀ s', mFt s0 e s' → fv s') : qR w 5 qm158 108 [(0, .ref 25)] [qI k2, .ref 25, .ref 25] s (qPV fv g) := by
  have hF2 := hF.s12 (j := 14) (v := 0) (by decide)
  have hF3 := (hF2.s12 (j := 15) (v := 0) (by decide)).s12 (j := 16) (v := s 25 5) (by decide)
  refine k158_108 (m159_d hS hF (m131_d hS hF2 ?_))
  refine m158_133_d hF3 ?_ (H _ hF3)
  rw [qset_same, if_neg (by decide), qset_same, if_pos rfl]
  exact ⟨by decide, by decide⟩
theorem m158_88_d (hS : mS s0 B n) (hF : mFt s0 e s) {v2 : Int} (hv : Rg v2) (H : ∀ s', mFt s0 e s' → fv s') : qR w 5 qm158 88 [(0, .ref 25), (2, qI v2)] [] s (qPV fv g) := by
  have hF2 := hF.s12 (j := 13) (v := 0) (by decide)
  exact k158_88 (m159_d hS hF ⟨hv, fun _ => m158_108_d hS hF2 H, fun _ => m158_108_d hS hF2 H⟩)
theorem m158 (hS : mS s0 B n) (hA : mAt s0 p s) (h0 : 0 ≤ p) (h1 : p ≤ n) (hP : mPo s B n c) (hQ : pSound (mkP B c)) (H : qRes (rHead (mkP B c) B n p) (fun e => ∀ s', mFt s0 e s' → fv s') (fun r => ∀ s', mAt s0 r s' → mHd s' B p → (∀ k, k ≠ 25 → s' k = s k) → s' 25 11 = s 25 11 → fv s')) : qW w 6 158 [.ref 25] s (qPV fv g) := by
  have h5 := hS.1.2.1
  unfold rHead at H
  rw [qRes_bd] at H
  have rn : ∀ q : Int, 0 ≤ q → q ≤ n → Rg q := fun q q0 q1 => ⟨by omega, by omega⟩
  have hRb : ∀ b : Bool, Rg (bi b) := bi_rg
  refine k158 (m131 hS hA h0 h1 (qRes_mono H (fun e he H1 v q v0 v1 q0 q1 => ?_) (fun v hv H => ?_)))
  · have := rU2_l he; subst this
    have hF := (hA.dd (q := q) (e := e) (rn q (by omega) q1) (by omega) (rn e (by omega) (by omega))).s12 (j := 12) (v := v) (by decide)
    have key : ∀ x y : Int, Rg x → qR w 5 qm158 49 [(0, .ref 25), (1, qI (s 25 5)), (2, qI x)] [qI y] (qset (mDd s q e) 25 12 v) (qPV fv g) := fun x y hx =>
      k158_49 (m134_d hF ⟨⟨by decide, by decide⟩, fun _ => m158_88_d hS hF hx H1, fun z => absurd rfl z⟩)
    have k29 : ∀ x : Int, Rg x → qR w 5 qm158 29 [(0, .ref 25), (1, qI (s 25 5))] [qI x] (qset (mDd s q e) 25 12 v) (qPV fv g) := fun x hx => k158_29 ⟨qand_Rg _ _, fun _ => key x 1 hx, fun _ => key x 0 hx⟩
    exact ⟨qand_Rg _ _, fun _ => k29 0 ⟨by decide, by decide⟩, fun _ => k29 1 ⟨by decide, by decide⟩⟩
  · obtain ⟨q1, rfl⟩ := rU2_r hv
    have r := b2_rg hS.1 h0 q1
    have hA2 := (hA.mv (p + 2)).s12 (j := 12) (v := b2 B p) (by decide)
    have hP2 : mPo (qset (qset s 25 5 (p + 2)) 25 12 (b2 B p)) B n c := mSet_po (mSet_po hP _ (by decide) (fun _ => by decide)) _ (by decide) (fun _ => by decide)
    rw [hA.2.1]
    obtain ⟨u, hu⟩ : ∃ u, qset (qset s 25 5 (p + 2)) 25 12 (b2 B p) = u := ⟨_, rfl⟩
    have u12 : u 25 12 = b2 B p := by rw [← hu, qset_same, if_pos rfl]
    have ufr : ∀ k, k ≠ 25 → u k = s k := fun k hk => by rw [← hu, qset_cell _ hk, qset_cell _ hk]
    have u11 : u 25 11 = s 25 11 := by rw [← hu, qset_same, if_neg (by decide), qset_same, if_neg (by decide)]
    rw [hu] at hA2 hP2 ⊢
    obtain ⟨qb1, qb2⟩ := q1040 r
    -- behind the flags
    have h88 : ∀ fb : Bool, fb = decide (qand (b2 B p) 512 ≠ 0) → okFl (b2 B p) = true → qR w 5 qm158 88 [(0, .ref 25), (2, qI (bi fb))] [] u (qPV fv g) := by
      intro fb hfb hok
      rw [hok, bd_r (show rCk true p = .inr () from rfl)] at H
      have e1 : rPl (mkP B c) B n (p + 2) = bd (rU2 B n (p + 2)) (fun v => bd (rCk ((false && decide (v = 0)) || pplain (mkP B c) v) (p + 2)) (fun _ => .inr v)) := by
        unfold rPl
        simp only [Bool.false_and, Bool.false_or]
      rw [qRes_bd, e1] at H
      refine k158_88 (m159 (b := false) hS hA2 (by omega) q1 hP2 hQ (qRes_mono H (fun e he H v q hv hq => ?_) (fun v hv H => ?_)))
      · have hee : 0 ≤ e ∧ e ≤ n := by
          rcases bd_inl.mp he with he | ⟨v, h1, he⟩
          · have := rU2_l he; omega
          · rcases bd_inl.mp he with he | ⟨v, h1, he⟩
            · unfold rCk at he; split at he <;> cases he; omega
            · cases he
        have hF := (hA2.dd hq hee.1 (rn e hee.1 hee.2)).s12 (j := 13) (v := v) (by decide)
        exact ⟨bi_rg _, fun _ => m158_108_d hS hF H, fun _ => m158_108_d hS hF H⟩
      · rw [← e1] at hv
        obtain ⟨q2, rfl, -⟩ := rPl_r hv
        have hA3 := (hA2.mv (p + 2 + 2)).s12 (j := 13) (v := b2 B (p + 2)) (by decide)
        have hP3 : mPo (qset (qset u 25 5 (p + 2 + 2)) 25 13 (b2 B (p + 2))) B n c := mSet_po (mSet_po hP2 _ (by decide) (fun _ => by decide)) _ (by decide) (fun _ => by decide)
        have h108 : ∀ nb : Bool, nb = decide (qand (b2 B p) 512 = 0) → qR w 5 qm158 108 [(0, .ref 25)] [qI (bi nb), .ref 25, .ref 25] (qset (qset u 25 5 (p + 2 + 2)) 25 13 (b2 B (p + 2))) (qPV fv g) := by
          intro nb hnb
          have e2 : ∀ v, okPar (mkP B c) (b2 B p) v = ((nb && decide (v = 0)) || pplain (mkP B c) v) := by
            intro v
            unfold okPar
            by_cases hv0 : v = 0
            · rw [if_pos hv0, decide_eq_true hv0, Bool.and_true, hv0]
              have : pplain (mkP B c) 0 = false := by
                unfold pplain
                rw [hP.1.zero]
                rfl
              rw [this, Bool.or_false, hnb]
            · rw [if_neg hv0, decide_eq_false hv0, Bool.and_false, Bool.false_or]
          have H : qRes (bd (rU2 B n (p + 2 + 2)) (fun v => bd (rCk ((nb && decide (v = 0)) || pplain (mkP B c) v) (p + 2 + 2)) (fun _ => .inr v))) (fun e => ∀ s', mFt s0 e s' → fv s') (fun v => qRes (bd (rU2 B n (p + 6)) (fun m => rPls (mkP B c) B n m.toNat (p + 8))) (fun e => ∀ s', mFt s0 e s' → fv s') (fun r => ∀ s', mAt s0 r s' → mHd s' B p → (∀ k, k ≠ 25 → s' k = s k) → s' 25 11 = s 25 11 → fv s')) := by
            simp only [← e2]
            rw [show p + 2 + 2 = p + 4 by omega]
            rw [qRes_bd] at H ⊢
            refine qRes_mono H (fun _ _ h => h) (fun v _ H => ?_)
            rw [qRes_bd] at H ⊢
            exact qRes_mono H (fun _ _ h => h) (fun _ _ H => H)
          refine k158_108 (m159 hS hA3 (by omega) (by omega) hP3 hQ (qRes_mono H (fun e he H v q hv hq => ?_) (fun v hv H => ?_)))
          · have hee : 0 ≤ e ∧ e ≤ n := by
              rcases bd_inl.mp he with he | ⟨v, h1, he⟩
              · have := rU2_l he; omega
              · rcases bd_inl.mp he with he | ⟨v, h1, he⟩
                · unfold rCk at he; split at he <;> cases he; omega
                · cases he
            have hF := (hA3.dd hq hee.1 (rn e hee.1 hee.2)).s12 (j := 14) (v := v) (by decide)
            refine m131_d hS hF ?_
            have hF3 := (hF.s12 (j := 15) (v := 0) (by decide)).s12 (j := 16) (v := qset (mDd (qset (qset u 25 5 (p + 2 + 2)) 25 13 (b2 B (p + 2))) q e) 25 14 v 25 5) (by decide)
            refine m158_133_d hF3 ?_ (H _ hF3)
            rw [qset_same, if_neg (by decide), qset_same, if_pos rfl]
            exact ⟨by decide, by decide⟩
          · obtain ⟨v', hv1, hv2⟩ := bd_inr.mp hv
            obtain ⟨q3, rfl⟩ := rU2_r hv1
            obtain ⟨_, -, hv3⟩ := bd_inr.mp hv2
            cases hv3
            have hA4 := (hA3.mv (p + 2 + 2 + 2)).s12 (j := 14) (v := b2 B (p + 2 + 2)) (by decide)
            rw [qRes_bd] at H
            refine m131 hS hA4 (by omega) q3 ?_
            rw [show p + 2 + 2 + 2 = p + 6 by omega] at hA4 ⊢
            refine qRes_mono H (fun e he H1 v q v0 v1 q0 q1 => ?_) (fun m hm H => ?_)
            · have := rU2_l he; subst this
              have hF := hA4.dd (q := q) (e := e) (rn q (by omega) q1) (by omega) (rn e (by omega) (by omega))
              have hF3 := (hF.s12 (j := 15) (v := v) (by decide)).s12 (j := 16) (v := mDd (qset (qset (qset (qset u 25 5 (p + 2 + 2)) 25 13 (b2 B (p + 2))) 25 5 (p + 6)) 25 14 (b2 B (p + 2 + 2))) q e 25 5) (by decide)
              refine m158_133_d hF3 ?_ (H1 _ hF3)
              rw [qset_same, if_neg (by decide), qset_same, if_pos rfl]
              exact ⟨by omega, by omega⟩
            · obtain ⟨q4, rfl⟩ := rU2_r hm
              have rm := b2_rg hS.1 (p := p + 6) (by omega) q4
              have hA5 := ((hA4.mv (p + 6 + 2)).s12 (j := 15) (v := b2 B (p + 6)) (by decide)).s12 (j := 16) (v := p + 6 + 2) (by decide)
              show qR w 5 qm158 133 [(0, .ref 25), (4, qI 0)] [] (qset (qset (qset (qset (qset (qset (qset u 25 5 (p + 2 + 2)) 25 13 (b2 B (p + 2))) 25 5 (p + 6)) 25 14 (b2 B (p + 2 + 2))) 25 5 (p + 6 + 2)) 25 15 (b2 B (p + 6))) 25 16 ((qset (qset (qset (qset (qset u 25 5 (p + 2 + 2)) 25 13 (b2 B (p + 2))) 25 5 (p + 6)) 25 14 (b2 B (p + 2 + 2))) 25 5 (p + 6 + 2)) 25 5)) (qPV fv g)
              rw [qset_same _ 25 5 (p + 6 + 2) 5, if_pos rfl]
              obtain ⟨y, hy⟩ : ∃ y, qset (qset (qset (qset (qset (qset (qset u 25 5 (p + 2 + 2)) 25 13 (b2 B (p + 2))) 25 5 (p + 6)) 25 14 (b2 B (p + 2 + 2))) 25 5 (p + 6 + 2)) 25 15 (b2 B (p + 6))) 25 16 (p + 6 + 2) = y := ⟨_, rfl⟩
              have yfr : ∀ k, k ≠ 25 → y k = s k := fun k hk => by
                rw [← hy]; simp only [qset_cell _ hk]; exact ufr k hk
              have y25 : ∀ j, y 25 j = if j = 16 then p + 6 + 2 else if j = 15 then b2 B (p + 6) else if j = 5 then p + 6 + 2 else if j = 14 then b2 B (p + 2 + 2) else if j = 13 then b2 B (p + 2) else u 25 j := fun j => by
                rw [← hy]; simp only [qset_same]
                split
                · rfl
                · split
                  · rfl
                  · split
                    · rfl
                    · rfl
              have yH : mHd y B p := by
                refine ⟨?_, ?_, ?_, ?_, ?_⟩ <;> rw [y25]
                · exact u12
                · rfl
                · rw [show p + 2 + 2 = p + 4 by omega]; rfl
                · rfl
                · show p + 6 + 2 = p + 8; omega
              have y11 : y 25 11 = s 25 11 := by rw [y25]; exact u11
              rw [hy] at hA5 ⊢
              have hP5 : mPo y B n c := hP.fr y11 (yfr 26 (by decide)) (yfr 28 (by decide)) (yfr 29 (by decide))
              clear hA4 hA3 hP3 hA2 hP2 hy y25
              rw [show p + 6 + 2 = p + 8 by omega] at hA5
              -- the faces
              have loop : ∀ (d : Nat) (x : qS), (d : Int) ≤ b2 B (p + 6) → mAt s0 (p + 8 + 2 * (b2 B (p + 6) - d)) x → p + 8 + 2 * (b2 B (p + 6) - d) ≤ n → (∀ j, j ≠ 5 → j ≠ 6 → x 25 j = y 25 j) → (∀ k, k ≠ 25 → x k = y k) → qRes (rPls (mkP B c) B n d (p + 8 + 2 * (b2 B (p + 6) - d))) (fun e => ∀ s', mFt s0 e s' → fv s') (fun r => ∀ s', mAt s0 r s' → mHd s' B p → (∀ k, k ≠ 25 → s' k = s k) → s' 25 11 = s 25 11 → fv s') → qR w 5 qm158 133 [(0, .ref 25), (4, qI (b2 B (p + 6) - d))] [] x (qPV fv g) := by
                intro d
                induction d with
                | zero =>
                  intro x hd hX hn hx1 hx2 H
                  have x15 : x 25 15 = b2 B (p + 6) := (hx1 15 (by decide) (by decide)).trans yH.2.2.2.1
                  refine k158_133 ⟨⟨by omega, by omega⟩, by rw [x15]; exact ⟨by omega, by omega⟩, fun z => absurd z (by rw [x15]; omega), fun _ => k158_161 ?_⟩
                  have H : ∀ s', mAt s0 (p + 8 + 2 * (b2 B (p + 6) - ((0 : Nat) : Int))) s' → mHd s' B p → (∀ k, k ≠ 25 → s' k = s k) → s' 25 11 = s 25 11 → fv s' := H
                  refine H x hX ?_ (fun k hk => (hx2 k hk).trans (yfr k hk)) ((hx1 11 (by decide) (by decide)).trans y11)
                  unfold mHd
                  rw [hx1 12 (by decide) (by decide), hx1 13 (by decide) (by decide), hx1 14 (by decide) (by decide), hx1 15 (by decide) (by decide), hx1 16 (by decide) (by decide)]
                  exact yH
                | succ d ih =>
                  intro x hd hX hn hx1 hx2 H
                  have x15 : x 25 15 = b2 B (p + 6) := (hx1 15 (by decide) (by decide)).trans yH.2.2.2.1
                  have hPx : mPo x B n c := hP5.fr (hx1 11 (by decide) (by decide)) (hx2 26 (by decide)) (hx2 28 (by decide)) (hx2 29 (by decide))
                  unfold rPls at H
                  rw [qRes_bd] at H
                  have e3 : ∀ q, rPl (mkP B c) B n q = bd (rU2 B n q) (fun v => bd (rCk ((false && decide (v = 0)) || pplain (mkP B c) v) q) (fun _ => .inr v)) := by
                    intro q
                    unfold rPl
                    simp only [Bool.false_and, Bool.false_or]
                  rw [e3] at H
                  refine k158_133 ⟨⟨by omega, by omega⟩, by rw [x15]; exact ⟨by omega, by omega⟩, fun _ => m134 hX ⟨⟨by decide, by decide⟩, fun z => absurd z (by decide), fun _ => m159 (b := false) hS hX (by omega) hn hPx hQ (qRes_mono H (fun e he H v q hv hq => ?_) (fun v hv H => ?_))⟩, fun z => absurd z (by rw [x15]; omega)⟩
                  · have hee : 0 ≤ e ∧ e ≤ n := by
                      rcases bd_inl.mp he with he | ⟨v, h1, he⟩
                      · have := rU2_l he; omega
                      · rcases bd_inl.mp he with he | ⟨v, h1, he⟩
                        · unfold rCk at he; split at he <;> cases he; omega
                        · cases he
                    have hF := hX.dd hq hee.1 (rn e hee.1 hee.2)
                    have e15 : mDd x q e 25 15 = b2 B (p + 6) := x15
                    exact k158_133 ⟨⟨by omega, by omega⟩, by rw [e15]; exact ⟨by omega, by omega⟩, fun _ => m134_d hF ⟨⟨by decide, by decide⟩, fun _ => k158_161 (H _ hF), fun z => absurd rfl z⟩, fun _ => k158_161 (H _ hF)⟩
                  · rw [← e3] at hv
                    obtain ⟨q5, -, -⟩ := rPl_r hv
                    have ee : p + 8 + 2 * (b2 B (p + 6) - ((d + 1 : Nat) : Int)) + 2 = p + 8 + 2 * (b2 B (p + 6) - (d : Int)) := by omega
                    rw [ee] at H ⊢
                    rw [show b2 B (p + 6) - ((d + 1 : Nat) : Int) + 1 = b2 B (p + 6) - (d : Int) by omega]
                    exact ih _ (by omega) (hX.mv _) (by omega) (fun j j1 j2 => by rw [qset_same, if_neg j1]; exact hx1 j j1 j2) (fun k hk => by rw [qset_cell _ hk]; exact hx2 k hk) H
              have := loop (b2 B (p + 6)).toNat y (by omega) (by rw [show p + 8 + 2 * (b2 B (p + 6) - ((b2 B (p + 6)).toNat : Int)) = p + 8 by omega]; exact hA5) (by omega) (fun _ _ _ => rfl) (fun _ _ => rfl) (by rw [show p + 8 + 2 * (b2 B (p + 6) - ((b2 B (p + 6)).toNat : Int)) = p + 8 by omega]; exact H)
              rw [show b2 B (p + 6) - ((b2 B (p + 6)).toNat : Int) = 0 by omega] at this
              exact this
        refine ⟨bi_rg _, fun z => h108 true ?_, fun z => h108 false ?_⟩
        · rw [bi_0] at z
          rw [z] at hfb
          have := of_decide_eq_false hfb.symm
          exact (decide_eq_true (by omega)).symm
        · rw [bi_n] at z
          rw [z] at hfb
          have := of_decide_eq_true hfb.symm
          exact (decide_eq_false this).symm
    have h82 : ∀ fb : Bool, okFl (b2 B p) = false → qR w 5 qm158 82 [(0, .ref 25), (1, qI p), (2, qI (bi fb))] [] u (qPV fv g) := fun fb hok => by
      rw [hok, bd_l (show rCk false p = .inl p from rfl)] at H
      exact k158_82 (m133 hA2 (m158_88_d hS (hA2.ft (rn _ (by omega) q1) h0 (rn p h0 h1)) (bi_rg _) H))
    have h49 : ∀ fb bb : Bool, fb = decide (qand (b2 B p) 512 ≠ 0) → bb = decide (qand (b2 B p) 1040 = 1040) → qR w 5 qm158 49 [(0, .ref 25), (1, qI p), (2, qI (bi fb))] [qI (bi bb)] u (qPV fv g) := by
      intro fb bb hfb hbb
      have e : okFl (b2 B p) = if fb = true then decide (qand (b2 B p) 1040 = 1024) else !bb := by
        unfold okFl
        rw [hfb, hbb]
        by_cases h : qand (b2 B p) 512 ≠ 0
        · rw [if_pos h, decide_eq_true h, if_pos rfl]
          exact decide_eq_decide.mpr qb2.symm
        · rw [if_neg h, decide_eq_false h, if_neg (by decide), ← decide_not]
          exact decide_eq_decide.mpr (not_congr qb1.symm)
      refine k158_49 (m134 hA2 ⟨⟨by decide, by decide⟩, fun y => absurd y (by decide), fun _ => ⟨bi_rg _, fun y => ⟨bi_rg _, fun z => h88 fb hfb ?_, fun z => h82 fb ?_⟩, fun y => ?_⟩⟩)
      · rw [bi_0] at y z; rw [e, y, z]; rfl
      · rw [bi_0] at y; rw [bi_n] at z; rw [e, y, z]; rfl
      · rw [bi_n] at y
        rw [u12]
        refine ⟨qand_Rg _ _, fun z => h88 fb hfb ?_, fun z => h82 fb ?_⟩
        · rw [e, y, if_pos rfl, decide_eq_true z]
        · rw [e, y, if_pos rfl, decide_eq_false z]
    have h29 : ∀ fb : Bool, fb = decide (qand (b2 B p) 512 ≠ 0) → qR w 5 qm158 29 [(0, .ref 25), (1, qI p)] [qI (bi fb)] u (qPV fv g) := by
      intro fb hfb
      refine k158_29 ?_
      rw [u12]
      exact ⟨qand_Rg _ _, fun z => h49 fb true hfb (decide_eq_true z).symm, fun z => h49 fb false hfb (decide_eq_false z).symm⟩
    exact ⟨qand_Rg _ _, fun z => h29 false (decide_eq_false (fun x => x z)).symm, fun z => h29 true (decide_eq_true z).symm⟩
end MW
