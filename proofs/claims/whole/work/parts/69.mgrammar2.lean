/-! THE MODEL's grammar: method descriptors, names, entries -/
theorem gCl_at {C : Int → Int} {e : Int} : ∀ (d : Nat) (k : Int), e - k ≤ d → gCl C e d k ≠ -1 → C (gCl C e d k) = 41 := by
  intro d
  induction d with
  | zero =>
    intro k h1 h2
    unfold gCl at h2
    rw [if_neg (by omega)] at h2
    exact absurd rfl h2
  | succ d ih =>
    intro k h1 h2
    unfold gCl at h2 ⊢
    split
    · next h3 =>
      rw [if_pos h3] at h2
      split
      · next h4 => rw [if_pos h4] at h2; exact absurd rfl h2
      · next h4 =>
        rw [if_neg h4] at h2
        have := gField_rg C e k
        exact ih _ (by omega) h2
    · next h3 =>
      rw [if_neg h3] at h2
      split
      · next h4 =>
        rcases Int.decEq (C k) 41 with h | h
        · exact absurd ⟨h4, h⟩ h3
        · exact h
      · next h4 => rw [if_neg h4] at h2; exact absurd rfl h2
theorem gSemi_at {C : Int → Int} : ∀ (d : Nat) (k : Int), gSemi C d k < k + d → C (gSemi C d k) = 59 := by
  intro d
  induction d with
  | zero => intro k h; unfold gSemi at h; omega
  | succ d ih =>
    intro k h
    unfold gSemi at h ⊢
    split
    · assumption
    · next h2 =>
      rw [if_neg h2] at h
      exact ih (k + 1) (by omega)
theorem gBr_at {C : Int → Int} : ∀ (d : Nat) (k : Int), gBr C d k < k + d → C (gBr C d k) ≠ 91 := by
  intro d
  induction d with
  | zero => intro k h; unfold gBr at h; omega
  | succ d ih =>
    intro k h
    unfold gBr at h ⊢
    split
    · next h2 =>
      rw [if_pos h2] at h
      exact ih (k + 1) (by omega)
    · assumption
theorem gField_last {C : Int → Int} {N k : Int} (h0 : 0 ≤ N) (h : gField C N k = N) : C (N - 1) ≠ 86 := by
  unfold gField gFld at h
  obtain ⟨q, hq⟩ : ∃ q, gBr C (N - k).toNat k = q := ⟨_, rfl⟩
  rw [hq] at h
  split at h
  · omega
  · next h1 =>
    split at h
    · next h2 =>
      unfold gObj at h
      split at h
      · next h3 =>
        have hs := gSemi_at (C := C) (N - (q + 1)).toNat (q + 1) (by omega)
        rw [show N - 1 = gSemi C (N - (q + 1)).toNat (q + 1) by omega, hs]
        decide
      · omega
    · split at h
      · next h2 h3 =>
        rw [show N - 1 = q by omega]
        intro z
        rw [z] at h3
        exact absurd h3 (by decide)
      · omega
theorem gField_86 {C : Int → Int} {N k : Int} (h : C k = 86) : gField C N k = -1 := by
  unfold gField
  have : gBr C (N - k).toNat k = k := by
    rcases Nat.eq_zero_or_pos (N - k).toNat with e | e
    · rw [e]; rfl
    · rw [show (N - k).toNat = ((N - k).toNat - 1) + 1 by omega]
      unfold gBr
      rw [if_neg (by omega)]
  rw [this]
  unfold gFld
  rw [h, if_neg (show ¬ ((86 : Int) = 76) by decide), if_neg (show ¬ (gBas 86 = true) by decide)]
  split <;> rfl
theorem gIs86 {C : Int → Int} {k N : Int} : gIs C k N [86] = true ↔ N = k + 1 ∧ C k = 86 := by
  unfold gIs gWd gWd
  rw [Bool.and_true, Bool.and_eq_true, decide_eq_true_iff, decide_eq_true_iff]
  simp only [List.length_cons, List.length_nil]
  constructor
  · rintro ⟨a, b⟩; exact ⟨by omega, b⟩
  · rintro ⟨a, b⟩; exact ⟨by omega, b⟩
/-- a method's descriptor: where its types end, and what is told of its last character -/
theorem gMeth_end {C : Int → Int} {N : Int} (h0 : 0 ≤ N) (h1 : N ≤ 500) (h : gMeth C N 0 = true) : 1 ≤ gCl C N 500 1 ∧ gCl C N 500 1 + 1 < N ∧ C (gCl C N 500 1) = 41 ∧ (C (gCl C N 500 1 + 1) = 86 ↔ C (N - 1) = 86) ∧ (C (gCl C N 500 1 + 1) = 86 → N = gCl C N 500 1 + 2) := by
  unfold gMeth at h
  rw [show (0 : Int) + 1 = 1 by decide] at h
  obtain ⟨q, hq⟩ : ∃ q, gCl C N 500 1 = q := ⟨_, rfl⟩
  rw [hq] at h ⊢
  simp only [Bool.and_eq_true, Bool.or_eq_true, decide_eq_true_eq] at h
  obtain ⟨a1, a2, a3, a4⟩ := h
  have hr := gCl_rg C N 500 1
  have hat := gCl_at (C := C) (e := N) 500 1 (by omega)
  rw [hq] at hr hat
  have hc := hat a3
  rcases a4 with a | a
  · rw [gIs86] at a
    refine ⟨by omega, by omega, hc, ?_, fun _ => by omega⟩
    rw [show N - 1 = q + 1 by omega]
  · have b := gField_last h0 a
    have d := gField_rg C N (q + 1)
    have e : C (q + 1) ≠ 86 := fun z => by have := gField_86 (N := N) z; omega
    exact ⟨by omega, by omega, hc, ⟨fun z => absurd z e, fun z => absurd z b⟩, fun z => absurd z e⟩
section MH
variable {w : qE} {s s0 : qS} {B : Int → Int} {n c i k : Int} {f : Int → qS → Prop} {fv : qS → Prop} {g : Nat → qS → Prop}
theorem m152 (hP : mPo s B n c) (ht : pT (mkP B c) i = 1) (H : ∀ s', mSg s s' → (gMeth (pC (mkP B c) i) (pN (mkP B c) i) 0 = true → s' 25 28 = gCl (pC (mkP B c) i) (pN (mkP B c) i) 500 1 ∧ s' 25 27 = gSl (pC (mkP B c) i) (pN (mkP B c) i) 500 1 0) → f (bi (gMeth (pC (mkP B c) i) (pN (mkP B c) i) 0)) s') : qW w 5 152 [.ref 25, qI i] s (qPI f g) := by
  have hok := hP.1.ok.2.2.2.2 i ht
  obtain ⟨N, hN⟩ : ∃ N, pN (mkP B c) i = N := ⟨_, rfl⟩
  obtain ⟨C, hC⟩ : ∃ C, pC (mkP B c) i = C := ⟨_, rfl⟩
  rw [hN, hC] at H hok
  have hM1 := (mSg.rfl' s).set (j := 27) (v := 0) (Or.inl rfl)
  have out : ∀ s', mSg s s' → gMeth C N 0 = false → f 0 s' := fun s' h1 h2 => by
    have := H s' h1 (fun z => by rw [h2] at z; exact absurd z (by decide))
    rw [h2] at this; exact this
  have fin : ∀ s' : qS, mSg s s' → 0 < N → C 0 = 40 → gCl C N 500 1 ≠ -1 → s' 25 27 = gSl C N 500 1 0 → qR w 4 qm152 78 [(0, .ref 25), (1, qI i), (2, qI (gCl C N 500 1))] [] s' (qPI f g) := by
    intro s' h1 h0 h40 h2 h3
    obtain ⟨q, hq⟩ : ∃ q, gCl C N 500 1 = q := ⟨_, rfl⟩
    rw [hq] at h2 H ⊢
    have hr := gCl_rg C N 500 1
    rw [hq] at hr
    have hM := h1.set (j := 28) (v := q) (Or.inr rfl)
    have hP2 := hM.po hP
    have em : gMeth C N 0 = (gIs C (q + 1) N [86] || decide (gField C N (q + 1) = N)) := by
      unfold gMeth
      rw [show (0 : Int) + 1 = 1 by decide, hq, decide_eq_true h0, decide_eq_true h40, decide_eq_true h2, Bool.true_and, Bool.true_and, Bool.true_and]
    have last : ∀ z : Int, Rg z → (0 < z ∧ z = N ↔ gMeth C N 0 = true) → qR w 4 qm152 116 [(0, .ref 25), (1, qI i)] [qI z] (qset s' 25 28 q) (qPI f g) := by
      intro z hz hz2
      have H2 := H _ hM (fun _ => ⟨by rw [qset_same]; simp, by rw [qset_same, if_neg (by decide)]; exact h3⟩)
      refine k152_116 ⟨hz, fun y => m151 hP2 ht ?_, fun y => k152_134 (k152_135 ⟨Or.inl rfl, ?_⟩)⟩
      · rw [hN]
        refine ⟨⟨by omega, by omega⟩, fun y2 => k152_135 ⟨Or.inr rfl, ?_⟩, fun y2 => k152_134 (k152_135 ⟨Or.inl rfl, ?_⟩)⟩
        · rw [hz2.mp ⟨y, y2⟩] at H2; exact H2
        · have : gMeth C N 0 = false := by
            rw [← Bool.not_eq_true]; intro x; exact y2 (hz2.mpr x).2
          rw [this] at H2; exact H2
      · have : gMeth C N 0 = false := by
          rw [← Bool.not_eq_true]; intro x; have := (hz2.mpr x).1; omega
        rw [this] at H2; exact H2
    refine k152_78 ⟨⟨by omega, by omega⟩, fun y => absurd y (by omega), fun _ => m146 hP2 ht (by omega) ⟨by omega, by omega⟩ ?_⟩
    have hr2 := mCh_rg (k := q + 1) hP.1 ht (by omega)
    refine ⟨⟨by omega, by omega⟩, fun y => last (q + 2) ⟨by omega, by omega⟩ ?_, fun y => m148 hP2 ht (by omega) (by omega) ?_⟩
    · have hlt : q + 1 < N := by
        rcases Int.lt_or_le (q + 1) N with h | h
        · exact h
        · rw [mCh_out (by omega)] at y; exact absurd y (by decide)
      rw [mCh_in (by omega), hC] at y
      rw [em, gField_86 y, decide_eq_false (show ¬ (-1 = N) by omega), Bool.or_false, gIs86]
      omega
    · rw [hN, hC]
      have hg := gField_rg C N (q + 1)
      refine last _ ⟨by omega, by omega⟩ ?_
      have hf : gIs C (q + 1) N [86] = false := by
        rw [← Bool.not_eq_true, gIs86]
        rintro ⟨x1, x2⟩
        rw [mCh_in (by omega), hC] at y
        exact y x2
      rw [em, hf, Bool.false_or, decide_eq_true_iff]
      omega
  obtain ⟨Q, hQ⟩ : ∃ Q, gCl C N 500 1 = Q := ⟨_, rfl⟩
  obtain ⟨L, hL⟩ : ∃ L, gSl C N 500 1 0 = L := ⟨_, rfl⟩
  rw [hQ, hL] at fin
  have loop : ∀ (d : Nat) (k acc : Int) (s' : qS), N - k ≤ d → 1 ≤ k → k ≤ N → mSg s s' → s' 25 27 = acc → 0 < N → C 0 = 40 → Q = gCl C N d k → L = gSl C N d k acc → qR w 4 qm152 20 [(0, .ref 25), (1, qI i), (2, qI k)] [] s' (qPI f g) := by
    intro d
    induction d with
    | zero =>
      intro k acc s' h1 h2 h3 hM ha h0 h40 hcl hsl
      have hk : k = N := by omega
      subst hk
      have hP2 := hM.po hP
      have hcl : Q = -1 := by rw [hcl]; unfold gCl; rw [if_neg (by omega)]
      refine k152_20 ⟨⟨by omega, by omega⟩, fun _ => m146 hP2 ht (by omega) ⟨by omega, by omega⟩ ?_, fun y => absurd y (by omega)⟩
      rw [mCh_out (by omega)]
      refine ⟨⟨by decide, by decide⟩, fun y => absurd y (by decide), fun _ => m146 hP2 ht (by omega) ⟨by omega, by omega⟩ ?_⟩
      rw [mCh_out (by omega)]
      refine ⟨⟨by decide, by decide⟩, fun y => absurd y (by decide), fun _ => ⟨fun y => absurd y (by decide), fun _ => k152_64 ?_⟩⟩
      have hM3 := hM.set (j := 27) (v := s' 25 27 + 1) (Or.inl rfl)
      refine m148 (hM3.po hP) ht (by omega) (by omega) ?_
      have hg := gField_rg C k k
      rw [hN, hC, show gField C k k = -1 by omega]
      refine k152_20 ⟨⟨by decide, by decide⟩, fun y => absurd y (by decide), fun _ => k152_78 ⟨⟨by decide, by decide⟩, fun _ => out _ hM3 ?_, fun y => absurd y (by decide)⟩⟩
      unfold gMeth
      rw [show (0 : Int) + 1 = 1 by decide, hQ, hcl, decide_eq_false (show ¬ ((-1 : Int) ≠ -1) by decide), Bool.false_and, Bool.and_false, Bool.and_false]
    | succ d ih =>
      intro k acc s' h1 h2 h3 hM ha h0 h40 hcl hsl
      have hP2 := hM.po hP
      refine k152_20 ⟨⟨by omega, by omega⟩, fun _ => m146 hP2 ht (by omega) ⟨by omega, by omega⟩ ?_, fun y => absurd y (by omega)⟩
      rcases Int.lt_or_le k N with hk | hk
      · have r := hok.2.2.2 k (by omega) hk
        rw [mCh_in (by omega), hC]
        unfold gCl at hcl
        unfold gSl at hsl
        refine ⟨⟨by omega, by omega⟩, fun y => ?_, fun y => m146 hP2 ht (by omega) ⟨by omega, by omega⟩ ?_⟩
        · rw [if_neg (by omega), if_pos hk] at hcl
          rw [if_neg (by omega)] at hsl
          have := fin s' hM h0 h40 (by omega) (by rw [ha, hsl])
          rwa [hcl] at this
        · rw [mCh_in (by omega), hC]
          rw [if_pos ⟨hk, y⟩] at hcl
          rw [if_pos ⟨by omega, hk, y⟩] at hsl
          have step : ∀ wd : Int, wd = gWide (C k) → qR w 4 qm152 64 [(0, .ref 25), (1, qI i), (2, qI k)] [qI wd, qI (s' 25 27), .ref 25] s' (qPI f g) := by
            intro wd hwd
            refine k152_64 ?_
            have hM3 := hM.set (j := 27) (v := s' 25 27 + wd) (Or.inl rfl)
            refine m148 (hM3.po hP) ht (by omega) (by omega) ?_
            rw [hN, hC]
            have hg := gField_rg C N k
            by_cases hf : gField C N k = -1
            · rw [hf]
              rw [if_pos hf] at hcl
              refine k152_20 ⟨⟨by decide, by decide⟩, fun y => absurd y (by decide), fun _ => k152_78 ⟨⟨by decide, by decide⟩, fun _ => out _ hM3 ?_, fun y => absurd y (by decide)⟩⟩
              unfold gMeth
              rw [show (0 : Int) + 1 = 1 by decide, hQ, hcl, decide_eq_false (show ¬ ((-1 : Int) ≠ -1) by decide), Bool.false_and, Bool.and_false, Bool.and_false]
            · rw [if_neg hf] at hcl
              refine ih (gField C N k) (acc + gWide (C k)) _ (by omega) (by omega) (by omega) hM3 ?_ h0 h40 hcl hsl
              rw [qset_same, if_pos rfl, ha, hwd]
          refine ⟨⟨by omega, by omega⟩, fun z => k152_59 (step 2 ?_), fun z => ⟨fun z2 => k152_59 (step 2 ?_), fun z2 => step 1 ?_⟩⟩
          · unfold gWide; rw [if_pos (Or.inl z)]
          · unfold gWide; rw [if_pos (Or.inr z2)]
          · unfold gWide; rw [if_neg (by omega)]
      · have hk : k = N := by omega
        subst hk
        have hcl : Q = -1 := by rw [hcl]; unfold gCl; rw [if_neg (by omega), if_neg (by omega)]
        rw [mCh_out (by omega)]
        refine ⟨⟨by decide, by decide⟩, fun y => absurd y (by decide), fun _ => m146 hP2 ht (by omega) ⟨by omega, by omega⟩ ?_⟩
        rw [mCh_out (by omega)]
        refine ⟨⟨by decide, by decide⟩, fun y => absurd y (by decide), fun _ => ⟨fun y => absurd y (by decide), fun _ => k152_64 ?_⟩⟩
        have hM3 := hM.set (j := 27) (v := s' 25 27 + 1) (Or.inl rfl)
        refine m148 (hM3.po hP) ht (by omega) (by omega) ?_
        have hg := gField_rg C k k
        rw [hN, hC, show gField C k k = -1 by omega]
        refine k152_20 ⟨⟨by decide, by decide⟩, fun y => absurd y (by decide), fun _ => k152_78 ⟨⟨by decide, by decide⟩, fun _ => out _ hM3 ?_, fun y => absurd y (by decide)⟩⟩
        unfold gMeth
        rw [show (0 : Int) + 1 = 1 by decide, hQ, hcl, decide_eq_false (show ¬ ((-1 : Int) ≠ -1) by decide), Bool.false_and, Bool.and_false, Bool.and_false]
  have hP1 := hM1.po hP
  have hr0 := mCh_rg (k := 0) hP.1 ht (by decide)
  refine k152 (m146 hP1 ht (by decide) ⟨by decide, by decide⟩ ⟨⟨by omega, by omega⟩, fun y => ?_, fun y => out _ hM1 ?_⟩)
  · have h0 : 0 < N := by
      rcases Int.lt_or_le 0 N with h | h
      · exact h
      · rw [mCh_out (by omega)] at y; exact absurd y (by decide)
    rw [mCh_in (by omega), hC] at y
    exact loop 500 1 0 _ (by omega) (by omega) (by omega) hM1 (by rw [qset_same, if_pos rfl]) h0 y hQ.symm hL.symm
  · unfold gMeth
    rcases Int.lt_or_le 0 N with h | h
    · rw [mCh_in (by omega), hC] at y
      rw [decide_eq_false y, Bool.false_and, Bool.and_false]
    · rw [decide_eq_false (by omega), Bool.false_and]
theorem m157 (hP : mPo s B n c) (ht : pT (mkP B c) i = 1) (H : f (bi (gPath (pC (mkP B c) i) (pN (mkP B c) i).toNat 0 true && gNoSl (pC (mkP B c) i) (pN (mkP B c) i).toNat 0)) s) : qW w 3 157 [.ref 25, qI i] s (qPI f g) := by
  have hok := hP.1.ok.2.2.2.2 i ht
  obtain ⟨N, hN⟩ : ∃ N, pN (mkP B c) i = N := ⟨_, rfl⟩
  obtain ⟨C, hC⟩ : ∃ C, pC (mkP B c) i = C := ⟨_, rfl⟩
  rw [hN, hC] at H hok
  have key : ∀ (d : Nat) (k : Int), k + d = N → 0 ≤ k → f (bi (gPath C d k (decide (k = 0)) && gNoSl C d k)) s → qR w 2 qm157 8 [(0, .ref 25), (1, qI i), (2, qI N), (3, qI k)] [] s (qPI f g) := by
    intro d
    induction d with
    | zero =>
      intro k h1 h0 H
      unfold gPath gNoSl at H
      rw [Bool.and_true] at H
      refine k157_8 ⟨⟨by omega, by omega⟩, ⟨by omega, by omega⟩, fun y => absurd y (by omega), fun _ => ⟨fun y => k157_66 ⟨Or.inr rfl, ?_⟩, fun y => k157_66 ⟨Or.inl rfl, ?_⟩⟩⟩
      · rw [decide_eq_false (by omega)] at H; exact H
      · rw [decide_eq_true (by omega)] at H; exact H
    | succ d ih =>
      intro k h1 h0 H
      have r := hok.2.2.2 k h0 (by omega)
      refine k157_8 ⟨⟨by omega, by omega⟩, ⟨by omega, by omega⟩, fun _ => m146 hP ht h0 ⟨by omega, by omega⟩ ?_, fun y => absurd y (by omega)⟩
      rw [mCh_in (by omega), hC]
      by_cases h47 : C k = 47
      · have : gNoSl C (d + 1) k = false := by
          unfold gNoSl
          rw [decide_eq_false (fun z => z h47), Bool.false_and]
        rw [this, Bool.and_false] at H
        exact ⟨⟨by omega, by omega⟩, fun y => k157_49 H, fun _ => ⟨fun y => k157_49 H, fun _ => ⟨fun y => k157_49 H, fun _ => ⟨fun y => k157_49 H, fun y => absurd h47 y⟩⟩⟩⟩
      · by_cases hb : C k = 46 ∨ C k = 59 ∨ C k = 91
        · rw [gPath_bad (part := k) (by omega), Bool.false_and] at H
          exact ⟨⟨by omega, by omega⟩, fun y => k157_49 H, fun _ => ⟨fun y => k157_49 H, fun _ => ⟨fun y => k157_49 H, fun _ => ⟨fun y => k157_49 H, fun y => absurd hb (by omega)⟩⟩⟩⟩
        · rw [gPath_go (part := k) (part' := k + 1) (by omega) ⟨fun y => by omega, fun y => absurd y h47⟩] at H
          have : gNoSl C (d + 1) k = gNoSl C d (k + 1) := by
            show (decide _ && _) = _
            rw [decide_eq_true h47, Bool.true_and]
          rw [this] at H
          exact ⟨⟨by omega, by omega⟩, fun y => absurd y (by omega), fun _ => ⟨fun y => absurd y (by omega), fun _ => ⟨fun y => absurd y (by omega), fun _ => ⟨fun y => absurd y h47, fun _ => ih (k + 1) (by omega) (by omega) H⟩⟩⟩⟩
  refine k157 (m151 hP ht ?_)
  rw [hN]
  refine key N.toNat 0 (by omega) (by omega) ?_
  rw [decide_eq_true rfl]
  exact H
theorem m154 (hP : mPo s B n c) (ht : pT (mkP B c) i = 1) (H : f (bi (decide (gNK (pC (mkP B c) i) (pN (mkP B c) i) = 3 ∨ gNK (pC (mkP B c) i) (pN (mkP B c) i) = 67 ∨ gNK (pC (mkP B c) i) (pN (mkP B c) i) = 131))) s) : qW w 4 154 [.ref 25, qI i] s (qPI f g) := by
  have hok := hP.1.ok.2.2.2.2 i ht
  obtain ⟨N, hN⟩ : ∃ N, pN (mkP B c) i = N := ⟨_, rfl⟩
  obtain ⟨C, hC⟩ : ∃ C, pC (mkP B c) i = C := ⟨_, rfl⟩
  rw [hN, hC] at H hok
  refine k154 (m155 (t := 9) (by decide) hP ht ?_)
  rw [hN, hC]
  refine ⟨bi_rg _, fun y => m155 (t := 10) (by decide) hP ht ?_, fun y => k154_20 ?_⟩
  · rw [bi_0] at y
    have y : gIs C 0 N wInit = false := y
    rw [hN, hC]
    refine ⟨bi_rg _, fun z => m151 hP ht ?_, fun z => k154_20 ?_⟩
    · rw [bi_0] at z
      have z : gIs C 0 N wClinit = false := z
      rw [hN]
      have en : gNK C N = if (gPath C N.toNat 0 true && gNoSl C N.toNat 0) = true then (if gAng C N.toNat 0 = true then 1 else 3) else 0 := by
        unfold gNK
        rw [y, z, if_neg (by decide), if_neg (by decide)]
      obtain ⟨A, hA⟩ : ∃ A, gAng C N.toNat 0 = A := ⟨_, rfl⟩
      rw [hA] at en
      have key : ∀ (d : Nat) (k : Int), k + d = N → 0 ≤ k → A = gAng C d k → qR w 3 qm154 30 [(0, .ref 25), (1, qI i), (2, qI N), (3, qI k)] [] s (qPI f g) := by
        intro d
        induction d with
        | zero =>
          intro k h1 h0 ha
          refine k154_30 ⟨⟨by omega, by omega⟩, ⟨by omega, by omega⟩, fun y => absurd y (by omega), fun _ => m157 hP ht ?_⟩
          rw [hN, hC]
          refine ⟨bi_01 _, ?_⟩
          have ha : A = false := ha
          cases hb : (gPath C N.toNat 0 true && gNoSl C N.toNat 0)
          · rw [hb, if_neg (show ¬ (false = true) by decide)] at en
            rw [en] at H; exact H
          · rw [hb, if_pos rfl, ha, if_neg (show ¬ (false = true) by decide)] at en
            rw [en] at H; exact H
        | succ d ih =>
          intro k h1 h0 ha
          have r := hok.2.2.2 k h0 (by omega)
          have hbad : (C k = 60 ∨ C k = 62) → f 0 s := by
            intro x
            unfold gAng at ha
            rw [decide_eq_true x, Bool.true_or] at ha
            rw [ha, if_pos rfl] at en
            rw [en] at H
            split at H <;> exact H
          refine k154_30 ⟨⟨by omega, by omega⟩, ⟨by omega, by omega⟩, fun _ => m146 hP ht h0 ⟨by omega, by omega⟩ ?_, fun y => absurd y (by omega)⟩
          rw [mCh_in (by omega), hC]
          refine ⟨⟨by omega, by omega⟩, fun x => k154_57 (hbad (Or.inl x)), fun x1 => m146 hP ht h0 ⟨by omega, by omega⟩ ?_⟩
          rw [mCh_in (by omega), hC]
          refine ⟨⟨by omega, by omega⟩, fun x => k154_57 (hbad (Or.inr x)), fun x2 => ih (k + 1) (by omega) (by omega) ?_⟩
          rw [ha]
          show (decide _ || _) = _
          rw [decide_eq_false (by omega), Bool.false_or]
      exact key N.toNat 0 (by omega) (by omega) hA.symm
    · rw [bi_n] at z
      have z : gIs C 0 N wClinit = true := z
      have en : gNK C N = 131 := by
        unfold gNK
        rw [y, z, if_neg (by decide), if_pos rfl]
      rw [en] at H; exact H
  · rw [bi_n] at y
    have y : gIs C 0 N wInit = true := y
    have en : gNK C N = 67 := by
      unfold gNK
      rw [y, if_pos rfl]
    rw [en] at H; exact H
end MH
