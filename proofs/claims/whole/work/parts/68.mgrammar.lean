/-! THE MODEL's grammar, against the same functions of the characters -/
def mSg (s s' : qS) : Prop := (∀ k, k ≠ 25 → s' k = s k) ∧ ∀ j, j ≠ 27 → j ≠ 28 → s' 25 j = s 25 j
theorem mSg.rfl' (s : qS) : mSg s s := ⟨fun _ _ => rfl, fun _ _ _ => rfl⟩
theorem mSg.trans {s s' s'' : qS} (h : mSg s s') (h' : mSg s' s'') : mSg s s'' := ⟨fun k hk => (h'.1 k hk).trans (h.1 k hk), fun j j1 j2 => (h'.2 j j1 j2).trans (h.2 j j1 j2)⟩
theorem mSg.set {s s' : qS} (h : mSg s s') {j v : Int} (hj : j = 27 ∨ j = 28) : mSg s (qset s' 25 j v) := by
  refine ⟨fun k hk => by rw [qset_cell _ hk]; exact h.1 k hk, fun x x1 x2 => ?_⟩
  rw [qset_same, if_neg (by omega)]
  exact h.2 x x1 x2
theorem mSg.po {s s' : qS} {B : Int → Int} {n c : Int} (h : mSg s s') (hP : mPo s B n c) : mPo s' B n c := hP.fr (h.2 11 (by decide) (by decide)) (h.1 26 (by decide)) (h.1 28 (by decide)) (h.1 29 (by decide))
theorem gPath_bad {C : Int → Int} {d : Nat} {p part : Int} (y : C p = 46 ∨ C p = 59 ∨ C p = 91 ∨ (part = 0 ∧ C p = 47)) : gPath C (d + 1) p (decide (part = 0)) = false := by
  unfold gPath
  rw [if_pos (by rw [decide_eq_true_iff]; exact y)]
theorem gPath_go {C : Int → Int} {d : Nat} {p part part' : Int} (y : ¬ (C p = 46 ∨ C p = 59 ∨ C p = 91 ∨ (part = 0 ∧ C p = 47))) (h : part' = 0 ↔ C p = 47) : gPath C (d + 1) p (decide (part = 0)) = gPath C d (p + 1) (decide (part' = 0)) := by
  rw [show decide (part' = 0) = decide (C p = 47) from decide_eq_decide.mpr h]
  show (if _ then _ else _) = _
  rw [if_neg (by rw [decide_eq_true_iff]; exact y)]
section MG
variable {w : qE} {s s0 : qS} {B : Int → Int} {n c i k : Int} {f : Int → qS → Prop} {fv : qS → Prop} {g : Nat → qS → Prop}
theorem mCh_in (h : k < pN (mkP B c) i) : mCh B c i k = pC (mkP B c) i k := by unfold mCh; rw [if_pos h]
theorem mCh_out (h : pN (mkP B c) i ≤ k) : mCh B c i k = -1 := by unfold mCh; rw [if_neg (by omega)]
/-- one step of a path's loop -/
theorem m150_step {sg p part N : Int} (hP : mPo s B n c) (ht : pT (mkP B c) i = 1) (hN : pN (mkP B c) i = N) (h0 : 0 ≤ p) (h1 : p < N) (hsg : sg = 0 ∨ sg = 59) (hpt : 0 ≤ part ∧ part ≤ p) (hne : ¬ (sg = 59 ∧ pC (mkP B c) i p = 59))
    (H0 : (pC (mkP B c) i p = 46 ∨ pC (mkP B c) i p = 59 ∨ pC (mkP B c) i p = 91 ∨ (part = 0 ∧ pC (mkP B c) i p = 47)) → f (-1) s)
    (H1 : ¬ (pC (mkP B c) i p = 46 ∨ pC (mkP B c) i p = 59 ∨ pC (mkP B c) i p = 91 ∨ (part = 0 ∧ pC (mkP B c) i p = 47)) → ∀ part' : Int, (0 ≤ part' ∧ part' ≤ p + 1) → (part' = 0 ↔ pC (mkP B c) i p = 47) → qR w 2 qm150 6 [(0, .ref 25), (1, qI i), (3, qI sg), (4, qI (p + 1)), (5, qI part')] [] s (qPI f g)) :
    qR w 2 qm150 6 [(0, .ref 25), (1, qI i), (3, qI sg), (4, qI p), (5, qI part)] [] s (qPI f g) := by
  have hok := hP.1.ok.2.2.2.2 i ht
  rw [hN] at hok
  have r := hok.2.2.2 p h0 h1
  obtain ⟨x, hx⟩ : ∃ x, pC (mkP B c) i p = x := ⟨_, rfl⟩
  have fin : ∀ T : Int, (T = -1 ∨ T = 59) → T ≠ x → qR w 2 qm150 26 [(0, .ref 25), (1, qI i), (3, qI sg), (4, qI p), (5, qI part), (6, qI x)] [qI T, qI x] s (qPI f g) := by
    intro T hT hTx
    rw [hx] at H0 H1 r
    have bad : (x = 46 ∨ x = 59 ∨ x = 91 ∨ (part = 0 ∧ x = 47)) → qR w 2 qm150 79 [] [] s (qPI f g) := fun y => k150_79 (H0 y)
    have good : ¬ (x = 46 ∨ x = 59 ∨ x = 91 ∨ (part = 0 ∧ x = 47)) → qR w 2 qm150 81 [(0, .ref 25), (1, qI i), (3, qI sg), (4, qI p), (5, qI part), (6, qI x)] [] s (qPI f g) := fun y =>
      k150_81 ⟨⟨by omega, by omega⟩, fun z => k150_96 (H1 y 0 (by omega) (by omega)), fun z => k150_96 (H1 y (part + 1) (by omega) (by omega))⟩
    refine k150_26 ⟨⟨by omega, by omega⟩, ⟨by omega, by omega⟩, fun y => absurd y (by omega), fun _ => ⟨⟨by omega, by omega⟩, fun y => absurd y (by omega), fun _ => ⟨fun y => bad (by omega), fun y1 => ⟨fun y => bad (by omega), fun y2 => ⟨fun y => bad (by omega), fun y3 => ⟨fun y => ⟨⟨by omega, by omega⟩, fun z => bad (by omega), fun z => good (by omega)⟩, fun y => good (by omega)⟩⟩⟩⟩⟩⟩
  refine k150_6 (m146 hP ht h0 ⟨by omega, by omega⟩ ?_)
  rw [mCh_in (by omega), hx]
  rw [hx] at r hne
  refine ⟨⟨by omega, by omega⟩, fun y => fin (-1) (Or.inl rfl) (by omega), fun y => ?_⟩
  exact fin sg (by omega) (by omega)
theorem m150_end {sg p part N : Int} (hP : mPo s B n c) (ht : pT (mkP B c) i = 1) (hN : pN (mkP B c) i = N) (h0 : 0 ≤ p) (h1 : p ≤ 500) (hsg : sg = 0 ∨ sg = 59) (hpt : 0 ≤ part ∧ part ≤ p) (hc : (p = N ∨ (p < N ∧ sg = 59 ∧ pC (mkP B c) i p = 59)))
    (H : f (if (p = N ∧ sg = 59) ∨ part = 0 then -1 else p) s) :
    qR w 2 qm150 6 [(0, .ref 25), (1, qI i), (3, qI sg), (4, qI p), (5, qI part)] [] s (qPI f g) := by
  refine k150_6 (m146 hP ht h0 ⟨by omega, by omega⟩ ?_)
  have fin : ∀ T x : Int, Rg T → Rg x → (T ≠ x → x = -1 ∧ p = N ∧ sg = 59) → (T = x → ¬ (p = N ∧ sg = 59)) → qR w 2 qm150 26 [(0, .ref 25), (1, qI i), (3, qI sg), (4, qI p), (5, qI part), (6, qI x)] [qI T, qI x] s (qPI f g) := by
    intro T x hT hx h2 h3
    refine k150_26 ⟨hx, hT, fun y => ⟨⟨by omega, by omega⟩, fun z => k150_40 ?_, fun z => k150_40 ?_⟩, fun y => ⟨hx, fun z => k150_79 ?_, fun z => absurd z (by have := h2 (fun e => y e.symm); omega)⟩⟩
    · have := h3 y.symm
      rw [if_neg (by omega)] at H; exact H
    · rw [if_pos (by omega)] at H; exact H
    · have := h2 (fun e => y e.symm)
      rw [if_pos (by omega)] at H; exact H
  rcases hc with e | ⟨e, rfl, e3⟩
  · rw [mCh_out (by omega)]
    refine ⟨by rcases hsg with rfl | rfl <;> exact ⟨by decide, by decide⟩, fun y => fin (-1) (-1) ⟨by decide, by decide⟩ ⟨by decide, by decide⟩ (fun z => absurd rfl z) (fun _ => by omega), fun y => fin sg (-1) (by rcases hsg with rfl | rfl <;> exact ⟨by decide, by decide⟩) ⟨by decide, by decide⟩ (fun z => by omega) (fun _ => by omega)⟩
  · rw [mCh_in (by omega), e3]
    exact ⟨⟨by decide, by decide⟩, fun y => absurd y (by decide), fun y => fin 59 59 ⟨by decide, by decide⟩ ⟨by decide, by decide⟩ (fun z => absurd rfl z) (fun _ => by omega)⟩
def gTo0 (C : Int → Int) (N p : Int) : Int := if gPath C (N - p).toNat p true = true then N else -1
def gTo59 (C : Int → Int) (N p : Int) : Int := if gSemi C (N - p).toNat p < N ∧ gPath C (gSemi C (N - p).toNat p - p).toNat p true = true then gSemi C (N - p).toNat p else -1
theorem m150_0 {p : Int} (hP : mPo s B n c) (ht : pT (mkP B c) i = 1) (h0 : 0 ≤ p) (h1 : p ≤ pN (mkP B c) i) (H : f (gTo0 (pC (mkP B c) i) (pN (mkP B c) i) p) s) : qW w 3 150 [.ref 25, qI i, qI p, qI 0] s (qPI f g) := by
  have hok := hP.1.ok.2.2.2.2 i ht
  obtain ⟨N, hN⟩ : ∃ N, pN (mkP B c) i = N := ⟨_, rfl⟩
  rw [hN] at H h1 hok
  have key : ∀ (d : Nat) (p part : Int), p + d = N → 0 ≤ p → 0 ≤ part → part ≤ p → f (if gPath (pC (mkP B c) i) d p (decide (part = 0)) = true then N else -1) s → qR w 2 qm150 6 [(0, .ref 25), (1, qI i), (3, qI 0), (4, qI p), (5, qI part)] [] s (qPI f g) := by
    intro d
    induction d with
    | zero =>
      intro p part hp p0 q0 q1 H
      refine m150_end hP ht hN p0 (by omega) (Or.inl rfl) ⟨q0, q1⟩ (Or.inl (by omega)) ?_
      unfold gPath at H
      by_cases h : part = 0
      · rw [decide_eq_true h, if_neg (by decide)] at H
        rw [if_pos (Or.inr h)]; exact H
      · rw [decide_eq_false h, if_pos (by decide)] at H
        rw [if_neg (by omega)]
        rwa [show p = N by omega]
    | succ d ih =>
      intro p part hp p0 q0 q1 H
      refine m150_step hP ht hN p0 (by omega) (Or.inl rfl) ⟨q0, q1⟩ (fun y => absurd y.1 (by decide)) (fun y => ?_) (fun y part' y1 y2 => ih (p + 1) part' (by omega) (by omega) y1.1 y1.2 ?_)
      · rw [gPath_bad y, if_neg (by decide)] at H
        exact H
      · rw [gPath_go y y2] at H
        exact H
  refine k150 (key (N - p).toNat p 0 (by omega) h0 (by omega) (by omega) ?_)
  rw [decide_eq_true rfl]
  exact H
theorem m150_59 {p : Int} (hP : mPo s B n c) (ht : pT (mkP B c) i = 1) (h0 : 0 ≤ p) (h1 : p ≤ pN (mkP B c) i) (H : f (gTo59 (pC (mkP B c) i) (pN (mkP B c) i) p) s) : qW w 3 150 [.ref 25, qI i, qI p, qI 59] s (qPI f g) := by
  have hok := hP.1.ok.2.2.2.2 i ht
  obtain ⟨N, hN⟩ : ∃ N, pN (mkP B c) i = N := ⟨_, rfl⟩
  obtain ⟨C, hC⟩ : ∃ C, pC (mkP B c) i = C := ⟨_, rfl⟩
  rw [hN, hC] at H
  rw [hN] at h1 hok
  have key : ∀ (d : Nat) (p part : Int), p + d = N → 0 ≤ p → 0 ≤ part → part ≤ p → f (if gSemi C d p < N ∧ gPath C (gSemi C d p - p).toNat p (decide (part = 0)) = true then gSemi C d p else -1) s → qR w 2 qm150 6 [(0, .ref 25), (1, qI i), (3, qI 59), (4, qI p), (5, qI part)] [] s (qPI f g) := by
    intro d
    induction d with
    | zero =>
      intro p part hp p0 q0 q1 H
      refine m150_end hP ht hN p0 (by omega) (Or.inr rfl) ⟨q0, q1⟩ (Or.inl (by omega)) ?_
      unfold gSemi at H
      rw [if_neg (fun y => absurd y.1 (by omega))] at H
      rw [if_pos (Or.inl ⟨by omega, rfl⟩)]
      exact H
    | succ d ih =>
      intro p part hp p0 q0 q1 H
      by_cases h59 : C p = 59
      · refine m150_end hP ht hN p0 (by omega) (Or.inr rfl) ⟨q0, q1⟩ (Or.inr ⟨by omega, rfl, by rw [hC]; exact h59⟩) ?_
        unfold gSemi at H
        rw [if_pos h59, show (p - p).toNat = 0 by omega] at H
        unfold gPath at H
        by_cases h : part = 0
        · rw [decide_eq_true h, if_neg (fun y => absurd y.2 (by decide))] at H
          rw [if_pos (Or.inr h)]; exact H
        · rw [decide_eq_false h, if_pos ⟨by omega, by decide⟩] at H
          rw [if_neg (by omega)]; exact H
      · unfold gSemi at H
        rw [if_neg h59] at H
        have hg := gSemi_rg C d (p + 1)
        rw [show (gSemi C d (p + 1) - p).toNat = (gSemi C d (p + 1) - (p + 1)).toNat + 1 by omega] at H
        refine m150_step hP ht hN p0 (by omega) (Or.inr rfl) ⟨q0, q1⟩ (fun y => h59 (by rw [← hC]; exact y.2)) (fun y => ?_) (fun y part' y1 y2 => ih (p + 1) part' (by omega) (by omega) y1.1 y1.2 ?_)
        · rw [hC] at y
          rw [gPath_bad y, if_neg (fun z => absurd z.2 (by decide))] at H
          exact H
        · rw [hC] at y y2
          rw [gPath_go y y2] at H
          exact H
  refine k150 (key (N - p).toNat p 0 (by omega) h0 (by omega) (by omega) ?_)
  rw [decide_eq_true rfl]
  exact H
theorem m149 {x : Int} (hx : Rg x) (H0 : gBas x = false → f (-1) s) (H1 : gBas x = true → ∀ v, 0 ≤ v → v ≤ 7 → f v s) : qW w 1 149 [qI x] s (qPI f g) := by
  have y : (x = 66 ∨ x = 67 ∨ x = 68 ∨ x = 70 ∨ x = 73 ∨ x = 74 ∨ x = 83 ∨ x = 90) → gBas x = true := fun h => decide_eq_true h
  refine k149 ⟨hx, fun e => H1 (y (by omega)) _ (by omega) (by omega), fun e => H1 (y (by omega)) _ (by omega) (by omega), fun e => H1 (y (by omega)) _ (by omega) (by omega), fun e => H1 (y (by omega)) _ (by omega) (by omega), fun e => H1 (y (by omega)) _ (by omega) (by omega), fun e => H1 (y (by omega)) _ (by omega) (by omega), fun e => H1 (y (by omega)) _ (by omega) (by omega), fun e => H1 (y (by omega)) _ (by omega) (by omega), fun a1 a2 a3 a4 a5 a6 a7 a8 => H0 (decide_eq_false (by omega))⟩
theorem m148 {p : Int} (hP : mPo s B n c) (ht : pT (mkP B c) i = 1) (h0 : 0 ≤ p) (h1 : p ≤ pN (mkP B c) i) (H : f (gField (pC (mkP B c) i) (pN (mkP B c) i) p) s) : qW w 4 148 [.ref 25, qI i, qI p] s (qPI f g) := by
  have hok := hP.1.ok.2.2.2.2 i ht
  obtain ⟨N, hN⟩ : ∃ N, pN (mkP B c) i = N := ⟨_, rfl⟩
  obtain ⟨C, hC⟩ : ∃ C, pC (mkP B c) i = C := ⟨_, rfl⟩
  rw [hN, hC] at H
  rw [hN, hC] at hok
  rw [hN] at h1
  have last : ∀ q : Int, 0 ≤ q → q ≤ N → (q < N → C q ≠ 91) → f (gFld C N q) s → qR w 3 qm148 2 [(0, .ref 25), (1, qI i), (3, qI q)] [] s (qPI f g) := by
    intro q q0 q1 q2 H
    unfold gFld at H
    refine k148_2 (m146 hP ht q0 ⟨by omega, by omega⟩ ?_)
    by_cases hq : N ≤ q
    · rw [if_pos hq] at H
      rw [mCh_out (by omega)]
      refine ⟨⟨by decide, by decide⟩, fun y => absurd y (by decide), fun _ => m146 hP ht q0 ⟨by omega, by omega⟩ ?_⟩
      rw [mCh_out (by omega)]
      exact m149 ⟨by decide, by decide⟩ (fun _ => ⟨⟨by decide, by decide⟩, fun _ => ⟨⟨by decide, by decide⟩, fun y => absurd y (by decide), fun _ => H⟩, fun y => absurd y (by decide)⟩) (fun y => absurd y (by decide))
    · rw [if_neg hq] at H
      have r := hok.2.2.2 q q0 (by omega)
      have e1 : mCh B c i q = C q := by rw [mCh_in (by omega), hC]
      rw [e1]
      refine ⟨⟨by omega, by omega⟩, fun y => absurd y (q2 (by omega)), fun _ => m146 hP ht q0 ⟨by omega, by omega⟩ ?_⟩
      rw [e1]
      refine m149 ⟨by omega, by omega⟩ (fun y => ⟨⟨by decide, by decide⟩, fun _ => ⟨⟨by omega, by omega⟩, fun z => ?_, fun z => ?_⟩, fun z => absurd z (by decide)⟩) (fun y v v0 v1 => ⟨⟨by omega, by omega⟩, fun z => absurd z (by omega), fun _ => ?_⟩)
      · rw [if_pos z] at H
        unfold gObj at H
        refine m150_59 hP ht (by omega) (by omega) ?_
        rw [hN, hC]
        unfold gTo59
        have hg := gSemi_rg C (N - (q + 1)).toNat (q + 1)
        split at H
        · next hh =>
          rw [if_pos hh]
          exact ⟨⟨by omega, by omega⟩, fun x => absurd x (by omega), fun _ => k148_73 H⟩
        · next hh =>
          rw [if_neg hh]
          exact ⟨⟨by decide, by decide⟩, fun _ => k148_73 H, fun x => absurd x (by decide)⟩
      · rw [if_neg z, if_neg (by rw [y]; decide)] at H
        exact H
      · have : C q ≠ 76 := fun z => by rw [z] at y; exact absurd y (by decide)
        rw [if_neg this, if_pos y] at H
        exact H
  have key : ∀ (d : Nat) (p : Int), p + d = N → 0 ≤ p → f (gFld C N (gBr C d p)) s → qR w 3 qm148 2 [(0, .ref 25), (1, qI i), (3, qI p)] [] s (qPI f g) := by
    intro d
    induction d with
    | zero =>
      intro p hp p0 H
      exact last p p0 (by omega) (by omega) H
    | succ d ih =>
      intro p hp p0 H
      unfold gBr at H
      by_cases h91 : C p = 91
      · rw [if_pos h91] at H
        refine k148_2 (m146 hP ht p0 ⟨by omega, by omega⟩ ?_)
        rw [mCh_in (by omega), hC, h91]
        exact ⟨⟨by decide, by decide⟩, fun _ => ih (p + 1) (by omega) (by omega) H, fun y => absurd rfl y⟩
      · rw [if_neg h91] at H
        exact last p p0 (by omega) (fun _ => h91) H
  exact k148 (key (N - p).toNat p (by omega) h0 H)
theorem m147 (hP : mPo s B n c) (ht : pT (mkP B c) i = 1) (H : f (bi (decide (gField (pC (mkP B c) i) (pN (mkP B c) i) 0 = pN (mkP B c) i))) s) : qW w 5 147 [.ref 25, qI i] s (qPI f g) := by
  have hok := hP.1.ok.2.2.2.2 i ht
  have hg := gField_rg (pC (mkP B c) i) (pN (mkP B c) i) 0
  refine k147 (m148 hP ht (by decide) (by omega) ⟨⟨by omega, by omega⟩, fun y => m151 hP ht ⟨⟨by omega, by omega⟩, fun z => k147_25 ⟨Or.inr rfl, ?_⟩, fun z => k147_24 (k147_25 ⟨Or.inl rfl, ?_⟩)⟩, fun y => k147_24 (k147_25 ⟨Or.inl rfl, ?_⟩)⟩)
  · rw [decide_eq_true z] at H; exact H
  · rw [decide_eq_false z] at H; exact H
  · rw [decide_eq_false (by omega)] at H; exact H
theorem m145 (hP : mPo s B n c) (ht : pT (mkP B c) i = 1) (H : f (bi (pfit (mkP B c) i 8)) s) : qW w 6 145 [.ref 25, qI i] s (qPI f g) := by
  have hok := hP.1.ok.2.2.2.2 i ht
  rw [fit8, decide_eq_true ht, Bool.true_and] at H
  have hr := mCh_rg (k := 0) hP.1 ht (by decide)
  have hg := gField_rg (pC (mkP B c) i) (pN (mkP B c) i) 0
  refine k145 (m146 hP ht (by decide) ⟨by decide, by decide⟩ ⟨⟨by omega, by omega⟩, fun y => m147 hP ht (k145_34 ⟨bi_01 _, ?_⟩), fun y => m150_0 hP ht (by decide) (by omega) ?_⟩)
  · have hN : 0 < pN (mkP B c) i := by
      rcases Int.lt_or_le 0 (pN (mkP B c) i) with h | h
      · exact h
      · rw [mCh_out h] at y; exact absurd y (by decide)
    rw [mCh_in hN] at y
    have : gPath (pC (mkP B c) i) (pN (mkP B c) i).toNat 0 true = false := by
      rw [show (pN (mkP B c) i).toNat = ((pN (mkP B c) i).toNat - 1) + 1 by omega]
      unfold gPath
      rw [if_pos (Or.inr (Or.inr (Or.inl y)))]
    rw [this, decide_eq_true y, Bool.false_or, Bool.and_true] at H
    exact H
  · unfold gTo0
    rw [show pN (mkP B c) i - 0 = pN (mkP B c) i by omega]
    have hx : (decide (gField (pC (mkP B c) i) (pN (mkP B c) i) 0 = pN (mkP B c) i) && decide (pC (mkP B c) i 0 = 91)) = false := by
      rcases Int.lt_or_le 0 (pN (mkP B c) i) with h | h
      · rw [mCh_in h] at y
        rw [decide_eq_false y, Bool.and_false]
      · rw [decide_eq_false (show ¬ gField (pC (mkP B c) i) (pN (mkP B c) i) 0 = pN (mkP B c) i by omega), Bool.false_and]
    rw [hx, Bool.or_false] at H
    have h00 : gPath (pC (mkP B c) i) (pN (mkP B c) i).toNat 0 true = true → 0 < pN (mkP B c) i := by
      intro z
      rcases Int.lt_or_le 0 (pN (mkP B c) i) with h | h
      · exact h
      · rw [show (pN (mkP B c) i).toNat = 0 by omega] at z
        unfold gPath at z
        exact absurd z (by decide)
    by_cases z : gPath (pC (mkP B c) i) (pN (mkP B c) i).toNat 0 true = true
    · rw [if_pos z]
      rw [z] at H
      exact ⟨⟨by omega, by omega⟩, fun _ => k145_34 ⟨Or.inr rfl, H⟩, fun x => absurd x (by have := h00 z; omega)⟩
    · rw [if_neg z]
      rw [Bool.not_eq_true] at z
      rw [z] at H
      exact ⟨⟨by decide, by decide⟩, fun x => absurd x (by decide), fun _ => k145_34 ⟨Or.inl rfl, H⟩⟩
end MG
