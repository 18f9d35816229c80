/-! the ENTRIES, all of them: where each stands, the pool that they make; the class reads them -/
def eWd (t : Int) : Bool := decide (t = 5 ∨ t = 6)
def eLen (B : Int → Int) (p : Int) : Int := if B p = 1 then 3 + b2 B (p + 1) else if B p = 3 ∨ B p = 4 then 5 else if B p = 5 ∨ B p = 6 then 9 else if B p = 7 ∨ B p = 8 ∨ B p = 16 then 3 else if B p = 15 then 4 else 5
def eNx (t i : Int) : Int := if t = 5 ∨ t = 6 then i + 2 else i + 1
def rEn (B : Int → Int) (n c : Int) : Nat → Int → Int → Int ⊕ Int
  | 0, _, p => .inr p
  | d + 1, i, p => if i < c then bd (rU1 B n p) (fun t => bd (rCk (decide (¬ (t = 5 ∨ t = 6) ∨ i + 1 < c)) p) (fun _ => bd (eBody B n p t) (fun q => rEn B n c d (eNx t i) q))) else .inr p
/-- where entry j stands, or -1 -/
def qPl (B : Int → Int) (c : Int) : Nat → Int → Int → Int → Int
  | 0, _, _, _ => -1
  | d + 1, i, p, j => if i < c then (if j = i then p else if j = i + 1 ∧ (B p = 5 ∨ B p = 6) then -1 else qPl B c d (eNx (B p) i) (p + eLen B p) j) else -1
theorem eBody_r {B : Int → Int} {n p q : Int} (hB : qB B n) (h0 : 0 ≤ p) (h1 : p + 1 ≤ n) (h : eBody B n p (B p) = .inr q) : q = p + eLen B p ∧ q ≤ n ∧ p + 3 ≤ q ∧ ((B p = 5 ∨ B p = 6) → q = p + 9) ∧ 1 ≤ B p ∧ B p ≤ 18 := by
  unfold eBody at h
  unfold eLen
  by_cases c1 : B p = 1
  · rw [if_pos c1] at h
    obtain ⟨m, h2, h3⟩ := bd_inr.mp h
    obtain ⟨u, h4, h5⟩ := bd_inr.mp h3
    obtain ⟨q1, rfl⟩ := rU2_r h2
    have q2 := rBy_r h4
    have r := b2_rg hB (by omega) q1
    have q3 := rTx_r _ _ _ (by omega) (by omega) h5
    rw [if_pos c1]
    omega
  · rw [if_neg c1] at h
    rw [if_neg c1]
    by_cases c2 : B p = 3 ∨ B p = 4
    · rw [if_pos c2] at h
      rw [if_pos c2]
      obtain ⟨m, h2, h3⟩ := bd_inr.mp h
      obtain ⟨q1, rfl⟩ := rU4_r h2
      cases h3
      omega
    · rw [if_neg c2] at h
      rw [if_neg c2]
      by_cases c3 : B p = 5 ∨ B p = 6
      · rw [if_pos c3] at h
        rw [if_pos c3]
        obtain ⟨m, h2, h3⟩ := bd_inr.mp h
        obtain ⟨m2, h4, h5⟩ := bd_inr.mp h3
        obtain ⟨q1, -⟩ := rU4_r h4
        cases h5
        omega
      · rw [if_neg c3] at h
        rw [if_neg c3]
        by_cases c4 : B p = 7 ∨ B p = 8 ∨ B p = 16
        · rw [if_pos c4] at h
          rw [if_pos c4]
          obtain ⟨m, h2, h3⟩ := bd_inr.mp h
          obtain ⟨q1, rfl⟩ := rU2_r h2
          cases h3
          omega
        · rw [if_neg c4] at h
          rw [if_neg c4]
          by_cases c5 : B p = 9 ∨ B p = 10 ∨ B p = 11 ∨ B p = 12 ∨ B p = 17 ∨ B p = 18
          · rw [if_pos c5] at h
            rw [if_neg (by omega)]
            obtain ⟨m, h2, h3⟩ := bd_inr.mp h
            obtain ⟨m2, h4, h5⟩ := bd_inr.mp h3
            obtain ⟨q1, -⟩ := rU2_r h4
            cases h5
            omega
          · rw [if_neg c5] at h
            by_cases c6 : B p = 15
            · rw [if_pos c6] at h
              rw [if_pos c6]
              obtain ⟨m, h2, h3⟩ := bd_inr.mp h
              obtain ⟨m2, h4, h5⟩ := bd_inr.mp h3
              obtain ⟨q1, -⟩ := rU2_r h4
              cases h5
              omega
            · rw [if_neg c6] at h
              cases h
/-- every entry that the reading came past is one -/
theorem rEn_val {B : Int → Int} {n c : Int} (hB : qB B n) : ∀ (d : Nat) (i p q : Int), 0 ≤ p → rEn B n c d i p = .inr q → ∀ j, i ≤ j → j < c → qPl B c d i p j = -1 ∨ (p ≤ qPl B c d i p j ∧ qPl B c d i p j + 1 ≤ n ∧ ∃ r, eBody B n (qPl B c d i p j) (B (qPl B c d i p j)) = .inr r) := by
  intro d
  induction d with
  | zero => intro i p q h0 h j h1 h2; exact Or.inl rfl
  | succ d ih =>
    intro i p q h0 h j h1 h2
    unfold rEn at h
    unfold qPl
    by_cases hc : i < c
    · rw [if_pos hc] at h ⊢
      obtain ⟨t, a1, h⟩ := bd_inr.mp h
      obtain ⟨a2, rfl⟩ := rU1_r a1
      obtain ⟨u, a3, h⟩ := bd_inr.mp h
      obtain ⟨r, a4, h⟩ := bd_inr.mp h
      have a5 := eBody_r hB h0 a2 a4
      by_cases hj : j = i
      · rw [if_pos hj]
        exact Or.inr ⟨by omega, a2, r, a4⟩
      · rw [if_neg hj]
        by_cases hw : j = i + 1 ∧ (B p = 5 ∨ B p = 6)
        · rw [if_pos hw]; exact Or.inl rfl
        · rw [if_neg hw]
          rw [← a5.1]
          have hn : eNx (B p) i ≤ j := by unfold eNx; split <;> omega
          rcases ih _ _ _ (by omega) h j hn h2 with x | ⟨x1, x2⟩
          · exact Or.inl x
          · exact Or.inr ⟨by omega, x2⟩
    · rw [if_neg hc]
      exact Or.inl rfl
def xOn (c : Int) (P : Int → Int) (i : Int) : Bool := decide (1 ≤ i ∧ i < c ∧ 0 ≤ P i)
def xT (B : Int → Int) (c : Int) (P : Int → Int) (i : Int) : Int := if xOn c P i = true then B (P i) else 0
def xF (B : Int → Int) (c : Int) (P : Int → Int) (i : Int) : Int := if xOn c P i = true then eF B (P i) else 0
def xS (B : Int → Int) (c : Int) (P : Int → Int) (i : Int) : Int := if xOn c P i = true then eS B (P i) else 0
def xO (c : Int) (P : Int → Int) (i : Int) : Int := if xOn c P i = true then P i else 0
def xN (B : Int → Int) (P : Int → Int) (i : Int) : Int := (eN B (P i) : Int)
def xC (B : Int → Int) (P : Int → Int) (i k : Int) : Int := cDec B (cpos B (P i + 3) k.toNat)
/-- where the entries stand -/
def mkA (B : Int → Int) (c : Int) : Int → Int := qPl B c 300 1 10
/-- the pool of the bytes -/
def mkP (B : Int → Int) (c : Int) : qP := (c, xT B c (mkA B c), xF B c (mkA B c), xS B c (mkA B c), xO c (mkA B c), xN B (mkA B c), xC B (mkA B c))
/-- row j of the class's table, as the bytes have it -/
def qRow (B : Int → Int) (c : Int) (P : Int → Int) (s : qS) (j : Int) : Prop := s 5 (j * 6 + 0) = xT B c P j ∧ s 5 (j * 6 + 1) = xF B c P j ∧ s 5 (j * 6 + 2) = xS B c P j ∧ s 5 (j * 6 + 3) = xO c P j ∧ Rg (s 5 (j * 6 + 4)) ∧ (xT B c P j = 1 → 0 ≤ s 5 (j * 6 + 4) ∧ s 5 (j * 6 + 4) + xN B P j ≤ s 3 3 ∧ ∀ k, 0 ≤ k → k < xN B P j → s 6 (s 5 (j * 6 + 4) + k) = xC B P j k)
theorem qRow.fr {B : Int → Int} {c : Int} {P : Int → Int} {s s' : qS} {i j : Int} (h : qRow B c P s j) (hj : 0 ≤ j ∧ j < i) (h5 : ∀ x, x < i * 6 → s' 5 x = s 5 x) (h6 : ∀ x, x < s 3 3 → s' 6 x = s 6 x) (h3 : s 3 3 ≤ s' 3 3) : qRow B c P s' j := by
  obtain ⟨a1, a2, a3, a4, a5, a6⟩ := h
  have e : ∀ x, 0 ≤ x → x < 6 → s' 5 (j * 6 + x) = s 5 (j * 6 + x) := fun x x0 x1 => h5 _ (by omega)
  refine ⟨?_, ?_, ?_, ?_, ?_, fun ht => ?_⟩
  · rw [e 0 (by decide) (by decide)]; exact a1
  · rw [e 1 (by decide) (by decide)]; exact a2
  · rw [e 2 (by decide) (by decide)]; exact a3
  · rw [e 3 (by decide) (by decide)]; exact a4
  · rw [e 4 (by decide) (by decide)]; exact a5
  · obtain ⟨b1, b2, b3⟩ := a6 ht
    rw [e 4 (by decide) (by decide)]
    refine ⟨b1, by omega, fun k k0 k1 => ?_⟩
    rw [h6 _ (by omega)]
    exact b3 k k0 k1
theorem qadd4 (s : qS) {i x : Int} (h : s 4 2 = i) : qadd s 4 x 4 2 = i + 1 ∧ (∀ k, k ≠ 4 → k ≠ 5 → qadd s 4 x k = s k) ∧ (∀ y, y < i * 6 → qadd s 4 x 5 y = s 5 y) ∧ qadd s 4 x 5 (i * 6 + 0) = x ∧ ∀ y, 0 < y → y < 6 → qadd s 4 x 5 (i * 6 + y) = 0 := by
  have e1 : qwid 4 = 6 := rfl
  unfold qadd
  rw [h, e1]
  have e5 : (4 + 1 : Nat) = 5 := rfl
  rw [e5]
  have hf : ∀ y, qset (qfill s 5 (i * 6) (i * 6 + 6) 0) 5 (i * 6) x 5 y = if y = i * 6 then x else if i * 6 ≤ y ∧ y < i * 6 + 6 then 0 else s 5 y := by
    intro y
    rw [qset_same]
    unfold qfill
    by_cases c : y = i * 6
    · rw [if_pos c, if_pos c]
    · rw [if_neg c, if_neg c]
      by_cases c2 : i * 6 ≤ y ∧ y < i * 6 + 6
      · rw [if_pos ⟨rfl, c2⟩, if_pos c2]
      · rw [if_neg (fun z => c2 z.2), if_neg c2]
  refine ⟨?_, fun k k4 k5 => ?_, fun y hy => ?_, ?_, fun y y0 y6 => ?_⟩
  · rw [qset_same, if_pos rfl]
  · rw [qset_cell _ k4, qset_cell _ k5]
    funext j
    unfold qfill
    rw [if_neg (fun z => k5 z.1)]
  · rw [qset_cell _ (by decide), hf, if_neg (by omega), if_neg (by omega)]
  · rw [qset_cell _ (by decide), hf, if_pos (by omega)]
  · rw [qset_cell _ (by decide), hf, if_neg (by omega), if_pos (by omega)]
theorem qAt.add {s0 s : qS} {B : Int → Int} {n p : Int} (h : qAt s0 B n p s) {i x : Int} (hi : s 4 2 = i) : qAt s0 B n p (qadd s 4 x) := by
  obtain ⟨a1, a2, a3, a4, a5⟩ := qadd4 s (x := x) hi
  obtain ⟨h1, h2, h3, h4, h5, h6⟩ := h
  refine ⟨?_, ?_, ?_, ?_, ?_, ?_⟩
  · rw [a2 1 (by decide) (by decide)]; exact h1
  · rw [a2 1 (by decide) (by decide)]; exact h2
  · rw [a2 2 (by decide) (by decide)]; exact h3
  · rw [a2 0 (by decide) (by decide), a2 1 (by decide) (by decide)]; exact h4
  · rw [a2 2 (by decide) (by decide)]; exact h5
  · intro k hk; rw [a2 k (by omega) (by omega)]; exact h6 k hk
section LD
variable {w : qE} {s s0 : qS} {B : Int → Int} {n p e i c : Int} {P : Int → Int} {f : Int → qS → Prop} {fv : qS → Prop} {g : Nat → qS → Prop}
theorem qEnt.row {s1 s2 : qS} (h : qEnt s1 s2 B i p) (hP : P i = p) (h0 : 0 ≤ p) (hi : 1 ≤ i ∧ i < c) (hu : 0 ≤ s1 3 3 ∧ s1 3 3 ≤ 500) : qRow B c P s2 i := by
  obtain ⟨a1, a2, a3, a4, a5, a6, a7, a8⟩ := h
  have on : xOn c P i = true := by unfold xOn; rw [hP, decide_eq_true ⟨hi.1, hi.2, h0⟩]
  unfold qRow xT xF xS xO xN xC
  rw [on, if_pos rfl, if_pos rfl, if_pos rfl, if_pos rfl, hP]
  refine ⟨a3, a4, a5, a6, ?_, fun ht => ?_⟩
  · rcases a8 with ⟨b1, b2, b3⟩ | ⟨b1, b2, b3, b4⟩
    · rw [b3]; exact ⟨by decide, by decide⟩
    · rw [b2]; exact ⟨by omega, by omega⟩
  · rcases a8 with ⟨b1, b2, b3⟩ | ⟨b1, b2, b3, b4⟩
    · exact absurd ht b1
    · refine ⟨by omega, by omega, fun k k0 k1 => ?_⟩
      have := b4 k.toNat (by omega)
      rw [b2]
      have e : ((k.toNat : Nat) : Int) = k := by omega
      rw [e] at this
      exact this
theorem nch_le (B : Int → Int) (e : Int) : ∀ (d : Nat) (p : Int), nch B e d p ≤ d ∧ ((nch B e d p : Nat) : Int) ≤ (if p < e then e - p else 0) := by
  intro d
  induction d with
  | zero => intro p; unfold nch; refine ⟨by omega, ?_⟩; split <;> omega
  | succ d ih =>
    intro p
    unfold nch
    have r := cw_rg (B p)
    have h := ih (p + cw (B p))
    split
    · next c => 
      refine ⟨by omega, ?_⟩
      have h2 := h.2
      split at h2 <;> omega
    · next c => exact ⟨by omega, by omega⟩
theorem eN_le {q : Int} (hB : qB B n) (h0 : 0 ≤ p) (h1 : p + 1 ≤ n) (ht : B p = 1) (h : eBody B n p (B p) = .inr q) : ((eN B p : Nat) : Int) + p + 3 ≤ q := by
  have h2 := eBody_r hB h0 h1 h
  unfold eLen at h2
  rw [if_pos ht] at h2
  unfold eBody at h
  rw [if_pos ht] at h
  obtain ⟨m, h3, -⟩ := bd_inr.mp h
  obtain ⟨q1, -⟩ := rU2_r h3
  have r := b2_rg hB (by omega) q1
  have := (nch_le B (p + 3 + b2 B (p + 1)) (b2 B (p + 1)).toNat (p + 3)).2
  unfold eN
  split at this <;> omega
theorem c23_loop (hB : qB B n) (hc : 1 ≤ c ∧ c ≤ 65535) : ∀ (d : Nat) (i p : Int) (s : qS), 301 ≤ i + d → 1 ≤ i → i ≤ c → 3 * i ≤ p - 7 → p ≤ n → 0 ≤ s 3 3 → s 3 3 ≤ p → qAt s0 B n p s → (∀ j, i ≤ j → P j = qPl B c d i p j) → s 4 2 = i → (∀ j, 0 ≤ j → j < i → qRow B c P s j) →
    qRes (rEn B n c d i p) (fun e => ∀ s', qFt s0 n e s' → g 0 s') (fun q => ∀ s', qAt s0 B n q s' → s' 4 2 = c → s' 3 3 ≤ 500 → (∀ j, 0 ≤ j → j < c → qRow B c P s' j) → (∀ k, k ≠ 1 → k ≠ 3 → k ≠ 4 → k ≠ 5 → k ≠ 6 → s' k = s k) → fv s') → qR w 4 qm23 58 [(0, .ref 3), (1, qI c), (2, qI i)] [] s (qPV fv g) := by
  have h5 := hB.2.1
  intro d
  induction d with
  | zero => intro i p s hd h1 h2 h3 h4; omega
  | succ d ih =>
    intro i p s hd h1 h2 h3 h4 hu0 hu1 hA hP hr hR H
    unfold rEn at H
    refine k23_58 ⟨⟨by omega, by omega⟩, ⟨by omega, by omega⟩, fun ci => c21 ?_, fun ci => ?_⟩
    · rw [if_pos ci, qRes_bd] at H
      refine c_u1 hB hA (by omega) h4 (qRes_mono H (fun _ _ h => h) (fun t ht H => ?_))
      obtain ⟨q1, rfl⟩ := rU1_r ht
      have hb := hB.2.2 p (by omega) (by omega)
      rw [hA.2.1]
      have hPi : P i = p := by
        have := hP i (by omega)
        unfold qPl at this
        rw [if_pos ci, if_pos rfl] at this
        exact this
      have hA1 := hA.mv (p + 1)
      have r1 : ∀ q, qset s 1 2 q 4 2 = i := fun q => by rw [qset_cell _ (by decide)]; exact hr
      have u1 : ∀ q, qset s 1 2 q 3 3 = s 3 3 := fun q => by rw [qset_cell _ (by decide)]
      rw [qRes_bd] at H
      -- at 122, with the demand's bit and whether the entry is wide
      have h122 : ∀ b v5 : Bool, v5 = decide (B p = 5 ∨ B p = 6) → b = decide (¬ (B p = 5 ∨ B p = 6) ∨ i + 1 < c) → qR w 4 qm23 122 [(0, .ref 3), (1, qI c), (2, qI i), (3, qI p), (4, qI (B p)), (5, qI (bi v5))] [qI (bi b), .ref 1] (qset s 1 2 (p + 1)) (qPV fv g) := by
        intro b v5 hv5 hb2
        refine k23_122 (c_ck (p := p) (b := decide (¬ (B p = 5 ∨ B p = 6) ∨ i + 1 < c)) hA1 (by rw [hb2]) rfl (qRes_mono H (fun _ _ h => h) (fun _ hck H => ?_)))
        have hck := decide_eq_true_eq.mp (rCk_r hck)
        have e1 : qwid 4 = 6 := rfl
        have e2 : (qlen (4 + 1) : Int) = 1500 := rfl
        refine c25 (t := 4) (by decide) (by rw [r1, e1, e2]; omega) ?_
        rw [r1]
        obtain ⟨a1, a2, a3, a4, a5⟩ := qadd4 (qset s 1 2 (p + 1)) (x := B p) (r1 _)
        have hA2 := hA1.add (x := B p) (r1 (p + 1))
        rw [qRes_bd] at H
        have u2 : qadd (qset s 1 2 (p + 1)) 4 (B p) 3 3 = s 3 3 := by rw [a2 3 (by decide) (by decide), u1]
        refine c26 hB hA2 (by omega) q1 a1 ⟨by omega, by omega⟩ (by rw [u2]; omega) a4 (a5 1 (by decide) (by decide)) (a5 2 (by decide) (by decide)) (a5 4 (by decide) (by decide)) (qRes_mono H (fun _ _ h => h) (fun q hq H s2 hA3 hE => ?_))
        have z := eBody_r hB (by omega) q1 hq
        have hu2 : 0 ≤ s2 3 3 ∧ s2 3 3 ≤ q := by
          obtain ⟨-, -, -, -, -, -, -, b8⟩ := hE
          rw [u2] at b8
          rcases b8 with ⟨-, b, -⟩ | ⟨b0, -, b, -⟩
          · omega
          · have := eN_le hB (by omega) q1 b0 hq
            omega
        have hle : s 3 3 ≤ s2 3 3 := by
          obtain ⟨-, -, -, -, -, -, -, b8⟩ := hE
          rw [u2] at b8
          rcases b8 with ⟨-, b, -⟩ | ⟨b0, -, b, -⟩ <;> omega
        have hr2 : s2 4 2 = i + 1 := by rw [hE.1 4 (by decide) (by decide) (by decide) (by decide)]; exact a1
        have hR2 : ∀ j, 0 ≤ j → j < i + 1 → qRow B c P s2 j := by
          intro j j0 j1
          by_cases hj : j = i
          · rw [hj]
            exact hE.row hPi (by omega) ⟨h1, ci⟩ (by rw [u2]; omega)
          · refine (hR j j0 (by omega)).fr (i := i) ⟨j0, by omega⟩ (fun x hx => ?_) (fun x hx => ?_) hle
            · rw [hE.2.1 x hx, a3 x hx, qset_cell _ (by decide)]
            · rw [hE.2.2.2.2.2.2.1 x (by rw [u2]; exact hx), a2 6 (by decide) (by decide), qset_cell _ (by decide)]
        refine ⟨bi_rg _, fun z5 => k23_159 ?_, fun z5 => ?_⟩
        · rw [bi_0] at z5
          rw [z5] at hv5
          have nw := of_decide_eq_false hv5.symm
          have en : eNx (B p) i = i + 1 := by unfold eNx; rw [if_neg nw]
          rw [en] at H
          refine ih (i + 1) q s2 (by omega) (by omega) (by omega) (by omega) z.2.1 hu2.1 hu2.2 hA3 (fun j hj => ?_) hr2 hR2 (qRes_mono H (fun _ _ h => h) (fun q _ H s' b1 b2' b3 b4' b5 => H s' b1 b2' b3 b4' (fun k k1 k3 k4 k5 k6 => ?_)))
          · rw [hP j (by omega), qPl, if_pos ci, if_neg (by omega), if_neg (by rintro ⟨-, y⟩; exact nw y), en, ← z.1]
          · rw [b5 k k1 k3 k4 k5 k6, hE.1 k k1 k3 k5 k6, a2 k k4 k5, qset_cell _ k1]
        · rw [bi_n] at z5
          rw [z5] at hv5
          have wd := of_decide_eq_true hv5.symm
          have ci2 : i + 1 < c := by
            rcases hck with y | y
            · exact absurd wd y
            · exact y
          have en : eNx (B p) i = i + 2 := by unfold eNx; rw [if_pos wd]
          have z9 := z.2.2.2.1 wd
          rw [en] at H
          refine c25 (t := 4) (by decide) (by rw [hr2, e1, e2]; omega) ?_
          obtain ⟨d1, d2, d3, d4, d5⟩ := qadd4 s2 (x := 0) hr2
          have u3 : qadd s2 4 0 3 3 = s2 3 3 := by rw [d2 3 (by decide) (by decide)]
          have hP1 : P (i + 1) = -1 := by
            rw [hP (i + 1) (by omega), qPl, if_pos ci, if_neg (by omega), if_pos ⟨rfl, wd⟩]
          have off : xOn c P (i + 1) = false := by unfold xOn; rw [hP1, decide_eq_false (by omega)]
          have hR3 : ∀ j, 0 ≤ j → j < i + 2 → qRow B c P (qadd s2 4 0) j := by
            intro j j0 j1
            by_cases hj : j = i + 1
            · rw [hj]
              unfold qRow xT xF xS xO
              rw [off, if_neg (by decide), if_neg (by decide), if_neg (by decide), if_neg (by decide)]
              refine ⟨d4, d5 1 (by decide) (by decide), d5 2 (by decide) (by decide), d5 3 (by decide) (by decide), ?_, fun y => absurd y (by decide)⟩
              rw [d5 4 (by decide) (by decide)]
              exact ⟨by decide, by decide⟩
            · refine (hR2 j j0 (by omega)).fr (i := i + 1) ⟨j0, by omega⟩ (fun x hx => d3 x hx) (fun x _ => by rw [d2 6 (by decide) (by decide)]) (by rw [u3]; omega)
          have := ih (i + 2) q (qadd s2 4 0) (by omega) (by omega) (by omega) (by omega) z.2.1 (by rw [u3]; exact hu2.1) (by rw [u3]; exact hu2.2) (hA3.add hr2) (fun j hj => by
            rw [hP j (by omega), qPl, if_pos ci, if_neg (by omega), if_neg (by omega), en, ← z.1]) (by rw [d1]; omega) hR3 (qRes_mono H (fun _ _ h => h) (fun q _ H s' b1 b2' b3 b4' b5 => H s' b1 b2' b3 b4' (fun k k1 k3 k4 k5 k6 => by rw [b5 k k1 k3 k4 k5 k6, d2 k k4 k5, hE.1 k k1 k3 k5 k6, a2 k k4 k5, qset_cell _ k1])))
          refine k23_159 ?_
          rw [show i + 1 + 1 = i + 2 by omega]
          exact this
      have h99 : ∀ v5 : Bool, v5 = decide (B p = 5 ∨ B p = 6) → qR w 4 qm23 99 [(0, .ref 3), (1, qI c), (2, qI i), (3, qI p), (4, qI (B p))] [qI (bi v5)] (qset s 1 2 (p + 1)) (qPV fv g) := by
        intro v5 hv5
        refine k23_99 ⟨bi_rg _, fun z => k23_117 (h122 true v5 hv5 ?_), fun z => ⟨⟨by omega, by omega⟩, ⟨by omega, by omega⟩, fun z2 => k23_117 (h122 true v5 hv5 ?_), fun z2 => h122 false v5 hv5 ?_⟩⟩
        · rw [bi_0] at z
          rw [z] at hv5
          rw [decide_eq_true (Or.inl (of_decide_eq_false hv5.symm))]
        · rw [decide_eq_true (Or.inr z2)]
        · rw [bi_n] at z
          rw [z] at hv5
          have wd := of_decide_eq_true hv5.symm
          rw [decide_eq_false (by omega)]
      refine ⟨⟨by omega, by omega⟩, fun z => k23_94 (h99 true ?_), fun z => ⟨fun z2 => k23_94 (h99 true ?_), fun z2 => h99 false ?_⟩⟩
      · rw [decide_eq_true (Or.inl z)]
      · rw [decide_eq_true (Or.inr z2)]
      · rw [decide_eq_false (by omega)]
    · rw [if_neg (by omega)] at H
      have : i = c := by omega
      subst this
      exact H s hA hr (by omega) hR (fun _ _ _ _ _ _ => rfl)
end LD
