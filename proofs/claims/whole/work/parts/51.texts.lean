/-! TEXTS: their bytes, their characters; the class reads them -/
/-- how many bytes a character has that begins so -/
def cw (b : Int) : Int := if b < 128 then 1 else if b < 224 then 2 else 3
def cFur (b : Int) : Int := if 1 ≤ b ∧ b ≤ 127 then 0 else if 192 ≤ b ∧ b ≤ 223 then 1 else if 224 ≤ b ∧ b ≤ 239 then 2 else -1
def cCon (x : Int) : Bool := decide (128 ≤ x ∧ x ≤ 191)
def cDec (B : Int → Int) (p : Int) : Int := if B p < 128 then B p else if B p < 224 then 64 * (B p % 32) + B (p + 1) % 64 else 64 * (64 * (B p % 16) + B (p + 1) % 64) + B (p + 2) % 64
/-- whether a character stands at p, ending at e or before -/
def cOk (B : Int → Int) (e p : Int) : Bool := decide (0 ≤ cFur (B p)) && (decide (p + 1 + cFur (B p) ≤ e) && ((decide (cFur (B p) < 1) || cCon (B (p + 1))) && (decide (cFur (B p) < 2) || cCon (B (p + 2)))))
def rTx (B : Int → Int) (e : Int) : Nat → Int → Int ⊕ Int
  | 0, p => .inr p
  | d + 1, p => if p < e then (if cOk B e p = true then rTx B e d (p + cw (B p)) else .inl p) else .inr p
def nch (B : Int → Int) (e : Int) : Nat → Int → Nat
  | 0, _ => 0
  | d + 1, p => if p < e then 1 + nch B e d (p + cw (B p)) else 0
def cpos (B : Int → Int) (p : Int) : Nat → Int
  | 0 => p
  | k + 1 => cpos B p k + cw (B (cpos B p k))
theorem cw_fur {b : Int} (h : 0 ≤ cFur b) : cw b = 1 + cFur b := by
  unfold cFur at h ⊢
  unfold cw
  by_cases c1 : 1 ≤ b ∧ b ≤ 127
  · rw [if_pos c1, if_pos (show b < 128 by omega)]; rfl
  · rw [if_neg c1] at h ⊢
    by_cases c2 : 192 ≤ b ∧ b ≤ 223
    · rw [if_pos c2, if_neg (show ¬ b < 128 by omega), if_pos (show b < 224 by omega)]; rfl
    · rw [if_neg c2] at h ⊢
      by_cases c3 : 224 ≤ b ∧ b ≤ 239
      · rw [if_pos c3, if_neg (show ¬ b < 128 by omega), if_neg (show ¬ b < 224 by omega)]; rfl
      · rw [if_neg c3] at h; omega
theorem cw_rg (b : Int) : 1 ≤ cw b ∧ cw b ≤ 3 := by unfold cw; split <;> (try split) <;> omega
theorem cOk_r {B : Int → Int} {e p : Int} (h : cOk B e p = true) : 0 ≤ cFur (B p) ∧ p + cw (B p) ≤ e := by
  unfold cOk at h
  simp only [Bool.and_eq_true, decide_eq_true_eq] at h
  have := cw_fur h.1
  omega
theorem rTx_r {B : Int → Int} {e : Int} : ∀ (d : Nat) (p q : Int), p ≤ e → e - p ≤ d → rTx B e d p = .inr q → q = e := by
  intro d
  induction d with
  | zero => intro p q h1 h2 h; cases h; omega
  | succ d ih =>
    intro p q h1 h2 h
    unfold rTx at h
    split at h
    · split at h
      · next c =>
        have r := cOk_r c
        have r2 := cw_rg (B p)
        exact ih _ _ r.2 (by omega) h
      · cases h
    · cases h; omega
/-- the characters of a text that is one, in their order -/
theorem cpos_succ (B : Int → Int) (p : Int) (k : Nat) : cpos B p (k + 1) = cpos B (p + cw (B p)) k := by
  induction k with
  | zero => rfl
  | succ k ih =>
    rw [cpos, ih, cpos]
theorem cDec_rg {B : Int → Int} {n p : Int} (hB : qB B n) (h0 : 0 ≤ p) (h1 : p + cw (B p) ≤ n) : 0 ≤ cDec B p ∧ cDec B p ≤ 65535 := by
  have e0 := hB.2.2 p h0 (by have := cw_rg (B p); omega)
  unfold cDec
  unfold cw at h1
  split
  · omega
  · split <;> omega
section TX
variable {w : qE} {s s0 : qS} {B : Int → Int} {n p e : Int} {f : Int → qS → Prop} {fv : qS → Prop} {g : Nat → qS → Prop}
theorem qset_qset (s : qS) (k : Nat) (j v u : Int) : qset (qset s k j v) k j u = qset s k j u := by
  funext k' j'
  simp only [qset_eq]
  split <;> simp_all
theorem c31 {b : Int} (hb : Rg b) (H : f (cFur b) s) : qW w 1 31 [qI b] s (qPI f g) := by
  have h29 : (¬ (1 ≤ b ∧ b ≤ 127)) → (¬ (192 ≤ b ∧ b ≤ 223)) → qR w 0 qm31 29 [(0, qI b)] [] s (qPI f g) := by
    intro n1 n2
    unfold cFur at H
    rw [if_neg n1, if_neg n2] at H
    refine k31_29 ⟨hb, fun c => k31_47 (k31_48 ?_), fun c => ⟨fun c2 => k31_47 (k31_48 ?_), fun c2 => k31_48 ?_⟩⟩
    · rw [if_neg (by omega)] at H; exact H
    · rw [if_neg (by omega)] at H; exact H
    · rw [if_pos ⟨c, c2⟩] at H; exact H
  have h13 : (¬ (1 ≤ b ∧ b ≤ 127)) → qR w 0 qm31 13 [(0, qI b)] [] s (qPI f g) := by
    intro n1
    refine k31_13 ⟨hb, fun c => h29 n1 (by omega), fun c => ⟨fun c2 => h29 n1 (by omega), fun c2 => ?_⟩⟩
    unfold cFur at H
    rw [if_neg n1, if_pos ⟨c, c2⟩] at H
    exact H
  refine k31 ⟨hb, fun c => h13 (by omega), fun c => ⟨fun c2 => h13 (by omega), fun c2 => ?_⟩⟩
  unfold cFur at H
  rw [if_pos ⟨c, c2⟩] at H
  exact H
theorem m31 {x : Int} (h0 : 0 ≤ x) (h1 : x ≤ 255) : qand x 31 = x % 32 := qand_mask (m := 31) (k := 5) h0 (by omega) rfl (by decide)
theorem m15 {x : Int} (h0 : 0 ≤ x) (h1 : x ≤ 255) : qand x 15 = x % 16 := qand_mask (m := 15) (k := 4) h0 (by omega) rfl (by decide)
theorem m63 {x : Int} (h0 : 0 ≤ x) (h1 : x ≤ 255) : qand x 63 = x % 64 := qand_mask (m := 63) (k := 6) h0 (by omega) rfl (by decide)
/-- one more byte of a character -/
theorem c30_step {q v2 v4 v5 v6 : Int} (hB : qB B n) (hA : qAt s0 B n q s) (h0 : 0 ≤ q) (h1 : q < n) (hv : 0 ≤ v6 ∧ v6 < v4 ∧ v4 ≤ 2) (H0 : cCon (B q) = false → ∀ s', qFt s0 n v2 s' → g 0 s') (H1 : cCon (B q) = true → qR w 1 qm30 86 [(0, .ref 3), (2, qI v2), (4, qI v4), (5, qI (64 * v5 + B q % 64)), (6, qI (v6 + 1))] [] (qset s 1 2 (q + 1)) (qPV fv g)) : qR w 1 qm30 86 [(0, .ref 3), (2, qI v2), (4, qI v4), (5, qI v5), (6, qI v6)] [] s (qPV fv g) := by
  have hb := hB.2.2 q h0 h1
  refine k30_86 ⟨⟨by omega, by omega⟩, ⟨by omega, by omega⟩, fun _ => c_u1 hB hA h0 (by omega) ?_, fun c => absurd c (by omega)⟩
  unfold rU1
  rw [if_neg (by omega)]
  have hA2 := hA.mv (q + 1)
  have h128 : ∀ b : Bool, b = cCon (B q) → qR w 1 qm30 128 [(0, .ref 3), (2, qI v2), (4, qI v4), (5, qI v5), (6, qI v6), (7, qI (B q))] [qI (bi b), .ref 1] (qset s 1 2 (q + 1)) (qPV fv g) := by
    intro b hb2
    refine k30_128 (c20 (bi_rg b) (fun z => ?_) (fun z => ?_))
    · rw [bi_0] at z
      exact H0 (by rw [← hb2, z]) _ (hA2.ft _)
    · rw [bi_n] at z
      rw [m63 hb.1 hb.2]
      exact H1 (by rw [← hb2, z])
  refine ⟨⟨by omega, by omega⟩, fun c => k30_127 (h128 false ?_), fun c => ⟨fun c2 => k30_127 (h128 false ?_), fun c2 => h128 true ?_⟩⟩
  · unfold cCon; rw [decide_eq_false (by omega)]
  · unfold cCon; rw [decide_eq_false (by omega)]
  · unfold cCon; rw [decide_eq_true (by omega)]
theorem c30_end {v2 v4 v5 v6 : Int} (hv : v6 = v4 ∧ Rg v4) (hu : 0 ≤ s 3 3 ∧ s 3 3 < 500) (H : fv (qset (qset s 6 (s 3 3) v5) 3 3 (s 3 3 + 1))) : qR w 1 qm30 86 [(0, .ref 3), (2, qI v2), (4, qI v4), (5, qI v5), (6, qI v6)] [] s (qPV fv g) := by
  refine k30_86 ⟨by rw [hv.1]; exact hv.2, hv.2, fun c => absurd c (by omega), fun _ => ⟨⟨by omega, by omega⟩, fun _ => ⟨hu.1, hu.2, k30_184 H⟩, fun c => absurd c (by omega)⟩⟩
theorem c30 (hB : qB B n) (hA : qAt s0 B n p s) (h0 : 0 ≤ p) (h1 : p < e) (he : e ≤ n) (hu : 0 ≤ s 3 3 ∧ s 3 3 < 500) (H0 : cOk B e p = false → ∀ s', qFt s0 n p s' → g 0 s') (H1 : cOk B e p = true → fv (qset (qset (qset s 1 2 (p + cw (B p))) 6 (s 3 3) (cDec B p)) 3 3 (s 3 3 + 1))) : qW w 2 30 [.ref 3, qI e] s (qPV fv g) := by
  have e5 := hB.2.1
  have hb := hB.2.2 p h0 (by omega)
  refine k30 (c21 (c_u1 hB hA h0 (by omega) ?_))
  unfold rU1
  rw [if_neg (by omega), hA.2.1]
  have hA2 := hA.mv (p + 1)
  have hf : -1 ≤ cFur (B p) ∧ cFur (B p) ≤ 2 := by
    unfold cFur
    split
    · omega
    · split
      · omega
      · split <;> omega
  have h51 : ∀ b : Bool, b = (decide (0 ≤ cFur (B p)) && decide (p + 1 + cFur (B p) ≤ e)) → qR w 1 qm30 51 [(0, .ref 3), (2, qI p), (3, qI (B p)), (4, qI (cFur (B p)))] [qI (bi b), .ref 1] (qset s 1 2 (p + 1)) (qPV fv g) := by
    intro b hb2
    refine k30_51 (c20 (bi_rg b) (fun z => ?_) (fun z => ?_))
    · rw [bi_0] at z
      refine H0 ?_ _ (hA2.ft _)
      unfold cOk
      rw [← Bool.and_assoc, ← hb2, z]
      rfl
    · rw [bi_n] at z
      rw [z] at hb2
      have hb3 := hb2.symm
      rw [Bool.and_eq_true, decide_eq_true_eq, decide_eq_true_eq] at hb3
      obtain ⟨p1, p2⟩ := hb3
      have hcw := cw_fur p1
      have hs3 : ∀ q : Int, qset s 1 2 q 3 3 = s 3 3 := fun q => by rw [qset_cell _ (by decide)]
      have hok : cOk B e p = ((decide (cFur (B p) < 1) || cCon (B (p + 1))) && (decide (cFur (B p) < 2) || cCon (B (p + 2)))) := by
        unfold cOk
        rw [decide_eq_true p1, decide_eq_true p2]
        simp
      refine ⟨⟨by omega, by omega⟩, fun d0 => k30_81 (k30_86 ?_), fun d0 => ⟨fun d1 => k30_81 ?_, fun d1 => k30_81 ?_⟩⟩
      · -- one byte
        rw [d0]
        refine ⟨⟨by decide, by decide⟩, ⟨by decide, by decide⟩, fun c => absurd c (by decide), fun _ => ?_⟩
        rw [hs3]
        refine ⟨⟨by omega, by omega⟩, fun _ => ⟨hu.1, hu.2, k30_184 ?_⟩, fun c => absurd c (by omega)⟩
        have := H1 (by rw [hok, d0]; rfl)
        rw [hcw, d0] at this
        have hd : cDec B p = B p := by
          unfold cFur at d0
          unfold cDec
          rw [if_pos]
          split at d0
          · omega
          · split at d0
            · omega
            · split at d0 <;> omega
        rw [hd] at this
        exact this
      · -- two
        rw [d1] at hcw hok ⊢
        have hd : cDec B p = 64 * (B p % 32) + B (p + 1) % 64 := by
          unfold cFur at d1
          unfold cDec
          split at d1
          · omega
          · split at d1
            · rw [if_neg (by omega), if_pos (by omega)]
            · split at d1 <;> omega
        rw [m31 hb.1 hb.2]
        refine c30_step hB hA2 (by omega) (by omega) ⟨by decide, by decide, by decide⟩ (fun z => H0 (by rw [hok, z]; rfl)) (fun z => ?_)
        rw [qset_qset]
        refine c30_end ⟨rfl, by decide, by decide⟩ (by rw [hs3]; exact hu) ?_
        rw [hs3]
        have := H1 (by rw [hok, z]; rfl)
        rw [hcw, hd] at this
        have e2 : p + (1 + 1) = p + 1 + 1 := by omega
        rw [e2] at this
        exact this
      · -- three
        have d2 : cFur (B p) = 2 := by omega
        rw [d2] at hcw hok ⊢
        have hd : cDec B p = 64 * (64 * (B p % 16) + B (p + 1) % 64) + B (p + 2) % 64 := by
          unfold cFur at d2
          unfold cDec
          split at d2
          · omega
          · split at d2
            · omega
            · split at d2
              · rw [if_neg (by omega), if_neg (by omega)]
              · omega
        rw [m15 hb.1 hb.2]
        refine c30_step hB hA2 (by omega) (by omega) ⟨by decide, by decide, by decide⟩ (fun z => H0 (by rw [hok, z]; rfl)) (fun z => ?_)
        have e2 : p + 2 = p + 1 + 1 := by omega
        refine c30_step hB ((hA2.mv (p + 1 + 1))) (by omega) (by omega) ⟨by decide, by decide, by decide⟩ (fun z2 => H0 (by rw [hok, z, e2, z2]; rfl)) (fun z2 => ?_)
        rw [qset_qset, qset_qset]
        refine c30_end ⟨rfl, by decide, by decide⟩ (by rw [hs3]; exact hu) ?_
        rw [hs3]
        have := H1 (by rw [hok, z, e2, z2]; rfl)
        rw [hcw, hd, e2] at this
        have e3 : p + (1 + 2) = p + 1 + 1 + 1 := by omega
        rw [e3] at this
        exact this
  refine c31 ⟨by omega, by omega⟩ ⟨⟨by omega, by omega⟩, fun c => k30_50 (h51 false ?_), fun c => c21 ?_⟩
  · rw [decide_eq_false (by omega)]; rfl
  · rw [hA2.2.1]
    refine ⟨⟨by omega, by omega⟩, ⟨by omega, by omega⟩, fun c2 => k30_50 (h51 false ?_), fun c2 => h51 true ?_⟩
    · rw [decide_eq_false (show ¬ p + 1 + cFur (B p) ≤ e by omega)]; simp
    · rw [decide_eq_true c, decide_eq_true c2]; rfl
end TX
