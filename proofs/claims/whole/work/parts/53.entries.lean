/-! the class reads its ENTRIES -/
section EN2
variable {w : qE} {s s0 : qS} {B : Int → Int} {n p e i : Int} {f : Int → qS → Prop} {fv : qS → Prop} {g : Nat → qS → Prop}
theorem qEnt.plain {S : qS} {F : Int} (ht : B p ≠ 1) (h4 : ∀ k, k ≠ 1 → k ≠ 3 → k ≠ 5 → k ≠ 6 → S k = s k) (h3 : S 3 = s 3) (h6 : S 6 = s 6) (hx : ∀ x, x < i * 6 → S 5 x = s 5 x) (h0 : S 5 (i * 6 + 0) = B p) (h1 : S 5 (i * 6 + 1) = eF B p) (h2 : S 5 (i * 6 + 2) = eS B p) (hO : S 5 (i * 6 + 3) = p) (hA : S 5 (i * 6 + 4) = 0) : qEnt s S B i p :=
  ⟨h4, hx, h0, h1, h2, hO, fun x _ => by rw [h6], Or.inl ⟨ht, by rw [h3], hA⟩⟩
theorem c26 (hB : qB B n) (hA : qAt s0 B n (p + 1) s) (h0 : 0 ≤ p) (h1 : p + 1 ≤ n) (hr : s 4 2 = i + 1) (hi : 0 ≤ i ∧ i ≤ 248) (hu : 0 ≤ s 3 3 ∧ s 3 3 ≤ p) (hw0 : s 5 (i * 6 + 0) = B p) (hw1 : s 5 (i * 6 + 1) = 0) (hw2 : s 5 (i * 6 + 2) = 0) (hw4 : s 5 (i * 6 + 4) = 0)
    (H : qRes (eBody B n p (B p)) (fun e => ∀ s', qFt s0 n e s' → g 0 s') (fun q => ∀ s', qAt s0 B n q s' → qEnt s s' B i p → fv s')) : qW w 4 26 [.ref 3, qI i, qI (B p), qI p] s (qPV fv g) := by
  have h5 := hB.2.1
  have hb := hB.2.2 p h0 (by omega)
  refine k26 (c_set (by omega) (by omega) (by omega) ?_)
  have hA1 := hA.set (k := 5) (j := i * 6 + 3) (v := p) ⟨by decide, by decide⟩
  have e42 : qset s 5 (i * 6 + 3) p 4 2 = i + 1 := by rw [qset_cell _ (by decide)]; exact hr
  have e33 : qset s 5 (i * 6 + 3) p 3 3 = s 3 3 := by rw [qset_cell _ (by decide)]
  have hx1 : ∀ x v (u : qS), x < i * 6 → ∀ c, 0 ≤ c → qset u 5 (i * 6 + c) v 5 x = u 5 x := by
    intro x v u hx c hc
    rw [qset_same, if_neg (by omega)]
  unfold eBody at H
  refine ⟨⟨by omega, by omega⟩, fun c => ?_, fun c => ?_, fun c => ?_, fun c => ?_, fun c => ?_, fun c => ?_, fun c1 c2 c3 c4 c5 c6 c7 c8 c9 c10 c11 c12 c13 c14 c15 => ?_⟩
  · -- a text
    rw [if_pos c, show p + 3 = p + 1 + 2 by omega] at H
    refine c28 hB hA1 (by omega) h1 (by omega) (by omega) (by rw [e33]; omega) (qRes_mono H (fun _ _ h => h) (fun q _ H s' a b => k26_183 (H _ ?_ ?_)))
    · exact (a.set ⟨by decide, by decide⟩).set ⟨by decide, by decide⟩
    · obtain ⟨b1, b2', b3, b4'⟩ := b
      have f5 : s' 5 = qset s 5 (i * 6 + 3) p 5 := b4' 5 (by decide) (by decide) (by decide)
      rw [e33] at b1 b2' b3 ⊢
      have eN1 : eN B p = nch B (p + 1 + 2 + b2 B (p + 1)) (b2 B (p + 1)).toNat (p + 1 + 2) := by unfold eN; rw [show p + 3 = p + 1 + 2 by omega]
      refine ⟨fun k k1 k3 k5 k6 => ?_, fun x hx => ?_, ?_, ?_, ?_, ?_, fun x hx => ?_, Or.inr ⟨c, ?_, ?_, fun j hj => ?_⟩⟩
      · rw [qset_cell _ k5, qset_cell _ k5, b4' k k1 k3 k6, qset_cell _ k5]
      · rw [hx1 x _ _ hx 1 (by decide), hx1 x _ _ hx 4 (by decide), f5, hx1 x _ _ hx 3 (by decide)]
      · rw [qset_same, if_neg (by omega), qset_same, if_neg (by omega), f5, qset_same, if_neg (by omega)]
        exact hw0
      · rw [qset_same, if_pos rfl, b1]
        unfold eF
        rw [if_pos c, eN1]
        omega
      · rw [qset_same, if_neg (by omega), qset_same, if_neg (by omega), f5, qset_same, if_neg (by omega), hw2]
        unfold eS
        rw [if_neg (by omega), if_neg (by omega), if_neg (by omega)]
      · rw [qset_same, if_neg (by omega), qset_same, if_neg (by omega), f5, qset_same, if_pos rfl]
      · rw [qset_cell _ (by decide), qset_cell _ (by decide), b2' x hx, qset_cell _ (by decide)]
      · rw [qset_same, if_neg (by omega), qset_same, if_pos rfl]
      · rw [qset_cell _ (by decide), qset_cell _ (by decide), b1, eN1]
      · rw [qset_cell _ (by decide), qset_cell _ (by decide), show p + 3 = p + 1 + 2 by omega]
        exact b3 j (by rw [← eN1]; exact hj)
  · -- INT, FLOAT
    rw [if_neg (by omega), if_pos c, qRes_bd] at H
    refine c_u4 hB hA1 (by omega) h1 (qRes_mono H (fun _ _ h => h) (fun v hv H => ?_))
    obtain ⟨q1, rfl⟩ := rU4_r hv
    have H : ∀ s', qAt s0 B n (p + 5) s' → qEnt s s' B i p → fv s' := H
    refine c_set (by rw [qset_cell _ (by decide)]; omega) (by rw [qset_cell _ (by decide)]; omega) (by omega) (k26_183 (H _ ?_ ?_))
    · have := (hA1.mv (p + 1 + 4)).set (k := 5) (j := i * 6 + 1) (v := b4 B (p + 1)) ⟨by decide, by decide⟩
      rw [show p + 5 = p + 1 + 4 by omega]
      exact this
    · refine qEnt.plain (F := 0) (by omega) (fun k k1 k3 k5 k6 => ?_) ?_ ?_ (fun x hx => ?_) ?_ ?_ ?_ ?_ ?_
      · rw [qset_cell _ k5, qset_cell _ k1, qset_cell _ k5]
      · rw [qset_cell _ (by decide), qset_cell _ (by decide), qset_cell _ (by decide)]
      · rw [qset_cell _ (by decide), qset_cell _ (by decide), qset_cell _ (by decide)]
      · rw [hx1 x _ _ hx 1 (by decide), qset_cell _ (by decide), hx1 x _ _ hx 3 (by decide)]
      · rw [qset_same, if_neg (by omega), qset_cell _ (by decide), qset_same, if_neg (by omega)]; exact hw0
      · rw [qset_same, if_pos rfl]; unfold eF; rw [if_neg (by omega), if_pos (by omega)]
      · rw [qset_same, if_neg (by omega), qset_cell _ (by decide), qset_same, if_neg (by omega), hw2]; unfold eS; rw [if_neg (by omega), if_neg (by omega), if_neg (by omega)]
      · rw [qset_same, if_neg (by omega), qset_cell _ (by decide), qset_same, if_pos rfl]
      · rw [qset_same, if_neg (by omega), qset_cell _ (by decide), qset_same, if_neg (by omega)]; exact hw4
  · -- LONG, DOUBLE
    rw [if_neg (by omega), if_neg (by omega), if_pos c] at H
    refine c32 (m1 := 4) (m2 := 4) (by omega) (by omega) hB hA1 (by omega) h1 (by omega) (by omega) ?_
    rw [show p + 1 + 4 = p + 5 by omega, show p + 5 + 4 = p + 9 by omega]
    refine qRes_mono H (fun _ _ h => h) (fun q _ H => k26_183 (H _ ?_ ?_))
    · exact (((hA1.mv _).set ⟨by decide, by decide⟩).mv q).set ⟨by decide, by decide⟩
    · refine qEnt.plain (F := 0) (by omega) (fun k k1 k3 k5 k6 => ?_) ?_ ?_ (fun x hx => ?_) ?_ ?_ ?_ ?_ ?_
      · rw [qset_cell _ k5, qset_cell _ k1, qset_cell _ k5, qset_cell _ k1, qset_cell _ k5]
      · rw [qset_cell _ (by decide), qset_cell _ (by decide), qset_cell _ (by decide), qset_cell _ (by decide), qset_cell _ (by decide)]
      · rw [qset_cell _ (by decide), qset_cell _ (by decide), qset_cell _ (by decide), qset_cell _ (by decide), qset_cell _ (by decide)]
      · rw [hx1 x _ _ hx 2 (by decide), qset_cell _ (by decide), hx1 x _ _ hx 1 (by decide), qset_cell _ (by decide), hx1 x _ _ hx 3 (by decide)]
      · rw [qset_same, if_neg (by omega), qset_cell _ (by decide), qset_same, if_neg (by omega), qset_cell _ (by decide), qset_same, if_neg (by omega)]; exact hw0
      · rw [qset_same, if_neg (by omega), qset_cell _ (by decide), qset_same, if_pos rfl]; unfold eF; rw [if_neg (by omega), if_pos (by omega)]; rfl
      · rw [qset_same, if_pos rfl]; unfold eS; rw [if_pos (by omega)]; rfl
      · rw [qset_same, if_neg (by omega), qset_cell _ (by decide), qset_same, if_neg (by omega), qset_cell _ (by decide), qset_same, if_pos rfl]
      · rw [qset_same, if_neg (by omega), qset_cell _ (by decide), qset_same, if_neg (by omega), qset_cell _ (by decide), qset_same, if_neg (by omega)]; exact hw4
  · -- CLASS, STRING, TYPE
    rw [if_neg (by omega), if_neg (by omega), if_neg (by omega), if_pos c, qRes_bd] at H
    refine c_u2 hB hA1 (by omega) h1 (qRes_mono H (fun _ _ h => h) (fun v hv H => ?_))
    obtain ⟨q1, rfl⟩ := rU2_r hv
    have H : ∀ s', qAt s0 B n (p + 3) s' → qEnt s s' B i p → fv s' := H
    refine c_set (by rw [qset_cell _ (by decide)]; omega) (by rw [qset_cell _ (by decide)]; omega) (by omega) (k26_183 (H _ ?_ ?_))
    · have := (hA1.mv (p + 1 + 2)).set (k := 5) (j := i * 6 + 1) (v := b2 B (p + 1)) ⟨by decide, by decide⟩
      rw [show p + 3 = p + 1 + 2 by omega]
      exact this
    · refine qEnt.plain (F := 0) (by omega) (fun k k1 k3 k5 k6 => ?_) ?_ ?_ (fun x hx => ?_) ?_ ?_ ?_ ?_ ?_
      · rw [qset_cell _ k5, qset_cell _ k1, qset_cell _ k5]
      · rw [qset_cell _ (by decide), qset_cell _ (by decide), qset_cell _ (by decide)]
      · rw [qset_cell _ (by decide), qset_cell _ (by decide), qset_cell _ (by decide)]
      · rw [hx1 x _ _ hx 1 (by decide), qset_cell _ (by decide), hx1 x _ _ hx 3 (by decide)]
      · rw [qset_same, if_neg (by omega), qset_cell _ (by decide), qset_same, if_neg (by omega)]; exact hw0
      · rw [qset_same, if_pos rfl]; unfold eF; rw [if_neg (by omega), if_neg (by omega), if_neg (by omega)]
      · rw [qset_same, if_neg (by omega), qset_cell _ (by decide), qset_same, if_neg (by omega), hw2]; unfold eS; rw [if_neg (by omega), if_neg (by omega), if_neg (by omega)]
      · rw [qset_same, if_neg (by omega), qset_cell _ (by decide), qset_same, if_pos rfl]
      · rw [qset_same, if_neg (by omega), qset_cell _ (by decide), qset_same, if_neg (by omega)]; exact hw4
  · -- two numbers of 2 bytes
    rw [if_neg (by omega), if_neg (by omega), if_neg (by omega), if_neg (by omega), if_pos c] at H
    refine c32 (m1 := 2) (m2 := 2) (by omega) (by omega) hB hA1 (by omega) h1 (by omega) (by omega) ?_
    rw [show p + 1 + 2 = p + 3 by omega, show p + 3 + 2 = p + 5 by omega]
    refine qRes_mono H (fun _ _ h => h) (fun q _ H => k26_183 (H _ ?_ ?_))
    · exact (((hA1.mv _).set ⟨by decide, by decide⟩).mv q).set ⟨by decide, by decide⟩
    · refine qEnt.plain (F := 0) (by omega) (fun k k1 k3 k5 k6 => ?_) ?_ ?_ (fun x hx => ?_) ?_ ?_ ?_ ?_ ?_
      · rw [qset_cell _ k5, qset_cell _ k1, qset_cell _ k5, qset_cell _ k1, qset_cell _ k5]
      · rw [qset_cell _ (by decide), qset_cell _ (by decide), qset_cell _ (by decide), qset_cell _ (by decide), qset_cell _ (by decide)]
      · rw [qset_cell _ (by decide), qset_cell _ (by decide), qset_cell _ (by decide), qset_cell _ (by decide), qset_cell _ (by decide)]
      · rw [hx1 x _ _ hx 2 (by decide), qset_cell _ (by decide), hx1 x _ _ hx 1 (by decide), qset_cell _ (by decide), hx1 x _ _ hx 3 (by decide)]
      · rw [qset_same, if_neg (by omega), qset_cell _ (by decide), qset_same, if_neg (by omega), qset_cell _ (by decide), qset_same, if_neg (by omega)]; exact hw0
      · rw [qset_same, if_neg (by omega), qset_cell _ (by decide), qset_same, if_pos rfl]; unfold eF; rw [if_neg (by omega), if_neg (by omega), if_neg (by omega)]; rfl
      · rw [qset_same, if_pos rfl]; unfold eS; rw [if_neg (by omega), if_pos c]; rfl
      · rw [qset_same, if_neg (by omega), qset_cell _ (by decide), qset_same, if_neg (by omega), qset_cell _ (by decide), qset_same, if_pos rfl]
      · rw [qset_same, if_neg (by omega), qset_cell _ (by decide), qset_same, if_neg (by omega), qset_cell _ (by decide), qset_same, if_neg (by omega)]; exact hw4
  · -- HANDLE
    rw [if_neg (by omega), if_neg (by omega), if_neg (by omega), if_neg (by omega), if_neg (by omega), if_pos c] at H
    refine c32 (m1 := 1) (m2 := 2) (by omega) (by omega) hB hA1 (by omega) h1 (by omega) (by omega) ?_
    rw [show p + 1 + 1 = p + 2 by omega, show p + 2 + 2 = p + 4 by omega]
    refine qRes_mono H (fun _ _ h => h) (fun q _ H => k26_183 (H _ ?_ ?_))
    · exact (((hA1.mv _).set ⟨by decide, by decide⟩).mv q).set ⟨by decide, by decide⟩
    · refine qEnt.plain (F := 0) (by omega) (fun k k1 k3 k5 k6 => ?_) ?_ ?_ (fun x hx => ?_) ?_ ?_ ?_ ?_ ?_
      · rw [qset_cell _ k5, qset_cell _ k1, qset_cell _ k5, qset_cell _ k1, qset_cell _ k5]
      · rw [qset_cell _ (by decide), qset_cell _ (by decide), qset_cell _ (by decide), qset_cell _ (by decide), qset_cell _ (by decide)]
      · rw [qset_cell _ (by decide), qset_cell _ (by decide), qset_cell _ (by decide), qset_cell _ (by decide), qset_cell _ (by decide)]
      · rw [hx1 x _ _ hx 2 (by decide), qset_cell _ (by decide), hx1 x _ _ hx 1 (by decide), qset_cell _ (by decide), hx1 x _ _ hx 3 (by decide)]
      · rw [qset_same, if_neg (by omega), qset_cell _ (by decide), qset_same, if_neg (by omega), qset_cell _ (by decide), qset_same, if_neg (by omega)]; exact hw0
      · rw [qset_same, if_neg (by omega), qset_cell _ (by decide), qset_same, if_pos rfl]; unfold eF; rw [if_neg (by omega), if_neg (by omega), if_pos c]; rfl
      · rw [qset_same, if_pos rfl]; unfold eS; rw [if_neg (by omega), if_neg (by omega), if_pos c]; rfl
      · rw [qset_same, if_neg (by omega), qset_cell _ (by decide), qset_same, if_neg (by omega), qset_cell _ (by decide), qset_same, if_pos rfl]
      · rw [qset_same, if_neg (by omega), qset_cell _ (by decide), qset_same, if_neg (by omega), qset_cell _ (by decide), qset_same, if_neg (by omega)]; exact hw4
  · -- no tag
    rw [if_neg (by omega), if_neg (by omega), if_neg (by omega), if_neg (by omega), if_neg (by omega), if_neg (by omega)] at H
    exact c20 ⟨by decide, by decide⟩ (fun _ => H _ (hA1.ft p)) (fun z => absurd rfl z)
end EN2
