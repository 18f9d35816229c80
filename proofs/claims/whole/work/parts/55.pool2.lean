/-! the pool that the class has read is the bytes' pool; its TEXTS are sorted -/
theorem rTx_pos {B : Int → Int} {e : Int} : ∀ (d : Nat) (p q : Int), rTx B e d p = .inr q → ∀ k : Nat, k < nch B e d p → p ≤ cpos B p k ∧ cOk B e (cpos B p k) = true := by
  intro d
  induction d with
  | zero => intro p q h k hk; unfold nch at hk; omega
  | succ d ih =>
    intro p q h k hk
    unfold rTx at h
    unfold nch at hk
    split at h
    · next c =>
      rw [if_pos c] at hk
      split at h
      · next c2 =>
        cases k with
        | zero => exact ⟨by unfold cpos; omega, c2⟩
        | succ k =>
          have := ih _ _ h k (by omega)
          rw [cpos_succ]
          have r := cw_rg (B p)
          exact ⟨by omega, this.2⟩
      · cases h
    · next c => rw [if_neg c] at hk; omega
theorem rEn_c {B : Int → Int} {n c : Int} (hB : qB B n) : ∀ (d : Nat) (i p q : Int), 301 ≤ i + d → 3 * i ≤ p - 7 → i ≤ c → p ≤ n → 0 ≤ p → rEn B n c d i p = .inr q → 3 * c ≤ n - 7 ∧ p ≤ q ∧ q ≤ n := by
  have h5 := hB.2.1
  intro d
  induction d with
  | zero => intro i p q h1 h2 h3 h4 h0 h; omega
  | succ d ih =>
    intro i p q h1 h2 h3 h4 h0 h
    unfold rEn at h
    by_cases hc : i < c
    · rw [if_pos hc] at h
      obtain ⟨t, a1, h⟩ := bd_inr.mp h
      obtain ⟨a2, rfl⟩ := rU1_r a1
      obtain ⟨u, a3, h⟩ := bd_inr.mp h
      have a3 := of_decide_eq_true (rCk_r a3)
      obtain ⟨r, a4, h⟩ := bd_inr.mp h
      have a5 := eBody_r hB h0 a2 a4
      by_cases hw : B p = 5 ∨ B p = 6
      · have en : eNx (B p) i = i + 2 := by unfold eNx; rw [if_pos hw]
        rw [en] at h
        have := ih _ _ _ (by omega) (by omega) (by omega) a5.2.1 (by omega) h
        omega
      · have en : eNx (B p) i = i + 1 := by unfold eNx; rw [if_neg hw]
        rw [en] at h
        have := ih _ _ _ (by omega) (by omega) (by omega) a5.2.1 (by omega) h
        omega
    · rw [if_neg hc] at h
      cases h
      omega
def rEnts (B : Int → Int) (n : Int) : Int ⊕ (Int × Int) := bd (rU2 B n 8) (fun c => bd (rCk (decide (1 ≤ c)) 8) (fun _ => bd (rEn B n c 300 1 10) (fun q => .inr (c, q))))
/-- what holds of the places of entries that were read -/
theorem mkA_val {B : Int → Int} {n c q : Int} (hB : qB B n) (h : rEn B n c 300 1 10 = .inr q) {i : Int} (hi : xOn c (mkA B c) i = true) : 1 ≤ i ∧ i < c ∧ 10 ≤ mkA B c i ∧ mkA B c i + 1 ≤ n ∧ ∃ r, eBody B n (mkA B c i) (B (mkA B c i)) = .inr r := by
  unfold xOn at hi
  have hi := of_decide_eq_true hi
  rcases rEn_val hB 300 1 10 q (by decide) h i hi.1 hi.2.1 with a | ⟨a1, a2, a3⟩
  · unfold mkA at hi; omega
  · exact ⟨hi.1, hi.2.1, a1, a2, a3⟩
theorem mkP_text {B : Int → Int} {n c q : Int} (hB : qB B n) (h : rEn B n c 300 1 10 = .inr q) {i : Int} (hi : xT B c (mkA B c) i = 1) : xOn c (mkA B c) i = true ∧ B (mkA B c i) = 1 ∧ 0 ≤ mkA B c i ∧ mkA B c i + 3 + b2 B (mkA B c i + 1) ≤ n ∧ 0 ≤ b2 B (mkA B c i + 1) ∧ rTx B (mkA B c i + 3 + b2 B (mkA B c i + 1)) (b2 B (mkA B c i + 1)).toNat (mkA B c i + 3) = .inr (mkA B c i + 3 + b2 B (mkA B c i + 1)) := by
  unfold xT at hi
  split at hi
  · next on =>
    obtain ⟨a1, a2, a3, a4, r, a5⟩ := mkA_val hB h on
    unfold eBody at a5
    rw [if_pos hi] at a5
    obtain ⟨m, h2, h3⟩ := bd_inr.mp a5
    obtain ⟨u, h4, h5⟩ := bd_inr.mp h3
    obtain ⟨q1, rfl⟩ := rU2_r h2
    have q2 := rBy_r h4
    have q3 := rTx_r _ _ _ (by omega) (by omega) h5
    rw [q3] at h5
    exact ⟨on, hi, by omega, by omega, q2.1, h5⟩
  · omega
theorem mkP_ok {B : Int → Int} {n c q : Int} (hB : qB B n) (hc : 1 ≤ c) (h : rEn B n c 300 1 10 = .inr q) (hn : 10 ≤ n) : qPok (mkP B c) := by
  have h5 := hB.2.1
  have hc2 := rEn_c hB 300 1 10 q (by decide) (by decide) hc hn (by decide) h
  have h00 : Rg 0 := ⟨by decide, by decide⟩
  refine ⟨hc, by show c ≤ 250; omega, fun i hi => ?_, fun i => ?_, fun i hi => ?_⟩
  · show xT B c (mkA B c) i = 0
    unfold xT xOn
    rw [decide_eq_false (by intro z; exact hi ⟨z.1, z.2.1⟩), if_neg (by decide)]
  · show 0 ≤ xT B c (mkA B c) i ∧ xT B c (mkA B c) i ≤ 18 ∧ Rg (xF B c (mkA B c) i) ∧ Rg (xS B c (mkA B c) i) ∧ Rg (xO c (mkA B c) i)
    unfold xT xF xS xO
    cases on : xOn c (mkA B c) i with
    | false =>
      rw [if_neg (by decide), if_neg (by decide), if_neg (by decide), if_neg (by decide)]
      exact ⟨by decide, by decide, h00, h00, h00⟩
    | true =>
      rw [if_pos rfl, if_pos rfl, if_pos rfl, if_pos rfl]
      obtain ⟨a1, a2, a3, a4, r, a5⟩ := mkA_val hB h on
      have z := eBody_r hB (by omega) a4 a5
      have y1 := b2_rg hB (p := mkA B c i + 1) (by omega) (by omega)
      refine ⟨by omega, by omega, ?_, ?_, ⟨by omega, by omega⟩⟩
      · unfold eF
        split
        · next ht =>
          have := eN_le hB (by omega) a4 ht a5
          exact ⟨by omega, by omega⟩
        · split
          · exact b4_rg _ _
          · split
            · have := hB.2.2 (mkA B c i + 1) (by omega) (by omega)
              exact ⟨by omega, by omega⟩
            · exact ⟨by omega, by omega⟩
      · unfold eS
        split
        · exact b4_rg _ _
        · next n1 =>
          split
          · next t2 =>
            have z1 := z.1
            unfold eLen at z1
            rw [if_neg (by omega), if_neg (by omega), if_neg (by omega), if_neg (by omega), if_neg (by omega)] at z1
            have := b2_rg hB (p := mkA B c i + 3) (by omega) (by omega)
            exact ⟨by omega, by omega⟩
          · split
            · next t3 =>
              have z1 := z.1
              unfold eLen at z1
              rw [if_neg (by omega), if_neg (by omega), if_neg (by omega), if_neg (by omega), if_pos (by omega)] at z1
              have := b2_rg hB (p := mkA B c i + 2) (by omega) (by omega)
              exact ⟨by omega, by omega⟩
            · exact h00
  · have hi : xT B c (mkA B c) i = 1 := hi
    obtain ⟨on, b1, b0, b2', b3, b4'⟩ := mkP_text hB h hi
    obtain ⟨a1, a2, a3, a4, r, a5⟩ := mkA_val hB h on
    have hN := eN_le hB (by omega) a4 b1 a5
    have z := eBody_r hB (by omega) a4 a5
    refine ⟨?_, ?_, ?_, fun k k0 k1 => ?_⟩
    · show xF B c (mkA B c) i = xN B (mkA B c) i
      unfold xF xN eF
      rw [on, if_pos rfl, if_pos b1]
    · show 0 ≤ xN B (mkA B c) i
      unfold xN; omega
    · show xN B (mkA B c) i ≤ 490
      unfold xN; omega
    · have k1 : k < xN B (mkA B c) i := k1
      show 0 ≤ xC B (mkA B c) i k ∧ xC B (mkA B c) i k ≤ 65535
      unfold xC
      have r2 := rTx_pos _ _ _ b4' k.toNat (by unfold xN at k1; unfold eN at k1; omega)
      have r3 := cOk_r r2.2
      exact cDec_rg hB (by omega) (by omega)
theorem qRows.pool {B : Int → Int} {n c q : Int} {s : qS} (hB : qB B n) (hc : 1 ≤ c) (h : rEn B n c 300 1 10 = .inr q) (hn : 10 ≤ n) (hr : s 4 2 = c) (hu : s 3 3 ≤ 500) (hR : ∀ j, 0 ≤ j → j < c → qRow B c (mkA B c) s j) : qCP s (mkP B c) := by
  refine ⟨mkP_ok hB hc h hn, hr, fun i i0 i1 => ?_⟩
  obtain ⟨a1, a2, a3, a4, a5, a6⟩ := hR i i0 i1
  refine ⟨a1, a2, a3, a4, a5, fun ht => ?_⟩
  obtain ⟨b1, b2', b3⟩ := a6 ht
  have hp := (mkP_ok hB hc h hn).2.2.2.2 i ht
  have e : pN (mkP B c) i = xN B (mkA B c) i := rfl
  rw [e] at hp ⊢
  refine ⟨b1, hp.2.1, by omega, fun k k0 k1 => ⟨b3 k k0 k1, hp.2.2.2 k k0 k1⟩⟩
section SO
variable {w : qE} {s s0 : qS} {B : Int → Int} {n p i : Int} {π : qP} {f : Int → qS → Prop} {fv : qS → Prop} {g : Nat → qS → Prop}
theorem c23 (hB : qB B n) (hA : qAt s0 B n 8 s) (h8 : 8 ≤ n) (H : qRes (rEnts B n) (fun e => ∀ s', qFt s0 n e s' → g 0 s') (fun q => ∀ s', qAt s0 B n q.2 s' → qCP s' (mkP B q.1) → (∀ k, k ≠ 1 → k ≠ 3 → k ≠ 4 → k ≠ 5 → k ≠ 6 → s' k = s k) → fv s')) : qW w 5 23 [.ref 3] s (qPV fv g) := by
  unfold rEnts at H
  have h5 := hB.2.1
  refine k23 (c24 (t := 4) (by decide) ?_)
  have hA1 := (hA.set (k := 4) (j := 2) (v := 0) ⟨by decide, by decide⟩).set (k := 3) (j := 3) (v := 0) ⟨by decide, by decide⟩
  rw [qRes_bd] at H
  refine c_u2 hB hA1 (by decide) h8 (qRes_mono H (fun _ _ h => h) (fun c hc H => ?_))
  obtain ⟨q1, rfl⟩ := rU2_r hc
  have r := b2_rg hB (by decide) q1
  have hA2 := hA1.mv (8 + 2)
  rw [qRes_bd] at H
  have h35 : ∀ b : Bool, b = decide (1 ≤ b2 B 8) → qR w 4 qm23 35 [(0, .ref 3), (1, qI (b2 B 8))] [qI (bi b), .ref 1] (qset (qset (qset s 4 2 0) 3 3 0) 1 2 (8 + 2)) (qPV fv g) := by
    intro b hb
    refine k23_35 (c21 (c_ck (p := 8) hA2 rfl (by rw [hA2.2.1]; decide) ?_))
    rw [hb]
    refine qRes_mono H (fun _ _ h => h) (fun _ hck H => ?_)
    have hck := of_decide_eq_true (rCk_r hck)
    have e1 : qwid 4 = 6 := rfl
    have e2 : (qlen (4 + 1) : Int) = 1500 := rfl
    have r42 : qset (qset (qset s 4 2 0) 3 3 0) 1 2 (8 + 2) 4 2 = 0 := by simp [qset_eq]
    have r33 : qset (qset (qset s 4 2 0) 3 3 0) 1 2 (8 + 2) 3 3 = 0 := by simp [qset_eq]
    refine c25 (t := 4) (by decide) (by rw [r42, e1, e2]; omega) ?_
    obtain ⟨d1, d2, d3, d4, d5⟩ := qadd4 (qset (qset (qset s 4 2 0) 3 3 0) 1 2 (8 + 2)) (i := 0) (x := 0) r42
    rw [qRes_bd] at H
    have u3 : qadd (qset (qset (qset s 4 2 0) 3 3 0) 1 2 (8 + 2)) 4 0 3 3 = 0 := by rw [d2 3 (by decide) (by decide)]; exact r33
    have off : xOn (b2 B 8) (mkA B (b2 B 8)) 0 = false := by unfold xOn; rw [decide_eq_false (by omega)]
    refine c23_loop (P := mkA B (b2 B 8)) hB ⟨hck, r.2⟩ 300 1 10 _ (by decide) (by decide) hck (by decide) q1 (by rw [u3]; decide) (by rw [u3]; decide) (hA2.add r42) (fun j _ => rfl) d1 (fun j j0 j1 => ?_) (qRes_mono H (fun _ _ h => h) (fun q hq H s' hA3 hr hu hR hk => ?_))
    · have : j = 0 := by omega
      subst this
      unfold qRow xT xF xS xO
      rw [off, if_neg (by decide), if_neg (by decide), if_neg (by decide), if_neg (by decide)]
      have d4' := d4
      refine ⟨d4', d5 1 (by decide) (by decide), d5 2 (by decide) (by decide), d5 3 (by decide) (by decide), ?_, fun y => absurd y (by decide)⟩
      rw [d5 4 (by decide) (by decide)]
      exact ⟨by decide, by decide⟩
    · exact H s' hA3 (qRows.pool hB hck hq q1 hr hu hR) (fun k k1 k3 k4 k5 k6 => by rw [hk k k1 k3 k4 k5 k6, d2 k k4 k5, qset_cell _ k1, qset_cell _ k3, qset_cell _ k4])
  exact ⟨⟨by omega, by omega⟩, fun c => h35 false (decide_eq_false (by omega)).symm, fun c => h35 true (decide_eq_true (by omega)).symm⟩
theorem qCP.set5 (hP : qCP s π) (v : Int) : qCP (qset s 5 (i * 6 + 5) v) π := by
  obtain ⟨h1, h2, h3⟩ := hP
  refine ⟨h1, by rw [qset_cell _ (by decide)]; exact h2, fun j j0 j1 => ?_⟩
  obtain ⟨a1, a2, a3, a4, a5, a6⟩ := h3 j j0 j1
  have e : ∀ x, 0 ≤ x → x < 5 → qset s 5 (i * 6 + 5) v 5 (j * 6 + x) = s 5 (j * 6 + x) := fun x x0 x1 => by rw [qset_same, if_neg (by omega)]
  refine ⟨?_, ?_, ?_, ?_, ?_, fun ht => ?_⟩
  · rw [e 0 (by decide) (by decide)]; exact a1
  · rw [e 1 (by decide) (by decide)]; exact a2
  · rw [e 2 (by decide) (by decide)]; exact a3
  · rw [e 3 (by decide) (by decide)]; exact a4
  · rw [e 4 (by decide) (by decide)]; exact a5
  · rw [e 4 (by decide) (by decide)]
    obtain ⟨g1, g2, g3, g4⟩ := a6 ht
    refine ⟨g1, g2, g3, fun k k0 k1 => ?_⟩
    rw [qset_cell _ (by decide)]
    exact g4 k k0 k1
theorem qor_small {a b : Int} (ha : 0 ≤ a ∧ a < 256) (hb : 0 ≤ b ∧ b < 256) : 0 ≤ qor a b ∧ qor a b < 256 := by
  obtain ⟨x, rfl⟩ := Int.eq_ofNat_of_zero_le ha.1
  obtain ⟨y, rfl⟩ := Int.eq_ofNat_of_zero_le hb.1
  rw [qor_nat (by omega) (by omega)]
  have : x ||| y < 2 ^ 8 := Nat.or_lt_two_pow (by omega) (by omega)
  omega
theorem c33_loop (hw : qfv w) : ∀ (d : Nat) (i : Int) (s : qS), i + d = pE π → 1 ≤ i → qCP s π → qAt s0 B n p s → (∀ j, 0 ≤ j → j < i → pT π j = 1 → s 5 (j * 6 + 5) = gK (pC π j) (pN π j)) → (∀ s', qAt s0 B n p s' → qCP s' π → qCK s' π → (∀ k, k ≠ 5 → s' k = s k) → fv s') → qR w 7 qm33 2 [(0, .ref 3), (1, qI i)] [] s (qPV fv g) := by
  intro d
  induction d with
  | zero =>
    intro i s h1 h2 hP hA hK H
    have e1 := hP.1.2.1
    refine k33_2 (c34 (t := 4) (by decide) ?_)
    rw [hP.2.1]
    exact ⟨⟨by omega, by omega⟩, ⟨by omega, by omega⟩, fun c => absurd c (by omega), fun _ => H s hA hP (fun j j0 j1 => hK j j0 (by omega)) (fun _ _ => rfl)⟩
  | succ d ih =>
    intro i s h1 h2 hP hA hK H
    have e1 := hP.1.2.1
    have hr : Rg i := ⟨by omega, by omega⟩
    refine k33_2 (c34 (t := 4) (by decide) ?_)
    rw [hP.2.1]
    refine ⟨hr, ⟨by omega, by omega⟩, fun _ => c35 hP hr ⟨pg_rg hP.1 (pT_rg hP.1 i), fun c => ?_, fun c => k33_48 ?_⟩, fun c => absurd c (by omega)⟩
    · rw [pg_T hP.1 (by omega)] at c
      refine c37 hP hr (fun a ha _ => c38 hP hr c (c39 hw (hP.gx c) (ha c) rfl ?_))
      refine c_set ⟨by rw [hP.2.1]; omega, by rw [hP.2.1]; exact e1⟩ ⟨by omega, by rw [hP.2.1]; omega⟩ ⟨by decide, by decide⟩ (k33_48 ?_)
      refine ih (i + 1) _ (by omega) (by omega) (hP.set5 _) (hA.set ⟨by decide, by decide⟩) (fun j j0 j1 ht => ?_) (fun s' b1 b2' b3 b4' => H s' b1 b2' b3 (fun k k5 => by rw [b4' k k5, qset_cell _ k5]))
      rw [qset_same]
      by_cases hj : j = i
      · rw [hj, if_pos rfl]
      · rw [if_neg (by omega)]
        exact hK j j0 (by omega) ht
    · rw [Ne, pg_T hP.1 (by omega)] at c
      refine ih (i + 1) s (by omega) (by omega) hP hA (fun j j0 j1 ht => ?_) H
      by_cases hj : j = i
      · rw [hj] at ht; exact absurd ht c
      · exact hK j j0 (by omega) ht
theorem c33 (hw : qfv w) (hP : qCP s π) (hA : qAt s0 B n p s) (H : ∀ s', qAt s0 B n p s' → qCP s' π → qCK s' π → (∀ k, k ≠ 5 → s' k = s k) → fv s') : qW w 8 33 [.ref 3] s (qPV fv g) := by
  have h1 := hP.1.1
  refine k33 (c33_loop hw (pE π - 1).toNat 1 s (by omega) (by omega) hP hA (fun j j0 j1 ht => ?_) H)
  have := hP.1.2.2.1 j (by omega)
  omega
end SO
