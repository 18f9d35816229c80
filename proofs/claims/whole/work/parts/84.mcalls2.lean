/-! THE MODEL's whole, member, linkage -/
section MV
variable {w : qE} {s s0 s1 : qS} {B P att : Int → Int} {n c i p e m pl dc q k wh : Int} {r : qRes2} {f : Int → qS → Prop} {fv : qS → Prop} {g : Nat → qS → Prop}
theorem mFin.thr (h : mFin B n r s) (v : Int) : mFin B n r (qset s 25 7 v) := h.fr (fun k _ _ => by rw [qset_cell _ (by omega)]) (fun j a _ => by rw [qset_same, if_neg (by omega)])
theorem m191_loop {π : qP} (hπ : mkP B c = π) (hP : mPo s B n c) : ∀ (d : Nat) (i acc : Int), i + d = c → 1 ≤ i → f (acc + cntE π d i) s → qR w 2 qm191 155 [(0, .ref 25), (2, qI acc), (3, qI i)] [] s (qPI f g) := by
  have hlim := hP.1.lim
  intro d
  induction d with
  | zero =>
    intro i acc h1 h2 H
    refine k191_155 ⟨⟨by omega, by omega⟩, by rw [hP.2.1]; exact ⟨by omega, by omega⟩, fun y => absurd y (by rw [hP.2.1]; omega), fun _ => ?_⟩
    rwa [cntE, Int.add_zero] at H
  | succ d ih =>
    intro i acc h1 h2 H
    unfold cntE at H
    refine k191_155 ⟨⟨by omega, by omega⟩, by rw [hP.2.1]; exact ⟨by omega, by omega⟩, fun _ => m139 hP ⟨by omega, by omega⟩ ⟨(mRg hP i).1, fun y => k191_174 (ih (i + 1) (acc + 1) (by omega) (by omega) ?_), fun y => k191_174 (ih (i + 1) acc (by omega) (by omega) ?_)⟩, fun y => absurd y (by rw [hP.2.1]; omega)⟩
    · rw [hπ] at y
      rw [if_pos y, ← Int.add_assoc] at H; exact H
    · rw [hπ] at y
      rw [if_neg (by omega), Int.zero_add] at H; exact H
theorem m191 (hw : Rg wh) (hB : qB B n) (hR : s 25 9 = 1 → rRest B n = .inr r) (h : s 25 9 = 0 ∨ s 25 9 = 1) (H0 : s 25 9 = 0 → f 0 (qset s 25 7 1)) (hF : s 25 9 = 1 → mFin B n r s) (H1 : s 25 9 = 1 → f (aWhole B r wh) (qset s 25 7 0)) : qW w 3 191 [.ref 25, qI wh] s (qPI f g) := by
  refine k191 (m177 h (fun y => ⟨d0, fun _ => H0 y, fun z => absurd rfl z⟩) (fun y => ⟨d1, fun z => absurd z (by decide), fun _ => ?_⟩))
  have H := H1 y
  have hF2 := (hF y).thr 0
  obtain ⟨hP, hD, ⟨-, h350⟩, ⟨-, h351⟩, -⟩ := hF2
  obtain ⟨-, f1, f2, f3, -⟩ := rRest_fin hB (hR y)
  have h5 := hB.2.1
  have hK := hP.2.2.2.1
  have hn10 : 10 ≤ n := hP.1.2.2.1
  obtain ⟨d12, d13, d14, d15, d16⟩ := hD
  unfold aWhole at H
  refine m125 hw ⟨by decide, by decide⟩ ⟨by decide, by decide⟩ ⟨bi_rg _, fun z => ?_, fun z => ?_⟩
  · rw [bi_0, decide_eq_false_iff_not] at z
    refine ⟨hw, fun c => ?_, fun c => ?_, fun c => ?_, fun c => ?_, fun c => ?_, fun c => ?_, fun c => m142 hB hK (by decide) (by omega) ?_, fun c => m142 hB hK (by decide) (by omega) ?_, fun c => ?_, fun n0 n1 n2 n3 n4 n5 n6 n7 n8 => ?_⟩
    · rw [if_pos c] at H; rw [d12]; exact H
    · rw [if_neg (by omega), if_pos c] at H; rw [d13]; exact H
    · rw [if_neg (by omega), if_neg (by omega), if_pos c] at H; rw [d14]; exact H
    · rw [if_neg (by omega), if_neg (by omega), if_neg (by omega), if_pos c] at H; rw [d15]; exact H
    · rw [if_neg (by omega), if_neg (by omega), if_neg (by omega), if_neg (by omega), if_pos c] at H; rw [h350]; exact H
    · rw [if_neg (by omega), if_neg (by omega), if_neg (by omega), if_neg (by omega), if_neg (by omega), if_pos c] at H; rw [h351]; exact H
    · rw [if_neg (by omega), if_neg (by omega), if_neg (by omega), if_neg (by omega), if_neg (by omega), if_neg (by omega), if_pos c] at H; exact H
    · rw [if_neg (by omega), if_neg (by omega), if_neg (by omega), if_neg (by omega), if_neg (by omega), if_neg (by omega), if_neg (by omega), if_pos c] at H; exact H
    · rw [if_neg (by omega), if_neg (by omega), if_neg (by omega), if_neg (by omega), if_neg (by omega), if_neg (by omega), if_neg (by omega), if_neg (by omega), if_pos c] at H
      have e := hP.1.2.1
      exact m191_loop rfl hP (r.1 - 1).toNat 1 0 (by omega) (by decide) (by rw [Int.zero_add]; exact H)
    · rw [if_neg n0, if_neg n1, if_neg n2, if_neg n3, if_neg n4, if_neg n5, if_neg n6, if_neg n7, if_neg n8, if_neg z] at H
      exact H
  · rw [bi_n, decide_eq_true_iff] at z
    rw [if_neg (by omega), if_neg (by omega), if_neg (by omega), if_neg (by omega), if_neg (by omega), if_neg (by omega), if_neg (by omega), if_neg (by omega), if_neg (by omega), if_pos z] at H
    rw [d15, d16]
    refine ⟨⟨by omega, by omega⟩, ⟨by omega, by omega⟩, fun y => m142 hB hK (by omega) (by omega) (k191_51 ?_), fun y => k191_51 ?_⟩
    · rw [if_pos y] at H; exact H
    · rw [if_neg (by omega)] at H; exact H
theorem m193_0 {d : Int} (hP : mPo s B n c) (hd : pT (mkP B c) d = 1) (H : f (slF (mkP B c) d) s) : qW w 6 193 [.ref 25, qI 0, qI d] s (qPI f g) := by
  have hr := mCh_rg (k := 0) hP.1 hd (by decide)
  have e : slF (mkP B c) d = if mCh B c d 0 = 74 ∨ mCh B c d 0 = 68 then 2 else 1 := by
    unfold slF pchar mCh
    by_cases h : 0 < pN (mkP B c) d
    · rw [if_pos (show pT (mkP B c) d = 1 ∧ -1 ≤ 0 ∧ 0 < pN (mkP B c) d from ⟨hd, by decide, h⟩), if_neg (show ¬ ((0 : Int) = -1) by decide), if_pos h]
    · rw [if_neg (show ¬ (pT (mkP B c) d = 1 ∧ -1 ≤ 0 ∧ 0 < pN (mkP B c) d) from fun y => h y.2.2), if_neg h]
      rfl
  rw [e] at H
  refine k193 (m146 hP hd (by decide) d0 ⟨d0, fun _ => ⟨⟨by omega, by omega⟩, fun y => k193_23 (k193_28 ?_), fun y => ⟨fun y2 => k193_23 (k193_28 ?_), fun y2 => k193_28 ?_⟩⟩, fun y => absurd rfl y⟩)
  · rw [if_pos (Or.inl y)] at H; exact H
  · rw [if_pos (Or.inr y2)] at H; exact H
  · rw [if_neg (by omega)] at H; exact H
theorem m193_1 {d : Int} (hP : mPo s B n c) (hd : pfit (mkP B c) d 32 = true) (H : ∀ s', mSg s s' → f (slM (mkP B c) d) s') : qW w 6 193 [.ref 25, qI 1, qI d] s (qPI f g) := by
  obtain ⟨ht, -, hM, -⟩ := fit32_cl hd
  refine k193 (m146 hP ht (by decide) d0 ⟨d1, fun y => absurd y (by decide), fun _ => m152 hP ht (fun s' hg h2 => ?_)⟩)
  rw [hM]
  refine ⟨d1, fun y => absurd y (by decide), fun _ => k193_45 ?_⟩
  rw [(h2 hM).2]
  exact H s' hg
theorem m192 {me : Bool} (hk : Rg k) (hw : Rg wh) (hB : qB B n) (hR : s 25 9 = 1 → rRest B n = .inr r) (h : s 25 9 = 0 ∨ s 25 9 = 1) (H0 : s 25 9 = 0 → f 0 (qset s 25 7 1)) (hF : s 25 9 = 1 → mFin B n r s) (H1 : s 25 9 = 1 → ∀ s', mSg (qset s 25 7 0) s' → f (aMember B r (bi me) k wh) s') : qW w 7 192 [.ref 25, qI (bi me), qI k, qI wh] s (qPI f g) := by
  refine k192 (m177 h (fun y => ⟨d0, fun _ => H0 y, fun z => absurd rfl z⟩) (fun y => ⟨d1, fun z => absurd z (by decide), fun _ => ?_⟩))
  have H := H1 y
  have hF2 := (hF y).thr 0
  have hKn := (rRest_kn hB (hR y)).2.2
  obtain ⟨-, f1, f2, f3, p1, p2, g1, g2, g3, g4, g5, g6, -⟩ := rRest_fin hB (hR y)
  have fF := rMbs_fin hB (by omega) (rRest_r (hR y)).2.2.2.1
  have h5 := hB.2.1
  obtain ⟨hP, -, ⟨hM0, h350⟩, ⟨hM1, h351⟩, -⟩ := hF2
  have hK := hP.2.2.2.1
  obtain ⟨u, hu⟩ : ∃ u, qset s 25 7 0 = u := ⟨_, rfl⟩
  rw [hu] at H hP hM0 h350 hM1 h351 hK ⊢
  have Hu := H u (mSg.rfl' u)
  refine m125 hw d0 ⟨by decide, by decide⟩ ⟨bi_rg _, fun z => ?_, fun z => ?_⟩
  · rw [bi_0, decide_eq_false_iff_not] at z
    unfold aMember aMem at Hu
    rw [if_pos (show wh < 0 ∨ 8 ≤ wh by omega), if_pos (show wh < 0 ∨ 8 ≤ wh by omega)] at Hu
    have : (if bi me = 0 then (-1 : Int) else -1) = -1 := by split <;> rfl
    rw [this] at Hu; exact Hu
  · rw [bi_n, decide_eq_true_iff] at z
    have key : ∀ (first : Int) (sl : Int → Int) (MP : Int → Int) (MA : Int → Int → Int) (N : Int), (first = 0 ∨ first = 80) → 0 ≤ k → k < N → N ≤ 60 → mMem u first B MP MA N → (0 ≤ MP k ∧ MP k + 8 ≤ n) → (∀ s', mSg u s' → f (mCol B sl (MP k) (MA k) wh) s') → (wh = 4 → qW w 6 193 [.ref 25, qI (bi me), qI (b2 B (MP k + 4))] u (qPI f g)) → qR w 6 qm192 60 [(0, .ref 25), (1, qI (bi me)), (3, qI wh)] [qI (first + k)] u (qPI f g) := by
      intro first sl MP MA N hf k0 k1 kN hMm hMP HH h193
      obtain ⟨e30, e31, e32, e33, e34⟩ := hMm k k0 k1
      have Hc := HH u (mSg.rfl' u)
      unfold mCol at Hc
      refine k192_60 ⟨by omega, by omega, ?_⟩
      rw [e30]
      refine ⟨hw, fun w0 => m142 hB hK (by omega) (by omega) ?_, fun w1 => m142 hB hK (by omega) (by omega) ?_, fun w2 => m142 hB hK (by omega) (by omega) ?_, fun w3 => ⟨by omega, by omega, ?_⟩, fun w4 => m142 hB hK (by omega) (by omega) ?_, fun w5 => ⟨by omega, by omega, ?_⟩, fun w6 => ⟨by omega, by omega, ?_⟩, fun n0 n1 n2 n3 n4 n5 n6 => ⟨by omega, by omega, ?_⟩⟩
      · rw [if_pos w0] at Hc; exact Hc
      · rw [if_neg (by omega), if_pos w1] at Hc; exact Hc
      · rw [if_neg (by omega), if_neg (by omega), if_pos w2] at Hc; exact Hc
      · rw [if_neg (by omega), if_neg (by omega), if_neg (by omega), if_pos w3] at Hc; rw [e31]; exact Hc
      · exact h193 w4
      · rw [if_neg (by omega), if_neg (by omega), if_neg (by omega), if_neg (by omega), if_neg (by omega), if_pos w5] at Hc; rw [e32]; exact Hc
      · rw [if_neg (by omega), if_neg (by omega), if_neg (by omega), if_neg (by omega), if_neg (by omega), if_neg (by omega), if_pos w6] at Hc; rw [e33]; exact Hc
      · rw [if_neg n0, if_neg n1, if_neg n2, if_neg n3, if_neg n4, if_neg n5, if_neg n6] at Hc; rw [e34]; exact Hc
    have m4 : ∀ (sl : Int → Int) (q : Int) (a : Int → Int), wh = 4 → mCol B sl q a wh = sl (b2 B (q + 4)) := fun sl q a w4 => by
      unfold mCol
      rw [if_neg (by omega), if_neg (by omega), if_neg (by omega), if_neg (by omega), if_pos w4]
    have hbm : Rg (bi me) := bi_rg _
    have h36 : ∀ (x : Int), x = bi me → qR w 6 qm192 36 [(0, .ref 25), (1, qI (bi me)), (2, qI k), (3, qI wh)] [qI x, .ref 35, qI 0, qI k] u (qPI f g) := by
      intro x hx
      cases me with
      | false =>
        have hx : x = 0 := hx
        subst hx
        refine k192_36 ⟨by decide, by decide, ?_⟩
        rw [h350]
        refine m125 hk d0 ⟨by omega, by omega⟩ ⟨bi_rg _, fun zz => ?_, fun zz => ⟨d0, fun _ => ?_, fun y => absurd rfl y⟩⟩
        · rw [bi_0, decide_eq_false_iff_not] at zz
          unfold aMember aMem at Hu
          rw [if_pos (show bi false = 0 from rfl), if_neg (by omega), if_neg (by omega)] at Hu
          exact Hu
        · rw [bi_n, decide_eq_true_iff] at zz
          have H2 : ∀ s', mSg u s' → f (mCol B (slF (mkP B r.1)) (r.2.2.2.1.2.1 k) (r.2.2.2.1.2.2 k) wh) s' := fun s' hs => by
            have := H s' hs
            unfold aMember aMem at this
            rw [if_pos (show bi false = 0 from rfl), if_neg (by omega), if_pos (by omega)] at this
            exact this
          have ho := g5 k zz.1 (by omega)
          have := key 0 _ _ _ _ (Or.inl rfl) zz.1 (by omega) g2 hM0 ⟨by have := ho.1; omega, ho.2.1⟩ H2 (fun w4 => by
            have := H2 u (mSg.rfl' u)
            rw [m4 _ _ _ w4] at this
            exact m193_0 hP ho.2.2.1 this)
          rw [Int.zero_add] at this
          exact this
      | true =>
        have hx : x = 1 := hx
        subst hx
        refine k192_36 ⟨by decide, by decide, ?_⟩
        rw [h351]
        refine m125 hk d0 ⟨by omega, by omega⟩ ⟨bi_rg _, fun zz => ?_, fun zz => ⟨d1, fun y => absurd y (by decide), fun _ => ?_⟩⟩
        · rw [bi_0, decide_eq_false_iff_not] at zz
          unfold aMember aMem at Hu
          rw [if_neg (show ¬ bi true = 0 by decide), if_neg (by omega), if_neg (by omega)] at Hu
          exact Hu
        · rw [bi_n, decide_eq_true_iff] at zz
          have H2 : ∀ s', mSg u s' → f (mCol B (slM (mkP B r.1)) (r.2.2.2.2.1.2.1 k) (r.2.2.2.2.1.2.2 k) wh) s' := fun s' hs => by
            have := H s' hs
            unfold aMember aMem at this
            rw [if_neg (show ¬ bi true = 0 by decide), if_neg (by omega), if_pos (by omega)] at this
            exact this
          have ho := g6 k zz.1 (by omega)
          exact key 80 _ _ _ _ (Or.inr rfl) zz.1 (by omega) g4 hM1 ⟨by have := ho.1; omega, ho.2.1⟩ H2 (fun w4 => m193_1 hP (hKn k zz.1 (by omega)) (fun s' hs => by
            have := H2 s' hs
            rw [m4 _ _ _ w4] at this
            exact this))
    refine ⟨hbm, fun y => h36 0 y.symm, fun y => h36 1 ?_⟩
    rw [bi_n] at y
    rw [y]; rfl
theorem m194 (hk : Rg k) (hw : Rg wh) (hB : qB B n) (hR : s 25 9 = 1 → rRest B n = .inr r) (h : s 25 9 = 0 ∨ s 25 9 = 1) (H0 : s 25 9 = 0 → f 0 (qset s 25 7 1)) (hF : s 25 9 = 1 → mFin B n r s) (H1 : s 25 9 = 1 → f (aLink B r.2.2.2.2.2.2 wh k) (qset s 25 7 0)) : qW w 2 194 [.ref 25, qI wh, qI k] s (qPI f g) := by
  refine k194 (m177 h (fun y => ⟨d0, fun _ => H0 y, fun z => absurd rfl z⟩) (fun y => ⟨d1, fun z => absurd z (by decide), fun _ => ?_⟩))
  have H := H1 y
  have hF2 := (hF y).thr 0
  have hKn := (rRest_kn hB (hR y)).2.1
  obtain ⟨-, -, -, -, -, -, -, -, -, -, -, -, hok, hW, -⟩ := rRest_fin hB (hR y)
  have h5 := hB.2.1
  obtain ⟨hP, -, -, -, hH⟩ := hF2
  have hK := hP.2.2.2.1
  obtain ⟨u, hu⟩ : ∃ u, qset s 25 7 0 = u := ⟨_, rfl⟩
  rw [hu] at H hP hH hK ⊢
  obtain ⟨att, hatt⟩ : ∃ att, r.2.2.2.2.2.2 = att := ⟨_, rfl⟩
  rw [hatt] at H hH hok hW hKn
  obtain ⟨w4, w5, w7, w8, w9⟩ := hW
  have hok := hok.2.2.2
  unfold aLink at H
  refine m125 hw d0 ⟨by decide, by decide⟩ ⟨bi_rg _, fun z => ?_, fun z => ⟨hw, ?_⟩⟩
  · rw [bi_0, decide_eq_false_iff_not] at z
    rw [if_neg (by omega), if_neg (by omega), if_neg (by omega), if_neg (by omega), if_neg (by omega), if_neg (by omega), if_neg (by omega)] at H
    exact H
  rw [bi_n, decide_eq_true_iff] at z
  -- the count of a kind
  have h70 : ∀ kn : Int, 4 ≤ kn → kn ≤ 9 → (∀ N : Int, Rg N → N = (if att kn < 0 then 0 else if kn = 5 ∨ kn = 6 then 1 else b2 B (att kn)) → (0 ≤ att kn → u 36 (kn - 1) = mSt att kn) → qR w 1 qm194 90 [(0, .ref 25), (1, qI wh), (2, qI k), (3, qI (kn - 1))] [qI N] u (qPI f g)) → qR w 1 qm194 70 [(0, .ref 25), (1, qI wh), (2, qI k)] [qI (kn - 1)] u (qPI f g) := fun kn k4 k9 hh => by
    obtain ⟨c1, c2⟩ := hH.1 kn k4 k9
    have r9 : 0 ≤ att kn → 0 ≤ b2 B (att kn) ∧ b2 B (att kn) ≤ 65535 := fun ha => by
      have := (hok kn).resolve_left (by omega)
      exact b2_rg hB (by omega) this.2
    refine k194_70 ⟨by omega, by omega, ?_⟩
    rw [c1]
    unfold mCt
    by_cases ha : att kn < 0
    · rw [if_pos ha]
      exact ⟨⟨by decide, by decide⟩, fun _ => hh 0 d0 (by rw [if_pos ha]) c2, fun y => absurd y (by decide)⟩
    · rw [if_neg ha]
      have := r9 (by omega)
      by_cases h56 : kn = 5 ∨ kn = 6
      · rw [if_pos h56]
        exact ⟨d1, fun y => absurd y (by decide), fun _ => ⟨by omega, by omega, hh 1 d1 (by rw [if_neg ha, if_pos h56]) c2⟩⟩
      · rw [if_neg h56]
        exact ⟨⟨by omega, by omega⟩, fun y => absurd y (by omega), fun _ => ⟨by omega, by omega, hh _ ⟨by omega, by omega⟩ (by rw [if_neg ha, if_neg h56]) c2⟩⟩
  -- one of the single ones
  have h1x : ∀ (kn o : Int), (kn = 5 ∨ kn = 6) → wh < 3 → (wh = 2 ↔ o = 2) → (o = 0 ∨ o = 2) → (0 ≤ att kn → att kn + o + 2 ≤ n) → f (vAt B (att kn) o) u → qR w 1 qm194 70 [(0, .ref 25), (1, qI wh), (2, qI k)] [qI (kn - 1)] u (qPI f g) := fun kn o h56 h3 ho ho2 hin H => by
    refine h70 kn (by omega) (by omega) (fun N rN hN hst => k194_90 ⟨hw, fun _ => ⟨rN, fun y => k194_128 ?_, fun y => ⟨by omega, by omega, ?_⟩⟩, fun y => absurd y (by omega)⟩)
    · have : att kn < 0 := by
        rcases Int.lt_or_le (att kn) 0 with h | h
        · exact h
        · rw [if_neg (by omega), if_pos h56] at hN; omega
      unfold vAt at H
      rw [if_neg (by omega)] at H; exact H
    · have ha : 0 ≤ att kn := by
        rcases Int.lt_or_le (att kn) 0 with h | h
        · rw [if_pos h] at hN; omega
        · exact h
      have e := hst ha
      unfold mSt at e
      rw [if_pos h56] at e
      unfold vAt at H
      rw [if_pos ha] at H
      have := hin ha
      rw [e]
      refine ⟨fun z2 => k194_124 (m142 hB hK (by omega) (by omega) (k194_128 ?_)), fun z2 => k194_124 (m142 hB hK (by omega) (by omega) (k194_128 ?_))⟩
      · rw [ho.mp z2] at H; exact H
      · have : o = 0 := by rcases ho2 with h | h; exact h; exact absurd (ho.mpr h) z2
        rw [this] at H; exact H
  -- a list
  have h90 : ∀ (kn : Int) (col : Int → Int), (kn = 4 ∨ kn = 7 ∨ kn = 8 ∨ kn = 9) → 3 ≤ wh → f (aLs B (att kn) k col) u → (0 ≤ att kn → 0 ≤ k → k < b2 B (att kn) → f (col k) u → ((kn - 1 = 8 → (0 ≤ k ∧ k < 170 ∧ ((wh = 9 → qR w 1 qm194 176 [] [qI 0, qI (u 38 k), .ref 25] u (qPI f g)) ∧ (wh ≠ 9 → qR w 1 qm194 176 [] [qI 2, qI (u 38 k), .ref 25] u (qPI f g))))) ∧ (kn - 1 ≠ 8 → (0 ≤ kn - 1 ∧ kn - 1 < 9 ∧ ((kn - 1 = 3 → qR w 1 qm194 209 [] [qI ((8 * k) + (2 * (wh - 5))), qI (u 36 (kn - 1)), .ref 25] u (qPI f g)) ∧ (kn - 1 ≠ 3 → qR w 1 qm194 209 [] [qI (2 * k), qI (u 36 (kn - 1)), .ref 25] u (qPI f g))))))) → qR w 1 qm194 70 [(0, .ref 25), (1, qI wh), (2, qI k)] [qI (kn - 1)] u (qPI f g) := fun kn col hkn h3 H hin => by
    refine h70 kn (by omega) (by omega) (fun N rN hN hst => k194_90 ⟨hw, fun y => absurd y (by omega), fun _ => ⟨hk, fun y => ?_, fun y => m125 hk d0 ?_ ⟨bi_rg _, fun zz => ?_, fun zz => ⟨⟨by omega, by omega⟩, ?_⟩⟩⟩⟩)
    · have eN : N = vCnt B (att kn) := by
        unfold vCnt
        rw [hN]
        by_cases ha : att kn < 0
        · rw [if_pos ha, if_neg (by omega)]
        · rw [if_neg ha, if_neg (by omega), if_pos (by omega)]
      unfold aLs at H
      rw [if_pos y] at H
      rw [eN]; exact H
    · have : 0 ≤ N := by
        rw [hN]
        split
        · exact Int.le_refl 0
        · rw [if_neg (by omega)]
          have := (hok kn).resolve_left (by omega)
          exact (b2_rg hB (by omega) this.2).1
      have := rN.2
      exact ⟨by omega, by omega⟩
    · rw [bi_0, decide_eq_false_iff_not] at zz
      have eN : N = vCnt B (att kn) := by
        unfold vCnt
        rw [hN]
        by_cases ha : att kn < 0
        · rw [if_pos ha, if_neg (by omega)]
        · rw [if_neg ha, if_neg (by omega), if_pos (by omega)]
      unfold aLs at H
      rw [if_neg y, if_neg (by omega)] at H
      exact H
    · rw [bi_n, decide_eq_true_iff] at zz
      have eN : N = vCnt B (att kn) := by
        unfold vCnt
        rw [hN]
        by_cases ha : att kn < 0
        · rw [if_pos ha, if_neg (by omega)]
        · rw [if_neg ha, if_neg (by omega), if_pos (by omega)]
      have ha : 0 ≤ att kn := by
        rcases Int.lt_or_le (att kn) 0 with h | h
        · rw [if_pos h] at hN; omega
        · exact h
      unfold aLs at H
      rw [if_neg y, if_pos (by omega)] at H
      unfold vCnt at eN
      rw [if_pos ha] at eN
      exact hin ha zz.1 (by omega) H
  have stl : ∀ kn : Int, 4 ≤ kn → kn ≤ 9 → ¬ (kn = 5 ∨ kn = 6) → 0 ≤ att kn → u 36 (kn - 1) = att kn + 2 := fun kn k4 k9 h56 ha => by
    have := (hH.1 kn k4 k9).2 ha
    unfold mSt at this
    rw [if_neg h56] at this
    exact this
  refine ⟨fun c0 => ?_, fun c0 => ⟨fun c3 => ?_, fun c3 => ⟨fun e3 => ?_, fun n3 => ⟨fun e4 => ?_, fun n4 => ⟨fun c9 => ?_, fun c9 => ?_⟩⟩⟩⟩⟩
  · rw [if_pos c0] at H
    exact h1x 6 0 (Or.inr rfl) (by omega) (by omega) (Or.inl rfl) (fun ha => by have := (hok 6).resolve_left (by omega); omega) H
  · rw [if_neg c0] at H
    by_cases c1 : wh = 1
    · rw [if_pos c1] at H
      exact h1x 5 0 (Or.inl rfl) (by omega) (by omega) (Or.inl rfl) (fun ha => by have := w5 ha; omega) H
    · rw [if_neg c1, if_pos (by omega)] at H
      exact h1x 5 2 (Or.inl rfl) (by omega) (by omega) (Or.inr rfl) (fun ha => by have := w5 ha; omega) H
  · rw [if_neg (by omega), if_neg (by omega), if_neg (by omega), if_pos e3] at H
    refine h90 7 _ (by omega) c3 H (fun ha k0 k1 Hc => ⟨fun y => absurd y (by decide), fun _ => ⟨by decide, by decide, fun y => absurd y (by decide), fun _ => k194_209 ?_⟩⟩)
    have := w7 ha
    rw [stl 7 (by decide) (by decide) (by decide) ha]
    exact m142 hB hK (by omega) (by omega) Hc
  · rw [if_neg (by omega), if_neg (by omega), if_neg (by omega), if_neg (by omega), if_pos e4] at H
    refine h90 8 _ (by omega) c3 H (fun ha k0 k1 Hc => ⟨fun y => absurd y (by decide), fun _ => ⟨by decide, by decide, fun y => absurd y (by decide), fun _ => k194_209 ?_⟩⟩)
    have := w8 ha
    rw [stl 8 (by decide) (by decide) (by decide) ha]
    exact m142 hB hK (by omega) (by omega) Hc
  · rw [if_neg (by omega), if_neg (by omega), if_neg (by omega), if_neg (by omega), if_neg (by omega), if_pos (by omega)] at H
    refine h90 4 _ (by omega) c3 H (fun ha k0 k1 Hc => ⟨fun y => absurd y (by decide), fun _ => ⟨by decide, by decide, fun _ => k194_209 ?_, fun y => absurd rfl y⟩⟩)
    have := w4 ha
    have st := stl 4 (by decide) (by decide) (by decide) ha
    rw [st]
    refine m142 hB hK (by omega) (by omega) ?_
    rw [show att 4 + 2 + (8 * k + 2 * (wh - 5)) = att 4 + 2 + 8 * k + 2 * (wh - 5) by omega]
    exact Hc
  · rw [if_neg (by omega), if_neg (by omega), if_neg (by omega), if_neg (by omega), if_neg (by omega), if_neg (by omega), if_pos (by omega)] at H
    refine h90 9 _ (by omega) c3 H (fun ha k0 k1 Hc => ⟨fun _ => ?_, fun y => absurd rfl y⟩)
    obtain ⟨x, rfl⟩ := Int.eq_ofNat_of_zero_le k0
    have e38 := hH.2 ha x k1
    have hin := hKn ha x k1
    have hge := w9 ha
    have h4k := hge.2.2 x (by omega)
    rw [e38]
    have Hc : f (b2 B (bpos B (att 9 + 2) x + 2 * (wh - 9))) u := Hc
    refine ⟨by omega, by omega, fun y => k194_176 (m142 hB hK (by omega) (by omega) ?_), fun y => k194_176 (m142 hB hK (by omega) (by omega) ?_)⟩
    · rw [show 2 * (wh - 9) = 0 by omega] at Hc; exact Hc
    · rw [show 2 * (wh - 9) = 2 by omega] at Hc; exact Hc
end MV
