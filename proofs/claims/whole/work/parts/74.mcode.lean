/-! THE MODEL reads attributes, the bodies: code, exceptions, lists -/
/-- only at has moved -/
def mSm (s s' : qS) : Prop := (∀ k, k ≠ 25 → s' k = s k) ∧ ∀ j, j ≠ 5 → j ≠ 6 → s' 25 j = s 25 j
theorem mSm.rfl' (s : qS) : mSm s s := ⟨fun _ _ => rfl, fun _ _ _ => rfl⟩
theorem mSm.trans {s s' s'' : qS} (h : mSm s s') (h' : mSm s' s'') : mSm s s'' := ⟨fun k hk => (h'.1 k hk).trans (h.1 k hk), fun j j1 j2 => (h'.2 j j1 j2).trans (h.2 j j1 j2)⟩
theorem mSm.mv {s s' : qS} (h : mSm s s') (q : Int) : mSm s (qset s' 25 5 q) := ⟨fun k hk => by rw [qset_cell _ hk]; exact h.1 k hk, fun j j1 j2 => by rw [qset_same, if_neg j1]; exact h.2 j j1 j2⟩
theorem mSm.po {s s' : qS} {B : Int → Int} {n c : Int} (h : mSm s s') (hP : mPo s B n c) : mPo s' B n c := hP.fr (h.2 11 (by decide) (by decide)) (h.1 26 (by decide)) (h.1 28 (by decide)) (h.1 29 (by decide))
theorem rTake_l {π : qP} {B : Int → Int} {n p t e : Int} (h : rTake π B n p t = .inl e) : e = n ∨ e = p := by
  unfold rTake at h
  rcases bd_inl.mp h with h | ⟨v, -, h⟩
  · exact Or.inl (rU2_l h)
  · rcases bd_inl.mp h with h | ⟨v, -, h⟩
    · unfold rCk at h; split at h <;> cases h; exact Or.inr rfl
    · cases h
theorem rTake0_l {π : qP} {B : Int → Int} {n p t e : Int} (h : rTake0 π B n p t = .inl e) : e = n ∨ e = p := by
  unfold rTake0 at h
  rcases bd_inl.mp h with h | ⟨v, -, h⟩
  · exact Or.inl (rU2_l h)
  · rcases bd_inl.mp h with h | ⟨v, -, h⟩
    · unfold rCk at h; split at h <;> cases h; exact Or.inr rfl
    · cases h
theorem rTake_v {π : qP} {B : Int → Int} {n p t v : Int} (h : rTake π B n p t = .inr v) : p + 2 ≤ n ∧ v = b2 B p := by
  unfold rTake at h
  obtain ⟨u, h1, h⟩ := bd_inr.mp h
  obtain ⟨x, -, h⟩ := bd_inr.mp h
  obtain ⟨q1, rfl⟩ := rU2_r h1
  cases h
  exact ⟨q1, rfl⟩
theorem rTake0_v {π : qP} {B : Int → Int} {n p t v : Int} (h : rTake0 π B n p t = .inr v) : p + 2 ≤ n ∧ v = b2 B p := by
  unfold rTake0 at h
  obtain ⟨u, h1, h⟩ := bd_inr.mp h
  obtain ⟨x, -, h⟩ := bd_inr.mp h
  obtain ⟨q1, rfl⟩ := rU2_r h1
  cases h
  exact ⟨q1, rfl⟩
section MA
variable {w : qE} {s s0 s1 : qS} {B P : Int → Int} {n c i k p e : Int} {f : Int → qS → Prop} {fv : qS → Prop} {g : Nat → qS → Prop}
/-- wants, with nothing told of the state behind a fault -/
theorem m171_0' (hS : mS s0 B n) (hA : mAt s0 p s) (h0 : 0 ≤ p) (h1 : p ≤ n) (hP : mPo s B n c) {t : Int} (ht : 1 ≤ t ∧ t ≤ 18) (H : qRes (rTake (mkP B c) B n p t) (fun e => ∀ s', mFt s0 e s' → fv s') (fun _ => fv (qset s 25 5 (p + 2)))) : qW w 4 171 [.ref 25, qI t, qI 0] s (qPV fv g) := by
  have h5 := hS.1.2.1
  refine m171_0 hS hA h0 h1 hP ht (qRes_mono H (fun e he H q hq => H _ ?_) (fun _ _ H => H))
  have := rTake_l he
  exact hA.dd hq (by omega) ⟨by omega, by omega⟩
theorem m171_1' (hS : mS s0 B n) (hA : mAt s0 p s) (h0 : 0 ≤ p) (h1 : p ≤ n) (hP : mPo s B n c) {t : Int} (ht : 1 ≤ t ∧ t ≤ 18) (H : qRes (rTake0 (mkP B c) B n p t) (fun e => ∀ s', mFt s0 e s' → fv s') (fun _ => fv (qset s 25 5 (p + 2)))) : qW w 4 171 [.ref 25, qI t, qI 1] s (qPV fv g) := by
  have h5 := hS.1.2.1
  refine m171_1 hS hA h0 h1 hP ht (qRes_mono H (fun e he H q hq => H _ ?_) (fun _ _ H => H))
  have := rTake0_l he
  exact hA.dd hq (by omega) ⟨by omega, by omega⟩
theorem m131' (hS : mS s0 B n) (hA : mAt s0 p s) (h0 : 0 ≤ p) (h1 : p ≤ n) (H : qRes (rU2 B n p) (fun e => ∀ v s', 0 ≤ v → v ≤ 65535 → mFt s0 e s' → f v s') (fun v => f v (qset s 25 5 (p + 2)))) : qW w 3 131 [.ref 25] s (qPI f g) := by
  have h5 := hS.1.2.1
  refine m131 hS hA h0 h1 (qRes_mono H (fun e he H v q v0 v1 q0 q1 => H v _ v0 v1 ?_) (fun _ _ H => H))
  have := rU2_l he
  exact hA.dd ⟨by omega, by omega⟩ (by omega) ⟨by omega, by omega⟩
theorem m130' (hS : mS s0 B n) (hA : mAt s0 p s) (h0 : 0 ≤ p) (h1 : p ≤ n) (H : qRes (rU4 B n p) (fun e => ∀ v s', Rg v → mFt s0 e s' → f v s') (fun v => f v (qset s 25 5 (p + 4)))) : qW w 4 130 [.ref 25] s (qPI f g) := by
  have h5 := hS.1.2.1
  refine m130 hS hA h0 h1 (qRes_mono H (fun e he H v q hv q0 q1 => H v _ hv ?_) (fun _ _ H => H))
  have := rU4_l he
  exact hA.dd ⟨by omega, by omega⟩ (by omega) ⟨by omega, by omega⟩
theorem d0 : Rg 0 := ⟨by decide, by decide⟩
theorem d1 : Rg 1 := ⟨by decide, by decide⟩
/-- isWell, of two minds -/
theorem m134_w {K : Int → qS → Prop} (hA : mAt s0 p s) (H : K 1 s) (h : ∀ s, K 1 s → f 1 s) : qW w 1 134 [.ref 25] s (qPI f g) := m134 hA (h s H)
theorem m172_7_d (hF : mFt s0 e s) {v1 v2 : Int} (h1 : Rg v1) (h2 : Rg v2) (H : fv s) : qR w 4 qm172 7 [(0, .ref 25), (1, qI v1), (2, qI v2)] [] s (qPV fv g) :=
  k172_7 ⟨h2, h1, fun _ => m134_d hF ⟨d0, fun _ => k172_86 H, fun y => absurd rfl y⟩, fun _ => k172_86 H⟩
theorem m172_63_d (hF : mFt s0 e s) {v1 v2 v3 : Int} (h1 : Rg v1) (h2 : Rg (v2 + 1)) (H : fv s) : qR w 4 qm172 63 [(0, .ref 25), (1, qI v1), (2, qI v2), (3, qI v3)] [] s (qPV fv g) :=
  k172_63 (m134_d hF ⟨d0, fun _ => k172_80 (m172_7_d hF h1 h2 H), fun y => absurd rfl y⟩)
theorem m172_loop (hS : mS s0 B n) {m : Int} (hm : 0 ≤ m ∧ m ≤ 65535) : ∀ (d : Nat) (p : Int) (s : qS), (d : Int) ≤ m → mAt s0 p s → 0 ≤ p → p ≤ n → mPo s B n c → qRes (rSk (mkP B c) B n d p) (fun e => ∀ s', mFt s0 e s' → fv s') (fun r => ∀ s', mAt s0 r s' → mSm s s' → fv s') → qR w 4 qm172 7 [(0, .ref 25), (1, qI m), (2, qI (m - d))] [] s (qPV fv g) := by
  have h5 := hS.1.2.1
  intro d
  induction d with
  | zero =>
    intro p s hd hA h0 h1 hP H
    exact k172_7 ⟨⟨by omega, by omega⟩, ⟨by omega, by omega⟩, fun y => absurd y (by omega), fun _ => k172_86 (H s hA (mSm.rfl' s))⟩
  | succ d ih =>
    intro p s hd hA h0 h1 hP H
    unfold rSk at H
    rw [qRes_bd] at H
    have rm : Rg m := ⟨by omega, by omega⟩
    have rm1 : Rg (m - ((d + 1 : Nat) : Int) + 1) := ⟨by omega, by omega⟩
    refine k172_7 ⟨⟨by omega, by omega⟩, rm, fun _ => m134 hA ⟨d1, fun y => absurd y (by decide), fun _ => m171_0' hS hA h0 h1 hP (by decide) (qRes_mono H (fun e he H s' hF => m130_d hS hF (m134_d hF ⟨d0, fun _ => m172_63_d hF rm rm1 (H s' hF), fun y => absurd rfl y⟩)) (fun v hv H => ?_))⟩, fun y => absurd y (by omega)⟩
    obtain ⟨q1, -⟩ := rTake_v hv
    unfold rLen at H
    rw [qRes_bd, qRes_bd] at H
    have hA2 := hA.mv (p + 2)
    refine m130' hS hA2 (by omega) q1 (qRes_mono H (fun e he H v s' hv hF => m134_d hF ⟨d0, fun _ => m172_63_d hF rm rm1 (H s' hF), fun y => absurd rfl y⟩) (fun v hv2 H => ?_))
    obtain ⟨q2, rfl⟩ := rU4_r hv2
    rw [qRes_bd] at H
    have hA3 := hA2.mv (p + 2 + 4)
    have e4 : (qset (qset s 25 5 (p + 2)) 25 5 (p + 2 + 4)) 25 4 = n := hA3.1.2.2.2.2.2.1.trans hS.2.1
    unfold rBy at H
    have hbad : b4 B (p + 2) < 0 ∨ n < p + 2 + 4 + b4 B (p + 2) → qR w 4 qm172 54 [(0, .ref 25), (1, qI m), (2, qI (m - ((d + 1 : Nat) : Int))), (3, qI (b4 B (p + 2)))] [] (qset (qset s 25 5 (p + 2)) 25 5 (p + 2 + 4)) (qPV fv g) := fun hh => by
      rw [if_pos hh] at H
      have hF := hA3.ft (e := n) ⟨by omega, by omega⟩ (by omega) ⟨by omega, by omega⟩
      refine k172_54 ?_
      rw [e4]
      exact m133 hA3 (m172_63_d hF rm rm1 (H _ hF))
    refine m134 hA3 ⟨d1, fun y => absurd y (by decide), fun _ => ⟨b4_rg _ _, fun y => hbad (Or.inl y), fun y => ?_⟩⟩
    rw [e4, hA3.2.1]
    refine ⟨⟨by omega, by omega⟩, fun y2 => hbad (Or.inr (by omega)), fun y2 => k172_63 (m134 hA3 ⟨d1, fun y => absurd y (by decide), fun _ => k172_80 ?_⟩)⟩
    rw [if_neg (by omega)] at H
    rw [hA3.2.1, show m - ((d + 1 : Nat) : Int) + 1 = m - (d : Int) by omega]
    have H : qRes (rSk (mkP B c) B n d (p + 6 + b4 B (p + 2))) _ _ := H
    rw [show p + 2 + 4 + b4 B (p + 2) = p + 6 + b4 B (p + 2) by omega]
    have hM : mSm s (qset (qset (qset s 25 5 (p + 2)) 25 5 (p + 2 + 4)) 25 5 (p + 6 + b4 B (p + 2))) := (((mSm.rfl' s).mv _).mv _).mv _
    exact ih _ _ (by omega) (hA3.mv _) (by omega) (by omega) (hM.po hP) (qRes_mono H (fun _ _ h => h) (fun r _ H s' a b => H s' a (hM.trans b)))
theorem m172 (hS : mS s0 B n) (hA : mAt s0 p s) (h0 : 0 ≤ p) (h1 : p ≤ n) (hP : mPo s B n c) (H : qRes (rSks (mkP B c) B n p) (fun e => ∀ s', mFt s0 e s' → fv s') (fun r => ∀ s', mAt s0 r s' → mSm s s' → fv s')) : qW w 5 172 [.ref 25] s (qPV fv g) := by
  unfold rSks at H
  rw [qRes_bd] at H
  refine k172 (m131' hS hA h0 h1 (qRes_mono H (fun e he H v s' v0 v1 hF => m172_7_d hF ⟨by omega, by omega⟩ d0 (H s' hF)) (fun v hv H => ?_)))
  obtain ⟨q1, rfl⟩ := rU2_r hv
  have r := b2_rg hS.1 h0 q1
  have hM : mSm s (qset s 25 5 (p + 2)) := (mSm.rfl' s).mv _
  have := m172_loop (w := w) (g := g) hS r (b2 B p).toNat (p + 2) _ (by omega) (hA.mv _) (by omega) q1 (hM.po hP) (qRes_mono H (fun _ _ h => h) (fun r _ H s' a b => H s' a (hM.trans b)))
  rw [show b2 B p - ((b2 B p).toNat : Int) = 0 by omega] at this
  exact this
/-- the exception table's rows -/
theorem m170_105_d (hF : mFt s0 e s) {v1 v3 v4 : Int} (h1 : 0 ≤ v1 ∧ v1 < 160) (h3 : Rg (s 33 v1)) (h4 : Rg v4) (H : fv s) : qR w 5 qm170 105 [(0, .ref 25), (1, qI v1), (3, qI v3), (4, qI v4)] [] s (qPV fv g) := by
  have h225 : qR w 5 qm170 225 [(0, .ref 25)] [] s (qPV fv g) := k170_225 (m134_d hF ⟨d0, fun _ => k170_236 H, fun y => absurd rfl y⟩)
  exact k170_105 ⟨h1.1, h1.2, h4, h3, fun _ => m134_d hF ⟨d0, fun _ => h225, fun y => absurd rfl y⟩, fun _ => h225⟩
theorem m170_190_d (hS : mS s0 B n) (hF : mFt s0 e s) {v1 v3 v4 v5 v8 : Int} (h1 : 0 ≤ v1 ∧ v1 < 160) (h3 : Rg (s 33 v1)) (h4 : Rg (v4 + 1)) (H : fv s) : qR w 5 qm170 190 [(0, .ref 25), (1, qI v1), (3, qI v3), (4, qI v4), (5, qI v5), (8, qI v8)] [] s (qPV fv g) :=
  k170_190 (m134_d hF ⟨d0, fun _ => k170_212 (m171_d hS hF (m170_105_d hF h1 h3 h4 H)), fun y => absurd rfl y⟩)
theorem m170_168_d (hS : mS s0 B n) (hF : mFt s0 e s) {v1 v3 v4 v5 v7 v8 : Int} (h1 : 0 ≤ v1 ∧ v1 < 160) (h3 : Rg (s 33 v1)) (h4 : Rg (v4 + 1)) (H : fv s) : qR w 5 qm170 168 [(0, .ref 25), (1, qI v1), (3, qI v3), (4, qI v4), (5, qI v5), (7, qI v7), (8, qI v8)] [] s (qPV fv g) :=
  k170_168 (m134_d hF ⟨d0, fun _ => m170_190_d hS hF h1 h3 h4 H, fun y => absurd rfl y⟩)
theorem m170_loop (hS : mS s0 B n) {m sz v1 : Int} (hm : 0 ≤ m ∧ m ≤ 65535) (hsz : 1 ≤ sz ∧ sz ≤ 65535) (hv1 : 0 ≤ v1 ∧ v1 < 160) : ∀ (d : Nat) (p : Int) (s : qS), (d : Int) ≤ m → mAt s0 p s → 0 ≤ p → p ≤ n → mPo s B n c → s 33 v1 = m → qRes (bd (rHands (mkP B c) B n sz d p) (fun q => rSks (mkP B c) B n q)) (fun e => ∀ s', mFt s0 e s' → fv s') (fun r => ∀ s', mAt s0 r s' → mSm s s' → fv s') → qR w 5 qm170 105 [(0, .ref 25), (1, qI v1), (3, qI sz), (4, qI (m - d))] [] s (qPV fv g) := by
  have h5 := hS.1.2.1
  intro d
  induction d with
  | zero =>
    intro p s hd hA h0 h1 hP h33 H
    refine k170_105 ⟨hv1.1, hv1.2, ⟨by omega, by omega⟩, by rw [h33]; exact ⟨by omega, by omega⟩, fun y => absurd y (by rw [h33]; omega), fun _ => k170_225 (m134 hA ⟨d1, fun y => absurd y (by decide), fun _ => m172 hS hA h0 h1 hP ?_⟩)⟩
    exact qRes_mono H (fun _ _ H s' hF => k170_236 (H s' hF)) (fun _ _ H s' a b => k170_236 (H s' a b))
  | succ d ih =>
    intro p s hd hA h0 h1 hP h33 H
    have rm : Rg m := ⟨by omega, by omega⟩
    have rm1 : Rg (m - ((d + 1 : Nat) : Int) + 1) := ⟨by omega, by omega⟩
    have r33 : ∀ s' : qS, mSm s s' → Rg (s' 33 v1) := fun s' h => by rw [h.1 33 (by decide), h33]; exact rm
    unfold rHands rHand at H
    rw [qRes_bd, qRes_bd, qRes_bd] at H
    -- a dead state that keeps what is there
    have rn : ∀ q : Int, 0 ≤ q → q ≤ n → Rg q := fun q q0 q1 => ⟨by omega, by omega⟩
    have mD : ∀ (x : qS) (q e : Int), mSm s x → mSm s (mDd x q e) := fun x q e h => ⟨fun k hk => by unfold mDd; rw [qset_cell _ hk, qset_cell _ hk]; exact h.1 k hk, fun j j1 j2 => by unfold mDd; rw [qset_same, if_neg j2, qset_same, if_neg j1]; exact h.2 j j1 j2⟩
    have hM1 : mSm s (qset s 25 5 (p + 2)) := (mSm.rfl' s).mv _
    have hA1 := hA.mv (p + 2)
    have d168 : ∀ (e v4 v7 v8 : Int) (s' : qS), mFt s0 e s' → mSm s s' → fv s' → qR w 5 qm170 168 [(0, .ref 25), (1, qI v1), (3, qI sz), (4, qI (m - ((d + 1 : Nat) : Int))), (5, qI p), (7, qI v7), (8, qI v8)] [] s' (qPV fv g) := fun e v4 v7 v8 s' hF hM hh => m170_168_d hS hF hv1 (r33 s' hM) rm1 hh
    refine k170_105 ⟨hv1.1, hv1.2, ⟨by omega, by omega⟩, by rw [h33]; exact rm, fun _ => m134 hA ⟨d1, fun y => absurd y (by decide), fun _ => ?_⟩, fun y => absurd y (by rw [h33]; omega)⟩
    rw [hA.2.1]
    refine m131 hS hA h0 h1 (qRes_mono H (fun e he H v q v0 v1' q0 q1 => ?_) (fun st hst H => ?_))
    · have en := rU2_l he
      have hF := hA.dd (q := q) (e := e) (rn q (by omega) q1) (by omega) (by rw [en]; exact rn n (by omega) (by omega))
      exact m131_d hS hF (m131_d hS hF (m134_d hF ⟨d0, fun _ => d168 e 0 _ _ _ hF (mD s q e (mSm.rfl' s)) (H _ hF), fun y => absurd rfl y⟩))
    obtain ⟨q1, rfl⟩ := rU2_r hst
    have rst := b2_rg hS.1 h0 q1
    rw [qRes_bd] at H
    refine m131 hS hA1 (by omega) q1 (qRes_mono H (fun e he H v q v0 v1' q0 q1 => ?_) (fun en hen H => ?_))
    · have en := rU2_l he
      have hF := hA1.dd (q := q) (e := e) (rn q (by omega) q1) (by omega) (by rw [en]; exact rn n (by omega) (by omega))
      exact m131_d hS hF (m134_d hF ⟨d0, fun _ => d168 e 0 _ _ _ hF (mD _ q e hM1) (H _ hF), fun y => absurd rfl y⟩)
    obtain ⟨q2, rfl⟩ := rU2_r hen
    have ren := b2_rg hS.1 (p := p + 2) (by omega) q2
    have hA2 := hA1.mv (p + 2 + 2)
    have hM2 := hM1.mv (p + 2 + 2)
    rw [show p + 2 + 2 = p + 4 by omega] at hA2 hM2 ⊢
    rw [qRes_bd] at H
    refine m131 hS hA2 (by omega) (by omega) (qRes_mono H (fun e he H v q v0 v1' q0 q1 => ?_) (fun hd' hhd H => ?_))
    · have en := rU2_l he
      have hF := hA2.dd (q := q) (e := e) (rn q (by omega) q1) (by omega) (by rw [en]; exact rn n (by omega) (by omega))
      exact m134_d hF ⟨d0, fun _ => d168 e 0 _ _ _ hF (mD _ q e hM2) (H _ hF), fun y => absurd rfl y⟩
    obtain ⟨q3, rfl⟩ := rU2_r hhd
    have rhd := b2_rg hS.1 (p := p + 4) (by omega) q3
    have hA3 := hA2.mv (p + 4 + 2)
    have hM3 := hM2.mv (p + 4 + 2)
    rw [show p + 4 + 2 = p + 6 by omega] at hA3 hM3 ⊢
    obtain ⟨x, hx⟩ : ∃ x, qset (qset (qset s 25 5 (p + 2)) 25 5 (p + 4)) 25 5 (p + 6) = x := ⟨_, rfl⟩
    rw [hx] at hA3 hM3 ⊢
    have mF : ∀ e, mSm s (qset x 25 6 e) := fun e => ⟨fun k hk => by rw [qset_cell _ hk]; exact hM3.1 k hk, fun j j1 j2 => by rw [qset_same, if_neg j2]; exact hM3.2 j j1 j2⟩
    rw [qRes_bd] at H
    refine m134 hA3 ⟨d1, fun y => absurd y (by decide), fun _ => ⟨⟨by omega, by omega⟩, ⟨by omega, by omega⟩, fun y1 => ?_, fun y1 => ?_⟩⟩
    · rw [decide_eq_true y1] at H
      have H : qRes (bd (rCk (decide (b2 B (p + 2) ≤ sz)) (p + 2)) fun _ => bd (rCk (decide (b2 B (p + 4) < sz)) (p + 4)) fun _ => bd (rTake0 (mkP B c) B n (p + 6) 7) fun _ => .inr ()) _ _ := H
      rw [qRes_bd] at H
      refine k170_168 (m134 hA3 ⟨d1, fun y => absurd y (by decide), fun _ => ⟨⟨by omega, by omega⟩, ⟨by omega, by omega⟩, fun y2 => ?_, fun y2 => ?_⟩⟩)
      · rw [decide_eq_false (by omega)] at H
        have hF := hA3.ft (e := p + 2) (rn _ (by omega) (by omega)) (by omega) (rn _ (by omega) (by omega))
        exact m133 hA3 (m170_190_d hS hF hv1 (r33 _ (mF _)) rm1 (H _ hF))
      · rw [decide_eq_true y2] at H
        have H : qRes (bd (rCk (decide (b2 B (p + 4) < sz)) (p + 4)) fun _ => bd (rTake0 (mkP B c) B n (p + 6) 7) fun _ => .inr ()) _ _ := H
        rw [qRes_bd] at H
        refine k170_190 (m134 hA3 ⟨d1, fun y => absurd y (by decide), fun _ => ⟨⟨by omega, by omega⟩, ⟨by omega, by omega⟩, fun y3 => ?_, fun y3 => ?_⟩⟩)
        · rw [decide_eq_true y3] at H
          have H : qRes (bd (rTake0 (mkP B c) B n (p + 6) 7) fun _ => .inr ()) _ _ := H
          rw [qRes_bd] at H
          refine k170_212 (m171_1 hS hA3 (by omega) (by omega) (hM3.po hP) (by decide) (qRes_mono H (fun e he H q hq => ?_) (fun v hv H => ?_)))
          · have en := rTake0_l he
            have hF := hA3.dd (q := q) (e := e) hq (by omega) (rn e (by omega) (by omega))
            exact m170_105_d hF hv1 (r33 _ (mD x q e hM3)) rm1 (H _ hF)
          · obtain ⟨q4, -⟩ := rTake0_v hv
            have hM4 := hM3.mv (p + 6 + 2)
            rw [show p + 6 + 2 = p + 8 by omega] at hM4 ⊢
            rw [show m - ((d + 1 : Nat) : Int) + 1 = m - (d : Int) by omega]
            refine ih (p + 8) _ (by omega) (hA3.mv _) (by omega) (by omega) (hM4.po hP) (by rw [hM4.1 33 (by decide)]; exact h33) ?_
            rw [qRes_bd]
            exact qRes_mono H (fun _ _ h => h) (fun r _ H => qRes_mono H (fun _ _ h => h) (fun r _ H s' a b => H s' a (hM4.trans b)))
        · rw [decide_eq_false (by omega)] at H
          have hF := hA3.ft (e := p + 4) (rn _ (by omega) (by omega)) (by omega) (rn _ (by omega) (by omega))
          exact m133 hA3 (k170_212 (m171_d hS hF (m170_105_d hF hv1 (r33 _ (mF _)) rm1 (H _ hF))))
    · rw [decide_eq_false (by omega)] at H
      have hF := hA3.ft (e := p) (rn _ (by omega) (by omega)) (by omega) (rn _ (by omega) (by omega))
      exact m133 hA3 (d168 p 0 _ _ _ hF (mF _) (H _ hF))
end MA
