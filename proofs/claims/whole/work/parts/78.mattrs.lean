/-! THE MODEL reads attributes, whole -/
def mFX (pl m : Int) (s s' : qS) : Prop := (∀ k, k ≠ 25 → k ≠ 39 → (pl = 3 → k ≠ 36 ∧ k ≠ 37 ∧ k ≠ 38) → (pl ≠ 3 → k ≠ 32 ∧ k ≠ 33 ∧ k ≠ 34) → s' k = s k) ∧ (pl ≠ 3 → ∀ j, j ≠ m → s' 32 j = s 32 j ∧ s' 33 j = s 33 j ∧ s' 34 j = s 34 j) ∧ ∀ j, j ≠ 5 → j ≠ 6 → s' 25 j = s 25 j
theorem mFX.rfl' (pl m : Int) (s : qS) : mFX pl m s s := ⟨fun _ _ _ _ _ => rfl, fun _ _ _ => ⟨rfl, rfl, rfl⟩, fun _ _ _ => rfl⟩
theorem mFX.trans {pl m : Int} {s s' s'' : qS} (h : mFX pl m s s') (h' : mFX pl m s' s'') : mFX pl m s s'' :=
  ⟨fun k a b c d => (h'.1 k a b c d).trans (h.1 k a b c d), fun hp j hj => ⟨(h'.2.1 hp j hj).1.trans (h.2.1 hp j hj).1, (h'.2.1 hp j hj).2.1.trans (h.2.1 hp j hj).2.1, (h'.2.1 hp j hj).2.2.trans (h.2.1 hp j hj).2.2⟩, fun j j1 j2 => (h'.2.2 j j1 j2).trans (h.2.2 j j1 j2)⟩
theorem mSm.fx {s s' : qS} (h : mSm s s') (pl m : Int) : mFX pl m s s' := ⟨fun k a _ _ _ => h.1 k a, fun _ j _ => by rw [h.1 32 (by decide), h.1 33 (by decide), h.1 34 (by decide)]; exact ⟨rfl, rfl, rfl⟩, h.2⟩
theorem mFm.fx {pl m : Int} {s s' : qS} (h : mFm m s s') (hp : pl ≠ 3) : mFX pl m s s' := ⟨fun k a _ _ d => h.1 k a (d hp).1 (d hp).2.1 (d hp).2.2, fun _ => h.2.1, h.2.2⟩
theorem mFw.fx {pl m : Int} {s s' : qS} (h : mFw s s') (hp : pl = 3) : mFX pl m s s' := ⟨fun k a _ c _ => h.1 k a (c hp).1 (c hp).2.1 (c hp).2.2, fun x => absurd hp x, h.2⟩
theorem mFX.s39 {pl m : Int} {s s' : qS} (h : mFX pl m s s') (j v : Int) : mFX pl m s (qset s' 39 j v) :=
  ⟨fun k a b c d => by rw [qset_cell _ b]; exact h.1 k a b c d, fun hp j hj => by rw [qset_cell _ (by decide), qset_cell _ (by decide), qset_cell _ (by decide)]; exact h.2.1 hp j hj, fun j j1 j2 => by rw [qset_cell _ (by decide)]; exact h.2.2 j j1 j2⟩
theorem mFX.po {pl m : Int} {s s' : qS} {B : Int → Int} {n c : Int} (h : mFX pl m s s') (hP : mPo s B n c) : mPo s' B n c := hP.fr (h.2.2 11 (by decide) (by decide)) (h.1 26 (by decide) (by decide) (fun _ => by decide) (fun _ => by decide)) (h.1 28 (by decide) (by decide) (fun _ => by decide) (fun _ => by decide)) (h.1 29 (by decide) (by decide) (fun _ => by decide) (fun _ => by decide))
def mAX (pl m : Int) (s : qS) (B : Int → Int) (att : Int → Int) : Prop := (pl = 3 → mAH s B att) ∧ (pl ≠ 3 → (pl = 2 → att 1 < 0) ∧ mAM s B m att)
def mMt (s : qS) (att : Int → Int) : Prop := ∀ j, 0 ≤ j → j < 9 → s 39 j = bi (decide (0 ≤ att (j + 1)))
theorem mAX.fr {pl m : Int} {s s' : qS} {B : Int → Int} {att : Int → Int} (h : mAX pl m s B att) (h1 : ∀ k, 32 ≤ k → k ≤ 38 → s' k = s k) : mAX pl m s' B att := by
  refine ⟨fun hp => ⟨fun kn a b => ?_, fun a k hk => ?_⟩, fun hp => ⟨(h.2 hp).1, ?_⟩⟩
  · rw [h1 36 (by decide) (by decide), h1 37 (by decide) (by decide)]; exact (h.1 hp).1 kn a b
  · rw [h1 38 (by decide) (by decide)]; exact (h.1 hp).2 a k hk
  · unfold mAM
    rw [h1 32 (by decide) (by decide), h1 33 (by decide) (by decide), h1 34 (by decide) (by decide)]
    exact (h.2 hp).2
/-- the member whose attributes these are -/
def mDc (s : qS) (B : Int → Int) (n c pl m dc : Int) : Prop := (pl ≠ 3 → 0 ≤ m ∧ m < 160) ∧ (pl = 1 → ∃ q0, s 30 m = q0 ∧ (0 ≤ q0 ∧ q0 + 6 ≤ n) ∧ b2 B (q0 + 4) = dc ∧ pT (mkP B c) dc = 1 ∧ gField (pC (mkP B c) dc) (pN (mkP B c) dc) 0 = pN (mkP B c) dc)
theorem mDc.fr {s s' : qS} {B : Int → Int} {n c pl m dc : Int} (h : mDc s B n c pl m dc) (h1 : s' 30 = s 30) : mDc s' B n c pl m dc := ⟨h.1, fun hp => by rw [h1]; exact h.2 hp⟩
section MF
variable {w : qE} {s s0 s1 : qS} {B P att : Int → Int} {n c i k p e m pl dc : Int} {f : Int → qS → Prop} {fv : qS → Prop} {g : Nat → qS → Prop}
theorem m168 {kn len : Int} (hS : mS s0 B n) (hA : mAt s0 p s) (h0 : 8 ≤ p) (h1 : p ≤ n) (hP : mPo s B n c) (hk : (pl = 1 ∧ kn = 1) ∨ (pl = 2 ∧ (kn = 2 ∨ kn = 3)) ∨ (pl = 3 ∧ 4 ≤ kn ∧ kn ≤ 9)) (hD : mDc s B n c pl m dc) (hX : mAX pl m s B att)
    (H : qRes (rBody (mkP B c) B n kn dc p len) (fun e => ∀ s', mFt s0 e s' → fv s') (fun r => ∀ s', mAt s0 r s' → mFX pl m s s' → mAX pl m s' B (kSet att kn p) → s' 39 = s 39 → fv s')) : qW w 7 168 [.ref 25, qI (kn - 1), qI m] s (qPV fv g) := by
  have rk : Rg (kn - 1) := ⟨by omega, by omega⟩
  have e : ∀ x, kSet att kn p x = if x = kn then p else att x := fun x => kSet_at att p x (by omega)
  rcases hk with ⟨hp, hk⟩ | ⟨hp, hk⟩ | ⟨hp, hk⟩
  · subst hk
    obtain ⟨q0, a1, a2, a3, a4, a5⟩ := hD.2 hp
    have hn : pl ≠ 3 := by omega
    have hX := hX.2 hn
    have hb : rBody (mkP B c) B n 1 dc p len = bd (rTake (mkP B c) B n p (kTag (mkP B c) dc)) (fun _ => .inr (p + 2)) := by unfold rBody; rw [if_pos rfl]
    rw [hb, qRes_bd] at H
    refine k168 ⟨rk, fun _ => m169 hS hA (by omega) h1 hP (hD.1 hn) a1 a2 a3 a4 a5 (qRes_mono H (fun e _ H s' hF => k168_94 (H s' hF)) (fun v _ H s' b1 b2' b3 b4 b5 => k168_94 (H s' b1 (b2'.fx hn) ⟨fun x => absurd x hn, fun _ => ⟨fun x => absurd x (by omega), ?_⟩⟩ (b2'.1 39 (by decide) (by decide) (by decide) (by decide))))), fun y => absurd y (by decide), fun y => absurd y (by decide), fun y => absurd rfl y⟩
    unfold mAM vVal vHan vThr
    rw [e 1, e 2, e 3, if_pos rfl, if_neg (show ¬ ((2 : Int) = 1) by decide), if_neg (show ¬ ((3 : Int) = 1) by decide), if_pos (by omega), b3, b4, b5]
    exact ⟨rfl, hX.2.2.1, hX.2.2.2⟩
  · have hn : pl ≠ 3 := by omega
    have hX := hX.2 hn
    rcases hk with hk | hk
    · subst hk
      have hb : rBody (mkP B c) B n 2 dc p len = rCode (mkP B c) B n p := by unfold rBody; rw [if_neg (by decide), if_pos rfl]
      rw [hb] at H
      refine k168 ⟨rk, fun y => absurd y (by decide), fun _ => m170 hS hA (by omega) h1 hP (hD.1 hn) (qRes_mono H (fun e _ H s' hF => k168_94 (H s' hF)) (fun v _ H s' b1 b2' b3 b4 b5 => k168_94 (H s' b1 (b2'.fx hn) ⟨fun x => absurd x hn, fun _ => ⟨fun x => ?_, ?_⟩⟩ (b2'.1 39 (by decide) (by decide) (by decide) (by decide))))), fun y => absurd y (by decide), fun _ y => absurd rfl y⟩
      · rw [e, if_neg (by decide)]; exact hX.1 hp
      · have h1 := hX.1 hp
        unfold mAM vVal vHan vThr
        rw [e 1, e 2, e 3, if_pos rfl, if_neg (show ¬ ((1 : Int) = 2) by decide), if_neg (show ¬ ((3 : Int) = 2) by decide), if_neg (show ¬ 0 ≤ att 1 by omega), if_pos (show 0 ≤ p by omega), if_pos (show 0 ≤ p by omega), b3, b4, b5]
        exact ⟨rfl, rfl, hX.2.2.2⟩
    · subst hk
      have hb : rBody (mkP B c) B n 3 dc p len = rCls (mkP B c) B n p := by unfold rBody; rw [if_neg (by decide), if_neg (by decide), if_pos rfl]
      rw [hb] at H
      refine m168_2 hS hA (by omega) h1 hP (hD.1 hn) (qRes_mono H (fun e _ H s' hF => H s' hF) (fun v _ H s' b1 b2' b3 b4 b5 => H s' b1 (b2'.fx hn) ⟨fun x => absurd x hn, fun _ => ⟨fun x => ?_, ?_⟩⟩ (b2'.1 39 (by decide) (by decide) (by decide) (by decide))))
      · rw [e, if_neg (by decide)]; exact hX.1 hp
      · unfold mAM vVal vHan vThr
        rw [e 1, e 2, e 3, if_pos rfl, if_neg (show ¬ ((1 : Int) = 3) by decide), if_neg (show ¬ ((2 : Int) = 3) by decide), if_pos (show 0 ≤ p by omega), b3, b4, b5]
        exact ⟨hX.2.1, hX.2.2.1, rfl⟩
  · refine k168 ⟨rk, fun y => absurd y (by omega), fun y => absurd y (by omega), fun y => absurd y (by omega), fun _ _ _ => m173 hS hA h0 h1 hP hk (hX.1 hp) (qRes_mono H (fun e _ H s' hF => k168_94 (H s' hF)) (fun v _ H s' b1 b2' b3 => k168_94 (H s' b1 (b2'.fx hp) ⟨fun _ => b3, fun x => absurd hp x⟩ (b2'.1 39 (by decide) (by decide) (by decide) (by decide)))))⟩
theorem m166_29_d (hF : mFt s0 e s) {v1 v2 v3 v4 : Int} (h3 : Rg v3) (h4 : Rg v4) (H : f v3 s) : qR w 7 qm166 29 [(0, .ref 25), (1, qI v1), (2, qI v2), (3, qI v3), (4, qI v4)] [] s (qPI f g) :=
  k166_29 ⟨h4, h3, fun _ => m134_d hF ⟨d0, fun _ => k166_279 H, fun y => absurd rfl y⟩, fun _ => k166_279 H⟩
theorem m166_206_d (hF : mFt s0 e s) {v1 v2 v3 v4 v7 v8 v9 : Int} (H : f v3 s) : qR w 7 qm166 206 [(0, .ref 25), (1, qI v1), (2, qI v2), (3, qI v3), (4, qI v4), (7, qI v7), (8, qI v8), (9, qI v9)] [] s (qPI f g) :=
  k166_206 (m134_d hF ⟨d0, fun _ => H, fun y => absurd rfl y⟩)
theorem m166_159_d (hS : mS s0 B n) (hF : mFt s0 e s) {v1 v2 v3 v4 v7 : Int} (H : f v3 s) : qR w 7 qm166 159 [(0, .ref 25), (1, qI v1), (2, qI v2), (3, qI v3), (4, qI v4), (7, qI v7)] [] s (qPI f g) :=
  k166_159 (m130_d hS hF (m134_d hF ⟨d0, fun _ => m166_206_d hF H, fun y => absurd rfl y⟩))
theorem m166_77_d (hS : mS s0 B n) (hF : mFt s0 e s) {v1 v2 v3 v4 v5 v6 : Int} (H : f v3 s) : qR w 7 qm166 77 [(0, .ref 25), (1, qI v1), (2, qI v2), (3, qI v3), (4, qI v4), (5, qI v5), (6, qI v6)] [] s (qPI f g) :=
  k166_77 (m134_d hF ⟨d0, fun _ => k166_95 ⟨⟨by decide, by decide⟩, fun _ => m166_159_d hS hF H, fun y => absurd y (by decide)⟩, fun y => absurd rfl y⟩)
theorem mMt.bit {s : qS} (h : mMt s att) {j : Int} (h0 : 0 ≤ j) (h1 : j < 9) : Rg (s 39 j) ∧ (s 39 j = 0 ↔ att (j + 1) < 0) := by
  rw [h j h0 h1]
  refine ⟨bi_rg _, ?_⟩
  rw [bi_0, decide_eq_false_iff_not]
  omega
theorem m166_loop (hS : mS s0 B n) (hpl : pl = 1 ∨ pl = 2 ∨ pl = 3) {N : Int} (hN : 0 ≤ N ∧ N ≤ 65535) : ∀ (d : Nat) (q : Int) (s : qS) (att : Int → Int), (d : Int) ≤ N → mAt s0 q s → 2 ≤ q → q ≤ n → mPo s B n c → mDc s B n c pl m dc → mMt s att → mAX pl m s B att →
    qRes (rAt (mkP B c) B n pl dc d q att) (fun e => ∀ s', mFt s0 e s' → f N s') (fun r => ∀ s', mAt s0 r.1 s' → mFX pl m s s' → mMt s' r.2 → mAX pl m s' B r.2 → f N s') →
    qR w 7 qm166 29 [(0, .ref 25), (1, qI (pl - 1)), (2, qI m), (3, qI N), (4, qI (N - d))] [] s (qPI f g) := by
  have h5 := hS.1.2.1
  have rn : ∀ q : Int, 0 ≤ q → q ≤ n → Rg q := fun q q0 q1 => ⟨by omega, by omega⟩
  intro d
  induction d with
  | zero =>
    intro q s att hd hA h0 h1 hP hD hm hX H
    exact k166_29 ⟨⟨by omega, by omega⟩, ⟨by omega, by omega⟩, fun y => absurd y (by omega), fun _ => k166_279 (H s hA (mFX.rfl' _ _ _) hm hX)⟩
  | succ d ih =>
    intro q s att hd hA h0 h1 hP hD hm hX H
    unfold rAt at H
    rw [qRes_bd] at H
    have rm : Rg N := ⟨by omega, by omega⟩
    have rm1 : Rg (N - ((d + 1 : Nat) : Int) + 1) := ⟨by omega, by omega⟩
    refine k166_29 ⟨⟨by omega, by omega⟩, rm, fun _ => m134 hA ⟨d1, fun y => absurd y (by decide), fun _ => ?_⟩, fun y => absurd y (by omega)⟩
    rw [hA.2.1]
    unfold rTake at H
    rw [qRes_bd] at H
    refine m131' hS hA (by omega) h1 (qRes_mono H (fun e he H v s' v0 v1 hF => m134_d hF ⟨d0, fun _ => m166_77_d hS hF (H s' hF), fun y => absurd rfl y⟩) (fun nm hnm H => ?_))
    obtain ⟨q1, rfl⟩ := rU2_r hnm
    have r := b2_rg hS.1 (p := q) (by omega) q1
    obtain ⟨nm, hnm2⟩ : ∃ nm, b2 B q = nm := ⟨_, rfl⟩
    rw [hnm2] at r H ⊢
    have hA1 := hA.mv (q + 2)
    have hM1 : mSm s (qset s 25 5 (q + 2)) := (mSm.rfl' s).mv _
    have hP1 := hM1.po hP
    have hX1 : mAX pl m (qset s 25 5 (q + 2)) B att := hX.fr (fun k a b => hM1.1 k (by omega))
    have hm1 : mMt (qset s 25 5 (q + 2)) att := fun j j0 j1 => by rw [hM1.1 39 (by decide)]; exact hm j j0 j1
    have hD1 : mDc (qset s 25 5 (q + 2)) B n c pl m dc := hD.fr (hM1.1 30 (by decide))
    obtain ⟨u, hu⟩ : ∃ u, qset s 25 5 (q + 2) = u := ⟨_, rfl⟩
    rw [hu] at hA1 hM1 hP1 hX1 hm1 hD1 ⊢
    rw [qRes_bd] at H
    refine m134 hA1 ⟨d1, fun y => absurd y (by decide), fun _ => m144 hP1 ⟨by omega, by omega⟩ ⟨bi_rg _, fun z => ?_, fun z => ?_⟩⟩
    · rw [bi_0, decide_eq_false_iff_not] at z
      rw [decide_eq_false (fun x => z ((mPg hP.1 (by decide)).mp x))] at H
      have hF := hA1.ft (e := q) (rn _ (by omega) q1) (by omega) (rn _ (by omega) h1)
      exact m133 hA1 (m166_77_d hS hF (H _ hF))
    rw [bi_n, decide_eq_true_iff] at z
    rw [decide_eq_true ((mPg hP.1 (by decide)).mpr z)] at H
    obtain ⟨kn, hkn⟩ : ∃ kn, kFind (mkP B c) pl nm = kn := ⟨_, rfl⟩
    have hkr := kFind_rg (mkP B c) pl nm
    have hkp := fun h => kFind_pl (π := mkP B c) (pl := pl) (nm := nm) h
    rw [hkn] at hkr hkp
    have H : qRes (bd (rCk (kFree att (kFind (mkP B c) pl nm)) q) fun _ => bd (rLen B n (q + 2)) fun len => bd (rBody (mkP B c) B n (kFind (mkP B c) pl nm) dc (q + 6) len) fun r => bd (rCk (decide (r = q + 6 + len)) (q + 2)) fun _ => rAt (mkP B c) B n pl dc d r (kSet att (kFind (mkP B c) pl nm) (q + 6))) _ _ := H
    rw [hkn, qRes_bd] at H
    -- behind the length: t, with kn's bit set
    have h273 : ∀ (r : Int) (s' : qS), mAt s0 r s' → 2 ≤ r → r ≤ n → mFX pl m s s' → mMt s' (kSet att kn (q + 6)) → mAX pl m s' B (kSet att kn (q + 6)) → qRes (rAt (mkP B c) B n pl dc d r (kSet att kn (q + 6))) (fun e => ∀ s', mFt s0 e s' → f N s') (fun r => ∀ s', mAt s0 r.1 s' → mFX pl m s s' → mMt s' r.2 → mAX pl m s' B r.2 → f N s') → qR w 7 qm166 273 [(0, .ref 25), (1, qI (pl - 1)), (2, qI m), (3, qI N), (4, qI (N - ((d + 1 : Nat) : Int)))] [] s' (qPI f g) := fun r s' a1 a2 a3 a4 a5 a6 H => by
      refine k166_273 ?_
      rw [show N - ((d + 1 : Nat) : Int) + 1 = N - (d : Int) by omega]
      exact ih r s' _ (by omega) a1 a2 a3 (a4.po hP) (hD.fr (a4.1 30 (by decide) (by decide) (fun _ => by decide) (fun _ => by decide))) a5 a6 (qRes_mono H (fun _ _ h => h) (fun r _ H s'' b1 b2' b3 b4 => H s'' b1 (a4.trans b2') b3 b4))
    have h159 : ∀ t : qS, mAt s0 (q + 2) t → mFX pl m s t → (∀ j, 0 ≤ j → j < 9 → t 39 j = bi (decide (0 ≤ kSet att kn (q + 6) (j + 1)))) → mAX pl m t B att → (∀ k, k ≠ 25 → k ≠ 39 → t k = s k) →
        qRes (bd (rLen B n (q + 2)) fun len => bd (rBody (mkP B c) B n kn dc (q + 6) len) fun r => bd (rCk (decide (r = q + 6 + len)) (q + 2)) fun _ => rAt (mkP B c) B n pl dc d r (kSet att kn (q + 6))) (fun e => ∀ s', mFt s0 e s' → f N s') (fun r => ∀ s', mAt s0 r.1 s' → mFX pl m s s' → mMt s' r.2 → mAX pl m s' B r.2 → f N s') →
        qR w 7 qm166 159 [(0, .ref 25), (1, qI (pl - 1)), (2, qI m), (3, qI N), (4, qI (N - ((d + 1 : Nat) : Int))), (7, qI (kn - 1))] [] t (qPI f g) := by
      intro t tA tF t39 tX tfr H
      unfold rLen at H
      rw [qRes_bd, qRes_bd] at H
      refine k166_159 (m130' hS tA (by omega) q1 (qRes_mono H (fun e he H v s' hv hF => m134_d hF ⟨d0, fun _ => m166_206_d hF (H s' hF), fun y => absurd rfl y⟩) (fun v hv H => ?_)))
      obtain ⟨q2, rfl⟩ := rU4_r hv
      rw [qRes_bd] at H
      obtain ⟨len, hlen⟩ : ∃ len, b4 B (q + 2) = len := ⟨_, rfl⟩
      have rlen : Rg len := by rw [← hlen]; exact b4_rg _ _
      rw [hlen] at H ⊢
      have tA2 := tA.mv (q + 2 + 4)
      have tM2 : mSm t (qset t 25 5 (q + 2 + 4)) := (mSm.rfl' t).mv _
      have e4 : qset t 25 5 (q + 2 + 4) 25 4 = n := tA2.1.2.2.2.2.2.1.trans hS.2.1
      unfold rBy at H
      have hF := tA2.ft (e := n) (rn _ (by omega) q2) (by omega) (rn _ (by omega) (by omega))
      have h197 : len < 0 ∨ n < q + 2 + 4 + len → qR w 7 qm166 197 [(0, .ref 25), (1, qI (pl - 1)), (2, qI m), (3, qI N), (4, qI (N - ((d + 1 : Nat) : Int))), (7, qI (kn - 1)), (8, qI (q + 2)), (9, qI len)] [] (qset t 25 5 (q + 2 + 4)) (qPI f g) := fun hh => by
        rw [if_pos hh] at H
        refine k166_197 ?_
        rw [e4]
        exact m133 tA2 (m166_206_d hF (H _ hF))
      refine m134 tA2 ⟨d1, fun y => absurd y (by decide), fun _ => ⟨rlen, fun y => ?_, fun y => ?_⟩⟩
      · rw [tA.2.1]; exact h197 (Or.inl y)
      rw [e4, tA2.2.1, tA.2.1]
      refine ⟨⟨by omega, by omega⟩, fun y2 => h197 (Or.inr (by omega)), fun y2 => k166_206 (m134 tA2 ⟨d1, fun y => absurd y (by decide), fun _ => ⟨⟨by omega, by omega⟩, fun y3 => ?_, fun y3 => ?_⟩⟩)⟩
      · have k0 : kn = 0 := by omega
        rw [if_neg (by omega)] at H
        have H : qRes (bd (rBody (mkP B c) B n kn dc (q + 6) len) fun r => bd (rCk (decide (r = q + 6 + len)) (q + 2)) fun _ => rAt (mkP B c) B n pl dc d r (kSet att kn (q + 6))) _ _ := H
        have hb : rBody (mkP B c) B n kn dc (q + 6) len = .inr (q + 6 + len) := by
          unfold rBody
          rw [if_neg (by omega), if_neg (by omega), if_neg (by omega), if_neg (by omega), if_neg (by omega), if_neg (by omega), if_neg (by omega), if_neg (by omega), if_neg (by omega)]
          unfold rBy
          rw [if_neg (by omega)]
          rfl
        rw [hb] at H
        have H : qRes (bd (rCk (decide (q + 6 + len = q + 6 + len)) (q + 2)) fun _ => rAt (mkP B c) B n pl dc d (q + 6 + len) (kSet att kn (q + 6))) _ _ := H
        rw [decide_eq_true rfl] at H
        rw [tA2.2.1]
        have tA3 := tA2.mv (q + 2 + 4 + len)
        have tM3 := tM2.mv (q + 2 + 4 + len)
        rw [show q + 2 + 4 = q + 6 by omega] at tA3 tM3 ⊢
        refine k166_247 (m134 tA3 ⟨d1, fun y => absurd y (by decide), fun _ => ?_⟩)
        rw [tA3.2.1]
        refine ⟨⟨by omega, by omega⟩, rlen, fun _ => h273 _ _ tA3 (by omega) (by omega) (tF.trans (tM3.fx pl m)) (fun j j0 j1 => by rw [tM3.1 39 (by decide)]; exact t39 j j0 j1) ?_ H, fun y => absurd (by omega) y⟩
        rw [k0, kSet_0]
        exact tX.fr (fun k a b => tM3.1 k (by omega))
      · rw [if_neg (by omega)] at H
        have H : qRes (bd (rBody (mkP B c) B n kn dc (q + 6) len) fun r => bd (rCk (decide (r = q + 6 + len)) (q + 2)) fun _ => rAt (mkP B c) B n pl dc d r (kSet att kn (q + 6))) _ _ := H
        rw [qRes_bd] at H
        have hk := hkp (by omega)
        rw [tA2.2.1]
        rw [show q + 2 + 4 = q + 6 by omega] at tA2 tM2 q2 ⊢
        refine m168 hS tA2 (by omega) q2 (tM2.po (tF.po hP)) (by omega) (hD.fr ((tM2.1 30 (by decide)).trans (tfr 30 (by decide) (by decide)))) (tX.fr (fun k a b => tM2.1 k (by omega))) (len := len) (qRes_mono H (fun e _ H s' hF => k166_247 (m134_d hF ⟨d0, fun _ => k166_273 (m166_29_d hF rm rm1 (H s' hF)), fun y => absurd rfl y⟩)) (fun r hr H s' a1 a2 a3 a4 => ?_))
        rw [qRes_bd] at H
        have aF : mFX pl m s s' := tF.trans ((tM2.fx pl m).trans a2)
        have aM : mMt s' (kSet att kn (q + 6)) := fun j j0 j1 => by rw [a4, tM2.1 39 (by decide)]; exact t39 j j0 j1
        have a11 := (aF.po hP).2.1
        refine k166_247 (m134 a1 ⟨d1, fun y => absurd y (by decide), fun _ => ?_⟩)
        rw [a1.2.1]
        have rr : 0 ≤ r ∧ r ≤ n := rBody_rg hr (by omega)
        refine ⟨⟨by omega, by omega⟩, rlen, fun y => ?_, fun y => ?_⟩
        · rw [decide_eq_true (by omega)] at H
          exact h273 r s' a1 (by omega) rr.2 aF aM a3 H
        · rw [decide_eq_false (by omega)] at H
          have hF := a1.ft (e := q + 2) (rn _ rr.1 rr.2) (by omega) (rn _ (by omega) q1)
          exact m133 a1 (k166_273 (m166_29_d hF rm rm1 (H _ hF)))
    refine k166_77 (m134 hA1 ⟨d1, fun y => absurd y (by decide), fun _ => m167 hP1 z hpl ?_⟩)
    rw [hkn]
    -- the bit is set
    have h151 : 1 ≤ kn → kFree att kn = true → qR w 7 qm166 151 [(0, .ref 25), (1, qI (pl - 1)), (2, qI m), (3, qI N), (4, qI (N - ((d + 1 : Nat) : Int))), (7, qI (kn - 1))] [] u (qPI f g) := fun hk1 hfree => by
      rw [hfree] at H
      refine k166_151 ⟨by omega, by omega, h159 _ (hA1.set (by omega) (fun y => absurd y (by decide)) (fun y => absurd y (by omega))) ((hM1.fx pl m).s39 _ _) (fun j j0 j1 => ?_) (hX1.fr (fun k a b => qset_cell _ (by omega))) (fun k k1 k2 => by rw [qset_cell _ k2]; exact hM1.1 k k1) H⟩
      rw [qset_same, kSet_at _ _ _ (by omega)]
      by_cases hj : j = kn - 1
      · rw [if_pos hj, if_pos (by omega), decide_eq_true (by omega)]; rfl
      · rw [if_neg hj, if_neg (by omega)]; exact hm1 j j0 j1
    have h144 : 1 ≤ kn → kFree att kn = false → qR w 7 qm166 144 [(0, .ref 25), (1, qI (pl - 1)), (2, qI m), (3, qI N), (4, qI (N - ((d + 1 : Nat) : Int))), (5, qI q), (7, qI (kn - 1))] [] u (qPI f g) := fun hk1 hfree => by
      rw [hfree] at H
      have hF := hA1.ft (e := q) (rn _ (by omega) q1) (by omega) (rn _ (by omega) h1)
      have hF2 := hF.set (k := 39) (j := kn - 1) (v := 1) (by omega) (fun y => absurd y (by decide)) (fun y => absurd y (by omega))
      exact k166_144 (m133 hA1 (k166_151 ⟨by omega, by omega, m166_159_d hS hF2 (H _ hF2)⟩))
    have ob : ∀ j : Int, 0 ≤ j → j < 9 → Rg (u 39 j) ∧ (u 39 j = 0 ↔ att (j + 1) < 0) := fun j j0 j1 => hm1.bit j0 j1
    refine k166_95 ⟨⟨by omega, by omega⟩, fun y => ?_, fun y => ⟨y, by omega, ?_⟩⟩
    · have k0 : kn = 0 := by omega
      have hfree : kFree att kn = true := by unfold kFree; rw [if_pos k0]
      rw [hfree] at H
      exact h159 u hA1 (hM1.fx pl m) (fun j j0 j1 => by rw [k0, kSet_0]; exact hm1 j j0 j1) hX1 (fun k k1 _ => hM1.1 k k1) H
    · obtain ⟨b1, b2'⟩ := ob (kn - 1) y (by omega)
      rw [show kn - 1 + 1 = kn by omega] at b2'
      refine ⟨b1, fun z0 => ?_, fun z0 => h144 (by omega) ?_⟩
      · have z1 := b2'.mp z0
        have h128 : (kn = 6 → att 7 < 0) → qR w 7 qm166 128 [(0, .ref 25), (1, qI (pl - 1)), (2, qI m), (3, qI N), (4, qI (N - ((d + 1 : Nat) : Int))), (5, qI q), (7, qI (kn - 1))] [] u (qPI f g) := fun h7 => by
          obtain ⟨c1, c2⟩ := ob 5 (by decide) (by decide)
          refine k166_128 ⟨⟨by omega, by omega⟩, fun x => ⟨c1, fun x2 => h151 (by omega) ?_, fun x2 => h144 (by omega) ?_⟩, fun x => h151 (by omega) ?_⟩
          · unfold kFree
            rw [if_neg (by omega), if_pos (by omega)]
            exact decide_eq_true ⟨c2.mp x2, by rw [show (7 : Int) = kn by omega]; exact z1⟩
          · unfold kFree
            rw [if_neg (by omega), if_pos (by omega)]
            exact decide_eq_false (fun w => x2 (c2.mpr w.1))
          · unfold kFree
            rw [if_neg (by omega)]
            by_cases k6 : kn = 6
            · rw [if_pos (Or.inl k6)]
              exact decide_eq_true ⟨by rw [← k6]; exact z1, h7 k6⟩
            · rw [if_neg (by omega)]
              exact decide_eq_true z1
        obtain ⟨c1, c2⟩ := ob 6 (by decide) (by decide)
        refine ⟨fun x => ⟨c1, fun x2 => h128 (fun _ => c2.mp x2), fun x2 => h144 (by omega) ?_⟩, fun x => h128 (fun k6 => absurd (by omega) x)⟩
        unfold kFree
        rw [if_neg (by omega), if_pos (by omega)]
        exact decide_eq_false (fun w => x2 (c2.mpr w.2))
      · unfold kFree
        rw [if_neg (by omega)]
        by_cases k67 : kn = 6 ∨ kn = 7
        · rw [if_pos k67]
          refine decide_eq_false (fun w => z0 (b2'.mpr ?_))
          rcases k67 with h | h
          · rw [h]; exact w.1
          · rw [h]; exact w.2
        · rw [if_neg k67]
          exact decide_eq_false (fun w => z0 (b2'.mpr w))
theorem m166_2 : ∀ (d : Nat) (s : qS) {v1 v2 : Int}, (d : Int) ≤ 9 → (∀ j : Int, 0 ≤ j → j < 9 - (d : Int) → s 39 j = 0) → (∀ s', (∀ k, k ≠ 39 → s' k = s k) → (∀ j, 0 ≤ j → j < 9 → s' 39 j = 0) → qW w 3 131 [.ref 25] s' (qPI (fun r1 s1 => qR w 7 qm166 29 [(0, .ref 25), (1, qI v1), (2, qI v2), (3, qI r1), (4, qI 0)] [] s1 (qPI f g)) g)) → qR w 7 qm166 2 [(0, .ref 25), (1, qI v1), (2, qI v2), (3, qI (9 - d))] [] s (qPI f g) := by
  intro d
  induction d with
  | zero =>
    intro s v1 v2 hd h H
    exact k166_2 ⟨⟨by omega, by omega⟩, fun y => absurd y (by omega), fun _ => H s (fun _ _ => rfl) (fun j j0 j1 => h j j0 (by omega))⟩
  | succ d ih =>
    intro s v1 v2 hd h H
    refine k166_2 ⟨⟨by omega, by omega⟩, fun _ => ⟨by omega, by omega, ?_⟩, fun y => absurd y (by omega)⟩
    rw [show 9 - ((d + 1 : Nat) : Int) + 1 = 9 - (d : Int) by omega]
    refine ih _ (by omega) (fun j j0 j1 => ?_) (fun s' a b => H s' (fun k hk => (a k hk).trans (qset_cell _ hk)) b)
    rw [qset_same]
    split
    · rfl
    · exact h j j0 (by omega)
theorem m166_d (hS : mS s0 B n) (hF : mFt s0 e s) {v1 v2 : Int} (H : ∀ s', mFt s0 e s' → f 0 s') : qW w 8 166 [.ref 25, qI v1, qI v2] s (qPI f g) := by
  refine k166 ?_
  have := m166_2 (w := w) (f := f) (g := g) 9 s (v1 := v1) (v2 := v2) (by decide) (fun j j0 j1 => absurd j1 (by omega)) (fun s' a b => ?_)
  · exact this
  · have hF' : mFt s0 e s' := by
      obtain ⟨⟨a1, a2, a3, a4, a5, a6, a7, a8, a9⟩, b1, b2'⟩ := hF
      have h25 := a 25 (by decide)
      refine ⟨⟨fun k hk => (a k (by omega)).trans (a1 k hk), (a 26 (by decide)).trans a2, (a 27 (by decide)).trans a3, (a 28 (by decide)).trans a4, ?_, ?_, ?_, ?_, ?_⟩, ?_, ?_⟩
      · rw [h25]; exact a5
      · rw [h25]; exact a6
      · rw [h25]; exact a7
      · rw [h25]; exact a8
      · rw [a 37 (by decide)]; exact a9
      · rw [h25]; exact b1
      · rw [h25]; exact b2'
    exact m131_d hS hF' (m166_29_d hF' d0 d0 (H s' hF'))
theorem m166 (hS : mS s0 B n) (hpl : pl = 1 ∨ pl = 2 ∨ pl = 3) (hA : mAt s0 p s) (h0 : 0 ≤ p) (h1 : p ≤ n) (hP : mPo s B n c) (hD : mDc s B n c pl m dc) (hX : mAX pl m s B att0)
    (H : qRes (rAtts (mkP B c) B n pl dc p) (fun e => ∀ v s', mFt s0 e s' → f v s') (fun r => ∀ s', mAt s0 r.1 s' → mFX pl m s s' → mMt s' r.2 → mAX pl m s' B r.2 → f (b2 B p) s')) : qW w 8 166 [.ref 25, qI (pl - 1), qI m] s (qPI f g) := by
  refine k166 ?_
  have := m166_2 (w := w) (f := f) (g := g) 9 s (v1 := pl - 1) (v2 := m) (by decide) (fun j j0 j1 => absurd j1 (by omega)) (fun s' a b => ?_)
  · exact this
  · have h25 := a 25 (by decide)
    have hA' : mAt s0 p s' := by
      obtain ⟨⟨a1, a2, a3, a4, a5, a6, a7, a8, a9⟩, b1, b2'⟩ := hA
      refine ⟨⟨fun k hk => (a k (by omega)).trans (a1 k hk), (a 26 (by decide)).trans a2, (a 27 (by decide)).trans a3, (a 28 (by decide)).trans a4, ?_, ?_, ?_, ?_, ?_⟩, ?_, ?_⟩
      · rw [h25]; exact a5
      · rw [h25]; exact a6
      · rw [h25]; exact a7
      · rw [h25]; exact a8
      · rw [a 37 (by decide)]; exact a9
      · rw [h25]; exact b1
      · rw [h25]; exact b2'
    have hF' : mFX pl m s s' := ⟨fun k _ k2 _ _ => a k k2, fun _ j _ => by rw [a 32 (by decide), a 33 (by decide), a 34 (by decide)]; exact ⟨rfl, rfl, rfl⟩, fun j _ _ => by rw [h25]⟩
    have hP' := hF'.po hP
    unfold rAtts at H
    rw [qRes_bd] at H
    refine m131' hS hA' h0 h1 (qRes_mono H (fun e _ H v s'' v0 v1 hF => m166_29_d hF ⟨by omega, by omega⟩ d0 (H v s'' hF)) (fun v hv H => ?_))
    obtain ⟨q1, rfl⟩ := rU2_r hv
    have r := b2_rg hS.1 h0 q1
    have hM : mSm s' (qset s' 25 5 (p + 2)) := (mSm.rfl' s').mv _
    have hF2 := hF'.trans (hM.fx pl m)
    have := m166_loop (w := w) (f := f) (g := g) (m := m) (dc := dc) (N := b2 B p) hS hpl r (b2 B p).toNat (p + 2) (qset s' 25 5 (p + 2)) att0 (by omega) (hA'.mv _) (by omega) q1 (hF2.po hP) (hD.fr (hF2.1 30 (by decide) (by decide) (fun _ => by decide) (fun _ => by decide))) (fun j j0 j1 => by rw [qset_cell _ (by decide), b j j0 j1]; rfl) (hX.fr (fun k k1 k2 => by rw [qset_cell _ (by omega)]; exact a k (by omega))) (qRes_mono H (fun e _ H s'' hF => H _ s'' hF) (fun r _ H s'' a1 a2 a3 a4 => H s'' a1 (hF2.trans a2) a3 a4))
    rw [show b2 B p - ((b2 B p).toNat : Int) = 0 by omega] at this
    exact this
end MF
