/-! THE MODEL reads all; read -/
def mFin (B : Int → Int) (n : Int) (r : qRes2) (s : qS) : Prop := mPo s B n r.1 ∧ mHd s B r.2.1 ∧ (mMem s 0 B r.2.2.2.1.2.1 r.2.2.2.1.2.2 (b2 B r.2.2.1) ∧ s 35 0 = b2 B r.2.2.1) ∧ (mMem s 80 B r.2.2.2.2.1.2.1 r.2.2.2.2.1.2.2 (b2 B r.2.2.2.1.1) ∧ s 35 1 = b2 B r.2.2.2.1.1) ∧ mAH s B r.2.2.2.2.2.2
theorem mMem.fr {s s' : qS} {first : Int} {B : Int → Int} {MP : Int → Int} {MA : Int → Int → Int} {k : Int} (h : mMem s first B MP MA k) (h1 : ∀ x, 30 ≤ x → x ≤ 34 → ∀ j, first ≤ j → j < first + k → s' x j = s x j) : mMem s' first B MP MA k := by
  intro j j0 j1
  have e : ∀ x, 30 ≤ x → x ≤ 34 → s' x (first + j) = s x (first + j) := fun x a b => h1 x a b _ (by omega) (by omega)
  unfold mAM
  rw [e 30 (by decide) (by decide), e 31 (by decide) (by decide), e 32 (by decide) (by decide), e 33 (by decide) (by decide), e 34 (by decide) (by decide)]
  exact h j j0 j1
theorem mHd.fr {s s' : qS} {B : Int → Int} {p : Int} (h : mHd s B p) (h1 : ∀ j, 12 ≤ j → j ≤ 16 → s' 25 j = s 25 j) : mHd s' B p := by
  unfold mHd
  rw [h1 12 (by decide) (by decide), h1 13 (by decide) (by decide), h1 14 (by decide) (by decide), h1 15 (by decide) (by decide), h1 16 (by decide) (by decide)]
  exact h
theorem mAH.fr {s s' : qS} {B att : Int → Int} (h : mAH s B att) (h1 : ∀ k, 36 ≤ k → k ≤ 38 → s' k = s k) : mAH s' B att := by
  refine ⟨fun kn a b => ?_, fun a k hk => ?_⟩
  · rw [h1 36 (by decide) (by decide), h1 37 (by decide) (by decide)]; exact h.1 kn a b
  · rw [h1 38 (by decide) (by decide)]; exact h.2 a k hk
theorem mFr.unk {s0 s : qS} (h : mFr s0 s) : mFr (qset s0 25 8 1) (qset s 25 8 1) := by
  obtain ⟨a1, a2, a3, a4, a5, a6, a7, a8, a9⟩ := h
  refine ⟨fun k hk => by rw [qset_cell _ (by omega), qset_cell _ (by omega)]; exact a1 k hk, ?_, ?_, ?_, ?_, ?_, ?_, ?_, ?_⟩
  · rw [qset_cell _ (by decide), qset_cell _ (by decide)]; exact a2
  · rw [qset_cell _ (by decide), qset_cell _ (by decide)]; exact a3
  · rw [qset_cell _ (by decide), qset_cell _ (by decide)]; exact a4
  · rw [qset_same, qset_same, if_neg (by decide), if_neg (by decide)]; exact a5
  · rw [qset_same, qset_same, if_neg (by decide), if_neg (by decide)]; exact a6
  · rw [qset_same, qset_same]; rfl
  · rw [qset_same, if_neg (by decide)]; exact a8
  · rw [qset_cell _ (by decide)]; exact a9
section MZ
variable {w : qE} {s s0 s1 : qS} {B P att : Int → Int} {n c i p e m pl dc q : Int} {f : Int → qS → Prop} {fv : qS → Prop} {g : Nat → qS → Prop}
theorem mS.unk (h : mS s0 B n) : mS (qset s0 25 8 1) B n := by
  obtain ⟨h1, h2, h3, h4⟩ := h
  refine ⟨h1, by rw [qset_same, if_neg (by decide)]; exact h2, fun i a b => by rw [qset_cell _ (by decide)]; exact h3 i a b, ?_⟩
  unfold mL
  rw [qset_cell _ (by decide)]
  exact h4
theorem mAt.unk (h : mAt s0 p s) : mAt (qset s0 25 8 1) p (qset s 25 8 1) := ⟨h.1.unk, by rw [qset_same, if_neg (by decide)]; exact h.2.1, by rw [qset_same, if_neg (by decide)]; exact h.2.2⟩
theorem m129_200_d (hF : mFt s0 e s) {v3 v4 : Int} (h4 : Rg v4) (H : fv s) : qR w 10 qm129 200 [(0, .ref 25), (3, qI v3), (4, qI v4)] [] s (qPV fv g) :=
  k129_200 ⟨h4, hF.1.2.2.2.2.2.2.2.1, fun _ => m134_d hF ⟨d0, fun _ => k129_266 H, fun y => absurd rfl y⟩, fun _ => k129_266 H⟩
theorem m129_175_d (hF : mFt s0 e s) (H : fv s) : qR w 10 qm129 175 [(0, .ref 25)] [] s (qPV fv g) :=
  k129_175 ⟨hF.1.2.2.2.2.2.2.2.2, fun _ => k129_196 (m129_200_d hF d1 H), fun _ => k129_196 (m129_200_d hF d1 H)⟩
theorem m129_148_d (hF : mFt s0 e s) (H : fv s) : qR w 10 qm129 148 [(0, .ref 25)] [] s (qPV fv g) := k129_148 (m134_d hF ⟨d0, fun _ => m129_175_d hF H, fun y => absurd rfl y⟩)
theorem m129_134_d (hF : mFt s0 e s) (H : fv s) : qR w 10 qm129 134 [(0, .ref 25)] [] s (qPV fv g) := k129_134 (m134_d hF ⟨d0, fun _ => m129_148_d hF H, fun y => absurd rfl y⟩)
theorem m129_122_d (hF : mFt s0 e s) (H : fv s) : qR w 10 qm129 122 [(0, .ref 25)] [] s (qPV fv g) := k129_122 (m134_d hF ⟨d0, fun _ => m129_134_d hF H, fun y => absurd rfl y⟩)
theorem m129_110_d (hF : mFt s0 e s) (H : fv s) : qR w 10 qm129 110 [(0, .ref 25)] [] s (qPV fv g) := k129_110 (m134_d hF ⟨d0, fun _ => m129_122_d hF H, fun y => absurd rfl y⟩)
theorem m129_99_d (hF : mFt s0 e s) (H : fv s) : qR w 10 qm129 99 [(0, .ref 25)] [] s (qPV fv g) := k129_99 (m134_d hF ⟨d0, fun _ => m129_110_d hF H, fun y => absurd rfl y⟩)
theorem m129_88_d (hF : mFt s0 e s) (H : fv s) : qR w 10 qm129 88 [(0, .ref 25)] [] s (qPV fv g) := k129_88 (m134_d hF ⟨d0, fun _ => m129_99_d hF H, fun y => absurd rfl y⟩)
theorem m129_77_d (hF : mFt s0 e s) (H : fv s) : qR w 10 qm129 77 [(0, .ref 25)] [] s (qPV fv g) := k129_77 (m134_d hF ⟨d0, fun _ => m129_88_d hF H, fun y => absurd rfl y⟩)
theorem m129_22_d (hS : mS s0 B n) (hF : mFt s0 e s) (H : fv s) : qR w 10 qm129 22 [(0, .ref 25)] [] s (qPV fv g) := k129_22 (m131_d hS hF (m131_d hS hF (m134_d hF ⟨d0, fun _ => m129_77_d hF H, fun y => absurd rfl y⟩)))
/-- the dynamic ones' bootstrap methods are there -/
theorem m129_200 (hS : mS s0 B n) {cnt : Int} (hc : Rg cnt) (hA : mAt s0 p s) (hp : 0 ≤ p ∧ p ≤ n) (hP : mPo s B n c) (H : qRes (rBo (mkP B c) cnt (c - 1).toNat 1) (fun e => ∀ s', mFt s0 e s' → fv s') (fun _ => fv s)) : qR w 10 qm129 200 [(0, .ref 25), (3, qI cnt), (4, qI 1)] [] s (qPV fv g) := by
  have h5 := hS.1.2.1
  have hcl := hP.1.lim
  have hc1 := hP.1.2.1
  have key : ∀ (d : Nat) (i : Int), 1 ≤ i → i + d = c → qRes (rBo (mkP B c) cnt d i) (fun e => ∀ s', mFt s0 e s' → fv s') (fun _ => fv s) → qR w 10 qm129 200 [(0, .ref 25), (3, qI cnt), (4, qI i)] [] s (qPV fv g) := by
    intro d
    induction d with
    | zero =>
      intro i h1 h2 H
      exact k129_200 ⟨⟨by omega, by omega⟩, by rw [hP.2.1]; exact ⟨by omega, by omega⟩, fun y => absurd y (by rw [hP.2.1]; omega), fun _ => k129_266 H⟩
    | succ d ih =>
      intro i h1 h2 H
      unfold rBo at H
      have hi : Rg i := ⟨by omega, by omega⟩
      have hR := mRg hP i
      have next : ¬ ((pT (mkP B c) i = 17 ∨ pT (mkP B c) i = 18) ∧ cnt ≤ pF (mkP B c) i) → qR w 10 qm129 260 [(0, .ref 25), (3, qI cnt), (4, qI i)] [] s (qPV fv g) := fun hh => by
        rw [if_neg hh] at H
        exact k129_260 (ih (i + 1) (by omega) (by omega) H)
      have h238 : (pT (mkP B c) i = 17 ∨ pT (mkP B c) i = 18) → qR w 10 qm129 238 [(0, .ref 25), (3, qI cnt), (4, qI i)] [] s (qPV fv g) := fun ht => by
        refine k129_238 (m141 hP hi (by omega) ⟨hR.2.1, hc, fun y => next (fun z => by omega), fun y => ⟨by omega, by omega, ?_⟩⟩)
        rw [if_pos ⟨ht, y⟩] at H
        obtain ⟨on1, on2, on3, on4, -, -⟩ := hP.1.on (pT_on (B := B) (c := c) (i := i) (by omega))
        have eO : pO (mkP B c) i = mkA B c i := by
          show xO c (mkA B c) i = _
          unfold xO
          rw [if_pos (pT_on (B := B) (c := c) (i := i) (by omega))]
        rw [hP.2.2.1 i h1 (by omega), ← eO]
        have hF := hA.ft (e := pO (mkP B c) i) ⟨by omega, by omega⟩ (by omega) ⟨by omega, by omega⟩
        exact m133 hA (k129_260 (m129_200_d hF ⟨by omega, by omega⟩ (H _ hF)))
      refine k129_200 ⟨hi, by rw [hP.2.1]; exact ⟨by omega, by omega⟩, fun _ => m134 hA ⟨d1, fun y => absurd y (by decide), fun _ => m139 hP hi ⟨hR.1, fun y => h238 (Or.inl y), fun y => m139 hP hi ⟨hR.1, fun y2 => h238 (Or.inr y2), fun y2 => next (fun z => by omega)⟩⟩⟩, fun y => absurd y (by rw [hP.2.1]; omega)⟩
  exact key (c - 1).toNat 1 (by decide) (by omega) H
theorem m129 (hS : mS s B n) (hA : mAt s 0 s) (h37 : ∀ j, 0 ≤ j → j < 9 → s 37 j = -1) (H : qRes (rVer B n) (fun e => ∀ s', mFt s e s' → fv s') (fun _ => if okVer (b2 B 4) (b2 B 6) = true then qRes (rRest B n) (fun e => ∀ s', mFt s e s' → fv s') (fun r => ∀ s', mAt s n s' → mFin B n r s' → fv s') else ∀ s', mFt (qset s 25 8 1) 4 s' → fv s')) : qW w 11 129 [.ref 25] s (qPV fv g) := by
  have h5 := hS.1.2.1
  have rn : ∀ q : Int, 0 ≤ q → q ≤ n → Rg q := fun q q0 q1 => ⟨by omega, by omega⟩
  unfold rVer at H
  rw [qRes_bd] at H
  refine k129 (m130' hS hA (by decide) hS.1.1 (qRes_mono H (fun e he H v s' hv hF => ⟨hv, fun _ => m129_22_d hS hF (H _ hF), fun _ => m134_d hF ⟨d0, fun _ => m129_22_d hS hF (H _ hF), fun y => absurd rfl y⟩⟩) (fun v hv H => ?_)))
  obtain ⟨q1, rfl⟩ := rU4_r hv
  have hA1 := hA.mv (0 + 4)
  rw [qRes_bd] at H
  refine ⟨b4_rg _ _, fun y => ?_, fun y => m134 hA1 ⟨d1, fun z => absurd z (by decide), fun _ => ?_⟩⟩
  rotate_left
  · rw [decide_eq_false y] at H
    have hF := hA1.ft (e := 0) ⟨by decide, by decide⟩ (by decide) d0
    exact m133 hA1 (m129_22_d hS hF (H _ hF))
  rw [decide_eq_true y] at H
  have H : qRes (bd (rU2 B n 4) _) _ _ := H
  rw [qRes_bd] at H
  rw [show (0 : Int) + 4 = 4 by decide] at hA1 q1 ⊢
  refine k129_22 (m131' hS hA1 (by decide) q1 (qRes_mono H (fun e he H v s' _ _ hF => m131_d hS hF (m134_d hF ⟨d0, fun _ => m129_77_d hF (H _ hF), fun y => absurd rfl y⟩)) (fun mi hmi H => ?_)))
  obtain ⟨q2, rfl⟩ := rU2_r hmi
  have rmi := b2_rg hS.1 (p := 4) (by decide) q2
  have hA2 := hA1.mv (4 + 2)
  rw [show (4 : Int) + 2 = 6 by decide] at hA2 q2 ⊢
  rw [qRes_bd] at H
  refine m131' hS hA2 (by decide) q2 (qRes_mono H (fun e he H v s' _ _ hF => m134_d hF ⟨d0, fun _ => m129_77_d hF (H _ hF), fun y => absurd rfl y⟩) (fun ma hma H => ?_))
  obtain ⟨q3, rfl⟩ := rU2_r hma
  have rma := b2_rg hS.1 (p := 6) (by decide) q3
  have hA3 := hA2.mv (6 + 2)
  rw [show (6 : Int) + 2 = 8 by decide] at hA3 q3 ⊢
  have H : if okVer (b2 B 4) (b2 B 6) = true then qRes (rRest B n) (fun e => ∀ s', mFt s e s' → fv s') (fun r => ∀ s', mAt s n s' → mFin B n r s' → fv s') else ∀ s', mFt (qset s 25 8 1) 4 s' → fv s' := H
  obtain ⟨u, hu⟩ : ∃ u, qset (qset (qset s 25 5 4) 25 5 6) 25 5 8 = u := ⟨_, rfl⟩
  have uM : mSm s u := by rw [← hu]; exact (((mSm.rfl' s).mv _).mv _).mv _
  rw [hu] at hA3 ⊢
  have h66 : okVer (b2 B 4) (b2 B 6) = false → qR w 10 qm129 66 [(0, .ref 25)] [] u (qPV fv g) := fun z => by
    rw [z, if_neg (by decide)] at H
    have hA4 := hA3.unk
    have hF := hA4.ft (e := 4) (rn _ (by decide) q3) (by decide) ⟨by decide, by decide⟩
    exact k129_66 (m133 hA4 (m129_77_d hF (H _ hF)))
  have h77 : okVer (b2 B 4) (b2 B 6) = true → qR w 10 qm129 77 [(0, .ref 25)] [] u (qPV fv g) := fun z => by
    rw [z, if_pos rfl] at H
    unfold rRest at H
    rw [qRes_bd] at H
    refine k129_77 (m134 hA3 ⟨d1, fun y => absurd y (by decide), fun _ => m135 hS hA3 q3 (qRes_mono H (fun e _ H s' hF => m129_88_d hF (H _ hF)) (fun E hE H sA aA pA fA => ?_))⟩)
    obtain ⟨eE1, eE2, eE3, -, -⟩ := rEnts_rg hS.1 hE
    rw [qRes_bd] at H
    refine k129_88 (m134 aA ⟨d1, fun y => absurd y (by decide), fun _ => m138 hS aA ⟨by omega, eE2⟩ pA (qRes_mono H (fun e _ H s' hF => m129_99_d hF (H _ hF)) (fun z1 hz1 H sB gB => ?_))⟩)
    have hQ : pSound (mkP B E.1) := rLk_sound pA.1.ok (by cases z1; exact hz1)
    have aB := aA.sg gB
    have pB := gB.po pA
    rw [qRes_bd] at H
    refine k129_99 (m134 aB ⟨d1, fun y => absurd y (by decide), fun _ => m158 hS aB (by omega) eE2 pB hQ (qRes_mono H (fun e _ H s' hF => m129_110_d hF (H _ hF)) (fun h hh H sC aC dC fC eC => ?_))⟩)
    have hrh := rHead_rg hh
    have pC : mPo sC B n E.1 := pB.fr eC (fC 26 (by decide)) (fC 28 (by decide)) (fC 29 (by decide))
    rw [qRes_bd] at H
    refine k129_110 (m134 aC ⟨d1, fun y => absurd y (by decide), fun _ => ?_⟩)
    have hD := m161 (w := w) (g := g) (me := false) (fv := fun s16 => qR w 10 qm129 122 [(0, .ref 25)] [] s16 (qPV fv g)) hS aC (by omega) hrh.2 pC (qRes_mono H (fun e _ H s' hF => m129_122_d hF (H _ hF)) (fun F hF H sD aD nD mD d35 o35 => ?_))
    · exact hD
    have fF := rMbs_fin hS.1 (by omega) hF
    have pD := nD.po pC
    rw [qRes_bd] at H
    refine k129_122 (m134 aD ⟨d1, fun y => absurd y (by decide), fun _ => ?_⟩)
    have hE' := m161 (w := w) (g := g) (me := true) (fv := fun s16 => qR w 10 qm129 134 [(0, .ref 25)] [] s16 (qPV fv g)) hS aD (by omega) fF.2.1 pD (qRes_mono H (fun e _ H s' hF => m129_134_d hF (H _ hF)) (fun M hM H sE aE nE mE e35 p35 => ?_))
    · exact hE'
    have fM := rMbs_fin hS.1 (by omega) hM
    have pE' := nE.po pD
    rw [qRes_bd] at H
    have e37 : sE 37 = s 37 := by
      rw [nE.1 37 (by decide) (by decide) (by decide), nD.1 37 (by decide) (by decide) (by decide), fC 37 (by decide), gB.1 37 (by decide), fA 37 (by decide) (by decide), uM.1 37 (by decide)]
    have xE : mAX 3 0 sE B att0 := by
      refine ⟨fun _ => ⟨fun kn a b => ⟨?_, fun y => absurd (show (0 : Int) ≤ -1 from y) (by decide)⟩, fun y => absurd y (by decide)⟩, fun y => absurd rfl y⟩
      rw [e37, h37 _ (by omega) (by omega)]
      rfl
    refine k129_134 (m134 aE ⟨d1, fun y => absurd y (by decide), fun _ => ?_⟩)
    have hG := m166 (w := w) (g := g) (pl := 3) (m := 0) (dc := -2) (f := fun _ s20 => qR w 10 qm129 148 [(0, .ref 25)] [] s20 (qPV fv g)) hS (Or.inr (Or.inr rfl)) aE (by omega) fM.2.1 pE' ⟨fun y => absurd rfl y, fun y => absurd y (by decide)⟩ xE (qRes_mono H (fun e _ H v s' hF => m129_148_d hF (H _ hF)) (fun A hA' H sF aF xF _ aX => ?_))
    · exact hG
    have fA' := rAtts_inv (by omega) hA'
    have pF' := xF.po pE'
    have e4 : sF 25 4 = n := aF.1.2.2.2.2.2.1.trans hS.2.1
    rw [qRes_bd] at H
    refine k129_148 (m134 aF ⟨d1, fun y => absurd y (by decide), fun _ => ?_⟩)
    rw [aF.2.1, e4]
    refine ⟨⟨by omega, by omega⟩, ⟨by omega, by omega⟩, fun y => ?_, fun y => ?_⟩
    · rw [decide_eq_false (by omega)] at H
      have hF := aF.ft (e := A.1) (rn _ (by omega) fA'.2.2) (by omega) (rn _ (by omega) fA'.2.2)
      exact m133 aF (m129_175_d hF (H _ hF))
    · rw [decide_eq_true (by omega)] at H
      have H : qRes (bd (rBo (mkP B E.1) (vBoots B A.2) (E.1 - 1).toNat 1) _) _ _ := H
      rw [qRes_bd] at H
      have hH := aX.1 rfl
      have h378 := (hH.1 9 (by decide) (by decide)).1
      rw [show (9 : Int) - 1 = 8 by decide] at h378
      have hAn : A.1 = n := by omega
      have hW := (rAtts_W hS.1 (by omega) hA').2.2.2.2
      have rB : Rg (vBoots B A.2) ∧ (vBoots B A.2 = if sF 37 8 < 0 then 0 else sF 37 8) ∧ Rg (sF 37 8) := by
        rw [h378]
        unfold vBoots mCt
        by_cases h9 : 0 ≤ A.2 9
        · have hok := (fA'.1.2.2.2 9).resolve_left (by omega)
          have r9 := b2_rg hS.1 (p := A.2 9) (by omega) hok.2
          rw [if_pos h9, if_neg (show ¬ A.2 9 < 0 by omega), if_neg (show ¬ ((9 : Int) = 5 ∨ (9 : Int) = 6) by decide), if_neg (show ¬ b2 B (A.2 9) < 0 by omega)]
          exact ⟨⟨by omega, by omega⟩, rfl, ⟨by omega, by omega⟩⟩
        · rw [if_neg h9, if_pos (show A.2 9 < 0 by omega)]
          exact ⟨d0, rfl, ⟨by decide, by decide⟩⟩
      have last := m129_200 (w := w) (g := g) (fv := fv) hS rB.1 aF ⟨by omega, fA'.2.2⟩ pF' (qRes_mono H (fun _ _ h => h) (fun _ _ H => by
        have H : ∀ s', mAt s n s' → mFin B n (E.1, E.2, h, F, M, A) s' → fv s' := H
        refine H sF (by rw [← hAn]; exact aF) ⟨pF', ?_, ⟨?_, ?_⟩, ⟨?_, ?_⟩, hH⟩
        · exact dC.fr (fun j j1 j2 => by rw [xF.2.2 j (by omega) (by omega), nE.2.2 j (by omega) (by omega) (by omega) (by omega), nD.2.2 j (by omega) (by omega) (by omega) (by omega)])
        · refine mD.fr (fun x a b j j0 j1 => ?_)
          have hb : b2 B h ≤ 61 := by have := fF.1; have := fF.2.1; omega
          have j0 : (0 : Int) ≤ j := j0
          have j1 : j < 0 + b2 B h := j1
          rw [xF.1 x (by omega) (by omega) (fun _ => by omega) (fun y => absurd rfl y), nE.2.1 x a b j (Or.inl (by show j < 80; omega))]
        · rw [xF.1 35 (by decide) (by decide) (fun _ => by decide) (fun y => absurd rfl y), p35 0 (by decide)]
          exact d35
        · refine mE.fr (fun x a b j j0 j1 => ?_)
          rw [xF.1 x (by omega) (by omega) (fun _ => by omega) (fun y => absurd rfl y)]
        · rw [xF.1 35 (by decide) (by decide) (fun _ => by decide) (fun y => absurd rfl y)]
          exact e35))
      refine k129_175 ⟨rB.2.2, fun y2 => k129_196 ?_, fun y2 => k129_196 ?_⟩
      · rw [rB.2.1, if_pos y2] at last; exact last
      · rw [rB.2.1, if_neg (by omega)] at last; exact last
  refine m134 hA3 ⟨d1, fun y => absurd y (by decide), fun _ => m125 ⟨by omega, by omega⟩ ⟨by decide, by decide⟩ ⟨by decide, by decide⟩ ⟨bi_rg _, fun z => h66 ?_, fun z => ⟨⟨by omega, by omega⟩, fun z2 => ⟨⟨by omega, by omega⟩, fun z3 => h77 ?_, fun z3 => ⟨fun z4 => h77 ?_, fun z4 => h66 ?_⟩⟩, fun z2 => h77 ?_⟩⟩⟩
  · rw [bi_0, decide_eq_false_iff_not] at z; exact decide_eq_false (by omega)
  all_goals rw [bi_n, decide_eq_true_iff] at z
  · exact decide_eq_true (by omega)
  · exact decide_eq_true (by omega)
  · exact decide_eq_false (by omega)
  · exact decide_eq_true (by omega)
end MZ
