/-! THE MODEL's told -/
section MU
variable {w : qE} {s s0 : qS} {B : Int → Int} {n c i k a : Int} {r : qRes2} {f : Int → qS → Prop} {fv : qS → Prop} {g : Nat → qS → Prop}
theorem m184 (hP : mPo s B n c) (hS : pSound (mkP B c)) (hi : Rg i) (t7 : pT (mkP B c) i = 7) (ha : 0 ≤ a ∧ a + ((sCls (mkP B c) i).length : Int) ≤ 6000) (H : ∀ s', mSy s a (sCls (mkP B c) i) s' → f (a + ((sCls (mkP B c) i).length : Int)) s') : qW w 5 184 [.ref 25, qI a, qI i] s (qPI f g) := by
  obtain ⟨h8, ht⟩ := snd7 hS t7
  have hok := hP.1.ok.2.2.2.2 _ ht
  have hR := mRg hP i
  obtain ⟨x, hx⟩ : ∃ x, pF (mkP B c) i = x := ⟨_, rfl⟩
  unfold sCls at H ha
  rw [hx] at h8 ht hok hR H ha
  rw [fit8, decide_eq_true ht, Bool.true_and] at h8
  rw [fit4, decide_eq_true ht, Bool.true_and] at H ha
  have hr := mCh_rg (k := 0) hP.1 ht (by decide)
  refine k184 (m141 hP hi (by omega) ?_)
  rw [hx]
  refine m146 hP ht (by decide) d0 ⟨⟨by omega, by omega⟩, fun y => ?_, fun y => ?_⟩
  · have hN : 0 < pN (mkP B c) x := by
      rcases Int.lt_or_le 0 (pN (mkP B c) x) with h | h
      · exact h
      · rw [mCh_out h] at y; exact absurd y (by decide)
    rw [mCh_in hN] at y
    have gp : gPath (pC (mkP B c) x) (pN (mkP B c) x).toNat 0 true = false := by
      rw [show (pN (mkP B c) x).toNat = ((pN (mkP B c) x).toNat - 1) + 1 by omega]
      unfold gPath
      rw [if_pos (Or.inr (Or.inr (Or.inl y)))]
    rw [gp] at h8 H ha
    rw [if_neg (by decide)] at H ha
    rw [Bool.false_or, Bool.and_eq_true] at h8
    have hf := of_decide_eq_true h8.1
    exact m185 hP ht (by decide) (Or.inl (by omega)) ha (fun s' h' => k184_35 (H s' h'))
  · have gp : gPath (pC (mkP B c) x) (pN (mkP B c) x).toNat 0 true = true := by
      rw [Bool.or_eq_true, Bool.and_eq_true, decide_eq_true_iff, decide_eq_true_iff] at h8
      rcases h8 with h | ⟨h1, h2⟩
      · exact h
      · have := gField_rg (pC (mkP B c) x) (pN (mkP B c) x) 0
        rw [mCh_in (by omega)] at y
        exact absurd h2 y
    rw [gp, if_pos rfl] at H ha
    rw [sPth_len] at H ha
    exact m186 hP ht (Or.inl rfl) (pN (mkP B c) x).toNat (by decide) (by omega) (fun j j0 j1 => by have := hok.2.2.2 j j0 (by omega); omega) (Or.inl (by omega)) ha (fun s' h' => k184_35 (H s' h'))
theorem m189_82 {v7 D X : Int} (tX : pT (mkP B c) X = 1) (r7 : Rg v7) (tl : List Int) (hEnd : ∀ (u : qS) (b : Int), mPo u B n c → 0 ≤ b → b + (tl.length : Int) ≤ 6000 → (∀ s', mSy u b tl s' → f (b + (tl.length : Int)) s') → (v7 = 0 → f b u) ∧ (v7 ≠ 0 → qW w 5 190 [.ref 25, qI b, qI D] u (qPI (fun r9 s9 => qR w 5 qm189 133 [] [qI r9] s9 (qPI f g)) g))) : ∀ (d : Nat) (p b : Int) (u : qS), mPo u B n c → 0 ≤ p → p + d = pN (mkP B c) X → 0 ≤ b → b + (d : Int) + (tl.length : Int) ≤ 6000 → (∀ s', mSy u b (sChr (pC (mkP B c) X) d p ++ tl) s' → f (b + (d : Int) + (tl.length : Int)) s') → qR w 5 qm189 82 [(0, .ref 25), (4, qI X), (5, qI D), (6, qI b), (7, qI v7), (8, qI p)] [] u (qPI f g) := by
  intro d
  induction d with
  | zero =>
    intro p b u hPu h0 hd hb0 hb H
    have hok := hPu.1.ok.2.2.2.2 X tX
    refine k189_82 (m146 hPu tX h0 ⟨by omega, by omega⟩ ?_)
    rw [mCh_out (by omega)]
    have e : b + ((0 : Nat) : Int) + (tl.length : Int) = b + (tl.length : Int) := by omega
    rw [e] at H hb
    obtain ⟨x1, x2⟩ := hEnd u b hPu hb0 hb H
    exact ⟨⟨by decide, by decide⟩, fun _ => ⟨r7, fun z => k189_133 (x1 z), x2⟩, fun y => absurd y (by decide)⟩
  | succ d ih =>
    intro p b u hPu h0 hd hb0 hb H
    have hok := hPu.1.ok.2.2.2.2 X tX
    have hc := hok.2.2.2 p h0 (by omega)
    refine k189_82 (m146 hPu tX h0 ⟨by omega, by omega⟩ ?_)
    rw [mCh_in (by omega)]
    refine ⟨⟨by omega, by omega⟩, fun y => absurd y (by omega), fun _ => m146 hPu tX h0 ⟨by omega, by omega⟩ ?_⟩
    rw [mCh_in (by omega)]
    refine m187 ⟨hb0, by omega⟩ (fun u2 hu2 => ?_)
    refine ih (p + 1) (b + 1) u2 (hu2.po hPu) (by omega) (by omega) (by omega) (by omega) (fun s' h' => ?_)
    have := H s' (by
      rw [sChr]
      exact mSy.app (L1 := [_]) hu2 rfl h')
    rwa [show b + ((d + 1 : Nat) : Int) + (tl.length : Int) = b + 1 + (d : Int) + (tl.length : Int) by omega] at this
theorem m189 {o : Int} (hP : mPo s B n c) (hS : pSound (mkP B c)) (hi : Rg i) (ho : Rg o) (t : pT (mkP B c) i = 12) (to : o ≠ 0 → 0 < o ∧ pT (mkP B c) o = 7) (to0 : 0 ≤ o) (ha : 0 ≤ a ∧ a + ((sNam (mkP B c) i o).length : Int) ≤ 6000) (H : ∀ s', mSy s a (sNam (mkP B c) i o) s' → f (a + ((sNam (mkP B c) i o).length : Int)) s') : qW w 6 189 [.ref 25, qI a, qI i, qI o] s (qPI f g) := by
  obtain ⟨-, hd48, tX, tD⟩ := snd12 hS t
  have okX := hP.1.ok.2.2.2.2 _ tX
  have okD := hP.1.ok.2.2.2.2 _ tD
  have hR := mRg hP i
  refine k189 (m141 hP hi (by omega) (m143 hP hi (by omega) ?_))
  obtain ⟨X, hX⟩ : ∃ X, pF (mkP B c) i = X := ⟨_, rfl⟩
  obtain ⟨D, hD⟩ : ∃ D, pS (mkP B c) i = D := ⟨_, rfl⟩
  unfold sNam at H ha
  rw [hX, hD] at H ha ⊢
  rw [hX] at tX okX
  rw [hD] at tD okD hd48
  rw [fit48, decide_eq_true tD, Bool.true_and, Bool.or_eq_true, decide_eq_true_iff] at hd48
  rw [fit32, decide_eq_true tD, Bool.true_and] at H ha
  obtain ⟨M, hM⟩ : ∃ M, gMeth (pC (mkP B c) D) (pN (mkP B c) D) 0 = M := ⟨_, rfl⟩
  rw [hM] at H ha hd48
  obtain ⟨T, hT⟩ : ∃ T, (if M = true then sRes (pC (mkP B c) D) (pN (mkP B c) D) else sTyL (pC (mkP B c) D) (pN (mkP B c) D) 0) = T := ⟨_, rfl⟩
  obtain ⟨A, hA⟩ : ∃ A, (if M = true then sArgs (pC (mkP B c) D) (pN (mkP B c) D) else []) = A := ⟨_, rfl⟩
  obtain ⟨O, hO⟩ : ∃ O, (if o = 0 then [] else sCls (mkP B c) o ++ [46]) = O := ⟨_, rfl⟩
  rw [hT, hA, hO] at H ha
  rw [List.length_append, List.length_cons, List.length_append, List.length_append, sChr_len] at H ha
  have hnx : ((pN (mkP B c) X).toNat : Int) = pN (mkP B c) X := Int.toNat_of_nonneg okX.2.1
  -- the name and the arguments
  have h79 : ∀ (u : qS) (b : Int), mPo u B n c → 0 ≤ b → b + ((pN (mkP B c) X).toNat : Int) + (A.length : Int) ≤ 6000 → (∀ s', mSy u b (sChr (pC (mkP B c) X) (pN (mkP B c) X).toNat 0 ++ A) s' → f (b + ((pN (mkP B c) X).toNat : Int) + (A.length : Int)) s') → qR w 5 qm189 79 [(0, .ref 25), (4, qI X), (5, qI D), (6, qI b), (7, qI (bi M))] [] u (qPI f g) := by
    intro u b hPu hb0 hb H
    refine k189_79 (m189_82 tX (bi_rg _) A (fun u b hPu hb0 hb H => ⟨fun z => ?_, fun z => ?_⟩) (pN (mkP B c) X).toNat 0 b u hPu (by decide) (by omega) hb0 hb H)
    · rw [bi_0] at z
      rw [z, if_neg (by decide)] at hA
      rw [← hA] at H
      have := H u (mSy.nil _ _)
      rwa [show b + (([] : List Int).length : Int) = b by simp] at this
    · rw [bi_n] at z
      rw [z, if_pos rfl] at hA
      rw [← hA] at H hb
      exact m190 hPu tD (hM.trans z) ⟨hb0, hb⟩ (fun s' h' => k189_133 (H s' h'))
  -- the type is told
  have h41 : ∀ (u : qS) (K : Int), mPo u B n c → (∀ s', mSy u a [] s' → mSy s a [] s') → mSy s a [] u → 0 ≤ K → gTy (pC (mkP B c) D) (pN (mkP B c) D) K → T = sTyL (pC (mkP B c) D) (pN (mkP B c) D) K → qR w 5 qm189 41 [(0, .ref 25), (3, qI o), (4, qI X), (5, qI D), (7, qI (bi M))] [qI K, qI D, qI a, .ref 25] u (qPI f g) := by
    intro u K hPu _ hu hK hg e
    refine k189_41 (m185 hPu tD hK hg ⟨ha.1, by rw [← e]; omega⟩ (fun u1 h1 => ?_))
    rw [← e] at h1 ⊢
    have hP1 := h1.po hPu
    refine m187 ⟨by omega, by omega⟩ (fun u2 h2 => ⟨ho, fun z => ?_, fun z => ?_⟩)
    · obtain ⟨o1, o2⟩ := to (by omega)
      rw [if_neg (by omega)] at hO
      have hl : O.length = (sCls (mkP B c) o).length + 1 := by rw [← hO, List.length_append, List.length_singleton]
      have hP2 := h2.po hP1
      refine m184 hP2 hS ho o2 ⟨by omega, by omega⟩ (fun u3 h3 => m187 ⟨by omega, by omega⟩ (fun u4 h4 => ?_))
      refine h79 u4 _ (h4.po (h3.po hP2)) (by omega) (by omega) (fun s' h' => ?_)
      have := H s' (mSy.app (L1 := []) hu (by simp) (mSy.app h1 rfl (mSy.app (L1 := [32]) h2 rfl (by
        show mSy u2 _ (O ++ (sChr (pC (mkP B c) X) (pN (mkP B c) X).toNat 0 ++ A)) s'
        rw [← hO, List.append_assoc]
        exact mSy.app h3 rfl (mSy.app (L1 := [46]) h4 rfl h')))))
      rwa [show a + ((T.length + (O.length + ((pN (mkP B c) X).toNat + A.length) + 1) : Nat) : Int) = a + (T.length : Int) + 1 + ((sCls (mkP B c) o).length : Int) + 1 + ((pN (mkP B c) X).toNat : Int) + (A.length : Int) by omega] at this
    · rw [if_pos (by omega)] at hO
      have hl : O.length = 0 := by rw [← hO]; rfl
      refine h79 u2 _ (h2.po hP1) (by omega) (by omega) (fun s' h' => ?_)
      have := H s' (mSy.app (L1 := []) hu (by simp) (mSy.app h1 rfl (mSy.app (L1 := [32]) h2 rfl (by
        show mSy u2 _ (O ++ (sChr (pC (mkP B c) X) (pN (mkP B c) X).toNat 0 ++ A)) s'
        rw [← hO, List.nil_append]
        exact h'))))
      rwa [show a + ((T.length + (O.length + ((pN (mkP B c) X).toNat + A.length) + 1) : Nat) : Int) = a + (T.length : Int) + 1 + ((pN (mkP B c) X).toNat : Int) + (A.length : Int) by omega] at this
  refine m152 hP tD (fun u hg hsg => ?_)
  have hu := mSy.sg a hg
  rw [hM] at hsg ⊢
  refine ⟨bi_rg _, fun z => ?_, fun z => ?_⟩
  · rw [bi_0] at z
    have e := hT
    rw [z, if_neg (by decide)] at e
    have hf : gField (pC (mkP B c) D) (pN (mkP B c) D) 0 = pN (mkP B c) D := by
      rcases hd48 with h | h
      · exact h
      · rw [z] at h; exact absurd h (by decide)
    exact h41 u 0 (hu.po hP) (fun s' h' => mSy.app (L1 := []) hu (by simp) h') hu (by decide) (Or.inl (by omega)) e.symm
  · rw [bi_n] at z
    have e := hT
    rw [z, if_pos rfl] at e
    rw [(hsg z).1]
    obtain ⟨g1, g2, g3, g4, g5⟩ := gMeth_end okD.2.1 (by have := okD.2.2.1; omega) (hM.trans z)
    refine h41 u _ (hu.po hP) (fun s' h' => mSy.app (L1 := []) hu (by simp) h') hu (by omega) ?_ e.symm
    have hm := hM.trans z
    unfold gMeth at hm
    rw [show (0 : Int) + 1 = 1 by decide] at hm
    simp only [Bool.and_eq_true, Bool.or_eq_true, decide_eq_true_eq] at hm
    rcases hm.2.2.2 with h | h
    · rw [gIs86] at h
      exact Or.inr ⟨by omega, h.2⟩
    · exact Or.inl (by omega)
theorem m183 (hP : mPo s B n c) (hS : pSound (mkP B c)) (hi : Rg i) (h0 : 0 < pT (mkP B c) i) (H : ∀ s', mSy s 0 (tellL (mkP B c) i) s' → f ((tellL (mkP B c) i).length : Int) s') : qW w 7 183 [.ref 25, qI i] s (qPI f g) := by
  have hR := mRg hP i
  have hl := tell_len hP.1.ok hS i
  have e0 : ∀ L : List Int, (0 : Int) + (L.length : Int) = (L.length : Int) := fun L => by omega
  have hnil : tellL (mkP B c) i = [] → ∀ s', mSg s s' → f 0 s' := fun e s' h' => by
    rw [e] at H
    exact H s' (mSy.sg 0 h')
  refine k183 (m139 hP hi ⟨hR.1, fun c1 => ?_, fun c1 => ⟨fun c2 => ?_, fun c2 => m125 hR.1 ⟨by decide, by decide⟩ ⟨by decide, by decide⟩ ⟨bi_rg _, fun z => ⟨fun c3 => ?_, fun c3 => ?_⟩, fun z => ?_⟩⟩⟩)
  · have e : tellL (mkP B c) i = sCls (mkP B c) i := by unfold tellL; rw [if_pos c1]
    rw [e] at H hl
    exact m184 hP hS hi c1 ⟨by decide, by omega⟩ (fun s' h' => by rw [e0]; exact H s' h')
  · have e : tellL (mkP B c) i = sNam (mkP B c) i 0 := by unfold tellL; rw [if_neg (by omega), if_neg (by omega), if_pos c2]
    rw [e] at H hl
    exact m189 hP hS hi d0 c2 (fun y => absurd rfl y) (by decide) ⟨by decide, by omega⟩ (fun s' h' => by rw [e0]; exact H s' h')
  · rw [bi_0, decide_eq_false_iff_not] at z
    have e : tellL (mkP B c) i = sRes (pC (mkP B c) (pF (mkP B c) i)) (pN (mkP B c) (pF (mkP B c) i)) ++ sArgs (pC (mkP B c) (pF (mkP B c) i)) (pN (mkP B c) (pF (mkP B c) i)) := by unfold tellL; rw [if_neg (by omega), if_pos c3]
    have d := snd16 hS c3
    obtain ⟨-, -, hM, -⟩ := fit32_cl d.1
    have okD := hP.1.ok.2.2.2.2 _ d.2
    obtain ⟨g1, g2, g3, g4, g5⟩ := gMeth_end okD.2.1 (by have := okD.2.2.1; omega) hM
    rw [e] at H hl
    rw [List.length_append] at H hl
    have hm := hM
    unfold gMeth at hm
    rw [show (0 : Int) + 1 = 1 by decide] at hm
    simp only [Bool.and_eq_true, Bool.or_eq_true, decide_eq_true_eq] at hm
    refine m141 hP hi (by omega) (m152 hP d.2 (fun u hg hsg => ?_))
    rw [hM]
    have hu := mSy.sg 0 hg
    refine ⟨d1, fun y => absurd y (by decide), fun _ => ?_⟩
    rw [(hsg hM).1]
    refine m185 (hu.po hP) d.2 (by omega) ?_ ⟨by decide, ?_⟩ (fun u2 h2 => ?_)
    · rcases hm.2.2.2 with h | h
      · rw [gIs86] at h
        exact Or.inr ⟨by omega, h.2⟩
      · exact Or.inl (by omega)
    · unfold sRes at hl
      omega
    · refine m190 (h2.po (hu.po hP)) d.2 hM ⟨by omega, ?_⟩ (fun s' h' => ?_)
      · unfold sRes at hl
        omega
      · have := H s' (mSy.app (L1 := []) hu (by simp) (mSy.app h2 rfl h'))
        unfold sRes at this
        rwa [show (((sTyL (pC (mkP B c) (pF (mkP B c) i)) (pN (mkP B c) (pF (mkP B c) i)) (gCl (pC (mkP B c) (pF (mkP B c) i)) (pN (mkP B c) (pF (mkP B c) i)) 500 1 + 1)).length + (sArgs (pC (mkP B c) (pF (mkP B c) i)) (pN (mkP B c) (pF (mkP B c) i))).length : Nat) : Int) = 0 + ((sTyL (pC (mkP B c) (pF (mkP B c) i)) (pN (mkP B c) (pF (mkP B c) i)) (gCl (pC (mkP B c) (pF (mkP B c) i)) (pN (mkP B c) (pF (mkP B c) i)) 500 1 + 1)).length : Int) + ((sArgs (pC (mkP B c) (pF (mkP B c) i)) (pN (mkP B c) (pF (mkP B c) i))).length : Int) by omega] at this
  · rw [bi_0, decide_eq_false_iff_not] at z
    refine hnil ?_ s (mSg.rfl' s)
    unfold tellL
    rw [if_neg c1, if_neg c3, if_neg c2, if_neg (by omega)]
  · rw [bi_n, decide_eq_true_iff] at z
    have t9 : pT (mkP B c) i = 9 ∨ pT (mkP B c) i = 10 ∨ pT (mkP B c) i = 11 := by omega
    have e : tellL (mkP B c) i = sNam (mkP B c) (pS (mkP B c) i) (pF (mkP B c) i) := by unfold tellL; rw [if_neg (by omega), if_neg (by omega), if_neg (by omega), if_pos t9]
    rw [e] at H hl
    have d := snd9 hS t9
    have on := hP.1.on (pT_on (B := B) (c := c) (i := pF (mkP B c) i) (by omega))
    refine m141 hP hi (by omega) (m143 hP hi (by omega) ?_)
    exact m189 hP hS hR.2.2.1 hR.2.1 d.2 (fun _ => ⟨by omega, d.1⟩) (by omega) ⟨by decide, by omega⟩ (fun s' h' => by rw [e0]; exact H s' h')
theorem m182 (hi : Rg i) (hk : Rg k) (h : s 25 9 = 0 ∨ s 25 9 = 1) (H0 : s 25 9 = 0 → f 0 (qset s 25 7 1)) (hF : s 25 9 = 1 → mFin B n r s) (hQ : s 25 9 = 1 → pSound (mkP B r.1)) (H1 : s 25 9 = 1 → ∀ s', (∀ k, k ≠ 25 → k ≠ 40 → s' k = s k) → (∀ j, j ≠ 7 → j ≠ 27 → j ≠ 28 → s' 25 j = s 25 j) → s' 25 7 = 0 → f (aTold (mkP B r.1) i k) s') : qW w 8 182 [.ref 25, qI i, qI k] s (qPI f g) := by
  refine k182 (m177 h (fun y => ⟨d0, fun _ => H0 y, fun z => absurd rfl z⟩) (fun y => ⟨d1, fun z => absurd z (by decide), fun _ => ?_⟩))
  have hS := hQ y
  have hP : mPo (qset s 25 7 0) B n r.1 := mSet_po (hF y).1 _ (by decide) (fun _ => by decide)
  have H : ∀ s' L, mSy (qset s 25 7 0) 0 L s' → f (aTold (mkP B r.1) i k) s' := fun s' L h' => H1 y s' (fun k k1 k2 => by rw [h'.1 k k1 k2, qset_cell _ k1]) (fun j j7 a b => by rw [h'.2.1 j a b, qset_same, if_neg j7]) (by rw [h'.2.1 7 (by decide) (by decide), qset_same, if_pos rfl])
  obtain ⟨c, hc⟩ : ∃ c, r.1 = c := ⟨_, rfl⟩
  rw [hc] at H hP hS
  have hok := hP.1.ok
  have hT := hok.2.2.2.1 i
  have hR := mRg hP i
  have hl := tell_len hok hS i
  unfold aTold at H
  refine m139 hP hi ⟨hR.1, fun t => ?_, fun t => m183 hP hS hi (by omega) (fun s' h' => ?_)⟩
  · have := H _ [] (mSy.nil _ _)
    rw [if_pos t] at this; exact this
  · have H := H s' _ h'
    rw [if_neg t] at H
    refine ⟨hk, fun z => k182_57 ?_, fun z => m125 hk d0 ⟨by omega, by omega⟩ ⟨bi_rg _, fun zz => k182_57 ?_, fun zz => ?_⟩⟩
    · rw [if_pos z] at H; exact H
    · rw [bi_0, decide_eq_false_iff_not] at zz
      rw [if_neg z, if_neg (by omega)] at H; exact H
    · rw [bi_n, decide_eq_true_iff] at zz
      rw [if_neg z, if_pos (by omega)] at H
      refine ⟨by omega, by omega, k182_57 ?_⟩
      have := h'.2.2.2 k.toNat (by omega)
      rw [show (0 : Int) + ((k.toNat : Nat) : Int) = k by omega] at this
      rw [this]; exact H
end MU
