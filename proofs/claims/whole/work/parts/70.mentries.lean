/-! THE MODEL: an entry is good; a member is described -/
section MI
variable {w : qE} {s s0 : qS} {B : Int → Int} {n c i k : Int} {f : Int → qS → Prop} {fv : qS → Prop} {g : Nat → qS → Prop}
theorem mRg (hP : mPo s B n c) (i : Int) : Rg (pT (mkP B c) i) ∧ Rg (pF (mkP B c) i) ∧ Rg (pS (mkP B c) i) ∧ Rg (pO (mkP B c) i) := by
  have h := hP.1.ok.2.2.2.1 i
  exact ⟨⟨by omega, by omega⟩, h.2.2⟩
theorem m153_16 (hP : mPo s B n c) (hi : Rg i) (H : ∀ s', mSg s s' → f (bi (lNam (mkP B c) i 16)) s') : qW w 6 153 [.ref 25, qI i, qI 0] s (qPI f g) := by
  unfold lNam at H
  refine k153 (m139 hP hi ⟨(mRg hP i).1, fun y => m143 hP hi (by omega) (m144 hP (mRg hP i).2.2.1 ⟨bi_rg _, fun z => k153_53 (k153_54 ⟨Or.inl rfl, ?_⟩), fun z => ⟨⟨by decide, by decide⟩, fun _ => m147 hP ?_ ⟨bi_rg _, fun x => k153_53 (k153_54 ⟨Or.inl rfl, ?_⟩), fun x => k153_49 (k153_54 ⟨Or.inr rfl, ?_⟩)⟩, fun x => absurd rfl x⟩⟩), fun y => ?_⟩)
  · have := H s (mSg.rfl' s)
    rw [bi_0] at z
    rw [fit16, z, Bool.false_and, Bool.and_false] at this; exact this
  · rw [bi_n, decide_eq_true_iff] at z; exact z
  · have := H s (mSg.rfl' s)
    rw [bi_0] at x
    rw [fit16, x, Bool.and_false, Bool.and_false] at this; exact this
  · have := H s (mSg.rfl' s)
    rw [bi_n] at x z
    rw [fit16, x, z, decide_eq_true y] at this; exact this
  · have := H s (mSg.rfl' s)
    rw [decide_eq_false y, Bool.false_and] at this; exact this
theorem m153_32 (hP : mPo s B n c) (hi : Rg i) (H : ∀ s', mSg s s' → f (bi (lNam (mkP B c) i 32)) s') : qW w 6 153 [.ref 25, qI i, qI 1] s (qPI f g) := by
  unfold lNam at H
  refine k153 (m139 hP hi ⟨(mRg hP i).1, fun y => m143 hP hi (by omega) (m144 hP (mRg hP i).2.2.1 ⟨bi_rg _, fun z => k153_53 (k153_54 ⟨Or.inl rfl, ?_⟩), fun z => ⟨⟨by decide, by decide⟩, fun x => absurd x (by decide), fun _ => m152 hP ?_ (fun s' hM _ => ⟨bi_rg _, fun x => k153_53 (k153_54 ⟨Or.inl rfl, ?_⟩), fun x => k153_49 (k153_54 ⟨Or.inr rfl, ?_⟩)⟩)⟩⟩), fun y => ?_⟩)
  · have := H s (mSg.rfl' s)
    rw [bi_0] at z
    rw [fit32, z, Bool.false_and, Bool.and_false] at this; exact this
  · rw [bi_n, decide_eq_true_iff] at z; exact z
  · have := H s' hM
    rw [bi_0] at x
    rw [fit32, x, Bool.and_false, Bool.and_false] at this; exact this
  · have := H s' hM
    rw [bi_n] at x z
    rw [fit32, x, z, decide_eq_true y] at this; exact this
  · have := H s (mSg.rfl' s)
    rw [decide_eq_false y, Bool.false_and] at this; exact this
theorem gNK_131 (C : Int → Int) (N : Int) : decide (gNK C N = 131) = gIs C 0 N wClinit := by
  unfold gNK
  by_cases h1 : gIs C 0 N wInit = true
  · rw [if_pos h1]
    have : gIs C 0 N wClinit = false := by
      unfold gIs at h1 ⊢
      rw [Bool.and_eq_true, decide_eq_true_iff] at h1
      rw [decide_eq_false, Bool.false_and]
      have := h1.1
      have e1 : wInit.length = 6 := rfl
      have e2 : wClinit.length = 8 := rfl
      omega
    rw [this]
    rfl
  · rw [if_neg h1]
    by_cases h2 : gIs C 0 N wClinit = true
    · rw [if_pos h2, h2]; rfl
    · rw [if_neg h2]
      rw [Bool.not_eq_true] at h2
      rw [h2]
      split
      · split <;> rfl
      · rfl
theorem gNK_67 (C : Int → Int) (N : Int) : decide (gNK C N = 67) = gIs C 0 N wInit := by
  unfold gNK
  by_cases h1 : gIs C 0 N wInit = true
  · rw [if_pos h1, h1]; rfl
  · rw [if_neg h1]
    rw [Bool.not_eq_true] at h1
    rw [h1]
    split
    · rfl
    · split
      · split <;> rfl
      · rfl
theorem gNK_0 (C : Int → Int) (N : Int) : decide (gNK C N ≠ 0) = ((gPath C N.toNat 0 true && gNoSl C N.toNat 0) || decide (gNK C N = 3 ∨ gNK C N = 67 ∨ gNK C N = 131)) := by
  unfold gNK
  cases gIs C 0 N wInit <;> cases gIs C 0 N wClinit <;> cases (gPath C N.toNat 0 true && gNoSl C N.toNat 0) <;> cases gAng C N.toNat 0 <;> rfl
theorem m160 (hP : mPo s B n c) (hQ : pSound (mkP B c)) (hi : Rg i) (H : f (bi (pplain (mkP B c) i)) s) : qW w 4 160 [.ref 25, qI i] s (qPI f g) := by
  unfold pplain at H
  refine k160 (m139 hP hi ⟨(mRg hP i).1, fun y => m141 hP hi (by omega) ?_, fun y => k160_28 (k160_29 ⟨Or.inl rfl, ?_⟩)⟩)
  · have ht := (snd7 hQ y).2
    have hok := hP.1.ok.2.2.2.2 _ ht
    have hin : 0 ≤ i ∧ i < pE (mkP B c) := by
      have := (hP.1.on (pT_on (i := i) (by omega))).1
      exact ⟨by omega, this.2⟩
    unfold pg at H
    rw [decide_eq_true y, Bool.true_and, if_pos hin, fit4, decide_eq_true ht, Bool.true_and] at H
    refine m150_0 hP ht (by decide) (by omega) ?_
    unfold gTo0
    obtain ⟨N, hN⟩ : ∃ N, pN (mkP B c) (pF (mkP B c) i) = N := ⟨_, rfl⟩
    rw [hN, show N - 0 = N by omega]
    rw [hN] at H hok
    by_cases z : gPath (pC (mkP B c) (pF (mkP B c) i)) N.toNat 0 true = true
    · rw [if_pos z]
      rw [z] at H
      have : 0 < N := by
        rcases Int.lt_or_le 0 N with h | h
        · exact h
        · rw [show N.toNat = 0 by omega] at z
          unfold gPath at z
          exact absurd z (by decide)
      exact ⟨⟨by omega, by omega⟩, fun _ => k160_29 ⟨Or.inr rfl, H⟩, fun x => absurd x (by omega)⟩
    · rw [if_neg z]
      rw [Bool.not_eq_true] at z
      rw [z] at H
      exact ⟨⟨by decide, by decide⟩, fun x => absurd x (by decide), fun _ => k160_28 (k160_29 ⟨Or.inl rfl, H⟩)⟩
  · rw [decide_eq_false y, Bool.false_and] at H; exact H
theorem m140 (hP : mPo s B n c) (hi : Rg i) (H : ∀ s', mSg s s' → f (bi (lS (mkP B c) i)) s') : qW w 7 140 [.ref 25, qI i] s (qPI f g) := by
  have hT := hP.1.ok.2.2.2.1 i
  have hR := mRg hP i
  obtain ⟨π, hπ⟩ : ∃ π, mkP B c = π := ⟨_, rfl⟩
  have h37 : ∀ a b : Int, (6 < pT π i → a = pF π i ∧ b = pS π i) → qR w 6 qm140 37 [(0, .ref 25), (2, qI (pT π i)), (3, qI a)] [qI b] s (qPI f g) := by
    intro a b hab
    rw [hπ] at H hR hT
    have H0 := H s (mSg.rfl' s)
    have hRa : 6 < pT π i → Rg a ∧ Rg b := fun y => by
      obtain ⟨e1, e2⟩ := hab y
      rw [e1, e2]
      exact ⟨hR.2.1, hR.2.2.1⟩
    have b01 : ∀ b : Bool, (bi b = 0 ∨ bi b = 1) := bi_01
    refine k140_37 ⟨hR.1, fun t => ?_, fun t => ?_, fun t => ?_, fun t => ?_, fun t => ?_, fun t => ?_, fun t => ?_, fun t => ?_, fun t => ?_, fun t7 t8 t9 t10 t11 t12 t15 t16 t17 t18 => ?_⟩
    · obtain ⟨e1, -⟩ := hab (by omega)
      have e : lS π i = pfit π a 8 := by unfold lS; rw [if_pos t, e1]
      rw [e] at H0
      subst hπ
      refine m144 hP (hRa (by omega)).1 ⟨bi_rg _, fun z => k140_124 (k140_125 ⟨Or.inl rfl, ?_⟩), fun z => m145 hP ?_ ⟨bi_rg _, fun x => k140_124 (k140_125 ⟨Or.inl rfl, ?_⟩), fun x => k140_125 ⟨Or.inr rfl, ?_⟩⟩⟩
      · rw [bi_0] at z; rw [fit8, z] at H0; exact H0
      · rw [bi_n, decide_eq_true_iff] at z; exact z
      · rw [bi_0] at x; rw [x] at H0; exact H0
      · rw [bi_n] at x; rw [x] at H0; exact H0
    · obtain ⟨e1, -⟩ := hab (by omega)
      have e : lS π i = decide (pT π a = 1) := by unfold lS; rw [if_neg (by omega), if_pos t, e1]
      rw [e] at H0
      subst hπ
      exact m144 hP (hRa (by omega)).1 ⟨bi_01 _, H0⟩
    · obtain ⟨e1, e2⟩ := hab (by omega)
      have e : lS π i = (decide (pT π a = 7) && lNam π b 16) := by unfold lS; rw [if_neg (by omega), if_neg (by omega), if_pos t, e1, e2]
      rw [e] at H H0
      subst hπ
      refine m139 hP (hRa (by omega)).1 ⟨(mRg hP a).1, fun y => m153_16 hP (hRa (by omega)).2 (fun s' hM => ⟨bi_rg _, fun x => k140_178 (k140_179 ⟨Or.inl rfl, ?_⟩), fun x => k140_179 ⟨Or.inr rfl, ?_⟩⟩), fun y => k140_178 (k140_179 ⟨Or.inl rfl, ?_⟩)⟩
      · have := H s' hM; rw [bi_0] at x; rw [x, Bool.and_false] at this; exact this
      · have := H s' hM; rw [bi_n] at x; rw [x, decide_eq_true y] at this; exact this
      · rw [decide_eq_false y, Bool.false_and] at H0; exact H0
    · obtain ⟨e1, e2⟩ := hab (by omega)
      have e : lS π i = (decide (pT π a = 7) && lMN π b) := by unfold lS; rw [if_neg (by omega), if_neg (by omega), if_neg (by omega), if_pos t, e1, e2]
      rw [e] at H H0
      unfold lMN at H H0
      subst hπ
      refine m139 hP (hRa (by omega)).1 ⟨(mRg hP a).1, fun y => m153_32 hP (hRa (by omega)).2 (fun s' hM => ⟨bi_rg _, fun x => k140_245 (k140_246 ⟨Or.inl rfl, ?_⟩), fun x => ?_⟩), fun y => k140_245 (k140_246 ⟨Or.inl rfl, ?_⟩)⟩
      · have := H s' hM; rw [bi_0] at x; rw [x, Bool.false_and, Bool.and_false] at this; exact this
      · have H2 := H s' hM
        rw [bi_n] at x
        have hP2 := hM.po hP
        have hb := (hRa (by omega)).2
        obtain ⟨t12, -⟩ := lNam_T x
        have hF := (mRg hP b).2.1
        rw [x, decide_eq_true y, Bool.true_and, Bool.true_and, fit2, fit128] at H2
        refine m141 hP2 hb (by omega) (m144 hP2 hF ⟨bi_rg _, fun z => k140_245 (k140_246 ⟨Or.inl rfl, ?_⟩), fun z => m141 hP2 hb (by omega) ?_⟩)
        · rw [bi_0] at z
          rw [z] at H2; exact H2
        · rw [bi_n] at z
          have zt := of_decide_eq_true z
          rw [z, Bool.true_and, Bool.true_and, gNK_131] at H2
          refine m154 hP2 zt ⟨bi_rg _, fun u => k140_245 (k140_246 ⟨Or.inl rfl, ?_⟩), fun u => m141 hP2 hb (by omega) (m155 (t := 10) (by decide) hP2 zt ⟨bi_rg _, fun v => k140_246 ⟨Or.inr rfl, ?_⟩, fun v => k140_245 (k140_246 ⟨Or.inl rfl, ?_⟩)⟩)⟩
          · rw [bi_0] at u; rw [u] at H2; exact H2
          · rw [bi_n] at u; rw [bi_0] at v
            have v : gIs (pC (mkP B c) (pF (mkP B c) b)) 0 (pN (mkP B c) (pF (mkP B c) b)) wClinit = false := v
            rw [u, v] at H2; exact H2
          · rw [bi_n] at u v
            have v : gIs (pC (mkP B c) (pF (mkP B c) b)) 0 (pN (mkP B c) (pF (mkP B c) b)) wClinit = true := v
            rw [u, v] at H2; exact H2
      · rw [decide_eq_false y, Bool.false_and] at H0; exact H0
    · obtain ⟨e1, e2⟩ := hab (by omega)
      have e : lS π i = (pfit π a 3 && pfit π b 48) := by unfold lS; rw [if_neg (by omega), if_neg (by omega), if_neg (by omega), if_neg (by omega), if_pos t, e1, e2]
      rw [e, fit3, fit48, gNK_0] at H H0
      subst hπ
      have hRR := hRa (by omega)
      refine m144 hP hRR.1 ⟨bi_rg _, fun z => k140_302 (k140_303 ⟨Or.inl rfl, ?_⟩), fun z => m144 hP hRR.2 ⟨bi_rg _, fun y => k140_302 (k140_303 ⟨Or.inl rfl, ?_⟩), fun y => ?_⟩⟩
      · rw [bi_0] at z; rw [z] at H0; exact H0
      · rw [bi_0] at y; rw [y, Bool.false_and, Bool.and_false] at H0; exact H0
      · rw [bi_n] at z y
        have zt := of_decide_eq_true z
        have yt := of_decide_eq_true y
        rw [z, y, Bool.true_and, Bool.true_and] at H H0
        have h280 : ((gPath (pC (mkP B c) a) (pN (mkP B c) a).toNat 0 true && gNoSl (pC (mkP B c) a) (pN (mkP B c) a).toNat 0) || decide (gNK (pC (mkP B c) a) (pN (mkP B c) a) = 3 ∨ gNK (pC (mkP B c) a) (pN (mkP B c) a) = 67 ∨ gNK (pC (mkP B c) a) (pN (mkP B c) a) = 131)) = true → qR w 6 qm140 280 [(0, .ref 25), (4, qI b)] [] s (qPI f g) := by
          intro hx
          rw [hx, Bool.true_and] at H H0
          refine k140_280 (m147 hP yt ⟨bi_rg _, fun u => m152 hP yt (fun s' hM _ => ⟨bi_rg _, fun v => k140_302 (k140_303 ⟨Or.inl rfl, ?_⟩), fun v => k140_298 (k140_303 ⟨Or.inr rfl, ?_⟩)⟩), fun u => k140_298 (k140_303 ⟨Or.inr rfl, ?_⟩)⟩)
          · have := H s' hM; rw [bi_0] at u v; rw [u, v] at this; exact this
          · have := H s' hM; rw [bi_n] at v; rw [v, Bool.or_true] at this; exact this
          · rw [bi_n] at u; rw [u, Bool.true_or] at H0; exact H0
        refine m157 hP zt ⟨bi_rg _, fun u => m154 hP zt ⟨bi_rg _, fun v => k140_302 (k140_303 ⟨Or.inl rfl, ?_⟩), fun v => h280 ?_⟩, fun u => h280 ?_⟩
        · rw [bi_0] at u v; rw [u, v] at H0; exact H0
        · rw [bi_n] at v; rw [v, Bool.or_true]
        · rw [bi_n] at u; rw [u, Bool.true_or]
    · obtain ⟨e1, e2⟩ := hab (by omega)
      have e : lS π i = lHd a (pT π b) := by unfold lS; rw [if_neg (by omega), if_neg (by omega), if_neg (by omega), if_neg (by omega), if_neg (by omega), if_pos t, e1, e2]
      rw [e] at H0
      unfold lHd at H0
      subst hπ
      obtain ⟨hRa1, hRb⟩ := hRa (by omega)
      have hTb := (mRg hP b).1
      have yes : ((a = 1 ∨ a = 2 ∨ a = 3 ∨ a = 4) ∧ pT (mkP B c) b = 9) ∨ ((a = 5 ∨ a = 8) ∧ pT (mkP B c) b = 10) ∨ ((a = 6 ∨ a = 7) ∧ (pT (mkP B c) b = 10 ∨ pT (mkP B c) b = 11)) ∨ (a = 9 ∧ pT (mkP B c) b = 11) → qR w 6 qm140 395 [] [] s (qPI f g) := fun y => k140_395 (k140_400 ⟨Or.inr rfl, by rw [decide_eq_true y] at H0; exact H0⟩)
      have no : ¬ (((a = 1 ∨ a = 2 ∨ a = 3 ∨ a = 4) ∧ pT (mkP B c) b = 9) ∨ ((a = 5 ∨ a = 8) ∧ pT (mkP B c) b = 10) ∨ ((a = 6 ∨ a = 7) ∧ (pT (mkP B c) b = 10 ∨ pT (mkP B c) b = 11)) ∨ (a = 9 ∧ pT (mkP B c) b = 11)) → qR w 6 qm140 399 [] [] s (qPI f g) := fun y => k140_399 (k140_400 ⟨Or.inl rfl, by rw [decide_eq_false y] at H0; exact H0⟩)
      clear H0
      refine m139 hP hRb (m125 hRa1 ⟨by decide, by decide⟩ ⟨by decide, by decide⟩ ⟨bi_rg _, fun z => no ?_, fun z => ⟨hRa1, fun y => ⟨hTb, fun x => yes ?_, fun x => no ?_⟩, fun y => ⟨fun x => ⟨hTb, fun u => yes ?_, fun u => no ?_⟩, fun x => ⟨hTb, fun u => yes ?_, fun u => ⟨fun v => k140_388 ⟨hTb, fun o => yes ?_, fun o => no ?_⟩, fun v => ⟨fun v2 => k140_388 ⟨hTb, fun o => yes ?_, fun o => no ?_⟩, fun v2 => no ?_⟩⟩⟩⟩⟩⟩)
      · rw [bi_0, decide_eq_false_iff_not] at z; omega
      all_goals (rw [bi_n, decide_eq_true_iff] at z; omega)
    · obtain ⟨e1, -⟩ := hab (by omega)
      have e : lS π i = pfit π a 32 := by unfold lS; rw [if_neg (by omega), if_neg (by omega), if_neg (by omega), if_neg (by omega), if_neg (by omega), if_neg (by omega), if_pos t, e1]
      rw [e, fit32] at H H0
      subst hπ
      refine m144 hP (hRa (by omega)).1 ⟨bi_rg _, fun z => k140_152 (k140_153 ⟨Or.inl rfl, ?_⟩), fun z => m152 hP ?_ (fun s' hM _ => ⟨bi_rg _, fun x => k140_152 (k140_153 ⟨Or.inl rfl, ?_⟩), fun x => k140_153 ⟨Or.inr rfl, ?_⟩⟩)⟩
      · rw [bi_0] at z; rw [z] at H0; exact H0
      · rw [bi_n, decide_eq_true_iff] at z; exact z
      · have := H s' hM; rw [bi_0] at x; rw [x, Bool.and_false] at this; exact this
      · have := H s' hM; rw [bi_n] at x z; rw [x, z] at this; exact this
    · obtain ⟨-, e2⟩ := hab (by omega)
      have e : lS π i = lNam π b 16 := by unfold lS; rw [if_neg (by omega), if_neg (by omega), if_neg (by omega), if_neg (by omega), if_neg (by omega), if_neg (by omega), if_neg (by omega), if_pos t, e2]
      rw [e] at H
      subst hπ
      exact m153_16 hP (hRa (by omega)).2 (fun s' hM => ⟨bi_01 _, H s' hM⟩)
    · obtain ⟨-, e2⟩ := hab (by omega)
      have e : lS π i = lNam π b 32 := by unfold lS; rw [if_neg (by omega), if_neg (by omega), if_neg (by omega), if_neg (by omega), if_neg (by omega), if_neg (by omega), if_neg (by omega), if_neg (by omega), if_pos t, e2]
      rw [e] at H
      subst hπ
      exact m153_32 hP (hRa (by omega)).2 (fun s' hM => ⟨bi_01 _, H s' hM⟩)
    · have e : lS π i = true := by unfold lS; rw [if_neg (by omega), if_neg (by omega), if_neg (by omega), if_neg (by omega), if_neg (by omega), if_neg (by omega), if_neg (by omega), if_neg (by omega), if_neg (by omega)]
      rw [e] at H0
      exact H0
  refine k140 (m139 hP hi ?_)
  refine ⟨hR.1, fun y => m141 hP hi (by omega) (k140_21 ⟨hR.1, fun _ => m143 hP hi (by omega) ?_, fun z => absurd z (by omega)⟩), fun y => k140_21 ⟨hR.1, fun z => absurd z (by omega), fun _ => ?_⟩⟩
  · rw [hπ]; exact h37 _ _ (fun _ => ⟨rfl, rfl⟩)
  · rw [hπ] at y ⊢; exact h37 _ _ (fun z => absurd z (by omega))
end MI
