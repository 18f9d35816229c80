/-! THE MODEL's words: what told puts together -/
def mSy (s : qS) (a : Int) (L : List Int) (s' : qS) : Prop := (∀ k, k ≠ 25 → k ≠ 40 → s' k = s k) ∧ (∀ j, j ≠ 27 → j ≠ 28 → s' 25 j = s 25 j) ∧ (∀ j, j < a → s' 40 j = s 40 j) ∧ ∀ k : Nat, k < L.length → s' 40 (a + k) = L.getD k 0
theorem mSy.nil (s : qS) (a : Int) : mSy s a [] s := ⟨fun _ _ _ => rfl, fun _ _ _ => rfl, fun _ _ => rfl, fun k hk => absurd hk (Nat.not_lt_zero k)⟩
theorem mSy.sg {s s' : qS} (a : Int) (h : mSg s s') : mSy s a [] s' := ⟨fun k h1 _ => h.1 k h1, h.2, fun j _ => by rw [h.1 40 (by decide)], fun k hk => absurd hk (Nat.not_lt_zero k)⟩
theorem mSy.app {s s1 s2 : qS} {a a1 : Int} {L1 L2 : List Int} (h1 : mSy s a L1 s1) (hn : a1 = a + L1.length) (h2 : mSy s1 a1 L2 s2) : mSy s a (L1 ++ L2) s2 := by
  subst hn
  obtain ⟨p1, p2, p3, p4⟩ := h1
  obtain ⟨q1, q2, q3, q4⟩ := h2
  refine ⟨fun k x y => (q1 k x y).trans (p1 k x y), fun j x y => (q2 j x y).trans (p2 j x y), fun j hj => (q3 j (by omega)).trans (p3 j hj), fun k hk => ?_⟩
  rw [List.getD_eq_getElem?_getD]
  by_cases c : k < L1.length
  · rw [List.getElem?_append_left c, ← List.getD_eq_getElem?_getD, q3 _ (by omega)]
    exact p4 k c
  · rw [List.getElem?_append_right (by omega), ← List.getD_eq_getElem?_getD, ← q4 (k - L1.length) (by rw [List.length_append] at hk; omega)]
    rw [show a + (L1.length : Int) + ((k - L1.length : Nat) : Int) = a + (k : Int) by omega]
theorem mSy.po {s s' : qS} {a : Int} {L : List Int} {B : Int → Int} {n c : Int} (h : mSy s a L s') (hP : mPo s B n c) : mPo s' B n c := hP.fr (h.2.1 11 (by decide) (by decide)) (h.1 26 (by decide) (by decide)) (h.1 28 (by decide) (by decide)) (h.1 29 (by decide) (by decide))
def sWd (t : Nat) : List Int := (wM t).map (fun x : Nat => (x : Int))
theorem sWd_len (t : Nat) : (sWd t).length = (wM t).length := by unfold sWd; rw [List.length_map]
theorem gSemi_be {C : Int → Int} : ∀ (d : Nat) (k j : Int), k ≤ j → j < gSemi C d k → C j ≠ 59 := by
  intro d
  induction d with
  | zero => intro k j h1 h2; unfold gSemi at h2; omega
  | succ d ih =>
    intro k j h1 h2
    unfold gSemi at h2
    split at h2
    · omega
    · next h3 =>
      by_cases e : j = k
      · rw [e]; exact h3
      · exact ih (k + 1) j (by omega) h2
theorem gBr_be {C : Int → Int} : ∀ (d : Nat) (k j : Int), k ≤ j → j < gBr C d k → C j = 91 := by
  intro d
  induction d with
  | zero => intro k j h1 h2; unfold gBr at h2; omega
  | succ d ih =>
    intro k j h1 h2
    unfold gBr at h2
    split at h2
    · next h3 =>
      by_cases e : j = k
      · rw [e]; exact h3
      · exact ih (k + 1) j (by omega) h2
    · omega
theorem gBr_cut {C : Int → Int} : ∀ (d d' : Nat) (k : Int), gBr C d k < k + d' → d' ≤ d → gBr C d' k = gBr C d k := by
  intro d
  induction d with
  | zero => intro d' k h1 h2; have : d' = 0 := by omega
            rw [this]
  | succ d ih =>
    intro d' k h1 h2
    cases d' with
    | zero => have := (gBr_rg C (d + 1) k).1; omega
    | succ d' =>
      unfold gBr at h1 ⊢
      split
      · next h3 =>
        rw [if_pos h3] at h1
        exact ih d' (k + 1) (by omega) (by omega)
      · rfl
theorem gSemi_cut {C : Int → Int} : ∀ (d d' : Nat) (k : Int), gSemi C d k < k + d' → d' ≤ d → gSemi C d' k = gSemi C d k := by
  intro d
  induction d with
  | zero => intro d' k h1 h2; have : d' = 0 := by omega
            rw [this]
  | succ d ih =>
    intro d' k h1 h2
    cases d' with
    | zero => have := (gSemi_rg C (d + 1) k).1; omega
    | succ d' =>
      unfold gSemi at h1 ⊢
      split
      · rfl
      · next h3 =>
        rw [if_neg h3] at h1
        exact ih d' (k + 1) (by omega) (by omega)
theorem gBr_id {C : Int → Int} {q : Int} (h : C q ≠ 91) (d : Nat) : gBr C d q = q := by
  cases d with
  | zero => rfl
  | succ d => unfold gBr; rw [if_neg h]
theorem gField_id {C : Int → Int} {N q : Int} (h : C q ≠ 91) : gField C N q = gFld C N q := by
  unfold gField
  rw [gBr_id h]
def gTy (C : Int → Int) (N k : Int) : Prop := gField C N k ≠ -1 ∨ (k < N ∧ C k = 86)
theorem gTy_q {C : Int → Int} {N k q : Int} (hq : gBr C (N - k).toNat k = q) (h : gTy C N k) : q < N ∧ ((C q = 76 ∧ gObj C N q ≠ -1) ∨ gBas (C q) = true ∨ C q = 86) := by
  rcases h with h | ⟨h1, h2⟩
  · unfold gField at h
    rw [hq] at h
    unfold gFld at h
    split at h
    · exact absurd rfl h
    · next h1 =>
      refine ⟨by omega, ?_⟩
      split at h
      · next h2 => exact Or.inl ⟨h2, h⟩
      · next h2 =>
        split at h
        · next h3 => exact Or.inr (Or.inl h3)
        · exact absurd rfl h
  · rw [gBr_id (by omega)] at hq
    subst hq
    exact ⟨h1, Or.inr (Or.inr h2)⟩
theorem gObj_z {C : Int → Int} {N q : Int} (h : gObj C N q ≠ -1) : ∃ z, gSemi C (N - (q + 1)).toNat (q + 1) = z ∧ q + 1 ≤ z ∧ z < N ∧ C z = 59 ∧ gObj C N q = z + 1 ∧ (∀ j, q + 1 ≤ j → j < z → C j ≠ 59) ∧ gPath C (z - (q + 1)).toNat (q + 1) true = true := by
  obtain ⟨z, hz⟩ : ∃ z, gSemi C (N - (q + 1)).toNat (q + 1) = z := ⟨_, rfl⟩
  have hr := gSemi_rg C (N - (q + 1)).toNat (q + 1)
  have hb := gSemi_be (C := C) (N - (q + 1)).toNat (q + 1)
  have ha := gSemi_at (C := C) (N - (q + 1)).toNat (q + 1)
  unfold gObj at h ⊢
  rw [hz] at h hr hb ha ⊢
  split at h
  · next h1 => exact ⟨z, rfl, hr.1, h1.1, ha (by omega), by rw [if_pos h1], hb, h1.2⟩
  · exact absurd rfl h
/-- a type that ends within Q: told alike whether the whole text is looked at or what stands before Q -/
theorem sTy_cut {C : Int → Int} {N Q p r : Int} (hr : gField C N p = r) (h1 : r ≠ -1) (h2 : r ≤ Q) (h3 : Q ≤ N) : sTyL C Q p = sTyL C N p ∧ sTyE C Q p = r := by
  obtain ⟨q, hq⟩ : ∃ q, gBr C (N - p).toNat p = q := ⟨_, rfl⟩
  obtain ⟨t1, t2⟩ := gTy_q hq (Or.inl (by rw [hr]; exact h1))
  have rb := gBr_rg C (N - p).toNat p
  have n91 := gBr_at (C := C) (N - p).toNat p (by omega)
  rw [hq] at rb n91
  have hr2 := hr
  unfold gField at hr2
  rw [hq] at hr2
  have n86 : C q ≠ 86 := by
    intro z
    unfold gFld at hr2
    rw [if_neg (by omega), z, if_neg (by decide), if_neg (by decide)] at hr2
    exact h1 hr2.symm
  have key : q < Q ∧ (C q = 76 → gField C Q q = r ∧ gField C N q = r) ∧ (C q ≠ 76 → r = q + 1) := by
    rcases t2 with ⟨a1, a2⟩ | a | a
    · obtain ⟨z, z1, z2, z3, z4, z5, z6, z7⟩ := gObj_z a2
      unfold gFld at hr2
      rw [if_neg (by omega), if_pos a1, z5] at hr2
      refine ⟨by omega, fun _ => ⟨?_, ?_⟩, fun y => absurd a1 y⟩
      · rw [gField_id n91]
        unfold gFld gObj
        rw [if_neg (by omega), if_pos a1, gSemi_cut (N - (q + 1)).toNat (Q - (q + 1)).toNat (q + 1) (by omega) (by omega), z1, if_pos ⟨by omega, z7⟩]
        exact hr2
      · rw [gField_id n91]
        unfold gFld
        rw [if_neg (by omega), if_pos a1, z5]
        exact hr2
    · have n76 : C q ≠ 76 := fun z => by rw [z] at a; exact absurd a (by decide)
      unfold gFld at hr2
      rw [if_neg (by omega), if_neg n76, if_pos a] at hr2
      exact ⟨by omega, fun y => absurd y n76, fun _ => hr2.symm⟩
    · exact absurd a n86
  obtain ⟨k1, k2, k3⟩ := key
  have hq2 : gBr C (Q - p).toNat p = q := by
    rw [gBr_cut (N - p).toNat (Q - p).toNat p (by omega) (by omega)]; exact hq
  unfold sTyL sTyE
  rw [hq, hq2]
  unfold sTy0
  rw [if_pos k1, if_pos t1]
  by_cases c : C q = 76
  · obtain ⟨x1, x2⟩ := k2 c
    rw [if_pos c, if_pos c, if_pos ⟨k1, c⟩, x1, x2]
    exact ⟨rfl, rfl⟩
  · rw [if_neg c, if_neg c, if_neg (fun y => c y.2)]
    exact ⟨rfl, (k3 c).symm⟩
section MT
variable {w : qE} {s s0 : qS} {B : Int → Int} {n c i k a : Int} {f : Int → qS → Prop} {fv : qS → Prop} {g : Nat → qS → Prop}
theorem m187 {x : Int} (h : 0 ≤ a ∧ a < 6000) (H : ∀ s', mSy s a [x] s' → f (a + 1) s') : qW w 1 187 [.ref 25, qI a, qI x] s (qPI f g) := by
  refine k187 ⟨h.1, h.2, H _ ⟨fun k _ h40 => qset_cell _ h40, fun j _ _ => by rw [qset_cell _ (by decide)], fun j hj => by rw [qset_same, if_neg (by omega)], fun k hk => ?_⟩⟩
  have e : k = 0 := Nat.lt_one_iff.mp hk
  subst e
  rw [qset_same, if_pos (by omega)]
  rfl
theorem m188 {t : Nat} (ht : t ≤ 20) (hL : mL s) (ha : 0 ≤ a ∧ a + ((sWd t).length : Int) ≤ 6000) (H : ∀ s', mSy s a (sWd t) s' → f (a + ((sWd t).length : Int)) s') : qW w 2 188 [.ref 25, qI a, qI (t : Int)] s (qPI f g) := by
  obtain ⟨e1, e2⟩ := wLt_end t (by omega)
  have hlen := sWd_len t
  have key : ∀ (d k : Nat) (u : qS), k + d = (wM t).length → mL u → (∀ s', mSy u (a + k) ((sWd t).drop k) s' → f (a + ((sWd t).length : Int)) s') → qR w 1 qm188 9 [(0, .ref 25), (3, qI (a + k)), (4, qI ((wOff t + k : Nat) : Int))] [] u (qPI f g) := by
    intro d
    induction d with
    | zero =>
      intro k u hk hl H
      have hk : k = (wM t).length := by omega
      subst hk
      have e3 := hl _ e2
      rw [e1] at e3
      refine k188_9 ⟨by omega, by omega, ?_⟩
      rw [e3]
      refine ⟨⟨by decide, by decide⟩, fun _ => ?_, fun y => absurd rfl y⟩
      rw [← hlen]
      refine H u ?_
      rw [List.drop_of_length_le (by omega)]
      exact mSy.nil _ _
    | succ d ih =>
      intro k u hk hl H
      obtain ⟨e4, e5, e6⟩ := wLt_in t (by omega) k (by omega)
      have e3 := hl (wOff t + k) (by omega)
      rw [e4] at e3
      have hi : k < (sWd t).length := by omega
      have x1 : (sWd t)[k] = (((wM t).getD k 0 : Nat) : Int) := by
        refine Option.some.inj ((List.getElem?_eq_getElem hi).symm.trans ?_)
        unfold sWd
        rw [List.getElem?_map, List.getD_eq_getElem?_getD, List.getElem?_eq_getElem (by omega)]
        rfl
      rw [List.drop_eq_getElem_cons hi, x1] at H
      refine k188_9 ⟨by omega, by omega, ?_⟩
      rw [e3]
      refine ⟨⟨by omega, by omega⟩, fun y => absurd y (by omega), fun _ => ⟨by omega, by omega, m187 ⟨by omega, by omega⟩ (fun u2 h2 => ?_)⟩⟩
      rw [show a + (k : Int) + 1 = a + ((k + 1 : Nat) : Int) by omega, show ((wOff t + k : Nat) : Int) + 1 = ((wOff t + (k + 1) : Nat) : Int) by omega]
      refine ih (k + 1) u2 (by omega) ?_ (fun s' h3 => H s' ?_)
      · unfold mL
        rw [h2.1 26 (by decide) (by decide)]
        exact hl
      · refine mSy.app (L1 := [_]) h2 ?_ h3
        show _ = a + (k : Int) + 1
        omega
  refine k188 (m156 ht hL ?_)
  have := key (wM t).length 0 s (by omega) hL (by
    rw [List.drop_zero, show a + ((0 : Nat) : Int) = a by omega]; exact H)
  rw [show a + ((0 : Nat) : Int) = a by omega] at this
  exact this
theorem m186_6 (ht : pT (mkP B c) i = 1) {sg : Int} (hsg : sg = -1 ∨ sg = 59) : ∀ (d : Nat) (p a : Int) (s : qS), mPo s B n c → 0 ≤ p → p + d ≤ pN (mkP B c) i → (∀ j, p ≤ j → j < p + d → pC (mkP B c) i j ≠ sg) → (p + d = pN (mkP B c) i ∨ (p + d < pN (mkP B c) i ∧ pC (mkP B c) i (p + d) = sg)) → (0 ≤ a ∧ a + d ≤ 6000) → (∀ s', mSy s a (sPth (pC (mkP B c) i) d p) s' → f (a + d) s') → qR w 2 qm186 6 [(0, .ref 25), (2, qI i), (4, qI sg), (5, qI a), (6, qI p)] [] s (qPI f g) := by
  have rsg : Rg sg := by rcases hsg with h | h <;> rw [h] <;> exact ⟨by decide, by decide⟩
  intro d
  induction d with
  | zero =>
    intro p a s hP h0 hd hne he ha H
    have hok := hP.1.ok.2.2.2.2 i ht
    have H := H s (mSy.nil _ _)
    rw [show a + ((0 : Nat) : Int) = a by omega] at H
    rw [show p + ((0 : Nat) : Int) = p by omega] at he hd
    have hr := mCh_rg (k := p) hP.1 ht h0
    refine k186_6 (m146 hP ht h0 ⟨by omega, by omega⟩ ⟨⟨by omega, by omega⟩, rsg, fun _ => k186_66 H, fun y => m146 hP ht h0 ⟨by omega, by omega⟩ ⟨⟨by omega, by omega⟩, fun _ => k186_66 H, fun z => ?_⟩⟩)
    rcases he with e | ⟨e1, e2⟩
    · rw [mCh_out (by omega)] at z
      exact absurd z (by decide)
    · rw [mCh_in e1] at y
      exact absurd e2 y
  | succ d ih =>
    intro p a s hP h0 hd hne he ha H
    have hok := hP.1.ok.2.2.2.2 i ht
    have hc := hok.2.2.2 p h0 (by omega)
    have hn := hne p (Int.le_refl _) (by omega)
    have e : mCh B c i p = pC (mkP B c) i p := mCh_in (by omega)
    have h55 : ∀ x : Int, x = (if pC (mkP B c) i p = 47 then 46 else pC (mkP B c) i p) → qR w 2 qm186 55 [(0, .ref 25), (2, qI i), (4, qI sg), (6, qI p)] [qI x, qI a, .ref 25] s (qPI f g) := by
      intro x hx
      refine k186_55 (m187 ⟨ha.1, by omega⟩ (fun u hu => ?_))
      refine ih (p + 1) (a + 1) u (hu.po hP) (by omega) (by omega) (fun j j0 j1 => hne j (by omega) (by omega)) ?_ ⟨by omega, by omega⟩ (fun s' h' => ?_)
      · rw [show p + 1 + (d : Int) = p + ((d + 1 : Nat) : Int) by omega]; exact he
      · rw [show a + 1 + (d : Int) = a + ((d + 1 : Nat) : Int) by omega]
        refine H s' ?_
        rw [sPth, ← hx]
        exact mSy.app (L1 := [x]) hu rfl h'
    refine k186_6 (m146 hP ht h0 ⟨by omega, by omega⟩ ?_)
    rw [e]
    refine ⟨⟨by omega, by omega⟩, rsg, fun y => absurd y hn, fun _ => m146 hP ht h0 ⟨by omega, by omega⟩ ?_⟩
    rw [e]
    refine ⟨⟨by omega, by omega⟩, fun y => absurd y (by omega), fun _ => m146 hP ht h0 ⟨by omega, by omega⟩ ?_⟩
    rw [e]
    refine ⟨⟨by omega, by omega⟩, fun y => h55 46 (by rw [if_pos y]), fun y => m146 hP ht h0 ⟨by omega, by omega⟩ ?_⟩
    rw [e]
    exact h55 _ (by rw [if_neg y])
theorem m186 {p sg : Int} (hP : mPo s B n c) (ht : pT (mkP B c) i = 1) (hsg : sg = -1 ∨ sg = 59) (d : Nat) (h0 : 0 ≤ p) (hd : p + d ≤ pN (mkP B c) i) (hne : ∀ j, p ≤ j → j < p + d → pC (mkP B c) i j ≠ sg) (he : p + d = pN (mkP B c) i ∨ (p + d < pN (mkP B c) i ∧ pC (mkP B c) i (p + d) = sg)) (ha : 0 ≤ a ∧ a + d ≤ 6000) (H : ∀ s', mSy s a (sPth (pC (mkP B c) i) d p) s' → f (a + d) s') : qW w 3 186 [.ref 25, qI a, qI i, qI p, qI sg] s (qPI f g) :=
  k186 (m186_6 ht hsg d p a s hP h0 hd hne he ha H)
theorem m149w {x : Int} (hx : Rg x) (hb : gBas x = true) (H : ∀ v : Nat, v ≤ 7 → sWd (12 + v) = sBas x → f (v : Int) s) : qW w 1 149 [qI x] s (qPI f g) := by
  have hb := of_decide_eq_true hb
  refine k149 ⟨hx, fun e => H 0 (by decide) (by rw [e]; decide +kernel), fun e => H 1 (by decide) (by rw [e]; decide +kernel), fun e => H 2 (by decide) (by rw [e]; decide +kernel), fun e => H 3 (by decide) (by rw [e]; decide +kernel), fun e => H 4 (by decide) (by rw [e]; decide +kernel), fun e => H 5 (by decide) (by rw [e]; decide +kernel), fun e => H 6 (by decide) (by rw [e]; decide +kernel), fun e => H 7 (by decide) (by rw [e]; decide +kernel), fun a1 a2 a3 a4 a5 a6 a7 a8 => absurd hb (by omega)⟩
theorem m185_84 {q : Int} (hq : Rg q) : ∀ (d : Nat) (v r : Int) (u : qS), 0 ≤ v → v + d = q → (0 ≤ r ∧ r + 2 * d ≤ 6000) → (∀ s', mSy u r (sRep d) s' → f (r + 2 * d) s') → qR w 3 qm185 84 [(0, .ref 25), (4, qI q), (5, qI r), (7, qI v)] [] u (qPI f g) := by
  intro d
  induction d with
  | zero =>
    intro v r u h0 hv hr H
    have H := H u (mSy.nil _ _)
    rw [show r + 2 * ((0 : Nat) : Int) = r by omega] at H
    exact k185_84 ⟨⟨by omega, by omega⟩, hq, fun y => absurd y (by omega), fun _ => H⟩
  | succ d ih =>
    intro v r u h0 hv hr H
    refine k185_84 ⟨⟨by omega, by omega⟩, hq, fun _ => m187 ⟨hr.1, by omega⟩ (fun u1 h1 => m187 ⟨by omega, by omega⟩ (fun u2 h2 => ?_)), fun y => absurd y (by omega)⟩
    refine ih (v + 1) (r + 1 + 1) u2 (by omega) (by omega) ⟨by omega, by omega⟩ (fun s' h3 => ?_)
    rw [show r + 1 + 1 + 2 * (d : Int) = r + 2 * ((d + 1 : Nat) : Int) by omega]
    refine H s' ?_
    exact mSy.app (L1 := [91]) h1 rfl (mSy.app (L1 := [93]) h2 rfl h3)
theorem m185 (hP : mPo s B n c) (ht : pT (mkP B c) i = 1) (h0 : 0 ≤ k) (hT : gTy (pC (mkP B c) i) (pN (mkP B c) i) k) (ha : 0 ≤ a ∧ a + ((sTyL (pC (mkP B c) i) (pN (mkP B c) i) k).length : Int) ≤ 6000) (H : ∀ s', mSy s a (sTyL (pC (mkP B c) i) (pN (mkP B c) i) k) s' → f (a + ((sTyL (pC (mkP B c) i) (pN (mkP B c) i) k).length : Int)) s') : qW w 4 185 [.ref 25, qI a, qI i, qI k] s (qPI f g) := by
  have hok := hP.1.ok.2.2.2.2 i ht
  have hL := hP.2.2.2.2
  obtain ⟨N, hN⟩ : ∃ N, pN (mkP B c) i = N := ⟨_, rfl⟩
  obtain ⟨C, hC⟩ : ∃ C, pC (mkP B c) i = C := ⟨_, rfl⟩
  rw [hN, hC] at H hT ha hok
  obtain ⟨q, hq⟩ : ∃ q, gBr C (N - k).toNat k = q := ⟨_, rfl⟩
  obtain ⟨t1, t2⟩ := gTy_q hq hT
  have rb := gBr_rg C (N - k).toNat k
  have n91 := gBr_at (C := C) (N - k).toNat k (by omega)
  have be := gBr_be (C := C) (N - k).toNat k
  unfold sTyL at H ha
  rw [hq] at rb n91 be H ha
  rw [List.length_append, sRep_len] at H ha
  have h81 : ∀ (u : qS) (r : Int), mSy s a (sTy0 C N q) u → r = a + ((sTy0 C N q).length : Int) → qR w 3 qm185 81 [(0, .ref 25), (3, qI k), (4, qI q), (5, qI r)] [] u (qPI f g) := by
    intro u r hu hr
    refine k185_81 (m185_84 ⟨by omega, by omega⟩ (q - k).toNat k r u h0 (by omega) ⟨by omega, by omega⟩ (fun s' h' => ?_))
    have := H s' (mSy.app hu hr h')
    rwa [show a + (((sTy0 C N q).length + 2 * (q - k).toNat : Nat) : Int) = r + 2 * ((q - k).toNat : Int) by omega] at this
  have hlq : ((sTy0 C N q).length : Int) ≤ 6000 - a := by omega
  have last : qR w 3 qm185 3 [(0, .ref 25), (1, qI a), (2, qI i), (3, qI k), (4, qI q)] [] s (qPI f g) := by
    have r := hok.2.2.2 q (by omega) t1
    have e1 : mCh B c i q = C q := by rw [mCh_in (by omega), hC]
    refine k185_3 (m146 hP ht (by omega) ⟨by omega, by omega⟩ ?_)
    rw [e1]
    refine ⟨⟨by omega, by omega⟩, fun y => absurd y n91, fun _ => m146 hP ht (by omega) ⟨by omega, by omega⟩ ?_⟩
    rw [e1]
    unfold sTy0 at h81 hlq
    rw [if_pos t1] at h81 hlq
    refine ⟨⟨by omega, by omega⟩, fun y => ?_, fun y => ⟨fun y2 => k185_76 (m188 (t := 20) (by decide) hL ?_ (fun u hu => ?_)), fun y2 => ?_⟩⟩
    · have hO : gObj C N q ≠ -1 := by
        rcases t2 with x | x | x
        · exact x.2
        · rw [y] at x; exact absurd x (by decide)
        · omega
      obtain ⟨z, z1, z2, z3, z4, z5, z6, z7⟩ := gObj_z hO
      have eG : gField C N q = z + 1 := by
        rw [gField_id n91]
        unfold gFld
        rw [if_neg (by omega), if_pos y]
        exact z5
      rw [if_pos y, eG, sPth_len] at h81 hlq
      rw [show (z + 1 - 1 - (q + 1)).toNat = (z - (q + 1)).toNat by omega] at h81 hlq
      refine m186 hP ht (Or.inr rfl) (z - (q + 1)).toNat (by omega) (by omega) (fun j j0 j1 => ?_) (Or.inr ⟨by omega, ?_⟩) ⟨ha.1, by omega⟩ (fun u hu => ?_)
      · rw [hC]; exact z6 j j0 (by omega)
      · rw [hC, show q + 1 + ((z - (q + 1)).toNat : Int) = z by omega]; exact z4
      · rw [hC] at hu
        exact h81 u _ hu rfl
    · rw [if_neg y, y2] at hlq
      exact ⟨ha.1, by have e : (sWd 20).length = (sBas 86).length := by decide +kernel
                      omega⟩
    · rw [if_neg y, y2] at h81
      have e : sWd 20 = sBas 86 := by decide +kernel
      rw [e] at hu ⊢
      exact h81 u _ hu rfl
    · have hB : gBas (C q) = true := by
        rcases t2 with x | x | x
        · exact absurd x.1 y
        · exact x
        · exact absurd x y2
      rw [if_neg y] at h81 hlq
      refine m149w ⟨by omega, by omega⟩ hB (fun v hv e => k185_76 ?_)
      rw [show (12 : Int) + (v : Int) = ((12 + v : Nat) : Int) by omega]
      refine m188 (by omega) hL ⟨ha.1, by rw [e]; omega⟩ (fun u hu => ?_)
      rw [e] at hu ⊢
      exact h81 u _ hu rfl
  have key : ∀ (d : Nat) (p : Int), k ≤ p → p + d = q → qR w 3 qm185 3 [(0, .ref 25), (1, qI a), (2, qI i), (3, qI k), (4, qI p)] [] s (qPI f g) := by
    intro d
    induction d with
    | zero =>
      intro p h1 h2
      rw [show p = q by omega]
      exact last
    | succ d ih =>
      intro p h1 h2
      refine k185_3 (m146 hP ht (by omega) ⟨by omega, by omega⟩ ?_)
      rw [mCh_in (by omega), hC, be p h1 (by omega)]
      exact ⟨⟨by decide, by decide⟩, fun _ => ih (p + 1) (by omega) (by omega), fun y => absurd rfl y⟩
  exact k185 (key (q - k).toNat k (Int.le_refl _) (by omega))
theorem m190 (hP : mPo s B n c) (ht : pT (mkP B c) i = 1) (hM : gMeth (pC (mkP B c) i) (pN (mkP B c) i) 0 = true) (ha : 0 ≤ a ∧ a + ((sArgs (pC (mkP B c) i) (pN (mkP B c) i)).length : Int) ≤ 6000) (H : ∀ s', mSy s a (sArgs (pC (mkP B c) i) (pN (mkP B c) i)) s' → f (a + ((sArgs (pC (mkP B c) i) (pN (mkP B c) i)).length : Int)) s') : qW w 5 190 [.ref 25, qI a, qI i] s (qPI f g) := by
  have hok := hP.1.ok.2.2.2.2 i ht
  obtain ⟨N, hN⟩ : ∃ N, pN (mkP B c) i = N := ⟨_, rfl⟩
  obtain ⟨C, hC⟩ : ∃ C, pC (mkP B c) i = C := ⟨_, rfl⟩
  rw [hN, hC] at H hM ha hok
  obtain ⟨Q, hQ⟩ : ∃ Q, gCl C N 500 1 = Q := ⟨_, rfl⟩
  obtain ⟨g1, g2, g3, g4, g5⟩ := gMeth_end hok.2.1 (by have := hok.2.2.1; omega) hM
  unfold sArgs at H ha
  rw [hQ] at g1 g2 g3 H ha
  rw [List.length_cons, List.length_append, List.length_singleton] at H ha
  have key : ∀ (d : Nat) (p b : Int) (u : qS), mPo u B n c → 1 ≤ p → N - p ≤ d → gCl C N d p = Q → (0 ≤ b ∧ b + ((sArg C Q d (decide (p = 1)) p).length : Int) + 1 ≤ 6000) → (∀ s', mSy u b (sArg C Q d (decide (p = 1)) p ++ [41]) s' → f (b + ((sArg C Q d (decide (p = 1)) p).length : Int) + 1) s') → qR w 4 qm190 11 [(0, .ref 25), (2, qI i), (3, qI b), (4, qI p)] [] u (qPI f g) := by
    intro d
    induction d with
    | zero =>
      intro p b u hPu h1 h2 h3 hb H
      unfold gCl at h3
      split at h3 <;> omega
    | succ d ih =>
      intro p b u hPu h1 h2 h3 hb H
      have hpQ := gCl_rg C N (d + 1) p
      have e1 : mCh B c i p = C p := by rw [mCh_in (by omega), hC]
      have r := hok.2.2.2 p (by omega) (by omega)
      refine k190_11 (m146 hPu ht (by omega) ⟨by omega, by omega⟩ ?_)
      rw [e1]
      refine ⟨⟨by omega, by omega⟩, fun y => ?_, fun y => ⟨⟨by omega, by omega⟩, ?_⟩⟩
      · have hp : p = Q := by
          unfold gCl at h3
          rw [if_neg (by omega), if_pos (by omega)] at h3
          exact h3
        have e : sArg C Q (d + 1) (decide (p = 1)) p = [] := by
          unfold sArg
          rw [if_neg (by omega)]
        rw [e] at H hb
        refine m187 ⟨hb.1, by have := hb.2; simp at this; omega⟩ (fun u2 hu2 => ?_)
        have := H u2 hu2
        rwa [show b + (([] : List Int).length : Int) + 1 = b + 1 by simp] at this
      · have hp : p < Q := by
          rcases Int.lt_or_le p Q with h | h
          · exact h
          · have : p = Q := by omega
            subst this
            exact absurd g3 y
        unfold gCl at h3
        rw [if_pos ⟨by omega, y⟩] at h3
        have hf : gField C N p ≠ -1 := fun z => by rw [if_pos z] at h3; omega
        rw [if_neg hf] at h3
        have rf := gField_rg C N p
        have rg := gCl_rg C N d (gField C N p)
        obtain ⟨c1, c2⟩ := sTy_cut (Q := Q) (C := C) (N := N) (p := p) rfl hf (by omega) (by omega)
        unfold sArg at H hb
        rw [if_pos (show 0 ≤ p ∧ p < Q by omega), c1, c2] at H hb
        rw [List.length_append, List.length_append] at H hb
        have e0 : decide (gField C N p = 1) = false := decide_eq_false (by omega)
        have h45 : ∀ (u : qS) (b : Int), mPo u B n c → (0 ≤ b ∧ b + (((sTyL C N p).length + (sArg C Q d false (gField C N p)).length : Nat) : Int) + 1 ≤ 6000) → (∀ s', mSy u b (sTyL C N p ++ (sArg C Q d false (gField C N p) ++ [41])) s' → f (b + (((sTyL C N p).length + (sArg C Q d false (gField C N p)).length : Nat) : Int) + 1) s') → qR w 4 qm190 45 [(0, .ref 25), (2, qI i), (3, qI b), (4, qI p)] [] u (qPI f g) := by
          intro u b hPu hb H
          refine k190_45 (m185 hPu ht (by omega) ?_ ?_ (fun u2 hu2 => ?_))
          · rw [hN, hC]; exact Or.inl hf
          · rw [hN, hC]; exact ⟨hb.1, by omega⟩
          rw [hN, hC] at hu2 ⊢
          have hP2 := hu2.po hPu
          refine m148 hP2 ht (by omega) (by omega) ?_
          rw [hN, hC]
          refine ih (gField C N p) _ u2 hP2 (by omega) (by omega) h3 ?_ (fun s' h' => ?_)
          · rw [e0]; exact ⟨by omega, by omega⟩
          · rw [e0] at h' ⊢
            have := H s' (mSy.app hu2 rfl h')
            rwa [show b + (((sTyL C N p).length + (sArg C Q d false (gField C N p)).length : Nat) : Int) + 1 = b + ((sTyL C N p).length : Int) + ((sArg C Q d false (gField C N p)).length : Int) + 1 by omega] at this
        refine ⟨fun z => ?_, fun z => ?_⟩
        · rw [decide_eq_false (show ¬ p = 1 by omega), if_neg (show ¬ (false = true) by decide)] at H hb
          have hl : ([44, 32] : List Int).length = 2 := rfl
          rw [hl] at H hb
          refine m187 ⟨hb.1, by omega⟩ (fun u1 hu1 => m187 ⟨by omega, by omega⟩ (fun u2 hu2 => ?_))
          refine h45 u2 (b + 1 + 1) (hu2.po (hu1.po hPu)) ⟨by omega, by omega⟩ (fun s' h' => ?_)
          have := H s' (by
            rw [List.append_assoc, List.append_assoc]
            exact mSy.app (L1 := [44]) hu1 rfl (mSy.app (L1 := [32]) hu2 rfl h'))
          rwa [show b + ((2 + ((sTyL C N p).length + (sArg C Q d false (gField C N p)).length) : Nat) : Int) + 1 = b + 1 + 1 + (((sTyL C N p).length + (sArg C Q d false (gField C N p)).length : Nat) : Int) + 1 by omega] at this
        · rw [decide_eq_true (show p = 1 by omega), if_pos rfl, List.length_nil, Nat.zero_add] at H hb
          refine h45 u b hPu hb (fun s' h' => H s' ?_)
          rw [List.nil_append, List.append_assoc]
          exact h'
  refine k190 (m187 ⟨ha.1, by omega⟩ (fun u hu => ?_))
  refine key 500 1 (a + 1) u (hu.po hP) (by decide) (by omega) hQ ?_ (fun s' h' => ?_)
  · rw [decide_eq_true rfl]; exact ⟨by omega, by omega⟩
  · rw [decide_eq_true rfl] at h' ⊢
    have := H s' (mSy.app (L1 := [40]) hu rfl h')
    rwa [show a + (((sArg C Q 500 true 1).length + 1 + 1 : Nat) : Int) = a + 1 + ((sArg C Q 500 true 1).length : Int) + 1 by omega] at this
end MT
