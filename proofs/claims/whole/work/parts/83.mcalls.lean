/-! THE MODEL's plain calls -/
def attB (B : Int → Int) (n : Int) (att : Int → Int) : Prop := 0 ≤ att 9 → ∀ k : Nat, (k : Int) < b2 B (att 9) → 0 ≤ bpos B (att 9 + 2) k ∧ bpos B (att 9 + 2) k + 4 ≤ n
theorem rBts_in {B : Int → Int} {n : Int} {π : qP} (hB : qB B n) : ∀ (d : Nat) (q r : Int), 0 ≤ q → q ≤ n → rBts π B n d q = .inr r → ∀ k : Nat, k < d → 0 ≤ bpos B q k ∧ bpos B q k + 4 ≤ n := by
  intro d
  induction d with
  | zero => intro q r h0 hq h k hk; omega
  | succ d ih =>
    intro q r h0 hq h k hk
    unfold rBts at h
    obtain ⟨_, h1, h6⟩ := bd_inr.mp h
    obtain ⟨m, h2, h7⟩ := bd_inr.mp h6
    obtain ⟨x, h3, h8⟩ := bd_inr.mp h7
    obtain ⟨e1, rfl⟩ := rU2_r h2
    have e2 := b2_rg hB (p := q + 2) (by omega) (by omega)
    have e3 := rLds_r2 _ _ _ h3
    have e4 : x = q + 4 + 2 * b2 B (q + 2) := by omega
    cases k with
    | zero => unfold bpos; omega
    | succ k =>
      rw [bpos_succ, ← e4]
      exact ih x r (by omega) (e3.2 (by omega)) h8 k (by omega)
theorem rAt_B {B : Int → Int} {n : Int} {π : qP} (hB : qB B n) {pl dc : Int} : ∀ (d : Nat) (q : Int) (att : Int → Int) (r : Int × (Int → Int)), 2 ≤ q → q ≤ n → attB B n att → rAt π B n pl dc d q att = .inr r → attB B n r.2 := by
  intro d
  induction d with
  | zero => intro q att r h0 h1 hI h; cases h; exact hI
  | succ d ih =>
    intro q att r h0 h1 hI h
    unfold rAt at h
    obtain ⟨nm, h2, h⟩ := bd_inr.mp h
    obtain ⟨_, h3, h⟩ := bd_inr.mp h
    obtain ⟨len, h4, h⟩ := bd_inr.mp h
    obtain ⟨z, h5, h⟩ := bd_inr.mp h
    obtain ⟨_, h6, h⟩ := bd_inr.mp h
    have e4 := rLen_r h4
    have e5 := rBody_rg h5 (by omega)
    have e6 := of_decide_eq_true (rCk_r h6)
    refine ih z _ r (by omega) e5.2 ?_ h
    by_cases k0 : kFind π pl nm = 0
    · rw [k0, kSet_0]; exact hI
    · obtain ⟨kn, hkn⟩ : ∃ kn, kn = kFind π pl nm := ⟨_, rfl⟩
      rw [← hkn] at k0 h5 ⊢
      unfold rBody at h5
      unfold attB
      rw [kSet_at _ _ _ k0]
      by_cases c : 9 = kn
      · subst c
        rw [if_pos rfl]
        rw [if_neg (by decide), if_neg (by decide), if_neg (by decide), if_neg (by decide), if_neg (by decide), if_neg (by decide), if_neg (by decide), if_neg (by decide), if_pos rfl] at h5
        unfold rBoots at h5
        obtain ⟨m, h7, h8⟩ := bd_inr.mp h5
        obtain ⟨e1, rfl⟩ := rU2_r h7
        intro _ k hk
        exact rBts_in hB _ _ _ (by omega) e1 h8 k (by omega)
      · rw [if_neg c]; exact hI
theorem rAtts_B {B : Int → Int} {n q : Int} {π : qP} (hB : qB B n) {pl dc : Int} (h0 : 0 ≤ q) {r : Int × (Int → Int)} (h : rAtts π B n pl dc q = .inr r) : attB B n r.2 := by
  unfold rAtts at h
  obtain ⟨m, h1, h⟩ := bd_inr.mp h
  exact rAt_B hB _ _ _ _ (by omega) (rU2_r h1).1 (fun y => absurd y (by decide)) h
theorem rMs_M {B : Int → Int} {n : Int} {π : qP} : ∀ (d : Nat) (k q : Int) (MP : Int → Int) (MA : Int → Int → Int) (r : Int × (Int → Int) × (Int → Int → Int)), 0 ≤ k → (∀ j, 0 ≤ j → j < k → pfit π (b2 B (MP j + 4)) 32 = true) → rMs π B n true d k q MP MA = .inr r → ∀ j, 0 ≤ j → j < k + d → pfit π (b2 B (r.2.1 j + 4)) 32 = true := by
  intro d
  induction d with
  | zero => intro k q MP MA r k0 hI h; cases h; exact fun j j0 j1 => hI j j0 (by omega)
  | succ d ih =>
    intro k q MP MA r k0 hI h j j0 j1
    unfold rMs at h
    obtain ⟨z, h1, h⟩ := bd_inr.mp h
    refine ih (k + 1) z.1 _ _ r (by omega) (fun j j0 j1 => ?_) h j j0 (by omega)
    rw [upI_at]
    by_cases c : j = k
    · rw [if_pos c]
      unfold rMem at h1
      rw [if_pos rfl] at h1
      obtain ⟨_, h2, -⟩ := bd_inr.mp h1
      unfold rMH at h2
      obtain ⟨_, -, h3⟩ := bd_inr.mp h2
      obtain ⟨_, -, h4⟩ := bd_inr.mp h3
      obtain ⟨_, -, h5⟩ := bd_inr.mp h4
      obtain ⟨ds, h6, -⟩ := bd_inr.mp h5
      unfold rText at h6
      obtain ⟨v, h7, h8⟩ := bd_inr.mp h6
      obtain ⟨_, h9, -⟩ := bd_inr.mp h8
      obtain ⟨-, rfl⟩ := rU2_r h7
      exact rCk_r h9
    · rw [if_neg c]; exact hI j j0 (by omega)
/-- what is known of what has been read -/
def mKn (B : Int → Int) (n : Int) (r : qRes2) : Prop := pSound (mkP B r.1) ∧ attB B n r.2.2.2.2.2.2 ∧ ∀ j, 0 ≤ j → j < b2 B r.2.2.2.1.1 → pfit (mkP B r.1) (b2 B (r.2.2.2.2.1.2.1 j + 4)) 32 = true
theorem rRest_kn {B : Int → Int} {n : Int} {r : qRes2} (hB : qB B n) (h : rRest B n = .inr r) : mKn B n r := by
  obtain ⟨h1, h2, h3, h4, hM, h6, h7⟩ := rRest_r h
  have hf := rRest_fin hB h
  obtain ⟨e1, e2, e3, e4, e5⟩ := rEnts_rg hB h1
  have fF := rMbs_fin hB (by omega) h4
  have fM := rMbs_fin hB (by omega) hM
  refine ⟨rLk_sound hf.1 h2, rAtts_B hB (by omega) h6, fun j j0 j1 => ?_⟩
  unfold rMbs at hM
  obtain ⟨m, m1, m2⟩ := bd_inr.mp hM
  obtain ⟨-, rfl⟩ := rU2_r m1
  exact rMs_M _ 0 _ _ _ _ (by decide) (fun j j0 j1 => absurd j1 (by omega)) m2 j j0 (by omega)
section MX
variable {w : qE} {s s0 s1 : qS} {B P att : Int → Int} {n c i p e m pl dc q k wh : Int} {r : qRes2} {f : Int → qS → Prop} {fv : qS → Prop} {g : Nat → qS → Prop}
theorem m124_loop {x : Int64} : ∀ (c : Nat) (s : qS), c ≤ 8 → 0 ≤ s 25 3 → s 25 3 + c ≤ 500 → (∀ s', s' 27 = apF x c (s 27) (s 25 3) → s' 25 3 = s 25 3 + c → (∀ j, j ≠ 3 → s' 25 j = s 25 j) → (∀ k, k ≠ 25 → k ≠ 27 → s' k = s k) → f (s 25 3 + c) s') → qR w 1 qm124 37 [(0, .ref 25), (1, .long x), (4, qI (c - 1))] [] s (qPI f g) := by
  intro c
  induction c with
  | zero =>
    intro s hc h0 h1 H
    refine k124_37 ⟨⟨by omega, by omega⟩, fun _ => ?_, fun y => absurd y (by omega)⟩
    have := H s rfl (by omega) (fun _ _ => rfl) (fun _ _ _ => rfl)
    rwa [show s 25 3 + ((0 : Nat) : Int) = s 25 3 by omega] at this
  | succ c ih =>
    intro s hc h0 h1 H
    refine k124_37 ⟨⟨by omega, by omega⟩, fun y => absurd y (by omega), fun _ => ⟨h0, by omega, ?_⟩⟩
    rw [show ((c + 1 : Nat) : Int) - 1 = (c : Int) by omega, show (c : Int) + -1 = (c : Int) - 1 by omega]
    have e1 : qset (qset s 27 (s 25 3) (wb x c)) 25 3 (s 25 3 + 1) 25 3 = s 25 3 + 1 := by simp [qset_eq]
    have := ih (qset (qset s 27 (s 25 3) (wb x c)) 25 3 (s 25 3 + 1)) (by omega) (by rw [e1]; omega) (by rw [e1]; omega) (fun s' a1 a2 a3 a4 => by
      rw [e1] at a1 a2 ⊢
      rw [show s 25 3 + 1 + (c : Int) = s 25 3 + ((c + 1 : Nat) : Int) by omega] at a2 ⊢
      refine H s' ?_ a2 (fun j hj => ?_) (fun k k1 k2 => ?_)
      · rw [a1, qset_cell _ (by decide), qset_upI]
        rfl
      · rw [a3 j hj, qset_same, if_neg hj, qset_cell _ (by decide)]
      · rw [a4 k k1 k2, qset_cell _ k1, qset_cell _ k2])
    exact this
theorem m124 {x : Int64} {m : Int} (hm : Rg m) (h0 : 0 ≤ s 25 3 ∧ s 25 3 ≤ 500) (H1 : (m < 1 ∨ 8 < m) → f (-1) (qset s 25 7 0)) (H2 : 1 ≤ m → m ≤ 8 → 500 < s 25 3 + m → f (-3) (qset s 25 7 0)) (H3 : 1 ≤ m → m ≤ 8 → s 25 3 + m ≤ 500 → ∀ s', s' 27 = apF x m.toNat (s 27) (s 25 3) → s' 25 3 = s 25 3 + m → (∀ j, j ≠ 3 → j ≠ 7 → s' 25 j = s 25 j) → (∀ k, k ≠ 25 → k ≠ 27 → s' k = s k) → f (s 25 3 + m) s') : qW w 2 124 [.ref 25, .long x, qI m] s (qPI f g) := by
  have e3 : qset s 25 7 0 25 3 = s 25 3 := by rw [qset_same, if_neg (by decide)]
  refine k124 (m125 hm ⟨by decide, by decide⟩ ⟨by decide, by decide⟩ ⟨bi_rg _, fun z => H1 ?_, fun z => ?_⟩)
  · rw [bi_0, decide_eq_false_iff_not] at z; omega
  rw [bi_n, decide_eq_true_iff] at z
  rw [e3]
  refine ⟨⟨by omega, by omega⟩, fun y => H2 z.1 z.2 y, fun y => ?_⟩
  have := m124_loop (w := w) (g := g) (f := f) (x := x) m.toNat (qset s 25 7 0) (by omega) (by rw [e3]; exact h0.1) (by rw [e3]; omega) (fun s' a1 a2 a3 a4 => by
    rw [e3] at a1 a2 ⊢
    rw [show ((m.toNat : Nat) : Int) = m by omega] at a2 ⊢
    refine H3 z.1 z.2 y s' ?_ a2 (fun j j3 j7 => ?_) (fun k k1 k2 => ?_)
    · rw [a1, qset_cell _ (by decide)]
    · rw [a3 j j3, qset_same, if_neg j7]
    · rw [a4 k k1 k2, qset_cell _ k1])
  rw [show ((m.toNat : Nat) : Int) = m by omega] at this
  exact this
theorem m126 {a b : Int} (ha : Rg a) (hb : Rg b) (h0 : 0 ≤ s 25 3 ∧ s 25 3 ≤ 500) (H1 : ¬ (0 ≤ a ∧ a < s 25 3 ∧ 0 ≤ b ∧ b ≤ 255) → f 0 (qset s 25 7 0)) (H2 : 0 ≤ a → a < s 25 3 → 0 ≤ b → b ≤ 255 → f 1 (qset (qset s 25 7 0) 27 a b)) : qW w 2 126 [.ref 25, qI a, qI b] s (qPI f g) := by
  refine k126 (m125 ha d0 ⟨by omega, by omega⟩ ⟨bi_rg _, fun z => k126_30 (H1 ?_), fun z => m125 hb d0 ⟨by decide, by decide⟩ ⟨bi_rg _, fun z2 => k126_30 (H1 ?_), fun z2 => ?_⟩⟩)
  · rw [bi_0, decide_eq_false_iff_not] at z; omega
  · rw [bi_0, decide_eq_false_iff_not] at z2; omega
  · rw [bi_n, decide_eq_true_iff] at z z2
    exact ⟨z.1, by omega, H2 z.1 (by omega) z2.1 z2.2⟩
theorem m127 {a : Int} (ha : Rg a) (h0 : 0 ≤ s 25 3 ∧ s 25 3 ≤ 500) (H1 : ¬ (0 ≤ a ∧ a ≤ s 25 3) → f (-1) (qset s 25 7 0)) (H2 : 0 ≤ a → a ≤ s 25 3 → f (s 25 3 - a) (qset (qset s 25 7 0) 25 3 a)) : qW w 2 127 [.ref 25, qI a] s (qPI f g) := by
  have e3 : qset s 25 7 0 25 3 = s 25 3 := by rw [qset_same, if_neg (by decide)]
  refine k127 (m125 ha d0 ⟨by omega, by omega⟩ ⟨bi_rg _, fun z => H1 ?_, fun z => ?_⟩)
  · rw [bi_0, decide_eq_false_iff_not] at z; exact z
  · rw [bi_n, decide_eq_true_iff] at z
    rw [e3]
    exact H2 z.1 z.2
theorem m175 (H : f (s 25 6) (qset s 25 7 0)) : qW w 1 175 [.ref 25] s (qPI f g) := k175 H
theorem m123 (H : f (s 25 7) s) : qW w 1 123 [.ref 25] s (qPI f g) := k123 H
theorem m177 (h : s 25 9 = 0 ∨ s 25 9 = 1) (H0 : s 25 9 = 0 → f 0 (qset s 25 7 1)) (H1 : s 25 9 = 1 → f 1 (qset s 25 7 0)) : qW w 1 177 [.ref 25] s (qPI f g) := by
  refine k177 ⟨by rcases h with h | h <;> rw [h] <;> exact ⟨by decide, by decide⟩, fun y => k177_13 ⟨h, ?_⟩, fun y => k177_13 ⟨h, ?_⟩⟩
  · rw [y]; exact H0 y
  · have := h.resolve_left y
    rw [this]; exact H1 this
theorem m178 (hP : mPo s B n c) (h0 : 0 ≤ p) (h1 : p + 4 ≤ n) (H : f (b4 B p) s) : qW w 2 178 [.ref 25, qI p] s (qPI f g) := by
  refine k178 (m142 hP.1.1 hP.2.2.2.1 h0 (by omega) (m142 hP.1.1 hP.2.2.2.1 (by omega) (by omega) ?_))
  rw [qor16 (b2_rg hP.1.1 (by omega) (by omega))]
  exact H
/-- a number's place and its bytes -/
theorem mG.num (h : mG B n c) (ht : 3 ≤ pT (mkP B c) i ∧ pT (mkP B c) i ≤ 6) : (1 ≤ i ∧ i < c) ∧ 10 ≤ mkA B c i ∧ mkA B c i + 5 ≤ n ∧ (5 ≤ pT (mkP B c) i → mkA B c i + 9 ≤ n) ∧ pF (mkP B c) i = b4 B (mkA B c i + 1) ∧ pS (mkP B c) i = if 5 ≤ pT (mkP B c) i then b4 B (mkA B c i + 5) else 0 := by
  have on := pT_on (B := B) (c := c) (i := i) (by omega)
  obtain ⟨a1, a2, a3, a4, a5, a6⟩ := h.on on
  rw [a6] at ht ⊢
  have eF' : pF (mkP B c) i = eF B (mkA B c i) := by
    show xF B c (mkA B c) i = _
    unfold xF
    rw [if_pos on]
  have eS' : pS (mkP B c) i = eS B (mkA B c i) := by
    show xS B c (mkA B c) i = _
    unfold xS
    rw [if_pos on]
  rw [eF', eS']
  unfold eLen at a3
  unfold eF eS
  refine ⟨a1, a2, ?_, fun y => ?_, ?_, ?_⟩
  · split at a3 <;> (try split at a3) <;> (try split at a3) <;> omega
  · rw [if_neg (by omega), if_neg (by omega), if_pos (by omega)] at a3; exact a3
  · rw [if_neg (by omega), if_pos (by omega)]
  · by_cases y : 5 ≤ B (mkA B c i)
    · rw [if_pos (by omega), if_pos y]
    · rw [if_neg (by omega), if_neg (by omega), if_neg (by omega), if_neg y]
theorem m176 (hi : Rg i) (hw : Rg wh) (h : s 25 9 = 0 ∨ s 25 9 = 1) (H0 : s 25 9 = 0 → f 0 (qset s 25 7 1)) (hF : s 25 9 = 1 → mFin B n r s) (H1 : s 25 9 = 1 → f (aEntry (mkP B r.1) i wh) (qset s 25 7 0)) : qW w 3 176 [.ref 25, qI i, qI wh] s (qPI f g) := by
  refine k176 (m177 h (fun y => ⟨d0, fun _ => H0 y, fun z => absurd rfl z⟩) (fun y => ⟨d1, fun z => absurd z (by decide), fun _ => ?_⟩))
  have H := H1 y
  have hP : mPo (qset s 25 7 0) B n r.1 := mSet_po (hF y).1 _ (by decide) (fun _ => by decide)
  obtain ⟨c, hc⟩ : ∃ c, r.1 = c := ⟨_, rfl⟩
  rw [hc] at H hP
  have hok := hP.1.ok
  have hT := hok.2.2.2.1 i
  have hR := mRg hP i
  unfold aEntry at H
  refine m125 hw d0 ⟨by decide, by decide⟩ ⟨bi_rg _, fun z => ?_, fun z => m139 hP hi ⟨hR.1, fun t => ?_, fun t => m125 hR.1 ⟨by decide, by decide⟩ ⟨by decide, by decide⟩ ?_⟩⟩
  · rw [bi_0, decide_eq_false_iff_not] at z
    rw [if_pos (by omega)] at H; exact H
  · rw [bi_n, decide_eq_true_iff] at z
    rw [if_neg (by omega), if_pos t] at H; exact H
  · rw [bi_n, decide_eq_true_iff] at z
    rw [if_neg (by omega), if_neg t] at H
    have on := hP.1.on (pT_on (B := B) (c := c) (i := i) t)
    have hlim := hP.1.lim
    have eO : pO (mkP B c) i = mkA B c i := by
      show xO c (mkA B c) i = _
      unfold xO
      rw [if_pos (pT_on (B := B) (c := c) (i := i) t)]
    have e29 := hP.2.2.1 i on.1.1 on.1.2
    have hot := on.2.2.2.2.1
    rw [← on.2.2.2.2.2] at hot
    unfold okTag at hot
    refine ⟨hw, fun w0 => k176_51 ⟨hw, fun _ => k176_65 ?_, fun y => absurd w0 y⟩, fun w0 => ⟨fun w3 => k176_51 ⟨hw, fun y => absurd y w0, fun _ => ⟨by omega, by omega, k176_65 ?_⟩⟩, fun w3 => ⟨fun w1 => ⟨fun t1 => m151 hP t1 (k176_109 ?_), fun t1 => ⟨bi_rg _, fun zz => m141 hP hi ?_ (k176_109 ?_), fun zz => ⟨by omega, by omega, ?_⟩⟩⟩, fun w1 => ?_⟩⟩⟩
    · rw [if_pos w0] at H; exact H
    · rw [if_neg w0, if_neg (by omega), if_neg (by omega)] at H
      rw [e29, ← eO]; exact H
    · rw [if_neg w0, if_pos w1] at H
      rw [← (hok.2.2.2.2 i t1).1]; exact H
    · rw [bi_0, decide_eq_false_iff_not] at zz; omega
    · rw [if_neg w0, if_pos w1] at H; exact H
    · rw [bi_n, decide_eq_true_iff] at zz
      obtain ⟨b1, b2', b3, b4', b5, b6⟩ := hP.1.num zz
      rw [if_neg w0, if_pos w1, b5] at H
      rw [e29]
      exact m178 hP (by omega) (by omega) (k176_109 H)
    · rw [if_neg w0, if_neg w1, if_pos (by omega)] at H
      have h121 : (pT (mkP B c) i = 5 ∨ pT (mkP B c) i = 6) → qR w 2 qm176 121 [(0, .ref 25), (1, qI i)] [] (qset s 25 7 0) (qPI f g) := fun t56 => by
        obtain ⟨b1, b2', b3, b4', b5, b6⟩ := hP.1.num (i := i) (by omega)
        rw [if_pos (by omega)] at b6
        rw [b6] at H
        have := b4' (by omega)
        refine k176_121 ⟨by omega, by omega, ?_⟩
        rw [e29]
        exact m178 hP (by omega) (by omega) (k176_155 H)
      refine ⟨fun t5 => h121 (Or.inl t5), fun t5 => ⟨fun t6 => h121 (Or.inr t6), fun t6 => ⟨fun t1 => k176_146 (k176_155 ?_), fun t1 => ⟨bi_rg _, fun zz => m143 hP hi ?_ (k176_155 H), fun zz => k176_146 (k176_155 ?_)⟩⟩⟩⟩
      · have e : pS (mkP B c) i = 0 := by
          show xS B c (mkA B c) i = 0
          unfold xS
          rw [if_pos (pT_on (B := B) (c := c) (i := i) t)]
          rw [on.2.2.2.2.2] at t1
          unfold eS
          rw [if_neg (by omega), if_neg (by omega), if_neg (by omega)]
        rwa [e] at H
      · rw [bi_0, decide_eq_false_iff_not] at zz; omega
      · rw [bi_n, decide_eq_true_iff] at zz
        obtain ⟨b1, b2', b3, b4', b5, b6⟩ := hP.1.num zz
        rw [if_neg (by omega)] at b6
        rwa [b6] at H
theorem m181 (hi : Rg i) (hk : Rg k) (h : s 25 9 = 0 ∨ s 25 9 = 1) (H0 : s 25 9 = 0 → f 0 (qset s 25 7 1)) (hF : s 25 9 = 1 → mFin B n r s) (hQ : s 25 9 = 1 → pSound (mkP B r.1)) (H1 : s 25 9 = 1 → f (aText (mkP B r.1) i k) (qset s 25 7 0)) : qW w 3 181 [.ref 25, qI i, qI k] s (qPI f g) := by
  refine k181 (m177 h (fun y => ⟨d0, fun _ => H0 y, fun z => absurd rfl z⟩) (fun y => ⟨d1, fun z => absurd z (by decide), fun _ => ?_⟩))
  have H := H1 y
  have hQ := hQ y
  have hP : mPo (qset s 25 7 0) B n r.1 := mSet_po (hF y).1 _ (by decide) (fun _ => by decide)
  obtain ⟨c, hc⟩ : ∃ c, r.1 = c := ⟨_, rfl⟩
  rw [hc] at H hP hQ
  have hok := hP.1.ok
  have hT := hok.2.2.2.1 i
  have hR := mRg hP i
  unfold aText at H
  have h76 : ∀ x : Int, pT (mkP B c) x = 1 → ptext (mkP B c) i = x → qR w 2 qm181 76 [(0, .ref 25), (2, qI k), (4, qI x)] [] (qset s 25 7 0) (qPI f g) := fun x hx hx2 => by
    rw [hx2] at H
    unfold pchar at H
    have hxo := hok.2.2.2.2 x hx
    refine k181_76 (m151 hP hx ⟨hk, fun z => k181_118 ?_, fun z => m125 hk d0 ⟨by omega, by omega⟩ ⟨bi_rg _, fun zz => k181_118 ?_, fun zz => m146 hP hx ?_ hk (k181_118 ?_)⟩⟩)
    · rw [if_pos ⟨hx, by omega, by omega⟩, if_pos z] at H; exact H
    · rw [bi_0, decide_eq_false_iff_not] at zz
      rw [if_neg (by omega)] at H; exact H
    · rw [bi_n, decide_eq_true_iff] at zz; exact zz.1
    · rw [bi_n, decide_eq_true_iff] at zz
      rw [if_pos ⟨hx, by omega, by omega⟩, if_neg z] at H
      rw [mCh_in (by omega)]; exact H
  have h33 : (pT (mkP B c) i = 7 ∨ pT (mkP B c) i = 8 ∨ pT (mkP B c) i = 16) → qR w 2 qm181 33 [(0, .ref 25), (1, qI i), (2, qI k), (3, qI (pT (mkP B c) i))] [] (qset s 25 7 0) (qPI f g) := fun t => by
    have e : ptext (mkP B c) i = pF (mkP B c) i := by unfold ptext; rw [if_neg (by omega), if_pos t]
    have ht : pT (mkP B c) (pF (mkP B c) i) = 1 := by
      rcases t with t | t | t
      · exact (snd7 hQ t).2
      · have := hQ i
        unfold lS at this
        rw [if_neg (by omega), if_pos t] at this
        exact of_decide_eq_true this
      · exact (snd16 hQ t).2
    have h := h76 _ ht e
    refine k181_33 (m141 hP hi (by omega) (k181_42 ⟨hR.1, fun y => absurd y (by omega), fun _ => ⟨hR.2.1, hi, fun _ => ⟨fun _ => h, fun t7 => ⟨fun _ => h, fun t8 => ⟨fun _ => h, fun t16 => absurd t (by omega)⟩⟩⟩, fun _ => h⟩⟩))
  refine m139 hP hi ⟨hR.1, fun t => h33 (Or.inl t), fun t7 => ⟨fun t => h33 (Or.inr (Or.inl t)), fun t8 => ⟨fun t => h33 (Or.inr (Or.inr t)), fun t16 => k181_42 ⟨hR.1, fun t1 => h76 i t1 ?_, fun t1 => ⟨hi, hi, fun _ => ⟨fun y => absurd y t7, fun _ => ⟨fun y => absurd y t8, fun _ => ⟨fun y => absurd y t16, fun _ => ?_⟩⟩⟩, fun y => absurd rfl y⟩⟩⟩⟩⟩
  · unfold ptext; rw [if_pos t1]
  · have e : ptext (mkP B c) i = -2 := by unfold ptext; rw [if_neg t1, if_neg (by omega)]
    rw [e] at H
    unfold pchar at H
    rw [if_neg (fun y => absurd y.1 (by rw [hok.2.2.1 (-2) (by omega)]; decide))] at H
    exact H
end MX
