/-! THE MODEL reads its entries, and checks them -/
theorem rU2_4 {B : Int → Int} {n p : Int} : bd (rU2 B n (p + 1)) (fun _ => bd (rU2 B n (p + 3)) (fun _ => (.inr (p + 5) : Int ⊕ Int))) = bd (rU4 B n (p + 1)) (fun _ => .inr (p + 5)) := by
  unfold rU2 rU4
  by_cases h : n < p + 1 + 2
  · rw [if_pos h, if_pos (show n < p + 1 + 4 by omega)]; rfl
  · rw [if_neg h]
    by_cases h2 : n < p + 3 + 2
    · rw [if_pos h2, if_pos (show n < p + 1 + 4 by omega)]; rfl
    · rw [if_neg h2, if_neg (show ¬ n < p + 1 + 4 by omega)]; rfl
theorem bd_r {α β : Type} {r : Int ⊕ α} {k : α → Int ⊕ β} {v : α} (h : r = .inr v) : bd r k = k v := by rw [h]; rfl
theorem bd_l {α β : Type} {r : Int ⊕ α} {k : α → Int ⊕ β} {e : Int} (h : r = .inl e) : bd r k = .inl e := by rw [h]; rfl
theorem rU1_l {B : Int → Int} {n p e : Int} (h : rU1 B n p = .inl e) : e = n := by
  unfold rU1 at h
  split at h <;> cases h
  rfl
theorem rU2_l {B : Int → Int} {n p e : Int} (h : rU2 B n p = .inl e) : e = n := by
  unfold rU2 at h
  split at h <;> cases h
  rfl
theorem rU4_l {B : Int → Int} {n p e : Int} (h : rU4 B n p = .inl e) : e = n := by
  unfold rU4 at h
  split at h <;> cases h
  rfl
theorem rTx_l {B : Int → Int} {e : Int} : ∀ (d : Nat) (p x : Int), 0 ≤ p → rTx B e d p = .inl x → 0 ≤ x ∧ x < e := by
  intro d
  induction d with
  | zero => intro p x h0 h; cases h
  | succ d ih =>
    intro p x h0 h
    unfold rTx at h
    split at h
    · split at h
      · exact ih _ x (by have := cw_rg (B p); omega) h
      · cases h; exact ⟨h0, by assumption⟩
    · cases h
theorem eTx_l {B : Int → Int} {n p e : Int} (hB : qB B n) (h0 : 0 ≤ p) (h : bd (rU2 B n (p + 1)) (fun m => bd (rBy n (p + 3) m) (fun _ => rTx B (p + 3 + m) m.toNat (p + 3))) = .inl e) : 0 ≤ e ∧ e ≤ n := by
  have := hB.1
  rcases bd_inl.mp h with h | ⟨v, h1, h⟩
  · have := rU2_l h; omega
  · rcases bd_inl.mp h with h | ⟨u, h2, h⟩
    · unfold rBy at h
      split at h <;> cases h
      omega
    · have h3 := rTx_l _ _ _ (by omega) h
      have := rBy_r h2
      omega
section ME
variable {w : qE} {s s0 s1 : qS} {B P : Int → Int} {n c i k p e : Int} {f : Int → qS → Prop} {fv : qS → Prop} {g : Nat → qS → Prop}
theorem m135_34_d (hF : mFt s0 e s) {v2 v3 : Int} (h2 : Rg v2) (h3 : Rg v3) (H : fv s) : qR w 4 qm135 34 [(0, .ref 25), (2, qI v2), (3, qI v3)] [] s (qPV fv g) :=
  k135_34 ⟨h3, h2, fun _ => m134_d hF ⟨⟨by decide, by decide⟩, fun _ => k135_271 H, fun y => absurd rfl y⟩, fun _ => k135_271 H⟩
theorem m135_loop (hS : mS s0 B n) (hc : 1 ≤ c ∧ c ≤ 65535) : ∀ (d : Nat) (i p : Int) (s : qS), 301 ≤ i + d → 1 ≤ i → i ≤ c → 3 * i ≤ p - 7 → p ≤ n → mAt s0 p s → s 25 11 = i → (∀ j, 1 ≤ j → j < i → s 29 j = P j) → (∀ j, i ≤ j → P j = qPl B c d i p j) → (∀ k, k ≠ 25 → k ≠ 29 → s k = s1 k) →
    qRes (rEn B n c d i p) (fun e => ∀ s', mFt s0 e s' → fv s') (fun q => ∀ s', mAt s0 q s' → s' 25 11 = c → (∀ j, 1 ≤ j → j < c → s' 29 j = P j) → (∀ k, k ≠ 25 → k ≠ 29 → s' k = s1 k) → fv s') →
    qR w 4 qm135 34 [(0, .ref 25), (2, qI c), (3, qI i)] [] s (qPV fv g) := by
  have h5 := hS.1.2.1
  intro d
  induction d with
  | zero => intro i p s hd h1 h2 h3 h4; omega
  | succ d ih =>
    intro i p s hd h1 h2 h3 h4 hA h11 hpl hP hfr H
    refine k135_34 ⟨⟨by omega, by omega⟩, ⟨by omega, by omega⟩, fun hlt => m134 hA ⟨⟨by decide, by decide⟩, fun y => absurd y (by decide), fun _ => ⟨by omega, by omega, by omega, by omega, ?_⟩⟩, fun hge => k135_271 ?_⟩
    · rw [hA.2.1]
      obtain ⟨sA, hsA⟩ : ∃ sA, qset (qset s 29 i p) 29 (i + 1) (-1) = sA := ⟨_, rfl⟩
      rw [hsA]
      have hAA : mAt s0 p sA := by
        rw [← hsA]
        exact (hA.set (by omega) (fun y => absurd y (by omega)) (fun y => absurd y (by omega))).set (by omega) (fun y => absurd y (by omega)) (fun y => absurd y (by omega))
      unfold rEn at H
      rw [if_pos hlt, qRes_bd] at H
      have hr1 : Rg (i + 1) := ⟨by omega, by omega⟩
      refine m132 hS hAA (by omega) h4 ?_
      cases hu : rU1 B n p with
      | inl e =>
        have he := rU1_l hu
        rw [hu] at H
        have hF : mFt s0 e (qset (qset sA 25 6 e) 25 11 (i + 1)) := (hAA.ft ⟨by omega, by omega⟩ (by omega) ⟨by omega, by omega⟩).set (by omega) (fun _ => by omega) (fun _ => hr1)
        exact m134_d hF ⟨⟨by decide, by decide⟩, fun _ => H _ hF, fun y => absurd rfl y⟩
      | inr t =>
        rw [hu] at H
        obtain ⟨hp1, rfl⟩ := rU1_r hu
        have H : qRes (bd (rCk (decide (¬ (B p = 5 ∨ B p = 6) ∨ i + 1 < c)) p) fun _ => bd (eBody B n p (B p)) fun q => rEn B n c d (eNx (B p) i) q) _ _ := H
        have hb := hS.1.2.2 p (by omega) (by omega)
        have hRb : Rg (B p) := ⟨by omega, by omega⟩
        show qW w 1 134 [.ref 25] (qset (qset sA 25 5 (p + 1)) 25 11 (i + 1)) _
        obtain ⟨s6, hs6⟩ : ∃ s6, qset (qset sA 25 5 (p + 1)) 25 11 (i + 1) = s6 := ⟨_, rfl⟩
        rw [hs6]
        have hA6 : mAt s0 (p + 1) s6 := by
          rw [← hs6]
          exact (hAA.mv (p + 1)).set (by omega) (fun _ => by omega) (fun _ => hr1)
        have h29 : ∀ j, s6 29 j = if j = i + 1 then -1 else if j = i then p else s 29 j := fun j => by
          rw [← hs6, qset_cell _ (by decide : (29 : Nat) ≠ 25), qset_cell _ (by decide : (29 : Nat) ≠ 25), ← hsA, qset_same, qset_same]
        have hfr6 : ∀ k, k ≠ 25 → k ≠ 29 → s6 k = s1 k := fun k k1 k2 => by
          rw [← hs6, qset_cell _ k1, qset_cell _ k1, ← hsA, qset_cell _ k2, qset_cell _ k2]
          exact hfr k k1 k2
        have h611 : s6 25 11 = i + 1 := by rw [← hs6, qset_same, if_pos rfl]
        clear hs6 hsA
        have bad : ∀ e, (¬ (B p = 5 ∨ B p = 6) ∨ i + 1 < c) → eBody B n p (B p) = .inl e → ∀ s', mFt s0 e s' → fv s' := fun e hw he => by
          rw [decide_eq_true hw, bd_r (show rCk true p = .inr () from rfl), bd_l he] at H
          exact H
        have dead : ∀ (e v3 : Int) (s' : qS), mFt s0 e s' → Rg (v3 + 1) → (∀ s', mFt s0 e s' → fv s') → qR w 4 qm135 265 [(0, .ref 25), (2, qI c), (3, qI v3)] [] s' (qPV fv g) := fun e v3 s' hF hv hh =>
          k135_265 (m135_34_d hF ⟨by omega, by omega⟩ hv (hh s' hF))
        have good : ∀ q, ¬ (B p = 5 ∨ B p = 6) → eBody B n p (B p) = .inr q → qR w 4 qm135 265 [(0, .ref 25), (2, qI c), (3, qI i)] [] (qset s6 25 5 q) (qPV fv g) := fun q hw hq => by
          rw [decide_eq_true (Or.inl hw), bd_r (show rCk true p = .inr () from rfl), bd_r hq] at H
          obtain ⟨e1, e2, e3, -, -⟩ := eBody_r hS.1 (by omega) hp1 hq
          have en : eNx (B p) i = i + 1 := by unfold eNx; rw [if_neg hw]
          rw [en] at H
          refine k135_265 (ih (i + 1) q _ (by omega) (by omega) (by omega) (by omega) e2 (hA6.mv q) (by rw [qset_same, if_neg (by decide)]; exact h611) (fun j j1 j2 => ?_) (fun j j1 => ?_) (fun k k1 k2 => by rw [qset_cell _ k1]; exact hfr6 k k1 k2) H)
          · rw [qset_cell _ (by decide), h29, if_neg (by omega)]
            split
            · next hj =>
              rw [hP j (by omega)]
              unfold qPl
              rw [if_pos hlt, if_pos hj]
            · exact hpl j j1 (by omega)
          · rw [hP j (by omega)]
            show (if _ then _ else _) = _
            rw [if_pos hlt, if_neg (by omega), if_neg (fun y => hw y.2), en, e1]
        have goodW : ∀ q, (B p = 5 ∨ B p = 6) → i + 1 < c → eBody B n p (B p) = .inr q → qR w 4 qm135 265 [(0, .ref 25), (2, qI c), (3, qI (i + 1))] [] (qset (qset s6 25 5 q) 25 11 (i + 1 + 1)) (qPV fv g) := fun q hw hw2 hq => by
          rw [decide_eq_true (Or.inr hw2), bd_r (show rCk true p = .inr () from rfl), bd_r hq] at H
          obtain ⟨e1, e2, e3, e4, -⟩ := eBody_r hS.1 (by omega) hp1 hq
          have e4 := e4 hw
          have en : eNx (B p) i = i + 2 := by unfold eNx; rw [if_pos hw]
          rw [en] at H
          rw [show i + 1 + 1 = i + 2 by omega]
          refine k135_265 ?_
          rw [show i + 1 + 1 = i + 2 by omega]
          refine ih (i + 2) q _ (by omega) (by omega) (by omega) (by omega) e2 ((hA6.mv q).set (by omega) (fun _ => by omega) (fun _ => ⟨by omega, by omega⟩)) (by rw [qset_same, if_pos rfl]) (fun j j1 j2 => ?_) (fun j j1 => ?_) (fun k k1 k2 => by rw [qset_cell _ k1, qset_cell _ k1]; exact hfr6 k k1 k2) H
          · rw [qset_cell _ (by decide), qset_cell _ (by decide), h29]
            split
            · next hj =>
              rw [hP j (by omega)]
              unfold qPl
              rw [if_pos hlt, if_neg (by omega), if_pos ⟨hj, hw⟩]
            · split
              · next hj =>
                rw [hP j (by omega)]
                unfold qPl
                rw [if_pos hlt, if_pos hj]
              · exact hpl j j1 (by omega)
          · rw [hP j (by omega)]
            show (if _ then _ else _) = _
            rw [if_pos hlt, if_neg (by omega), if_neg (by omega), en, e1]
        have rn : ∀ q : Int, p + 1 ≤ q → q ≤ n → Rg q := fun q q0 q1 => ⟨by omega, by omega⟩
        have nF : mFt s0 n (qset s6 25 6 n) := hA6.ft (rn _ (by omega) hp1) (by omega) ⟨by omega, by omega⟩
        have dF : ∀ q, Rg q → mFt s0 n (mDd s6 q n) := fun q hq => hA6.dd hq (by omega) ⟨by omega, by omega⟩
        have unk : ¬ okTag (B p) → qW w 1 133 [.ref 25, qI p] s6 (qPI (fun r s => qR w 4 qm135 265 [(0, .ref 25), (2, qI c), (3, qI i)] [] s (qPV fv g)) g) := fun ht => by
          unfold okTag at ht
          refine m133 hA6 (dead p i _ (hA6.ft (rn _ (by omega) hp1) (by omega) ⟨by omega, by omega⟩) hr1 (bad p (Or.inl (by omega)) ?_))
          unfold eBody
          rw [if_neg (by omega), if_neg (by omega), if_neg (by omega), if_neg (by omega), if_neg (by omega), if_neg (by omega)]
        refine m134 hA6 ⟨⟨by decide, by decide⟩, fun y => absurd y (by decide), fun _ => ⟨hRb, fun t1 => ?_, fun t1 => ?_⟩⟩
        · have e1 : eBody B n p (B p) = bd (rU2 B n (p + 1)) (fun m => bd (rBy n (p + 3) m) (fun _ => rTx B (p + 3 + m) m.toNat (p + 3))) := by unfold eBody; rw [if_pos t1]
          refine m136 hS hA6 (by omega) hp1 ?_
          rw [← e1]
          cases hb : eBody B n p (B p) with
          | inl e =>
            have he := eTx_l (p := p) hS.1 (by omega) (e1.symm.trans hb)
            exact fun q hq => dead e i _ (hA6.dd hq he.1 ⟨by omega, by omega⟩) hr1 (bad e (Or.inl (by omega)) hb)
          | inr q => exact good q (by omega) hb
        have c34 : (B p = 3 ∨ B p = 4) → qR w 4 qm135 117 [(0, .ref 25), (2, qI c), (3, qI i)] [] s6 (qPV fv g) := fun ht => by
          have e1 : eBody B n p (B p) = bd (rU4 B n (p + 1)) (fun _ => .inr (p + 5)) := by unfold eBody; rw [if_neg (by omega), if_pos ht]
          refine k135_117 (m130 hS hA6 (by omega) hp1 ?_)
          cases hb : rU4 B n (p + 1) with
          | inl e =>
            have := rU4_l hb; subst this
            exact fun v q _ q0 q1 => dead e i _ (dF q (rn q q0 q1)) hr1 (bad e (Or.inl (by omega)) (by rw [e1, bd_l hb]))
          | inr v =>
            have := good (p + 5) (by omega) (by rw [e1, bd_r hb])
            rw [show p + 5 = p + 1 + 4 by omega] at this
            exact this
        have c56 : (B p = 5 ∨ B p = 6) → qR w 4 qm135 138 [(0, .ref 25), (2, qI c), (3, qI i), (4, qI p)] [] s6 (qPV fv g) := fun ht => by
          have e1 : eBody B n p (B p) = bd (rU4 B n (p + 1)) (fun _ => bd (rU4 B n (p + 5)) (fun _ => .inr (p + 9))) := by unfold eBody; rw [if_neg (by omega), if_neg (by omega), if_pos ht]
          refine k135_138 ⟨hr1, ⟨by omega, by omega⟩, fun y => m133 hA6 ?_, fun y => k135_152 (m130 hS hA6 (by omega) hp1 ?_)⟩
          · have hF : mFt s0 p (qset s6 25 6 p) := hA6.ft (rn _ (by omega) hp1) (by omega) ⟨by omega, by omega⟩
            refine k135_152 (m130_d hS hF (m130_d hS hF (dead p (i + 1) _ (hF.set (by omega) (fun _ => by omega) (fun _ => ⟨by omega, by omega⟩)) ⟨by omega, by omega⟩ ?_)))
            rw [decide_eq_false (show ¬ (¬ (B p = 5 ∨ B p = 6) ∨ i + 1 < c) by omega), bd_l (show rCk false p = .inl p from rfl)] at H
            exact H
          · have hw : i + 1 < c := by omega
            cases hb : rU4 B n (p + 1) with
            | inl e =>
              have := rU4_l hb; subst this
              intro v q _ q0 q1
              have hF := dF q (rn q q0 q1)
              exact m130_d hS hF (dead e (i + 1) _ (hF.set (by omega) (fun _ => by omega) (fun _ => ⟨by omega, by omega⟩)) ⟨by omega, by omega⟩ (bad e (Or.inr hw) (by rw [e1, bd_l hb])))
            | inr v =>
              obtain ⟨q4, rfl⟩ := rU4_r hb
              refine m130 hS (hA6.mv (p + 1 + 4)) (by omega) q4 ?_
              rw [show p + 1 + 4 = p + 5 by omega]
              cases hb2 : rU4 B n (p + 5) with
              | inl e =>
                have := rU4_l hb2; subst this
                intro v q _ q0 q1
                rw [mDd_mDd]
                have hF := dF q (rn q (by omega) q1)
                exact dead e (i + 1) _ (hF.set (by omega) (fun _ => by omega) (fun _ => ⟨by omega, by omega⟩)) ⟨by omega, by omega⟩ (bad e (Or.inr hw) (by rw [e1, bd_r hb, bd_l hb2]))
              | inr v =>
                have := goodW (p + 9) ht hw (by rw [e1, bd_r hb, bd_r hb2])
                rw [show p + 9 = p + 5 + 4 by omega] at this
                show qR w 4 qm135 265 [(0, .ref 25), (2, qI c), (3, qI (i + 1))] [] (qset (qset (qset s6 25 5 (p + 5)) 25 5 (p + 5 + 4)) 25 11 (i + 1 + 1)) (qPV fv g)
                rw [qset_qset]
                exact this
        have c78 : (B p = 7 ∨ B p = 8 ∨ B p = 16) → qR w 4 qm135 196 [(0, .ref 25), (2, qI c), (3, qI i)] [] s6 (qPV fv g) := fun ht => by
          have e1 : eBody B n p (B p) = bd (rU2 B n (p + 1)) (fun _ => .inr (p + 3)) := by unfold eBody; rw [if_neg (by omega), if_neg (by omega), if_neg (by omega), if_pos ht]
          refine k135_196 (m131 hS hA6 (by omega) hp1 ?_)
          cases hb : rU2 B n (p + 1) with
          | inl e =>
            have := rU2_l hb; subst this
            exact fun v q _ _ q0 q1 => dead e i _ (dF q (rn q q0 q1)) hr1 (bad e (Or.inl (by omega)) (by rw [e1, bd_l hb]))
          | inr v =>
            have := good (p + 3) (by omega) (by rw [e1, bd_r hb])
            rw [show p + 3 = p + 1 + 2 by omega] at this
            exact this
        have c912 : (B p = 9 ∨ B p = 10 ∨ B p = 11 ∨ B p = 12 ∨ B p = 17 ∨ B p = 18) → qR w 4 qm135 250 [(0, .ref 25), (2, qI c), (3, qI i)] [] s6 (qPV fv g) := fun ht => by
          have e1 : eBody B n p (B p) = bd (rU4 B n (p + 1)) (fun _ => .inr (p + 5)) := by rw [← rU2_4]; unfold eBody; rw [if_neg (by omega), if_neg (by omega), if_neg (by omega), if_neg (by omega), if_pos ht]
          refine k135_250 (m130 hS hA6 (by omega) hp1 ?_)
          cases hb : rU4 B n (p + 1) with
          | inl e =>
            have := rU4_l hb; subst this
            exact fun v q _ q0 q1 => dead e i _ (dF q (rn q q0 q1)) hr1 (bad e (Or.inl (by omega)) (by rw [e1, bd_l hb]))
          | inr v =>
            have := good (p + 5) (by omega) (by rw [e1, bd_r hb])
            rw [show p + 5 = p + 1 + 4 by omega] at this
            exact this
        refine ⟨fun t => c34 (Or.inl t), fun t3 => ⟨fun t => c34 (Or.inr t), fun t4 => ⟨fun t => c56 (Or.inl t), fun t5 => ⟨fun t => c56 (Or.inr t), fun t6 => ⟨fun t => c78 (by omega), fun t7 => ⟨fun t => c78 (by omega), fun t8 => ⟨fun t => c78 (by omega), fun t16 => ⟨fun t => ?_, fun t15 => m125 hRb ⟨by decide, by decide⟩ ⟨by decide, by decide⟩ ⟨bi_rg _, fun z => ⟨fun t => c912 (by omega), fun t17 => ⟨fun t => c912 (by omega), fun t18 => unk ?_⟩⟩, fun z => c912 ?_⟩⟩⟩⟩⟩⟩⟩⟩⟩
        · have e1 : eBody B n p (B p) = bd (rU1 B n (p + 1)) (fun _ => bd (rU2 B n (p + 2)) (fun _ => .inr (p + 4))) := by unfold eBody; rw [if_neg (by omega), if_neg (by omega), if_neg (by omega), if_neg (by omega), if_neg (by omega), if_pos t]
          refine m132 hS hA6 (by omega) hp1 ?_
          cases hb : rU1 B n (p + 1) with
          | inl e =>
            have := rU1_l hb; subst this
            exact m131_d hS nF (dead e i _ nF hr1 (bad e (Or.inl (by omega)) (by rw [e1, bd_l hb])))
          | inr v =>
            obtain ⟨q4, rfl⟩ := rU1_r hb
            refine m131 hS (hA6.mv (p + 1 + 1)) (by omega) q4 ?_
            rw [show p + 1 + 1 = p + 2 by omega]
            cases hb2 : rU2 B n (p + 2) with
            | inl e =>
              have := rU2_l hb2; subst this
              intro v q _ _ q0 q1
              rw [mDd_mDd]
              exact dead e i _ (dF q (rn q (by omega) q1)) hr1 (bad e (Or.inl (by omega)) (by rw [e1, bd_r hb, bd_l hb2]))
            | inr v =>
              have := good (p + 4) (by omega) (by rw [e1, bd_r hb, bd_r hb2])
              rw [show p + 4 = p + 2 + 2 by omega] at this
              show qR w 4 qm135 265 [(0, .ref 25), (2, qI c), (3, qI i)] [] (qset (qset s6 25 5 (p + 2)) 25 5 (p + 2 + 2)) (qPV fv g)
              rw [qset_qset]
              exact this
        · rw [bi_0, decide_eq_false_iff_not] at z
          unfold okTag
          omega
        · rw [bi_n, decide_eq_true_iff] at z
          omega
    · have hic : i = c := by omega
      unfold rEn at H
      rw [if_neg (by omega)] at H
      subst hic
      exact H s hA h11 hpl hfr
theorem m135 (hS : mS s0 B n) (hA : mAt s0 8 s) (h8 : 8 ≤ n) (H : qRes (rEnts B n) (fun e => ∀ s', mFt s0 e s' → fv s') (fun q => ∀ s', mAt s0 q.2 s' → mPo s' B n q.1 → (∀ k, k ≠ 25 → k ≠ 29 → s' k = s k) → fv s')) : qW w 5 135 [.ref 25] s (qPV fv g) := by
  have h5 := hS.1.2.1
  unfold rEnts at H
  rw [qRes_bd] at H
  refine k135 (m131 hS hA (by decide) h8 ?_)
  cases hu : rU2 B n 8 with
  | inl e =>
    have := rU2_l hu; subst this
    rw [hu] at H
    intro v q v0 v1 q0 q1
    have hF := hA.dd (q := q) (e := e) ⟨by omega, by omega⟩ (by omega) ⟨by omega, by omega⟩
    have hF2 := hF.set (k := 25) (j := 11) (v := 1) (by omega) (fun _ => by omega) (fun _ => ⟨by decide, by decide⟩)
    exact m134_d hF ⟨⟨by decide, by decide⟩, fun _ => k135_27 (m135_34_d hF2 ⟨by omega, by omega⟩ ⟨by decide, by decide⟩ (H _ hF2)), fun y => absurd rfl y⟩
  | inr v =>
    obtain ⟨q1, rfl⟩ := rU2_r hu
    have r := b2_rg hS.1 (p := 8) (by decide) q1
    rw [hu] at H
    have H : qRes (bd (rCk (decide (1 ≤ b2 B 8)) 8) fun _ => bd (rEn B n (b2 B 8) 300 1 10) fun q => .inr (b2 B 8, q)) _ _ := H
    have hA2 := hA.mv (8 + 2)
    show qW w 1 134 [.ref 25] (qset s 25 5 (8 + 2)) _
    refine m134 hA2 ⟨⟨by decide, by decide⟩, fun y => absurd y (by decide), fun _ => ⟨⟨by omega, by omega⟩, fun y => ?_, fun y => ?_⟩⟩
    · rw [decide_eq_false (by omega), bd_l (show rCk false 8 = .inl 8 from rfl)] at H
      rw [hA.2.1]
      have hF := hA2.ft (e := 8) ⟨by omega, by omega⟩ (by omega) ⟨by omega, by omega⟩
      have hF2 := hF.set (k := 25) (j := 11) (v := 1) (by omega) (fun _ => by omega) (fun _ => ⟨by decide, by decide⟩)
      exact m133 hA2 (k135_27 (m135_34_d hF2 ⟨by omega, by omega⟩ ⟨by decide, by decide⟩ (H _ hF2)))
    · rw [decide_eq_true (by omega), bd_r (show rCk true 8 = .inr () from rfl)] at H
      have hA3 := hA2.set (k := 25) (j := 11) (v := 1) (by omega) (fun _ => by omega) (fun _ => ⟨by decide, by decide⟩)
      rw [qRes_bd] at H
      refine k135_27 (m135_loop (s1 := s) (P := mkA B (b2 B 8)) hS (by omega) 300 1 10 _ (by decide) (by decide) (by omega) (by decide) (by omega) hA3 (by rw [qset_same, if_pos rfl]) (fun j j1 j2 => by omega) (fun j _ => rfl) (fun k k1 k2 => by rw [qset_cell _ k1, qset_cell _ k1]) ?_)
      refine qRes_mono H (fun _ _ h => h) (fun q hq H s' a1 a2 a3 a4 => ?_)
      refine H s' a1 ⟨⟨hS.1, by omega, by omega, q, hq⟩, a2, a3, fun i i0 i1 => hS.kp a1.1 i0 i1, ?_⟩ a4
      unfold mL
      rw [a1.1.2.1]
      exact hS.2.2.2
theorem m138 (hS : mS s0 B n) (hA : mAt s0 p s) (hp : 0 ≤ p ∧ p ≤ n) (hP : mPo s B n c) (H : qRes (rLk (mkP B c) (c - 1).toNat 1) (fun e => ∀ s', mFt s0 e s' → fv s') (fun _ => ∀ s', mSg s s' → fv s')) : qW w 8 138 [.ref 25] s (qPV fv g) := by
  have h5 := hS.1.2.1
  have hc := hP.1.lim
  have hc1 := hP.1.2.1
  have key : ∀ (d : Nat) (i : Int) (s' : qS), mSg s s' → 1 ≤ i → i + d = c → qRes (rLk (mkP B c) d i) (fun e => ∀ s', mFt s0 e s' → fv s') (fun _ => ∀ s', mSg s s' → fv s') → qR w 7 qm138 2 [(0, .ref 25), (1, qI i)] [] s' (qPV fv g) := by
    intro d
    induction d with
    | zero =>
      intro i s' hM h1 h2 H
      refine k138_2 ⟨⟨by omega, by omega⟩, by rw [(hM.po hP).2.1]; exact ⟨by omega, by omega⟩, fun y => absurd y (by rw [(hM.po hP).2.1]; omega), fun _ => k138_50 (H s' hM)⟩
    | succ d ih =>
      intro i s' hM h1 h2 H
      have hA2 := hA.sg hM
      have hP2 := hM.po hP
      unfold rLk at H
      have hT := hP.1.ok.2.2.2.1 i
      have next : ∀ s'' : qS, mSg s s'' → lS (mkP B c) i = true → qR w 7 qm138 44 [(0, .ref 25), (1, qI i)] [] s'' (qPV fv g) := fun s'' hM2 hl => by
        rw [if_pos hl] at H
        exact k138_44 (ih (i + 1) s'' hM2 (by omega) (by omega) H)
      refine k138_2 ⟨⟨by omega, by omega⟩, by rw [hP2.2.1]; exact ⟨by omega, by omega⟩, fun _ => m134 hA2 ⟨⟨by decide, by decide⟩, fun y => absurd y (by decide), fun _ => m139 hP2 ⟨by omega, by omega⟩ ⟨(mRg hP2 i).1, fun y => m140 hP2 ⟨by omega, by omega⟩ (fun s'' hM2 => ?_), fun y => next s' hM ?_⟩⟩, fun y => absurd y (by rw [hP2.2.1]; omega)⟩
      · have hM3 := hM.trans hM2
        have hP3 := hM3.po hP
        refine ⟨bi_rg _, fun z => ⟨by omega, by omega, ?_⟩, fun z => next s'' hM3 (bi_n.mp z)⟩
        rw [bi_0] at z
        rw [if_neg (by rw [z]; decide)] at H
        obtain ⟨on1, on2, on3, on4, -, -⟩ := hP.1.on (pT_on (B := B) (c := c) (i := i) (by omega))
        have eO : pO (mkP B c) i = mkA B c i := by
          show xO c (mkA B c) i = _
          unfold xO
          rw [if_pos (pT_on (B := B) (c := c) (i := i) (by omega))]
        rw [hP3.2.2.1 i h1 (by omega), ← eO]
        have hA3 := hA.sg hM3
        have hF := hA3.ft (e := pO (mkP B c) i) ⟨by omega, by omega⟩ (by omega) ⟨by omega, by omega⟩
        refine m133 hA3 (k138_44 (k138_2 ⟨⟨by omega, by omega⟩, hF.1.2.2.2.2.2.2.2.1, fun _ => m134_d hF ⟨⟨by decide, by decide⟩, fun _ => k138_50 (H _ hF), fun y => absurd rfl y⟩, fun _ => k138_50 (H _ hF)⟩))
      · exact lS_out (by omega)
  exact k138 (key (c - 1).toNat 1 s (mSg.rfl' s) (by omega) (by omega) H)
end ME
