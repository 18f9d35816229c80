/-! METHODS; the class reads them; read, all of it -/
theorem rMH_r {π : qP} {B : Int → Int} {n k q : Int} {MP : Int → Int} {v : Unit} (h : rMH π B n k MP q = .inr v) : q + 6 ≤ n ∧ pT π (b2 B (q + 4)) = 1 := by
  unfold rMH at h
  obtain ⟨_, h1, h⟩ := bd_inr.mp h
  obtain ⟨_, h2, h⟩ := bd_inr.mp h
  obtain ⟨_, h3, h⟩ := bd_inr.mp h
  obtain ⟨_, h4, h⟩ := bd_inr.mp h
  obtain ⟨e1, rfl, e3⟩ := rText_r h4
  exact ⟨by omega, pfit_T e3⟩
theorem gK_0 (C : Int → Int) : qand (gK C 0) 32 = 0 := by
  have e1 : gMeth C 0 0 = false := rfl
  have e2 : gPath C (0 : Int).toNat 0 true = false := rfl
  have e3 : gIs C 0 0 wInit = false := rfl
  have e4 : gIs C 0 0 wClinit = false := rfl
  have e5 : gField C 0 0 = -1 := rfl
  unfold gK gNK
  rw [e1, e2, e3, e4, e5]
  have e6 : decide ((-1 : Int) = 0) = false := rfl
  rw [e6, Bool.false_and]
  have e7 : qand 0 32 = 0 := by decide
  exact e7
section MM
variable {w : qE} {s s0 : qS} {B : Int → Int} {n p q : Int} {π : qP} {f : Int → qS → Prop} {fv : qS → Prop} {g : Nat → qS → Prop}
theorem c89 (hw : qfv w) (hP : qCP s π) (hK : qCK s π) {nm ds : Int} (rn : Rg nm) (rd : Rg ds) (td : pT π ds = 1) (H : f (bi (aM π nm ds)) s) : qW w 7 89 [.ref 17, qI nm, qI ds] s (qPI f g) := by
  obtain ⟨t1, t2, t3, -⟩ := hP.1.2.2.2.2 ds td
  unfold aM at H
  refine k89 (c51 hP hK rn ⟨bi_rg _, fun z => c49 hP rd ?_, fun z => ?_⟩)
  · rw [bi_0] at z
    rw [if_neg (by rw [z]; decide)] at H
    rw [pg_in hP.1 (by omega)]
    refine c65 hP rd ⟨by omega, by omega⟩ (c51 hP hK rn ⟨bi_rg _, fun z2 => k89_63 (k89_68 ⟨Or.inr rfl, ?_⟩), fun z2 => ⟨pchar_rg hP.1 _ _, fun c => k89_63 (k89_68 ⟨Or.inr rfl, ?_⟩), fun c => k89_68 ⟨Or.inl rfl, ?_⟩⟩⟩)
    · rw [bi_0] at z2; rw [z2] at H; exact H
    · rw [decide_eq_true c, Bool.or_true] at H; exact H
    · rw [bi_n] at z2; rw [z2, decide_eq_false c] at H; exact H
  · rw [bi_n] at z
    rw [if_pos z] at H
    refine c72 hw qso108 hP rd ⟨bi_01 _, ?_⟩
    rw [qso108w]
    exact H
theorem c87 (hw : qfv w) (hB : qB B n) (hP : qCP s π) (hK : qCK s π) (hA : qAt s0 B n q s) (h0 : 0 ≤ q) (h1 : q ≤ n) {i : Int} {MP : Int → Int} (hi : s 22 2 = i ∧ 0 ≤ i ∧ i ≤ 61) (hR : ∀ j, 0 ≤ j → j < i → s 23 (j * 8 + 1) = b2 B (MP j + 2) ∧ s 23 (j * 8 + 2) = b2 B (MP j + 4) ∧ Rg (b2 B (MP j + 2)) ∧ Rg (b2 B (MP j + 4))) (H : qRes (rMH π B n i MP q) (fun e => ∀ s', qFt s0 n e s' → g 0 s') (fun _ => ∀ s', qAt s0 B n (q + 6) s' → qHR s s' 22 i (b2 B q) (b2 B (q + 2)) (b2 B (q + 4)) (slM π (b2 B (q + 4))) → f i s')) : qW w 8 87 [.ref 17] s (qPI f g) := by
  have h5 := hB.2.1
  unfold rMH at H
  rw [qRes_bd] at H
  refine k87 (c_u2 hB hA h0 h1 (qRes_mono H (fun _ _ h => h) (fun fl hv H => c88 (c21 ?_))))
  obtain ⟨q1, rfl⟩ := rU2_r hv
  have hA1 := hA.mv (q + 2)
  have hP1 := qAt.pool hP (q + 2)
  have hK1 := qAt.kinds hK (q + 2)
  rw [qRes_bd] at H
  refine c_ck (p := q) hA1 rfl (by rw [hA1.2.1]; omega) (qRes_mono H (fun _ _ h => h) (fun _ _ H => ?_))
  rw [qRes_bd] at H
  refine c63 hB hP1 hK1 hA1 (by omega) q1 (qRes_mono H (fun _ _ h => h) (fun nm hn H => ?_))
  obtain ⟨q2, rfl, n1⟩ := rText_r hn
  have hA2 := hA1.mv (q + 2 + 2)
  have hP2 := qAt.pool hP1 (q + 2 + 2)
  have hK2 := qAt.kinds hK1 (q + 2 + 2)
  refine c21 ?_
  rw [hA2.2.1]
  rw [qRes_bd, show q + 4 = q + 2 + 2 by omega] at H
  refine c63 hB hP2 hK2 hA2 (by omega) q2 (qRes_mono H (fun _ _ h => h) (fun ds hd H => ?_))
  obtain ⟨q3, rfl, n2⟩ := rText_r hd
  have td := pfit_T n2
  have hA3 := hA2.mv (q + 2 + 2 + 2)
  have hP3 := qAt.pool hP2 (q + 2 + 2 + 2)
  have hK3 := qAt.kinds hK2 (q + 2 + 2 + 2)
  have rn := b2_rg hB (p := q + 2) (by omega) q2
  have rd := b2_rg hB (p := q + 2 + 2) (by omega) q3
  obtain ⟨u, hu⟩ : ∃ u, u = qset (qset (qset s 1 2 (q + 2)) 1 2 (q + 2 + 2)) 1 2 (q + 2 + 2 + 2) := ⟨_, rfl⟩
  have uc : ∀ c, c ≠ 1 → u c = s c := fun c hc => by rw [hu, qset_cell _ hc, qset_cell _ hc, qset_cell _ hc]
  rw [← hu] at hA3 hP3 hK3 ⊢
  rw [qRes_bd] at H
  refine c89 hw hP3 hK3 ⟨by omega, by omega⟩ ⟨by omega, by omega⟩ td (c21 (c_ck (p := q + 2 + 2) hA3 rfl (by rw [hA3.2.1]; omega) (qRes_mono H (fun _ _ h => h) (fun _ _ H => ?_))))
  refine c64 (t := 22) rfl rfl (by rw [uc 22 (by decide)]; exact hi) (fun z z1 z2 z3 z4 z5 z6 => ?_)
  have hAz : qAt s0 B n (q + 2 + 2 + 2) z := hA3.fr (z6 1 (by decide) (by decide)) (z6 0 (by decide) (by decide)) (z6 2 (by decide) (by decide)) (fun k hk => z6 k (by omega) (by omega))
  have hPz : qCP z π := hP3.fr (z6 4 (by decide) (by decide)) (z6 5 (by decide) (by decide)) (z6 6 (by decide) (by decide))
  rw [qRes_bd] at H
  have hx := hPz.gx td
  have hN1 : 0 < pN π (b2 B (q + 2 + 2)) := by
    by_cases c : 0 < pN π (b2 B (q + 2 + 2))
    · exact c
    · exfalso
      have hz : pN π (b2 B (q + 2 + 2)) = 0 := by have := hx.2.1; omega
      unfold pfit at n2
      have n2 := (of_decide_eq_true n2).2
      unfold pK at n2
      rw [hz] at n2
      exact n2 (gK_0 _)
  refine c37 hPz ⟨by omega, by omega⟩ (fun a ha _ => c38 hPz ⟨by omega, by omega⟩ td ?_)
  rw [ha td]
  refine c90 hx (k := 0) (e := pN π (b2 B (q + 2 + 2))) (by decide) hN1 (by omega) (by omega) rfl ?_
  refine c_set8 (t := 22) rfl rfl (by rw [z1]; omega) (by rw [z1]; omega) (by decide) ?_
  obtain ⟨v, hv⟩ : ∃ v, v = slM π (b2 B (q + 2 + 2)) := ⟨_, rfl⟩
  have hv' : gSl (pC π (b2 B (q + 2 + 2))) (pN π (b2 B (q + 2 + 2))) 500 (0 + 1) 0 = v := hv.symm
  rw [hv']
  have hAy := hAz.set (k := 22 + 1) (j := i * 8 + 4) (v := v) ⟨by decide, by decide⟩
  have hPy : qCP (qset z (22 + 1) (i * 8 + 4) v) π := hPz.setW (Or.inl (by decide))
  have yc : ∀ x, x ≠ 4 → 0 ≤ x → x < 8 → qset z (22 + 1) (i * 8 + 4) v 23 (i * 8 + x) = z 23 (i * 8 + x) := fun x x4 _ _ => by rw [qset_same, if_neg (by omega)]
  refine c67 (B := B) (t := 22) (MP := MP) (nm := b2 B (q + 2)) (ds := b2 B (q + 2 + 2)) rfl rfl hPy (by rw [qset_cell _ (by decide), z1]; omega) (fun j j0 j1 => ?_) ⟨by omega, by omega⟩ ⟨by omega, by omega⟩ (by rw [yc 1 (by decide) (by decide) (by decide)]; exact z4) (by rw [yc 2 (by decide) (by decide) (by decide)]; exact z5) ?_
  · have := hR j j0 j1
    rw [qset_same, if_neg (by omega), qset_same, if_neg (by omega), z2 _ (by omega), z2 _ (by omega), uc 23 (by decide)]
    exact this
  · have h125 : ∀ b : Bool, b = !isTw π B MP (b2 B (q + 2)) (b2 B (q + 2 + 2)) i.toNat 0 → qR w 7 qm87 159 [(3, qI (q + 2 + 2 - 2)), (5, qI i)] [qI (bi b), .ref 1] (qset z (22 + 1) (i * 8 + 4) v) (qPI f g) := by
      intro b hb
      refine k87_159 (c_ck (p := q + 2) hAy rfl (by omega) ?_)
      rw [hb]
      refine qRes_mono H (fun _ _ h => h) (fun _ _ H => ?_)
      have e6 : q + 6 = q + 2 + 2 + 2 := by omega
      have H : ∀ s', qAt s0 B n (q + 6) s' → qHR s s' 22 i (b2 B q) (b2 B (q + 2)) (b2 B (q + 2 + 2)) (slM π (b2 B (q + 2 + 2))) → f i s' := H
      rw [e6] at H
      refine H _ hAy ⟨by rw [qset_cell _ (by decide)]; exact z1, fun y hy => ?_, ?_, ?_, ?_, ?_, fun c c1 c2 c3 => ?_⟩
      · rw [qset_same, if_neg (by omega), z2 y hy, uc 23 (by decide)]
      · rw [yc 0 (by decide) (by decide) (by decide)]; exact z3
      · rw [yc 1 (by decide) (by decide) (by decide)]; exact z4
      · rw [yc 2 (by decide) (by decide) (by decide)]; exact z5
      · rw [qset_same, if_pos rfl]; exact hv
      · rw [qset_cell _ c3, z6 c c2 c3, uc c c1]
    refine ⟨bi_rg _, fun z => h125 true ?_, fun z => h125 false ?_⟩
    · rw [bi_0] at z; rw [z]; rfl
    · rw [bi_n] at z; rw [z]; rfl
theorem vVal_code {att : Int → Int} (h : attOk B n 2 att) : (vVal B att ≠ -2) ↔ 0 ≤ att 2 := by
  obtain ⟨i1, i2, i3, i4⟩ := h
  unfold vVal
  rw [i2 (by decide), if_neg (by decide)]
  constructor
  · intro y
    by_cases c : 0 ≤ att 2
    · exact c
    · rw [if_neg c] at y; exact absurd rfl y
  · intro y
    rw [if_pos y]
    have := i1 y
    omega
theorem vVal_rg {pl : Int} {att : Int → Int} (hB : qB B n) (h : attOk B n pl att) (h1 : 0 ≤ att 1 → att 1 + 2 ≤ n) : Rg (vVal B att) := by
  obtain ⟨i1, i2, i3, i4⟩ := h
  unfold vVal
  split
  · next c =>
    have := b2_rg hB c (h1 c)
    exact ⟨by omega, by omega⟩
  · split
    · exact b4_rg _ _
    · exact ⟨by decide, by decide⟩
theorem c86_loop (hw : qfv w) (hB : qB B n) {m p0 : Int} (hp : 10 ≤ p0) (hm : 0 ≤ m ∧ m ≤ 65535) : ∀ (d : Nat) (k q : Int) (MP : Int → Int) (MA : Int → Int → Int) (s : qS), (d : Int) + k = m → 0 ≤ k → p0 + 8 * k ≤ q → q ≤ n → qAt s0 B n q s → qCP s π → qCK s π → qMem s 22 B (slM π) MP MA k → (∀ j, 0 ≤ j → j < k → Rg (b2 B (MP j + 2)) ∧ Rg (b2 B (MP j + 4))) → qRes (rMs π B n true d k q MP MA) (fun e => ∀ s', qFt s0 n e s' → g 0 s') (fun r => ∀ s', qAt s0 B n r.1 s' → qMem s' 22 B (slM π) r.2.1 r.2.2 m → (∀ c, c ≠ 1 → ¬ (8 ≤ c ∧ c ≤ 16) → c ≠ 22 → c ≠ 23 → s' c = s c) → fv s') → qR w 8 qm86 18 [(0, .ref 17), (1, qI m), (2, qI k)] [] s (qPV fv g) := by
  have h5 := hB.2.1
  intro d
  induction d with
  | zero =>
    intro k q MP MA s hd k0 hq h1 hA hP hK hC hR H
    have : k = m := by omega
    subst this
    exact k86_18 ⟨⟨by omega, by omega⟩, ⟨by omega, by omega⟩, fun c => absurd c (by omega), fun _ => H s hA hC (fun _ _ _ _ _ => rfl)⟩
  | succ d ih =>
    intro k q MP MA s hd k0 hq h1 hA hP hK hC hR H
    unfold rMs rMem at H
    rw [if_pos rfl, qRes_bd, qRes_bd] at H
    have hk61 : k ≤ 61 := by omega
    refine k86_18 ⟨⟨by omega, by omega⟩, ⟨by omega, by omega⟩, fun _ => c21 (c87 (MP := MP) hw hB hP hK hA (by omega) h1 ⟨hC.1, k0, hk61⟩ (fun j j0 j1 => ?_) (qRes_mono H (fun _ _ h => h) (fun _ hv H z hAz hH => ?_))), fun c => absurd c (by omega)⟩
    · have := hC.2 j j0 j1
      exact ⟨this.2.1, this.2.2.1, hR j j0 j1⟩
    · obtain ⟨q6, t1⟩ := rMH_r hv
      obtain ⟨x1, x2, x3, x4, x5, x6, x7⟩ := hH
      have r0 := b2_rg hB (p := q) (by omega) (by omega)
      have rn := b2_rg hB (p := q + 2) (by omega) (by omega)
      have rd := b2_rg hB (p := q + 4) (by omega) (by omega)
      have hPz : qCP z π := hP.fr (x7 4 (by decide) (by decide) (by decide)) (x7 5 (by decide) (by decide) (by decide)) (x7 6 (by decide) (by decide) (by decide))
      rw [hA.2.1]
      rw [qRes_bd] at H
      refine c69 hw hB (Or.inr (Or.inl rfl)) ⟨by decide, by decide⟩ hPz hAz (by omega) q6 (fun y => absurd y (by decide)) (qRes_mono H (fun _ _ h => h) (fun r hr H y hAy hF hM _ => ?_))
      obtain ⟨iv, r1, r2⟩ := rAtts_inv (by omega) hr
      have y22 : y 22 = z 22 := hF 22 (by decide) (by decide)
      have y23 : y 23 = z 23 := hF 23 (by decide) (by decide)
      refine c85 (t := 22) rfl rfl (by decide) (by rw [y22, x1]; omega) (fun v v1 v2 v3 v4 v5 v6 v7 v8 v9 v10 => ?_)
      have hPv : qCP v π := hPz.fr (by rw [v10 4 (by decide), hF 4 (by decide) (by decide)]) (by rw [v10 5 (by decide), hF 5 (by decide) (by decide)]) (by rw [v10 6 (by decide), hF 6 (by decide) (by decide)])
      have hKv : qCK v π := hK.fr (by rw [v10 5 (by decide), hF 5 (by decide) (by decide), x7 5 (by decide) (by decide) (by decide)])
      have hAv : qAt s0 B n r.1 v := hAy.fr (v10 1 (by decide)) (v10 0 (by decide)) (v10 2 (by decide)) (fun c hc => v10 c (by omega))
      have v22 : v 22 2 = k + 1 := by rw [v10 22 (by decide), y22, x1]
      refine c_get8 (t := 22) rfl rfl (by rw [v22]; omega) (by rw [v22]; omega) (by decide) ?_
      have ev0 : v (22 + 1) (k * 8 + 0) = b2 B q := by rw [v2, show y (22 + 1) = z 23 from y23]; exact x3
      have ev5 : v (22 + 1) (k * 8 + 5) = vVal B r.2 := by rw [v7]; exact hM.1
      rw [ev0]
      have i2' := iv.2.1 (by decide)
      have rv : Rg (vVal B r.2) := vVal_rg hB iv (fun y => by rw [i2'] at y; exact absurd y (by decide))
      rw [qRes_bd] at H
      have h123 : ∀ b : Bool, b = (decide (qand (b2 B q) 1280 ≠ 0) != decide (0 ≤ r.2 2)) → qR w 8 qm86 123 [(0, .ref 17), (1, qI m), (2, qI k), (3, qI q)] [qI (bi b), .ref 1] v (qPV fv g) := by
        intro b hb
        refine k86_123 (c_ck (p := q) (b := decide (qand (b2 B q) 1280 ≠ 0) != decide (0 ≤ r.2 2)) hAv (by rw [hb]) rfl (qRes_mono H (fun _ _ h => h) (fun _ _ H => ?_)))
        refine ih (k + 1) r.1 (upI MP k q) (upF MA k r.2) v (by omega) (by omega) (by omega) r2 hAv hPv hKv ⟨v22, fun j j0 j1 => ?_⟩ (fun j j0 j1 => ?_) (qRes_mono H (fun _ _ h => h) (fun r _ H s' a1 a2 a3 => H s' a1 a2 (fun c c1 c2 c3 c4 => ?_)))
        · rw [upI_at, upF_at]
          by_cases hj : j = k
          · subst hj
            rw [if_pos rfl, if_pos rfl]
            refine ⟨ev0, ?_, ?_, v5, ?_, ev5, ?_, ?_⟩
            · rw [v3, show y (22 + 1) = z 23 from y23]; exact x4
            · rw [v4, show y (22 + 1) = z 23 from y23]; exact x5
            · rw [v6, show y (22 + 1) = z 23 from y23]; exact x6
            · rw [v8]; exact hM.2.1
            · rw [v9]; exact hM.2.2
          · rw [if_neg hj, if_neg hj]
            refine (hC.2 j j0 (by omega)).fr (i := k) (by omega) (fun x hx => ?_)
            rw [v1 x hx, show y (22 + 1) = z 23 from y23]
            exact x2 x hx
        · rw [upI_at]
          by_cases hj : j = k
          · rw [if_pos hj]; exact ⟨⟨by omega, by omega⟩, ⟨by omega, by omega⟩⟩
          · rw [if_neg hj]; exact hR j j0 (by omega)
        · rw [a3 c c1 c2 c3 c4, v10 c c4, hF c c1 c2, x7 c c1 c3 c4]
      have h105 : ∀ b1 b2' : Bool, b1 = decide (qand (b2 B q) 1280 ≠ 0) → b2' = decide (0 ≤ r.2 2) → qR w 8 qm86 105 [(0, .ref 17), (1, qI m), (2, qI k), (3, qI q), (6, qI (bi b1))] [qI (bi b2')] v (qPV fv g) := by
        intro b1 b2' hb1 hb2
        refine k86_105 ⟨bi_rg _, bi_rg _, fun c => h123 false ?_, fun c => h123 true ?_⟩
        · rw [← hb1, ← hb2]
          cases b1 <;> cases b2' <;> first | rfl | (exfalso; revert c; decide)
        · rw [← hb1, ← hb2]
          cases b1 <;> cases b2' <;> first | rfl | (exfalso; exact c rfl)
      have h83 : ∀ b1 : Bool, b1 = decide (qand (b2 B q) 1280 ≠ 0) → qR w 8 qm86 83 [(0, .ref 17), (1, qI m), (2, qI k), (3, qI q), (4, qI k)] [qI (bi b1)] v (qPV fv g) := by
        intro b1 hb1
        refine k86_83 (c_get8 (t := 22) rfl rfl (by rw [v22]; omega) (by rw [v22]; omega) (by decide) ?_)
        rw [ev5]
        refine ⟨rv, fun c => h105 b1 false hb1 ?_, fun c => h105 b1 true hb1 ?_⟩
        · have : ¬ 0 ≤ r.2 2 := fun y => (vVal_code iv).mpr y c
          rw [decide_eq_false this]
        · rw [decide_eq_true ((vVal_code iv).mp c)]
      exact ⟨qand_Rg _ _, fun c => h83 false (decide_eq_false (fun y => y c)).symm, fun c => h83 true (decide_eq_true c).symm⟩
theorem c86 (hw : qfv w) (hB : qB B n) (hP : qCP s π) (hK : qCK s π) (hA : qAt s0 B n p s) (h0 : 8 ≤ p) (h1 : p ≤ n) (H : qRes (rMbs π B n true p) (fun e => ∀ s', qFt s0 n e s' → g 0 s') (fun r => ∀ s', qAt s0 B n r.1 s' → qMem s' 22 B (slM π) r.2.1 r.2.2 (b2 B p) → (∀ c, c ≠ 1 → ¬ (8 ≤ c ∧ c ≤ 16) → c ≠ 22 → c ≠ 23 → s' c = s c) → fv s')) : qW w 9 86 [.ref 17] s (qPV fv g) := by
  unfold rMbs at H
  rw [qRes_bd] at H
  refine k86 (c24 (t := 22) (by decide) ?_)
  have hA1 := hA.set (k := 22) (j := 2) (v := 0) ⟨by decide, by decide⟩
  have hP1 : qCP (qset s 22 2 0) π := hP.setW (Or.inl (by decide))
  have hK1 : qCK (qset s 22 2 0) π := hK.setW (by decide)
  refine c_u2 hB hA1 (by omega) h1 (qRes_mono H (fun _ _ h => h) (fun m hm H => ?_))
  obtain ⟨q1, rfl⟩ := rU2_r hm
  have r1 := b2_rg hB (p := p) (by omega) q1
  refine c86_loop hw hB (p0 := p + 2) (by omega) r1 (b2 B p).toNat 0 (p + 2) (fun _ => 0) (fun _ => att0) _ (by omega) (by decide) (by omega) q1 (hA1.mv _) (qAt.pool hP1 _) (qAt.kinds hK1 _) ⟨by simp [qset_eq], fun k k0 k1 => absurd k1 (by omega)⟩ (fun j j0 j1 => absurd j1 (by omega)) (qRes_mono H (fun _ _ h => h) (fun r _ H s' a1 a2 a3 => H s' a1 a2 (fun c c1 c2 c3 c4 => ?_)))
  rw [a3 c c1 c2 c3 c4, qset_cell _ c1, qset_cell _ c3]
end MM
