/-! READ: all of it; the class -/
abbrev qRes2 : Type := Int × Int × Int × (Int × (Int → Int) × (Int → Int → Int)) × (Int × (Int → Int) × (Int → Int → Int)) × (Int × (Int → Int))
def vBoots (B : Int → Int) (att : Int → Int) : Int := if 0 ≤ att 9 then b2 B (att 9) else 0
/-- behind the version: the count of numbers, where the head stands, where it ends, the fields, the methods, the whole's attributes -/
def rRest (B : Int → Int) (n : Int) : Int ⊕ qRes2 := bd (rEnts B n) (fun e => bd (rLk (mkP B e.1) (e.1 - 1).toNat 1) (fun _ => bd (rHead (mkP B e.1) B n e.2) (fun h => bd (rMbs (mkP B e.1) B n false h) (fun F => bd (rMbs (mkP B e.1) B n true F.1) (fun M => bd (rAtts (mkP B e.1) B n 3 (-2) M.1) (fun A => bd (rCk (decide (A.1 = n)) A.1) (fun _ => bd (rBo (mkP B e.1) (vBoots B A.2) (e.1 - 1).toNat 1) (fun _ => .inr (e.1, e.2, h, F, M, A)))))))))
/-- what the class holds when all is read -/
def qFin (s0 : qS) (B : Int → Int) (n : Int) (r : qRes2) (s : qS) : Prop := s 0 6 = 1 ∧ s 1 1 = n ∧ s 1 3 = s0 1 3 ∧ s 2 = s0 2 ∧ (∀ k, 25 ≤ k → s k = s0 k) ∧ qCP s (mkP B r.1) ∧ qCK s (mkP B r.1) ∧ s 17 6 = b2 B 4 ∧ s 17 7 = b2 B 6 ∧ qHd s B r.2.1 ∧ qMem s 20 B (slF (mkP B r.1)) r.2.2.2.1.2.1 r.2.2.2.1.2.2 (b2 B r.2.2.1) ∧ qMem s 22 B (slM (mkP B r.1)) r.2.2.2.2.1.2.1 r.2.2.2.2.1.2.2 (b2 B r.2.2.2.1.1) ∧ qAH s B r.2.2.2.2.2.2
theorem rHead_rg {π : qP} {B : Int → Int} {n p r : Int} (h : rHead π B n p = .inr r) : p + 8 ≤ r ∧ r ≤ n := by
  have hl : ∀ (d : Nat) (q r : Int), q ≤ n → rPls π B n d q = .inr r → q ≤ r ∧ r ≤ n := by
    intro d
    induction d with
    | zero => intro q r hq h; cases h; omega
    | succ d ih =>
      intro q r hq h
      unfold rPls at h
      obtain ⟨_, h1, h⟩ := bd_inr.mp h
      have := (rPl_r h1).1
      have := ih _ _ (by omega) h
      omega
  unfold rHead at h
  obtain ⟨_, h1, h⟩ := bd_inr.mp h
  obtain ⟨_, h1, h⟩ := bd_inr.mp h
  obtain ⟨_, h1, h⟩ := bd_inr.mp h
  obtain ⟨_, h1, h⟩ := bd_inr.mp h
  obtain ⟨_, h1, h⟩ := bd_inr.mp h
  obtain ⟨m, h2, h⟩ := bd_inr.mp h
  have e := (rU2_r h2).1
  have := hl _ _ _ (by omega) h
  omega
theorem rMs_rg {π : qP} {B : Int → Int} {n : Int} {me : Bool} : ∀ (d : Nat) (k q : Int) (MP : Int → Int) (MA : Int → Int → Int) (r : Int × (Int → Int) × (Int → Int → Int)), 0 ≤ q → q ≤ n → rMs π B n me d k q MP MA = .inr r → q ≤ r.1 ∧ r.1 ≤ n := by
  intro d
  induction d with
  | zero => intro k q MP MA r h0 hq h; cases h; exact ⟨by omega, hq⟩
  | succ d ih =>
    intro k q MP MA r h0 hq h
    unfold rMs at h
    obtain ⟨z, h1, h⟩ := bd_inr.mp h
    have e : q + 8 ≤ z.1 ∧ z.1 ≤ n := by
      unfold rMem at h1
      split at h1
      · obtain ⟨_, h2, h1⟩ := bd_inr.mp h1
        obtain ⟨y, h3, h1⟩ := bd_inr.mp h1
        obtain ⟨_, h4, h1⟩ := bd_inr.mp h1
        cases h1
        have := (rAtts_inv (by omega) h3).2
        omega
      · obtain ⟨_, h2, h1⟩ := bd_inr.mp h1
        have := (rAtts_inv (by omega) h1).2
        omega
    have := ih _ _ _ _ _ (by omega) e.2 h
    omega
theorem rMbs_rg {π : qP} {B : Int → Int} {n p : Int} {me : Bool} {r : Int × (Int → Int) × (Int → Int → Int)} (h0 : 0 ≤ p) (h : rMbs π B n me p = .inr r) : p + 2 ≤ r.1 ∧ r.1 ≤ n := by
  unfold rMbs at h
  obtain ⟨m, h1, h⟩ := bd_inr.mp h
  exact rMs_rg _ _ _ _ _ _ (by omega) (rU2_r h1).1 h
theorem rEnts_rg {B : Int → Int} {n : Int} (hB : qB B n) {r : Int × Int} (h : rEnts B n = .inr r) : 10 ≤ r.2 ∧ r.2 ≤ n ∧ 1 ≤ r.1 ∧ rEn B n r.1 300 1 10 = .inr r.2 ∧ r.1 = b2 B 8 := by
  unfold rEnts at h
  obtain ⟨c, h1, h⟩ := bd_inr.mp h
  obtain ⟨_, h2, h⟩ := bd_inr.mp h
  obtain ⟨q, h3, h⟩ := bd_inr.mp h
  have e1 := rU2_r h1
  have e2 := of_decide_eq_true (rCk_r h2)
  cases h
  have := rEn_c hB 300 1 10 q (by decide) (by decide) e2 e1.1 (by decide) h3
  exact ⟨this.2.1, this.2.2, e2, h3, e1.2⟩
section RD
variable {w : qE} {s s0 : qS} {B : Int → Int} {n p q : Int} {π : qP} {f : Int → qS → Prop} {fv : qS → Prop} {g : Nat → qS → Prop}
theorem c16 (hw : qfv w) (hB : qB B n) (hs : s 1 1 = n) (hb : ∀ i, 0 ≤ i → i < n → s 2 i = B i) (hs0 : s0 = qset (qset (qset s 0 6 0) 1 2 0) 1 3 (-2)) (H : qRes (rVer B n) (fun e => ∀ s', qFt s0 n e s' → g 0 s') (fun _ => if okVer (b2 B 4) (b2 B 6) = true then qRes (rRest B n) (fun e => ∀ s', qFt s0 n e s' → g 0 s') (fun r => ∀ s', qFin s0 B n r s' → f r.1 s') else ∀ s', qFt s0 n 4 s' → g 1 s')) : qW w 10 16 [.ref 0] s (qPI f g) := by
  have h5 := hB.2.1
  refine k16 (k17 ?_)
  rw [← hs0]
  have hA : qAt s0 B n 0 s0 := by
    refine ⟨?_, ?_, fun i i0 i1 => ?_, ⟨rfl, rfl⟩, rfl, fun _ _ => rfl⟩
    · rw [hs0]; simp [qset_eq]; exact hs
    · rw [hs0]; simp [qset_eq]
    · rw [hs0, qset_cell _ (by decide), qset_cell _ (by decide), qset_cell _ (by decide)]; exact hb i i0 i1
  refine c18 hB hA (qRes_mono H (fun _ _ h => h) (fun _ hv H => ?_))
  have h8 : 8 ≤ n := by
    unfold rVer at hv
    obtain ⟨_, h1, hv⟩ := bd_inr.mp hv
    obtain ⟨_, h2, hv⟩ := bd_inr.mp hv
    obtain ⟨_, h3, hv⟩ := bd_inr.mp hv
    obtain ⟨_, h4, hv⟩ := bd_inr.mp hv
    exact (rU2_r h4).1
  by_cases hok : okVer (b2 B 4) (b2 B 6) = true
  · rw [if_pos hok] at H ⊢
    intro s1 hA1 m6 m7
    unfold rRest at H
    rw [qRes_bd] at H
    refine c23 hB hA1 h8 (qRes_mono H (fun _ _ h => h) (fun e he H s2 hA2 hP2 hk2 => ?_))
    obtain ⟨e1, e2, e3, e4, e5⟩ := rEnts_rg hB he
    refine c33 hw hP2 hA2 (fun s3 hA3 hP3 hK3 hk3 => ?_)
    rw [qRes_bd] at H
    refine c47 hP3 hK3 hA3 (qRes_mono H (fun _ _ h => h) (fun _ _ H => ?_))
    rw [qRes_bd] at H
    refine c56 hB hP3 hK3 hA3 (by omega) e2 (qRes_mono H (fun _ _ h => h) (fun h hh H s4 hA4 hH4 x6 x7 hk4 => ?_))
    have eh := rHead_rg hh
    have hP4 : qCP s4 (mkP B e.1) := hP3.fr (hk4 4 (by decide) (by decide) (by decide) (by decide)) (hk4 5 (by decide) (by decide) (by decide) (by decide)) (hk4 6 (by decide) (by decide) (by decide) (by decide))
    have hK4 : qCK s4 (mkP B e.1) := hK3.fr (hk4 5 (by decide) (by decide) (by decide) (by decide))
    rw [qRes_bd] at H
    refine c60 hw hB hP4 hK4 hA4 (by omega) eh.2 (qRes_mono H (fun _ _ h => h) (fun F hF H s5 hA5 hM5 hk5 => ?_))
    have eF := rMbs_rg (by omega) hF
    have hP5 : qCP s5 (mkP B e.1) := hP4.fr (hk5 4 (by decide) (by decide) (by decide) (by decide)) (hk5 5 (by decide) (by decide) (by decide) (by decide)) (hk5 6 (by decide) (by decide) (by decide) (by decide))
    have hK5 : qCK s5 (mkP B e.1) := hK4.fr (hk5 5 (by decide) (by decide) (by decide) (by decide))
    rw [qRes_bd] at H
    refine c86 hw hB hP5 hK5 hA5 (by omega) eF.2 (qRes_mono H (fun _ _ h => h) (fun M hM H s6 hA6 hM6 hk6 => ?_))
    have eM := rMbs_rg (by omega) hM
    have hP6 : qCP s6 (mkP B e.1) := hP5.fr (hk6 4 (by decide) (by decide) (by decide) (by decide)) (hk6 5 (by decide) (by decide) (by decide) (by decide)) (hk6 6 (by decide) (by decide) (by decide) (by decide))
    have hK6 : qCK s6 (mkP B e.1) := hK5.fr (hk6 5 (by decide) (by decide) (by decide) (by decide))
    rw [qRes_bd] at H
    refine c91 hw hB hP6 hA6 (by omega) eM.2 (qRes_mono H (fun _ _ h => h) (fun A hAt H s7 hA7 hF7 hH7 => ?_))
    obtain ⟨ia, ea1, ea2⟩ := rAtts_inv (by omega) hAt
    have hP7 : qCP s7 (mkP B e.1) := hP6.fr (hF7 4 (by decide) (by decide)) (hF7 5 (by decide) (by decide)) (hF7 6 (by decide) (by decide))
    have hK7 : qCK s7 (mkP B e.1) := hK6.fr (hF7 5 (by decide) (by decide))
    rw [qRes_bd] at H
    refine c92 hB hA7 (by omega) ea2 (qRes_mono H (fun _ _ h => h) (fun _ _ H => c34 (t := 15) (by decide) ?_))
    have eb : s7 15 2 = vBoots B A.2 := by
      obtain ⟨-, -, -, -, -, -, b⟩ := hH7
      unfold qHb at b
      unfold vBoots
      by_cases c : 0 ≤ A.2 9
      · rw [if_pos c] at b ⊢; exact b.1
      · rw [if_neg c] at b ⊢; exact b
    have rb : Rg (vBoots B A.2) := by
      unfold vBoots
      by_cases c : 0 ≤ A.2 9
      · rw [if_pos c]
        have := ia.2.2.2 9
        have := b2_rg hB c (by omega)
        exact ⟨by omega, by omega⟩
      · rw [if_neg c]; exact ⟨by decide, by decide⟩
    rw [eb]
    rw [qRes_bd] at H
    refine c93 rb hP7 hA7 (qRes_mono H (fun _ _ h => h) (fun _ _ H => c34 (t := 4) (by decide) ?_))
    have H : ∀ s', qFin s0 B n (e.1, e.2, h, F, M, A) s' → f e.1 s' := H
    have e4' : qset s7 0 6 1 4 2 = e.1 := by rw [qset_cell _ (by decide)]; exact hP7.2.1
    rw [e4']
    have g17 : ∀ j, s7 17 j = s4 17 j := fun j => by rw [hF7 17 (by decide) (by decide), hk6 17 (by decide) (by decide) (by decide) (by decide), hk5 17 (by decide) (by decide) (by decide) (by decide)]
    have g2 : s3 17 = s1 17 := by rw [hk3 17 (by decide), hk2 17 (by decide) (by decide) (by decide) (by decide) (by decide)]
    have gq : ∀ k, k ≠ 0 → qset s7 0 6 1 k = s7 k := fun k hk => qset_cell _ hk
    refine H _ ⟨?_, ?_, ?_, ?_, fun k hk => ?_, ?_, ?_, ?_, ?_, ⟨?_, ?_, ?_, ?_⟩, ⟨?_, fun k k0 k1 => ?_⟩, ⟨?_, fun k k0 k1 => ?_⟩, ?_⟩
    · rw [qset_same, if_pos rfl]
    · rw [gq 1 (by decide)]; exact hA7.1
    · rw [gq 1 (by decide)]; exact hA7.2.2.2.1.2
    · rw [gq 2 (by decide)]; exact hA7.2.2.2.2.1
    · rw [gq k (by omega)]; exact hA7.2.2.2.2.2 k hk
    · exact hP7.fr (gq 4 (by decide)) (gq 5 (by decide)) (gq 6 (by decide))
    · exact hK7.fr (gq 5 (by decide))
    · rw [gq 17 (by decide), g17, x6, g2]; exact m6
    · rw [gq 17 (by decide), g17, x7, g2]; exact m7
    · rw [gq 17 (by decide), g17]; exact hH4.1
    · rw [gq 17 (by decide), g17]; exact hH4.2.1
    · rw [gq 17 (by decide), g17]; exact hH4.2.2.1
    · have := hH4.2.2.2
      unfold qCol at this ⊢
      rw [gq 18 (by decide), gq (18 + 1) (by decide), hF7 18 (by decide) (by decide), hF7 (18 + 1) (by decide) (by decide), hk6 18 (by decide) (by decide) (by decide) (by decide), hk6 (18 + 1) (by decide) (by decide) (by decide) (by decide), hk5 18 (by decide) (by decide) (by decide) (by decide), hk5 (18 + 1) (by decide) (by decide) (by decide) (by decide)]
      exact this
    · rw [gq 20 (by decide), hF7 20 (by decide) (by decide), hk6 20 (by decide) (by decide) (by decide) (by decide)]; exact hM5.1
    · refine (hM5.2 k k0 k1).fr (i := k + 1) (by omega) (fun y _ => ?_)
      rw [gq (20 + 1) (by decide), hF7 (20 + 1) (by decide) (by decide), hk6 (20 + 1) (by decide) (by decide) (by decide) (by decide)]
    · rw [gq 22 (by decide), hF7 22 (by decide) (by decide)]; exact hM6.1
    · refine (hM6.2 k k0 k1).fr (i := k + 1) (by omega) (fun y _ => ?_)
      rw [gq (22 + 1) (by decide), hF7 (22 + 1) (by decide) (by decide)]
    · obtain ⟨a1, a2, a3, a4, a5, a6, a7⟩ := hH7
      exact ⟨by rw [gq 8 (by decide)]; exact a1, by rw [gq 8 (by decide)]; exact a2, by rw [gq 8 (by decide)]; exact a3, a4.fr (gq _ (by decide)) (gq _ (by decide)), a5.fr (gq _ (by decide)) (gq _ (by decide)), a6.fr (gq _ (by decide)) (gq _ (by decide)), a7.fr (gq _ (by decide)) (gq _ (by decide))⟩
  · rw [if_neg hok] at H ⊢
    exact H
end RD
