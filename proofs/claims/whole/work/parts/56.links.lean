/-! LINKS: what ENTRIES must be so that others may name them; the version -/
def lNam (π : qP) (j kinds : Int) : Bool := decide (pT π j = 12) && pfit π (pS π j) kinds
def lMN (π : qP) (j : Int) : Bool := lNam π j 32 && (pfit π (pF π j) 2 && !pfit π (pF π j) 128)
def lHd (k t : Int) : Bool := decide (((k = 1 ∨ k = 2 ∨ k = 3 ∨ k = 4) ∧ t = 9) ∨ ((k = 5 ∨ k = 8) ∧ t = 10) ∨ ((k = 6 ∨ k = 7) ∧ (t = 10 ∨ t = 11)) ∨ (k = 9 ∧ t = 11))
def lS (π : qP) (i : Int) : Bool :=
  if pT π i = 7 then pfit π (pF π i) 8
  else if pT π i = 8 then decide (pT π (pF π i) = 1)
  else if pT π i = 9 then decide (pT π (pF π i) = 7) && lNam π (pS π i) 16
  else if pT π i = 10 ∨ pT π i = 11 then decide (pT π (pF π i) = 7) && lMN π (pS π i)
  else if pT π i = 12 then pfit π (pF π i) 3 && pfit π (pS π i) 48
  else if pT π i = 15 then lHd (pF π i) (pT π (pS π i))
  else if pT π i = 16 then pfit π (pF π i) 32
  else if pT π i = 17 then lNam π (pS π i) 16
  else if pT π i = 18 then lNam π (pS π i) 32
  else true
def rLk (π : qP) : Nat → Int → Int ⊕ Unit
  | 0, _ => .inr ()
  | d + 1, i => if lS π i = true then rLk π d (i + 1) else .inl (pO π i)
def rBo (π : qP) (cnt : Int) : Nat → Int → Int ⊕ Unit
  | 0, _ => .inr ()
  | d + 1, i => if (pT π i = 17 ∨ pT π i = 18) ∧ cnt ≤ pF π i then .inl (pO π i) else rBo π cnt d (i + 1)
section LK
variable {w : qE} {s s0 : qS} {B : Int → Int} {n p i j : Int} {π : qP} {f : Int → qS → Prop} {fv : qS → Prop} {g : Nat → qS → Prop}
theorem c52 {m : Int} (hP : qCP s π) (hK : qCK s π) (hr : Rg i) (H : f (bi (lNam π i m)) s) : qW w 3 52 [.ref 7, qI i, qI m] s (qPI f g) := by
  unfold lNam at H
  refine k52 (c35 hP hr ⟨pg_rg hP.1 (pT_rg hP.1 i), fun c => ?_, fun c => k52_36 (k52_37 ⟨Or.inl rfl, ?_⟩)⟩)
  · rw [pg_T hP.1 (by omega)] at c
    rw [decide_eq_true c, Bool.true_and] at H
    refine c50 hP hr ?_
    rw [pg_in hP.1 (by omega)]
    refine c51 hP hK (pS_rg hP.1 i) ⟨bi_rg _, fun z => k52_36 (k52_37 ⟨Or.inl rfl, ?_⟩), fun z => k52_37 ⟨Or.inr rfl, ?_⟩⟩
    · rw [bi_0] at z; rw [z] at H; exact H
    · rw [bi_n] at z; rw [z] at H; exact H
  · rw [Ne, pg_T hP.1 (by omega)] at c
    rw [decide_eq_false c, Bool.false_and] at H
    exact H
theorem c53 (hP : qCP s π) (hK : qCK s π) (hr : Rg i) (H : f (bi (lMN π i)) s) : qW w 4 53 [.ref 7, qI i] s (qPI f g) := by
  unfold lMN at H
  refine k53 (c49 hP hr (c52 hP hK hr ⟨bi_rg _, fun z => k53_49 (k53_50 ⟨Or.inl rfl, ?_⟩), fun z => ?_⟩))
  · rw [bi_0] at z; rw [z, Bool.false_and] at H; exact H
  · rw [bi_n] at z
    rw [z, Bool.true_and] at H
    have hT : pT π i = 12 := by
      unfold lNam at z
      rw [Bool.and_eq_true] at z
      exact of_decide_eq_true z.1
    rw [pg_in hP.1 (by omega)]
    refine c51 hP hK (pF_rg hP.1 i) ⟨bi_rg _, fun z2 => k53_49 (k53_50 ⟨Or.inl rfl, ?_⟩), fun z2 => c51 hP hK (pF_rg hP.1 i) ⟨bi_rg _, fun z3 => k53_50 ⟨Or.inr rfl, ?_⟩, fun z3 => k53_49 (k53_50 ⟨Or.inl rfl, ?_⟩)⟩⟩
    · rw [bi_0] at z2; rw [z2, Bool.false_and] at H; exact H
    · rw [bi_n] at z2; rw [bi_0] at z3; rw [z2, z3] at H; exact H
    · rw [bi_n] at z2; rw [bi_n] at z3; rw [z2, z3] at H; exact H
theorem c54 (hP : qCP s π) (hK : qCK s π) (hr : Rg i) (hr2 : Rg j) (H : f (bi (pfit π i 3 && pfit π j 48)) s) : qW w 3 54 [.ref 7, qI i, qI j] s (qPI f g) := by
  refine k54 (c51 hP hK hr ⟨bi_rg _, fun z => k54_29 (k54_30 ⟨Or.inl rfl, ?_⟩), fun z => c51 hP hK hr2 ⟨bi_rg _, fun z2 => k54_29 (k54_30 ⟨Or.inl rfl, ?_⟩), fun z2 => k54_30 ⟨Or.inr rfl, ?_⟩⟩⟩)
  · rw [bi_0] at z; rw [z, Bool.false_and] at H; exact H
  · rw [bi_n] at z; rw [bi_0] at z2; rw [z, z2] at H; exact H
  · rw [bi_n] at z; rw [bi_n] at z2; rw [z, z2] at H; exact H
theorem c55 {k t : Int} (hk : Rg k) (ht : Rg t) (H : f (bi (lHd k t)) s) : qW w 1 55 [qI k, qI t] s (qPI f g) := by
  have y : (((k = 1 ∨ k = 2 ∨ k = 3 ∨ k = 4) ∧ t = 9) ∨ ((k = 5 ∨ k = 8) ∧ t = 10) ∨ ((k = 6 ∨ k = 7) ∧ (t = 10 ∨ t = 11)) ∨ (k = 9 ∧ t = 11)) → f 1 s := by
    intro c
    have : lHd k t = true := decide_eq_true c
    rw [this] at H; exact H
  have x : ¬ (((k = 1 ∨ k = 2 ∨ k = 3 ∨ k = 4) ∧ t = 9) ∨ ((k = 5 ∨ k = 8) ∧ t = 10) ∨ ((k = 6 ∨ k = 7) ∧ (t = 10 ∨ t = 11)) ∨ (k = 9 ∧ t = 11)) → f 0 s := by
    intro c
    have : lHd k t = false := decide_eq_false c
    rw [this] at H; exact H
  refine k55 ⟨hk, fun c => ⟨ht, fun d => k55_63 ⟨Or.inr rfl, y (by omega)⟩, fun d => k55_63 ⟨Or.inl rfl, x (by omega)⟩⟩, fun c => ⟨ht, fun d => k55_75 ⟨Or.inr rfl, y (by omega)⟩, fun d => k55_75 ⟨Or.inl rfl, x (by omega)⟩⟩, fun c => ⟨ht, fun d => k55_88 (k55_93 ⟨Or.inr rfl, y (by omega)⟩), fun d => ⟨fun d2 => k55_88 (k55_93 ⟨Or.inr rfl, y (by omega)⟩), fun d2 => k55_93 ⟨Or.inl rfl, x (by omega)⟩⟩⟩, fun c => ⟨ht, fun d => k55_105 ⟨Or.inr rfl, y (by omega)⟩, fun d => k55_105 ⟨Or.inl rfl, x (by omega)⟩⟩, fun c1 c2 c3 c4 c5 c6 c7 c8 c9 => x (by omega)⟩
theorem pg_Tn (h : qPok π) {v : Int} (hv : 0 < v) : (pg π (pT π) i ≠ v) ↔ pT π i ≠ v := not_congr (pg_T h hv)
theorem c48 (hP : qCP s π) (hK : qCK s π) (hr : Rg i) (H : f (bi (lS π i)) s) : qW w 5 48 [.ref 7, qI i] s (qPI f g) := by
  have hT : ∀ v, 0 < v → (pg π (pT π) i = v ↔ pT π i = v) := fun v hv => pg_T hP.1 hv
  have hF : 0 < pT π i → pg π (pF π) i = pF π i := fun h => pg_in hP.1 h
  have hS : 0 < pT π i → pg π (pS π) i = pS π i := fun h => pg_in hP.1 h
  have rF := pF_rg hP.1 i
  have rS := pS_rg hP.1 i
  unfold lS at H
  refine k48 (c49 hP hr (c50 hP hr (c35 hP hr ⟨pg_rg hP.1 (pT_rg hP.1 i), fun c => ?_, fun c => ?_, fun c => ?_, fun c => ?_, fun c => ?_, fun c => ?_, fun c => ?_, fun c => ?_, fun c => ?_, fun c1 c2 c3 c4 c5 c6 c7 c8 c9 c10 => ?_⟩)))
  · rw [hT _ (by omega)] at c
    rw [hF (by omega)]
    rw [if_pos c] at H
    exact c51 hP hK rF ⟨bi_01 _, H⟩
  · rw [hT _ (by omega)] at c
    rw [hF (by omega)]
    rw [if_neg (by omega), if_pos c] at H
    refine c35 hP rF ⟨pg_rg hP.1 (pT_rg hP.1 _), fun d => k48_116 ⟨Or.inr rfl, ?_⟩, fun d => k48_116 ⟨Or.inl rfl, ?_⟩⟩
    · rw [pg_T hP.1 (by omega)] at d; rw [decide_eq_true d] at H; exact H
    · rw [pg_Tn hP.1 (by omega)] at d; rw [decide_eq_false d] at H; exact H
  · rw [hT _ (by omega)] at c
    rw [hF (by omega), hS (by omega)]
    rw [if_neg (by omega), if_neg (by omega), if_pos c] at H
    refine c35 hP rF ⟨pg_rg hP.1 (pT_rg hP.1 _), fun d => ?_, fun d => k48_155 (k48_156 ⟨Or.inl rfl, ?_⟩)⟩
    · rw [pg_T hP.1 (by omega)] at d
      rw [decide_eq_true d, Bool.true_and] at H
      refine c52 hP hK rS ⟨bi_rg _, fun z => k48_155 (k48_156 ⟨Or.inl rfl, ?_⟩), fun z => k48_156 ⟨Or.inr rfl, ?_⟩⟩
      · rw [bi_0] at z; rw [z] at H; exact H
      · rw [bi_n] at z; rw [z] at H; exact H
    · rw [pg_Tn hP.1 (by omega)] at d; rw [decide_eq_false d, Bool.false_and] at H; exact H
  · rw [hT _ (by omega), hT _ (by omega)] at c
    rw [hF (by omega), hS (by omega)]
    rw [if_neg (by omega), if_neg (by omega), if_neg (by omega), if_pos c] at H
    refine c35 hP rF ⟨pg_rg hP.1 (pT_rg hP.1 _), fun d => ?_, fun d => k48_182 (k48_183 ⟨Or.inl rfl, ?_⟩)⟩
    · rw [pg_T hP.1 (by omega)] at d
      rw [decide_eq_true d, Bool.true_and] at H
      refine c53 hP hK rS ⟨bi_rg _, fun z => k48_182 (k48_183 ⟨Or.inl rfl, ?_⟩), fun z => k48_183 ⟨Or.inr rfl, ?_⟩⟩
      · rw [bi_0] at z; rw [z] at H; exact H
      · rw [bi_n] at z; rw [z] at H; exact H
    · rw [pg_Tn hP.1 (by omega)] at d; rw [decide_eq_false d, Bool.false_and] at H; exact H
  · rw [hT _ (by omega)] at c
    rw [hF (by omega), hS (by omega)]
    rw [if_neg (by omega), if_neg (by omega), if_neg (by omega), if_neg (by omega), if_pos c] at H
    exact c54 hP hK rF rS ⟨bi_01 _, H⟩
  · rw [hT _ (by omega)] at c
    rw [hF (by omega), hS (by omega)]
    rw [if_neg (by omega), if_neg (by omega), if_neg (by omega), if_neg (by omega), if_neg (by omega), if_pos c] at H
    have e : lHd (pF π i) (pg π (pT π) (pS π i)) = lHd (pF π i) (pT π (pS π i)) := by
      have e1 := pg_T hP.1 (i := pS π i) (v := 9) (by omega)
      have e2 := pg_T hP.1 (i := pS π i) (v := 10) (by omega)
      have e3 := pg_T hP.1 (i := pS π i) (v := 11) (by omega)
      unfold lHd
      simp only [e1, e2, e3]
    refine c35 hP rS (c55 rF (pg_rg hP.1 (pT_rg hP.1 _)) ⟨bi_01 _, ?_⟩)
    rw [e]
    exact H
  · rw [hT _ (by omega)] at c
    rw [hF (by omega)]
    rw [if_neg (by omega), if_neg (by omega), if_neg (by omega), if_neg (by omega), if_neg (by omega), if_neg (by omega), if_pos c] at H
    exact c51 hP hK rF ⟨bi_01 _, H⟩
  · rw [hT _ (by omega)] at c
    rw [hS (by omega)]
    rw [if_neg (by omega), if_neg (by omega), if_neg (by omega), if_neg (by omega), if_neg (by omega), if_neg (by omega), if_neg (by omega), if_pos c] at H
    exact c52 hP hK rS ⟨bi_01 _, H⟩
  · rw [hT _ (by omega)] at c
    rw [hS (by omega)]
    rw [if_neg (by omega), if_neg (by omega), if_neg (by omega), if_neg (by omega), if_neg (by omega), if_neg (by omega), if_neg (by omega), if_neg (by omega), if_pos c] at H
    exact c52 hP hK rS ⟨bi_01 _, H⟩
  · rw [Ne, hT _ (by omega)] at c1 c2 c3 c4 c5 c6 c7 c8 c9 c10
    rw [if_neg c1, if_neg c2, if_neg c3, if_neg (by omega), if_neg c6, if_neg c7, if_neg c8, if_neg c9, if_neg c10] at H
    exact H
theorem c47_loop (hP : qCP s π) (hK : qCK s π) (hA : qAt s0 B n p s) : ∀ (d : Nat) (i : Int), i + d = pE π → 1 ≤ i → qRes (rLk π d i) (fun e => ∀ s', qFt s0 n e s' → g 0 s') (fun _ => fv s) → qR w 5 qm47 2 [(0, .ref 7), (1, qI i)] [] s (qPV fv g) := by
  have e1 := hP.1.2.1
  intro d
  induction d with
  | zero =>
    intro i h1 h2 H
    refine k47_2 (c34 (t := 4) (by decide) ?_)
    rw [hP.2.1]
    exact ⟨⟨by omega, by omega⟩, ⟨by omega, by omega⟩, fun c => absurd c (by omega), fun _ => H⟩
  | succ d ih =>
    intro i h1 h2 H
    have hr : Rg i := ⟨by omega, by omega⟩
    unfold rLk at H
    refine k47_2 (c34 (t := 4) (by decide) ?_)
    rw [hP.2.1]
    refine ⟨hr, ⟨by omega, by omega⟩, fun _ => c48 hP hK hr (c_getO hP hr ?_), fun c => absurd c (by omega)⟩
    have eO : pg π (pO π) i = pO π i := by unfold pg; rw [if_pos ⟨by omega, by omega⟩]
    rw [eO]
    refine c20 (bi_rg _) (fun z => ?_) (fun z => ?_)
    · rw [bi_0] at z
      rw [z, if_neg (by decide)] at H
      exact H _ (hA.ft _)
    · rw [bi_n] at z
      rw [if_pos z] at H
      exact ih (i + 1) (by omega) (by omega) H
theorem c47 (hP : qCP s π) (hK : qCK s π) (hA : qAt s0 B n p s) (H : qRes (rLk π (pE π - 1).toNat 1) (fun e => ∀ s', qFt s0 n e s' → g 0 s') (fun _ => fv s)) : qW w 6 47 [.ref 7] s (qPV fv g) := by
  have h1 := hP.1.1
  exact k47 (c47_loop hP hK hA (pE π - 1).toNat 1 (by omega) (by omega) H)
theorem c93_loop {cnt : Int} (hc : Rg cnt) (hP : qCP s π) (hA : qAt s0 B n p s) : ∀ (d : Nat) (i : Int), i + d = pE π → 1 ≤ i → qRes (rBo π cnt d i) (fun e => ∀ s', qFt s0 n e s' → g 0 s') (fun _ => fv s) → qR w 2 qm93 2 [(0, .ref 7), (1, qI cnt), (2, qI i)] [] s (qPV fv g) := by
  have e1 := hP.1.2.1
  have hT : ∀ i v, 0 < v → (pg π (pT π) i = v ↔ pT π i = v) := fun i v hv => pg_T hP.1 hv
  intro d
  induction d with
  | zero =>
    intro i h1 h2 H
    refine k93_2 (c34 (t := 4) (by decide) ?_)
    rw [hP.2.1]
    exact ⟨⟨by omega, by omega⟩, ⟨by omega, by omega⟩, fun c => absurd c (by omega), fun _ => H⟩
  | succ d ih =>
    intro i h1 h2 H
    have hr : Rg i := ⟨by omega, by omega⟩
    unfold rBo at H
    have eO : pg π (pO π) i = pO π i := by unfold pg; rw [if_pos ⟨by omega, by omega⟩]
    have h73 : ∀ b : Bool, b = !decide ((pT π i = 17 ∨ pT π i = 18) ∧ cnt ≤ pF π i) → qR w 2 qm93 73 [(0, .ref 7), (1, qI cnt), (2, qI i)] [qI (bi b), .ref 1] s (qPV fv g) := by
      intro b hb
      refine k93_73 (c_getO hP hr ?_)
      rw [eO]
      refine c20 (bi_rg _) (fun z => ?_) (fun z => ?_)
      · rw [bi_0] at z
        rw [z] at hb
        have hb2 := congrArg (fun x => !x) hb
        simp only [Bool.not_not] at hb2
        rw [if_pos (of_decide_eq_true hb2.symm)] at H
        exact H _ (hA.ft _)
      · rw [bi_n] at z
        rw [z] at hb
        have hb2 := congrArg (fun x => !x) hb
        simp only [Bool.not_not] at hb2
        rw [if_neg (of_decide_eq_false hb2.symm)] at H
        exact ih (i + 1) (by omega) (by omega) H
    have h47 : ∀ b : Bool, b = decide (pT π i = 17 ∨ pT π i = 18) → qR w 2 qm93 47 [(0, .ref 7), (1, qI cnt), (2, qI i)] [qI (bi b)] s (qPV fv g) := by
      intro b hb
      refine k93_47 ⟨bi_rg _, fun z => k93_68 (h73 true ?_), fun z => ?_⟩
      · rw [bi_0] at z
        rw [z] at hb
        rw [decide_eq_false (fun y => absurd y.1 (of_decide_eq_false hb.symm))]
        rfl
      · rw [bi_n] at z
        rw [z] at hb
        have ht := of_decide_eq_true hb.symm
        refine c49 hP hr ?_
        rw [pg_in hP.1 (by omega)]
        refine ⟨pF_rg hP.1 i, hc, fun c => k93_68 (h73 true ?_), fun c => h73 false ?_⟩
        · rw [decide_eq_false (by omega)]; rfl
        · rw [decide_eq_true ⟨ht, c⟩]; rfl
    refine k93_2 (c34 (t := 4) (by decide) ?_)
    rw [hP.2.1]
    refine ⟨hr, ⟨by omega, by omega⟩, fun _ => c35 hP hr ⟨pg_rg hP.1 (pT_rg hP.1 i), fun c => k93_42 (h47 true ?_), fun c => c35 hP hr ⟨pg_rg hP.1 (pT_rg hP.1 i), fun c2 => k93_42 (h47 true ?_), fun c2 => h47 false ?_⟩⟩, fun c => absurd c (by omega)⟩
    · rw [hT _ _ (by omega)] at c; rw [decide_eq_true (Or.inl c)]
    · rw [hT _ _ (by omega)] at c2; rw [decide_eq_true (Or.inr c2)]
    · rw [Ne, hT _ _ (by omega)] at c c2; rw [decide_eq_false (by omega)]
theorem c93 {cnt : Int} (hc : Rg cnt) (hP : qCP s π) (hA : qAt s0 B n p s) (H : qRes (rBo π cnt (pE π - 1).toNat 1) (fun e => ∀ s', qFt s0 n e s' → g 0 s') (fun _ => fv s)) : qW w 3 93 [.ref 7, qI cnt] s (qPV fv g) := by
  have h1 := hP.1.1
  exact k93 (c93_loop hc hP hA (pE π - 1).toNat 1 (by omega) (by omega) H)
theorem c92 (hB : qB B n) (hA : qAt s0 B n p s) (h0 : 0 ≤ p) (h1 : p ≤ n) (H : qRes (rCk (decide (p = n)) p) (fun e => ∀ s', qFt s0 n e s' → g 0 s') (fun _ => fv s)) : qW w 2 92 [.ref 1] s (qPV fv g) := by
  have h5 := hB.2.1
  have h17 : ∀ b : Bool, b = decide (p = n) → qR w 1 qm92 17 [(0, .ref 1)] [qI (bi b), .ref 1] s (qPV fv g) := by
    intro b hb
    refine k92_17 ?_
    rw [hA.2.1]
    exact c_ck (p := p) hA rfl rfl (by rw [hb]; exact H)
  refine k92 ?_
  rw [hA.1, hA.2.1]
  exact ⟨⟨by omega, by omega⟩, ⟨by omega, by omega⟩, fun c => h17 true (decide_eq_true c).symm, fun c => h17 false (decide_eq_false c).symm⟩
def okVer (mi ma : Int) : Bool := decide ((45 ≤ ma ∧ ma ≤ 55) ∨ (56 ≤ ma ∧ ma ≤ 69 ∧ (mi = 0 ∨ mi = 65535)))
/-- the magic number, minor, major -/
def rVer (B : Int → Int) (n : Int) : Int ⊕ Unit := bd (rU4 B n 0) (fun v => bd (rCk (decide (v = -889275714)) 0) (fun _ => bd (rU2 B n 4) (fun _ => bd (rU2 B n 6) (fun _ => .inr ()))))
theorem c18 (hB : qB B n) (hA : qAt s0 B n 0 s) (H : qRes (rVer B n) (fun e => ∀ s', qFt s0 n e s' → g 0 s') (fun _ => if okVer (b2 B 4) (b2 B 6) = true then ∀ s', qAt s0 B n 8 s' → s' 17 6 = b2 B 4 → s' 17 7 = b2 B 6 → fv s' else ∀ s', qFt s0 n 4 s' → g 1 s')) : qW w 2 18 [.ref 17] s (qPV fv g) := by
  have h5 := hB.2.1
  have h50 := hB.1
  unfold rVer at H
  rw [qRes_bd] at H
  refine k18 (c_u4 hB hA (by decide) h50 (qRes_mono H (fun _ _ h => h) (fun v hv H => ?_)))
  obtain ⟨q1, rfl⟩ := rU4_r hv
  have hA1 := hA.mv (0 + 4)
  rw [qRes_bd] at H
  have h22 : ∀ b : Bool, b = decide (b4 B 0 = -889275714) → qR w 1 qm18 22 [(0, .ref 17)] [qI (bi b), .ref 1] (qset s 1 2 (0 + 4)) (qPV fv g) := by
    intro b hb
    refine k18_22 (c_ck (p := 0) hA1 rfl rfl ?_)
    rw [hb]
    refine qRes_mono H (fun _ _ h => h) (fun _ _ H => ?_)
    rw [qRes_bd] at H
    refine c_u2 hB hA1 (by decide) (by omega) (qRes_mono H (fun _ _ h => h) (fun v hv H => ?_))
    obtain ⟨q2, rfl⟩ := rU2_r hv
    have r1 := b2_rg hB (p := 4) (by decide) (by omega)
    rw [qRes_bd] at H
    have hA2 := (hA1.mv (0 + 4 + 2)).set (k := 17) (j := 6) (v := b2 B (0 + 4)) ⟨by decide, by decide⟩
    refine c_u2 hB hA2 (by decide) (by omega) (qRes_mono H (fun _ _ h => h) (fun v hv H => ?_))
    obtain ⟨q3, rfl⟩ := rU2_r hv
    have r2 := b2_rg hB (p := 6) (by decide) (by omega)
    have H : if okVer (b2 B 4) (b2 B 6) = true then ∀ s', qAt s0 B n 8 s' → s' 17 6 = b2 B 4 → s' 17 7 = b2 B 6 → fv s' else ∀ s', qFt s0 n 4 s' → g 1 s' := H
    have e04 : (0 : Int) + 4 = 4 := rfl
    have e06 : (4 : Int) + 2 = 6 := rfl
    have e08 : (6 : Int) + 2 = 8 := rfl
    rw [e04, e06] at hA2
    rw [e04, e06, e08]
    have hA3 := (hA2.mv 8).set (k := 17) (j := 7) (v := b2 B 6) ⟨by decide, by decide⟩
    have x6 : qset (qset (qset (qset (qset s 1 2 4) 1 2 6) 17 6 (b2 B 4)) 1 2 8) 17 7 (b2 B 6) 17 6 = b2 B 4 := by simp [qset_eq]
    have x7 : qset (qset (qset (qset (qset s 1 2 4) 1 2 6) 17 6 (b2 B 4)) 1 2 8) 17 7 (b2 B 6) 17 7 = b2 B 6 := by simp [qset_eq]
    have h131 : ∀ b : Bool, b = okVer (b2 B 4) (b2 B 6) → qR w 1 qm18 131 [(0, .ref 17)] [qI (bi b), .ref 1] (qset (qset (qset (qset (qset s 1 2 4) 1 2 6) 17 6 (b2 B 4)) 1 2 8) 17 7 (b2 B 6)) (qPV fv g) := by
      intro b hb
      refine k18_131 (c21 (c22 (bi_rg _) (fun z => ?_) (fun z => ?_)))
      · rw [bi_0] at z
        rw [← hb, z, if_neg (by decide)] at H
        refine H _ ?_
        rw [hA3.2.1]
        exact hA3.ft _
      · rw [bi_n] at z
        rw [← hb, z, if_pos rfl] at H
        exact H _ hA3 x6 x7
    have h113 : ∀ b1 b2' : Bool, (b1 || b2') = okVer (b2 B 4) (b2 B 6) → qR w 1 qm18 113 [(0, .ref 17), (1, qI (bi b1))] [qI (bi b2')] (qset (qset (qset (qset (qset s 1 2 4) 1 2 6) 17 6 (b2 B 4)) 1 2 8) 17 7 (b2 B 6)) (qPV fv g) := by
      intro b1 b2' hb
      refine k18_113 ⟨bi_rg _, fun z => ⟨bi_rg _, fun z2 => h131 false ?_, fun z2 => k18_126 (h131 true ?_)⟩, fun z => k18_126 (h131 true ?_)⟩
      · rw [bi_0] at z z2; rw [← hb, z, z2]; rfl
      · rw [bi_n] at z2; rw [← hb, z2]; simp
      · rw [bi_n] at z; rw [← hb, z]; simp
    have h73 : ∀ b : Bool, b = decide (45 ≤ b2 B 6 ∧ b2 B 6 ≤ 55) → qR w 1 qm18 73 [(0, .ref 17)] [qI (bi b)] (qset (qset (qset (qset (qset s 1 2 4) 1 2 6) 17 6 (b2 B 4)) 1 2 8) 17 7 (b2 B 6)) (qPV fv g) := by
      intro b hb
      refine k18_73 ?_
      rw [x6, x7]
      have hv : ∀ c : Bool, c = decide (56 ≤ b2 B 6 ∧ b2 B 6 ≤ 69 ∧ (b2 B 4 = 0 ∨ b2 B 4 = 65535)) → (b || c) = okVer (b2 B 4) (b2 B 6) := by
        intro c hc
        rw [hb, hc]
        unfold okVer
        rw [← Bool.decide_or]
      refine ⟨⟨by omega, by omega⟩, fun c => k18_112 (h113 b false (hv _ (decide_eq_false (by omega)).symm)), fun c => ⟨fun c2 => k18_112 (h113 b false (hv _ (decide_eq_false (by omega)).symm)), fun c2 => ⟨⟨by omega, by omega⟩, fun c3 => k18_108 (h113 b true (hv _ (decide_eq_true ⟨c, c2, Or.inl c3⟩).symm)), fun c3 => ⟨fun c4 => k18_108 (h113 b true (hv _ (decide_eq_true ⟨c, c2, Or.inr c4⟩).symm)), fun c4 => k18_112 (h113 b false (hv _ (decide_eq_false (by omega)).symm))⟩⟩⟩⟩
    exact ⟨⟨by omega, by omega⟩, fun c => k18_72 (h73 false (decide_eq_false (by omega)).symm), fun c => ⟨fun c2 => k18_72 (h73 false (decide_eq_false (by omega)).symm), fun c2 => h73 true (decide_eq_true ⟨c, c2⟩).symm⟩⟩
  exact ⟨b4_rg _ _, fun c => h22 true (decide_eq_true c).symm, fun c => h22 false (decide_eq_false c).symm⟩
end LK
