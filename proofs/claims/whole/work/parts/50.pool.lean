/-! the class's pool: a picture of it (count; TAG, first, second, OFFSET, number of characters, characters), and the accessors -/
abbrev qP : Type := Int × (Int → Int) × (Int → Int) × (Int → Int) × (Int → Int) × (Int → Int) × (Int → Int → Int)
def pE (π : qP) : Int := π.1
def pT (π : qP) : Int → Int := π.2.1
def pF (π : qP) : Int → Int := π.2.2.1
def pS (π : qP) : Int → Int := π.2.2.2.1
def pO (π : qP) : Int → Int := π.2.2.2.2.1
def pN (π : qP) : Int → Int := π.2.2.2.2.2.1
def pC (π : qP) : Int → Int → Int := π.2.2.2.2.2.2
def qPok (π : qP) : Prop := 1 ≤ pE π ∧ pE π ≤ 250 ∧ (∀ i, ¬ (1 ≤ i ∧ i < pE π) → pT π i = 0) ∧ (∀ i, 0 ≤ pT π i ∧ pT π i ≤ 18 ∧ Rg (pF π i) ∧ Rg (pS π i) ∧ Rg (pO π i)) ∧ ∀ i, pT π i = 1 → pF π i = pN π i ∧ 0 ≤ pN π i ∧ pN π i ≤ 490 ∧ ∀ k, 0 ≤ k → k < pN π i → 0 ≤ pC π i k ∧ pC π i k ≤ 65535
/-- the class's tables hold it -/
def qCP (s : qS) (π : qP) : Prop := qPok π ∧ s 4 2 = pE π ∧ ∀ i, 0 ≤ i → i < pE π → s 5 (i * 6 + 0) = pT π i ∧ s 5 (i * 6 + 1) = pF π i ∧ s 5 (i * 6 + 2) = pS π i ∧ s 5 (i * 6 + 3) = pO π i ∧ Rg (s 5 (i * 6 + 4)) ∧ (pT π i = 1 → gcx s (s 5 (i * 6 + 4)) (pN π i) (pC π i))
def qCK (s : qS) (π : qP) : Prop := ∀ i, 0 ≤ i → i < pE π → pT π i = 1 → s 5 (i * 6 + 5) = gK (pC π i) (pN π i)
theorem qCP.fr {s s' : qS} {π : qP} (h : qCP s π) (h4 : s' 4 = s 4) (h5 : s' 5 = s 5) (h6 : s' 6 = s 6) : qCP s' π := by
  unfold qCP gcx at h ⊢
  rw [h4, h5, h6]
  exact h
theorem qCK.fr {s s' : qS} {π : qP} (h : qCK s π) (h5 : s' 5 = s 5) : qCK s' π := by
  unfold qCK at h ⊢
  rw [h5]
  exact h
/-- what a column says of a number, of one that is none too -/
def pg (π : qP) (F : Int → Int) (i : Int) : Int := if 0 ≤ i ∧ i < pE π then F i else -2
theorem pg_T {π : qP} (h : qPok π) {i v : Int} (hv : 0 < v) : pg π (pT π) i = v ↔ pT π i = v := by
  unfold pg
  split
  · exact Iff.rfl
  · next c =>
    have := h.2.2.1 i (by omega)
    omega
theorem pg_in {π : qP} (h : qPok π) {F : Int → Int} {i : Int} (hv : 0 < pT π i) : pg π F i = F i := by
  unfold pg
  rw [if_pos]
  by_cases c : 0 ≤ i ∧ i < pE π
  · exact c
  · have := h.2.2.1 i (by omega)
    omega
theorem pg_rg {π : qP} (h : qPok π) {i : Int} {F : Int → Int} (hF : Rg (F i)) : Rg (pg π F i) := by
  unfold pg
  split
  · exact hF
  · exact ⟨by decide, by decide⟩
theorem pT_rg {π : qP} (h : qPok π) (i : Int) : Rg (pT π i) := by
  have := h.2.2.2.1 i
  exact ⟨by omega, by omega⟩
theorem qand_Rg (a b : Int) : Rg (qand a b) := qi_rg _
def pK (π : qP) (i : Int) : Int := gK (pC π i) (pN π i)
def pfit (π : qP) (i m : Int) : Bool := decide (pT π i = 1 ∧ qand (pK π i) m ≠ 0)
def pplain (π : qP) (i : Int) : Bool := decide (pT π i = 7) && pfit π (pg π (pF π) i) 4
def pchar (π : qP) (i k : Int) : Int := if pT π i = 1 ∧ -1 ≤ k ∧ k < pN π i then (if k = -1 then pN π i else pC π i k) else -2
def pspells (π : qP) (i : Int) (wd : List Nat) : Bool := decide (pT π i = 1) && gIs (pC π i) 0 (pN π i) wd
def ptext (π : qP) (i : Int) : Int := if pT π i = 1 then i else if pT π i = 7 ∨ pT π i = 8 ∨ pT π i = 16 then pF π i else -2
def gEq (C D : Int → Int) : Nat → Int → Bool
  | 0, _ => true
  | d + 1, k => decide (C k = D k) && gEq C D d (k + 1)
def psame (π : qP) (i j : Int) : Bool := decide (pT π i = 1) && (decide (pT π j = 1) && (decide (pN π i = pN π j) && gEq (pC π i) (pC π j) (pN π i).toNat 0))
def rTake (π : qP) (B : Int → Int) (n p tag : Int) : Int ⊕ Int := bd (rU2 B n p) (fun v => bd (rCk (decide (pg π (pT π) v = tag)) p) (fun _ => .inr v))
def rTake0 (π : qP) (B : Int → Int) (n p tag : Int) : Int ⊕ Int := bd (rU2 B n p) (fun v => bd (rCk (decide (v = 0 ∨ pg π (pT π) v = tag)) p) (fun _ => .inr v))
def rText (π : qP) (B : Int → Int) (n p kinds : Int) : Int ⊕ Int := bd (rU2 B n p) (fun v => bd (rCk (pfit π v kinds) p) (fun _ => .inr v))
section PO
variable {w : qE} {s s0 : qS} {π : qP} {i j k : Int} {B : Int → Int} {n p : Int} {f : Int → qS → Prop} {fv : qS → Prop} {g : Nat → qS → Prop}
theorem qCP.rows (h : qCP s π) : 0 ≤ s 4 2 ∧ s 4 2 * qwid 4 ≤ (qlen (4 + 1) : Int) := by
  have h1 := h.1.1
  have h2 := h.1.2.1
  rw [h.2.1]
  have e1 : qwid 4 = 6 := rfl
  have e2 : (qlen (4 + 1) : Int) = 1500 := rfl
  rw [e1, e2]
  omega
theorem c_get {r c : Int} (hP : qCP s π) (hr : Rg r) (hc : 0 ≤ c ∧ c < 6) (H1 : 0 ≤ r → r < pE π → f (s 5 (r * 6 + c)) s) (H2 : ¬ (0 ≤ r ∧ r < pE π) → f (-2) s) : qW w 1 36 [.ref 4, qI r, qI c] s (qPI f g) := by
  have e1 : qwid 4 = 6 := rfl
  refine c36 (t := 4) (by decide) hr ⟨by omega, by omega⟩ hP.rows (fun a1 a2 _ _ => ?_) (fun a => ?_)
  · rw [e1]
    rw [hP.2.1] at a2
    exact H1 a1 a2
  · rw [hP.2.1, e1] at a
    exact H2 (by omega)
theorem c_getT (hP : qCP s π) (hr : Rg i) (H : f (pg π (pT π) i) s) : qW w 1 36 [.ref 4, qI i, qI 0] s (qPI f g) := by
  refine c_get hP hr (by omega) (fun a b => ?_) (fun a => ?_)
  · unfold pg at H; rw [if_pos ⟨a, b⟩] at H; rw [(hP.2.2 i a b).1]; exact H
  · unfold pg at H; rw [if_neg a] at H; exact H
theorem c_getF (hP : qCP s π) (hr : Rg i) (H : f (pg π (pF π) i) s) : qW w 1 36 [.ref 4, qI i, qI 1] s (qPI f g) := by
  refine c_get hP hr (by omega) (fun a b => ?_) (fun a => ?_)
  · unfold pg at H; rw [if_pos ⟨a, b⟩] at H; rw [(hP.2.2 i a b).2.1]; exact H
  · unfold pg at H; rw [if_neg a] at H; exact H
theorem c_getS (hP : qCP s π) (hr : Rg i) (H : f (pg π (pS π) i) s) : qW w 1 36 [.ref 4, qI i, qI 2] s (qPI f g) := by
  refine c_get hP hr (by omega) (fun a b => ?_) (fun a => ?_)
  · unfold pg at H; rw [if_pos ⟨a, b⟩] at H; rw [(hP.2.2 i a b).2.2.1]; exact H
  · unfold pg at H; rw [if_neg a] at H; exact H
theorem c_getO (hP : qCP s π) (hr : Rg i) (H : f (pg π (pO π) i) s) : qW w 1 36 [.ref 4, qI i, qI 3] s (qPI f g) := by
  refine c_get hP hr (by omega) (fun a b => ?_) (fun a => ?_)
  · unfold pg at H; rw [if_pos ⟨a, b⟩] at H; rw [(hP.2.2 i a b).2.2.2.1]; exact H
  · unfold pg at H; rw [if_neg a] at H; exact H
theorem c35 (hP : qCP s π) (hr : Rg i) (H : f (pg π (pT π) i) s) : qW w 2 35 [.ref 3, qI i] s (qPI f g) := k35 (c_getT hP hr H)
theorem c49 (hP : qCP s π) (hr : Rg i) (H : f (pg π (pF π) i) s) : qW w 2 49 [.ref 3, qI i] s (qPI f g) := k49 (c_getF hP hr H)
theorem c50 (hP : qCP s π) (hr : Rg i) (H : f (pg π (pS π) i) s) : qW w 2 50 [.ref 3, qI i] s (qPI f g) := k50 (c_getS hP hr H)
/-- where a text's characters stand -/
def pA (s : qS) (i : Int) : Int := s 5 (i * 6 + 4)
theorem c37 (hP : qCP s π) (hr : Rg i) (H : ∀ a, (pT π i = 1 → a = pA s i) → Rg a → f a s) : qW w 2 37 [.ref 3, qI i] s (qPI f g) := by
  refine k37 (c_get hP hr (by omega) (fun a b => H _ (fun _ => rfl) (hP.2.2 i a b).2.2.2.2.1) (fun a => H _ (fun c => ?_) ⟨by decide, by decide⟩))
  have := hP.1.2.2.1 i (by omega)
  omega
theorem qPok.inr (h : qPok π) (hi : 0 < pT π i) : 1 ≤ i ∧ i < pE π := by
  by_cases c : 1 ≤ i ∧ i < pE π
  · exact c
  · have := h.2.2.1 i c
    omega
theorem qCP.gx (h : qCP s π) (hi : pT π i = 1) : gcx s (pA s i) (pN π i) (pC π i) := by
  have := h.1.inr (i := i) (by omega)
  exact (h.2.2 i (by omega) this.2).2.2.2.2.2 hi
theorem c38 (hP : qCP s π) (hr : Rg i) (hi : pT π i = 1) (H : f (pA s i + pN π i) s) : qW w 2 38 [.ref 3, qI i] s (qPI f g) := by
  have h1 := hP.1.inr (i := i) (by omega)
  refine k38 (c_get hP hr (by omega) (fun a b => c_getF hP hr ?_) (fun a => absurd a (by omega)))
  rw [pg_in hP.1 (by omega), (hP.1.2.2.2.2 i hi).1]
  exact H
theorem c51 {m : Int} (hP : qCP s π) (hK : qCK s π) (hr : Rg i) (H : f (bi (pfit π i m)) s) : qW w 2 51 [.ref 3, qI i, qI m] s (qPI f g) := by
  refine k51 (c_getT hP hr ⟨pg_rg hP.1 (pT_rg hP.1 i), fun c => ?_, fun c => ?_⟩)
  · rw [pg_T hP.1 (by omega)] at c
    have h1 := hP.1.inr (i := i) (by omega)
    refine c_get hP hr (by omega) (fun a b => ?_) (fun a => absurd a (by omega))
    rw [hK i a b c]
    refine ⟨qand_Rg _ _, fun z => k51_31 (k51_32 ⟨Or.inl rfl, ?_⟩), fun z => k51_32 ⟨Or.inr rfl, ?_⟩⟩
    · have : pfit π i m = false := decide_eq_false (fun x => x.2 z)
      rw [this] at H; exact H
    · have : pfit π i m = true := decide_eq_true ⟨c, z⟩
      rw [this] at H; exact H
  · rw [Ne, pg_T hP.1 (by omega)] at c
    have : pfit π i m = false := decide_eq_false (fun x => c x.1)
    rw [this] at H
    exact k51_31 (k51_32 ⟨Or.inl rfl, H⟩)
theorem pF_rg (hP : qPok π) (i : Int) : Rg (pF π i) := (hP.2.2.2.1 i).2.2.1
theorem pS_rg (hP : qPok π) (i : Int) : Rg (pS π i) := (hP.2.2.2.1 i).2.2.2.1
theorem pO_rg (hP : qPok π) (i : Int) : Rg (pO π i) := (hP.2.2.2.1 i).2.2.2.2
theorem c59 (hP : qCP s π) (hK : qCK s π) (hr : Rg i) (H : f (bi (pplain π i)) s) : qW w 3 59 [.ref 3, qI i] s (qPI f g) := by
  unfold pplain at H
  refine k59 (c35 hP hr ⟨pg_rg hP.1 (pT_rg hP.1 i), fun c => ?_, fun c => ?_⟩)
  · rw [pg_T hP.1 (by omega)] at c
    rw [decide_eq_true c, Bool.true_and] at H
    refine c49 hP hr (c51 hP hK (pg_rg hP.1 (pF_rg hP.1 i)) ⟨bi_rg _, fun z => k59_27 (k59_28 ⟨Or.inl rfl, ?_⟩), fun z => k59_28 ⟨Or.inr rfl, ?_⟩⟩)
    · rw [bi_0] at z; rw [z] at H; exact H
    · rw [bi_n] at z; rw [z] at H; exact H
  · rw [Ne, pg_T hP.1 (by omega)] at c
    rw [decide_eq_false c, Bool.false_and] at H
    exact k59_27 (k59_28 ⟨Or.inl rfl, H⟩)
theorem c65 (hP : qCP s π) (hr : Rg i) (hk : Rg k) (H : f (pchar π i k) s) : qW w 3 65 [.ref 3, qI i, qI k] s (qPI f g) := by
  unfold pchar at H
  refine k65 (c35 hP hr ⟨pg_rg hP.1 (pT_rg hP.1 i), fun c => ⟨hk, fun d => k65_23 ?_, fun d => ?_⟩, fun c => k65_23 ?_⟩)
  · rw [if_neg (by omega)] at H; exact H
  · rw [pg_T hP.1 (by omega)] at c
    obtain ⟨t1, t2, t3, t4⟩ := hP.1.2.2.2.2 i c
    have hF := pg_in (F := pF π) hP.1 (i := i) (by omega)
    refine c49 hP hr ⟨pg_rg hP.1 (pF_rg hP.1 i), fun d2 => ⟨fun d3 => c49 hP hr (k65_51 ?_), fun d3 => ?_⟩, fun d2 => k65_23 ?_⟩
    · rw [hF, t1] at d2 ⊢
      rw [if_pos ⟨c, d, d2⟩, if_pos d3] at H
      exact H
    · rw [hF, t1] at d2
      rw [if_pos ⟨c, d, d2⟩, if_neg d3] at H
      refine c37 hP hr (fun a ha _ => ?_)
      obtain ⟨x1, x2, x3, x4⟩ := hP.gx c
      rw [ha c]
      refine ⟨by omega, by omega, k65_51 ?_⟩
      rw [(x4 k (by omega) d2).1]
      exact H
    · rw [hF, t1] at d2
      rw [if_neg (by omega)] at H
      exact H
  · rw [Ne, pg_T hP.1 (by omega)] at c
    rw [if_neg (by omega)] at H; exact H
theorem c72 (hw : qfv w) {o : Nat} (ho : qso o) (hP : qCP s π) (hr : Rg i) (H : f (bi (pspells π i (qstr o))) s) : qW w 6 72 [.ref 3, qI i, .retAddr o] s (qPI f g) := by
  unfold pspells at H
  refine k72 (c35 hP hr ⟨pg_rg hP.1 (pT_rg hP.1 i), fun c => ?_, fun c => k72_34 (k72_35 ⟨Or.inl rfl, ?_⟩)⟩)
  · rw [pg_T hP.1 (by omega)] at c
    rw [decide_eq_true c, Bool.true_and] at H
    have hx := hP.gx c
    refine c37 hP hr (fun a ha _ => ?_)
    rw [ha c]
    refine c38 hP hr c (c41 hw ho hx (k := 0) (e := pN π i) (by omega) hx.2.1 (by omega) (by omega) rfl ⟨bi_rg _, fun z => k72_34 (k72_35 ⟨Or.inl rfl, ?_⟩), fun z => k72_35 ⟨Or.inr rfl, ?_⟩⟩)
    · rw [bi_0] at z; rw [z] at H; exact H
    · rw [bi_n] at z; rw [z] at H; exact H
  · rw [Ne, pg_T hP.1 (by omega)] at c
    rw [decide_eq_false c, Bool.false_and] at H
    exact H
theorem c96 (hP : qCP s π) (hr : Rg i) (H : f (bi (decide (0 < pT π i))) s) : qW w 2 96 [.ref 3, qI i] s (qPI f g) := by
  have hz : 0 < pg π (pT π) i ↔ 0 < pT π i := by
    unfold pg
    split
    · exact Iff.rfl
    · next c =>
      have := hP.1.2.2.1 i (by omega)
      omega
  refine k96 (c_getT hP hr ⟨pg_rg hP.1 (pT_rg hP.1 i), fun c => k96_17 ⟨Or.inr rfl, ?_⟩, fun c => k96_17 ⟨Or.inl rfl, ?_⟩⟩)
  · rw [decide_eq_true (hz.mp c)] at H; exact H
  · rw [decide_eq_false (by omega)] at H; exact H
theorem c104 (hP : qCP s π) (hr : Rg i) (H : f (ptext π i) s) : qW w 3 104 [.ref 3, qI i] s (qPI f g) := by
  have hT : ∀ v, 0 < v → (pg π (pT π) i = v ↔ pT π i = v) := fun v hv => pg_T hP.1 hv
  unfold ptext at H
  refine k104 (c35 hP hr ⟨pg_rg hP.1 (pT_rg hP.1 i), fun c => ?_, fun c => ?_, fun c1 c2 c3 c4 => ?_⟩)
  · rw [hT _ (by omega)] at c
    rw [if_pos c] at H; exact H
  · rw [hT _ (by omega), hT _ (by omega), hT _ (by omega)] at c
    rw [if_neg (by omega), if_pos c] at H
    refine c49 hP hr ?_
    rw [pg_in hP.1 (by omega)]
    exact H
  · rw [Ne, hT _ (by omega)] at c1 c2 c3 c4
    rw [if_neg c1, if_neg (by omega)] at H
    exact H
theorem c68_loop {a1 a2 : Int} {C D : Int → Int} {m : Int} (h1 : gcx s a1 m C) (h2 : gcx s a2 m D) : ∀ (d : Nat) (k : Int), 0 ≤ k → k + d = m → f (bi (gEq C D d k)) s → qR w 2 qm68 53 [(0, .ref 3), (3, qI a1), (4, qI m), (5, qI a2), (6, qI k)] [] s (qPI f g) := by
  obtain ⟨x1, x2, x3, x4⟩ := h1
  obtain ⟨y1, y2, y3, y4⟩ := h2
  intro d
  induction d with
  | zero =>
    intro k h0 h1 H
    exact k68_53 ⟨⟨by omega, by omega⟩, ⟨by omega, by omega⟩, fun c => absurd c (by omega), fun _ => H⟩
  | succ d ih =>
    intro k h0 h1 H
    obtain ⟨q1, q2, q3⟩ := x4 k h0 (by omega)
    obtain ⟨r1, r2, r3⟩ := y4 k h0 (by omega)
    unfold gEq at H
    refine k68_53 ⟨⟨by omega, by omega⟩, ⟨by omega, by omega⟩, fun _ => ⟨by omega, by omega, by omega, by omega, ?_⟩, fun c => absurd c (by omega)⟩
    rw [q1, r1]
    refine ⟨⟨by omega, by omega⟩, ⟨by omega, by omega⟩, fun c => ih (k + 1) (by omega) (by omega) ?_, fun c => ?_⟩
    · rw [decide_eq_true c, Bool.true_and] at H; exact H
    · rw [decide_eq_false c, Bool.false_and] at H; exact H
theorem c68 (hP : qCP s π) (hi : Rg i) (hj : Rg j) (H : f (bi (psame π i j)) s) : qW w 3 68 [.ref 3, qI i, qI j] s (qPI f g) := by
  have hT : ∀ i v, 0 < v → (pg π (pT π) i = v ↔ pT π i = v) := fun i v hv => pg_T hP.1 hv
  unfold psame at H
  refine k68 (c37 hP hi (fun a1 ha1 _ => c49 hP hi (c37 hP hj (fun a2 ha2 _ => c35 hP hi ⟨pg_rg hP.1 (pT_rg hP.1 i), fun c => c35 hP hj ⟨pg_rg hP.1 (pT_rg hP.1 j), fun c2 => c49 hP hj ⟨pg_rg hP.1 (pF_rg hP.1 i), pg_rg hP.1 (pF_rg hP.1 j), fun c3 => ?_, fun c3 => k68_48 ?_⟩, fun c2 => k68_48 ?_⟩, fun c => k68_48 ?_⟩))))
  · rw [hT _ _ (by omega)] at c c2
    rw [pg_in hP.1 (by omega), pg_in hP.1 (by omega), (hP.1.2.2.2.2 i c).1, (hP.1.2.2.2.2 j c2).1] at c3
    rw [pg_in hP.1 (by omega), (hP.1.2.2.2.2 i c).1]
    rw [decide_eq_true c, decide_eq_true c2, decide_eq_true c3] at H
    have h1 := hP.gx c
    have h2 := hP.gx c2
    rw [← c3] at h2
    rw [ha1 c, ha2 c2]
    exact c68_loop h1 h2 (pN π i).toNat 0 (by omega) (by have := h1.2.1; omega) (by simpa using H)
  · rw [hT _ _ (by omega)] at c c2
    rw [pg_in hP.1 (by omega), pg_in hP.1 (by omega), (hP.1.2.2.2.2 i c).1, (hP.1.2.2.2.2 j c2).1] at c3
    rw [decide_eq_false c3] at H
    simp at H
    exact H
  · rw [hT _ _ (by omega)] at c
    rw [Ne, hT _ _ (by omega)] at c2
    rw [decide_eq_false c2] at H
    simp at H
    exact H
  · rw [Ne, hT _ _ (by omega)] at c
    rw [decide_eq_false c] at H
    simp at H
    exact H
/-- a demand -/
theorem c_ck {c e q : Int} {b : Bool} (hA : qAt s0 B n q s) (hc : c = bi b) (he : e = p) (H : qRes (rCk b p) (fun e => ∀ s', qFt s0 n e s' → g 0 s') (fun _ => fv s)) : qW w 1 20 [.ref 1, qI c, qI e] s (qPV fv g) := by
  subst hc he
  unfold rCk at H
  refine c20 (bi_rg b) (fun z => ?_) (fun z => ?_)
  · rw [bi_0] at z
    rw [z] at H
    exact H _ (hA.ft _)
  · rw [bi_n] at z
    rw [z] at H
    exact H
theorem qAt.pool (hP : qCP s π) (q : Int) : qCP (qset s 1 2 q) π := hP.fr (qset_cell _ (by decide)) (qset_cell _ (by decide)) (qset_cell _ (by decide))
theorem qAt.kinds (hK : qCK s π) (q : Int) : qCK (qset s 1 2 q) π := hK.fr (qset_cell _ (by decide))
theorem c70 {tag : Int} (hB : qB B n) (hP : qCP s π) (hA : qAt s0 B n p s) (h0 : 0 ≤ p) (h1 : p ≤ n) (ht : Rg tag) (H : qRes (rTake π B n p tag) (fun e => ∀ s', qFt s0 n e s' → g 0 s') (fun v => f v (qset s 1 2 (p + 2)))) : qW w 2 70 [.ref 3, qI tag] s (qPI f g) := by
  unfold rTake at H
  rw [qRes_bd] at H
  refine k70 (c_u2 hB hA h0 h1 (qRes_mono H (fun e _ h => h) (fun v hv H => ?_)))
  obtain ⟨q1, rfl⟩ := rU2_r hv
  have r := b2_rg hB h0 q1
  have hA2 := hA.mv (p + 2)
  have hP2 := qAt.pool hP (p + 2)
  rw [qRes_bd] at H
  have h31 : ∀ b : Bool, b = decide (pg π (pT π) (b2 B p) = tag) → qR w 1 qm70 31 [(0, .ref 3), (2, qI (b2 B p))] [qI (bi b), .ref 1] (qset s 1 2 (p + 2)) (qPI f g) := by
    intro b hb
    refine k70_31 (c21 (c_ck (p := p) hA2 rfl (by rw [hA2.2.1]; omega) ?_))
    rw [hb]
    exact H
  exact c_getT hP2 ⟨by omega, by omega⟩ ⟨pg_rg hP.1 (pT_rg hP.1 _), ht, fun c => h31 true (decide_eq_true c).symm, fun c => h31 false (decide_eq_false c).symm⟩
theorem c78 {tag : Int} (hB : qB B n) (hP : qCP s π) (hA : qAt s0 B n p s) (h0 : 0 ≤ p) (h1 : p ≤ n) (ht : Rg tag) (H : qRes (rTake0 π B n p tag) (fun e => ∀ s', qFt s0 n e s' → g 0 s') (fun v => f v (qset s 1 2 (p + 2)))) : qW w 2 78 [.ref 3, qI tag] s (qPI f g) := by
  unfold rTake0 at H
  rw [qRes_bd] at H
  refine k78 (c_u2 hB hA h0 h1 (qRes_mono H (fun e _ h => h) (fun v hv H => ?_)))
  obtain ⟨q1, rfl⟩ := rU2_r hv
  have r := b2_rg hB h0 q1
  have hA2 := hA.mv (p + 2)
  have hP2 := qAt.pool hP (p + 2)
  rw [qRes_bd] at H
  have h35 : ∀ b : Bool, b = decide (b2 B p = 0 ∨ pg π (pT π) (b2 B p) = tag) → qR w 1 qm78 35 [(0, .ref 3), (2, qI (b2 B p))] [qI (bi b), .ref 1] (qset s 1 2 (p + 2)) (qPI f g) := by
    intro b hb
    refine k78_35 (c21 (c_ck (p := p) hA2 rfl (by rw [hA2.2.1]; omega) ?_))
    rw [hb]
    exact H
  refine ⟨⟨by omega, by omega⟩, fun c => k78_30 (h35 true (decide_eq_true (Or.inl c)).symm), fun c => c_getT hP2 ⟨by omega, by omega⟩ ⟨pg_rg hP.1 (pT_rg hP.1 _), ht, fun c2 => k78_30 (h35 true (decide_eq_true (Or.inr c2)).symm), fun c2 => h35 false (decide_eq_false (by omega)).symm⟩⟩
theorem c63 {m : Int} (hB : qB B n) (hP : qCP s π) (hK : qCK s π) (hA : qAt s0 B n p s) (h0 : 0 ≤ p) (h1 : p ≤ n) (H : qRes (rText π B n p m) (fun e => ∀ s', qFt s0 n e s' → g 0 s') (fun v => f v (qset s 1 2 (p + 2)))) : qW w 3 63 [.ref 3, qI m] s (qPI f g) := by
  unfold rText at H
  rw [qRes_bd] at H
  refine k63 (c_u2 hB hA h0 h1 (qRes_mono H (fun e _ h => h) (fun v hv H => ?_)))
  obtain ⟨q1, rfl⟩ := rU2_r hv
  have r := b2_rg hB h0 q1
  have hA2 := hA.mv (p + 2)
  rw [qRes_bd] at H
  exact c51 (qAt.pool hP (p + 2)) (qAt.kinds hK (p + 2)) ⟨by omega, by omega⟩ (c21 (c_ck (p := p) hA2 rfl (by rw [hA2.2.1]; omega) H))
end PO
