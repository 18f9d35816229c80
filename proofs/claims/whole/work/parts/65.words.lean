/-! WORDS: what is told of an entry, as a list of characters; the class tells it -/
def sPth (C : Int → Int) : Nat → Int → List Int
  | 0, _ => []
  | d + 1, k => (if C k = 47 then 46 else C k) :: sPth C d (k + 1)
def sChr (C : Int → Int) : Nat → Int → List Int
  | 0, _ => []
  | d + 1, k => C k :: sChr C d (k + 1)
def sRep : Nat → List Int
  | 0 => []
  | d + 1 => 91 :: 93 :: sRep d
def sBas (x : Int) : List Int := if x = 66 then [98, 121, 116, 101] else if x = 67 then [99, 104, 97, 114] else if x = 68 then [100, 111, 117, 98, 108, 101] else if x = 70 then [102, 108, 111, 97, 116] else if x = 73 then [105, 110, 116] else if x = 74 then [108, 111, 110, 103] else if x = 83 then [115, 104, 111, 114, 116] else if x = 90 then [98, 111, 111, 108, 101, 97, 110] else [118, 111, 105, 100]
def sTy0 (C : Int → Int) (e q : Int) : List Int := if q < e then (if C q = 76 then sPth C (gField C e q - 1 - (q + 1)).toNat (q + 1) else sBas (C q)) else []
def sTyL (C : Int → Int) (e k : Int) : List Int := sTy0 C e (gBr C (e - k).toNat k) ++ sRep (gBr C (e - k).toNat k - k).toNat
def sTyE (C : Int → Int) (e k : Int) : Int := if gBr C (e - k).toNat k < e ∧ C (gBr C (e - k).toNat k) = 76 then gField C e (gBr C (e - k).toNat k) else gBr C (e - k).toNat k + 1
def sArg (C : Int → Int) (e : Int) : Nat → Bool → Int → List Int
  | 0, _, _ => []
  | d + 1, fi, k => if 0 ≤ k ∧ k < e then (if fi = true then [] else [44, 32]) ++ (sTyL C e k ++ sArg C e d false (sTyE C e k)) else []
def sArgs (C : Int → Int) (m : Int) : List Int := 40 :: (sArg C (gCl C m 500 1) 500 true 1 ++ [41])
def sRes (C : Int → Int) (m : Int) : List Int := sTyL C m (gCl C m 500 1 + 1)
def sCls (π : qP) (i : Int) : List Int := if pfit π (pF π i) 4 = true then sPth (pC π (pF π i)) (pN π (pF π i)).toNat 0 else sTyL (pC π (pF π i)) (pN π (pF π i)) 0
def sNam (π : qP) (i o : Int) : List Int := (if pfit π (pS π i) 32 = true then sRes (pC π (pS π i)) (pN π (pS π i)) else sTyL (pC π (pS π i)) (pN π (pS π i)) 0) ++ (32 :: ((if o = 0 then [] else sCls π o ++ [46]) ++ (sChr (pC π (pF π i)) (pN π (pF π i)).toNat 0 ++ (if pfit π (pS π i) 32 = true then sArgs (pC π (pS π i)) (pN π (pS π i)) else []))))
def tellL (π : qP) (i : Int) : List Int := if pT π i = 7 then sCls π i else if pT π i = 16 then sRes (pC π (pF π i)) (pN π (pF π i)) ++ sArgs (pC π (pF π i)) (pN π (pF π i)) else if pT π i = 12 then sNam π i 0 else if pT π i = 9 ∨ pT π i = 10 ∨ pT π i = 11 then sNam π (pS π i) (pF π i) else []
def aTold (π : qP) (i k : Int) : Int := if pT π i = 0 then -2 else if k = -1 then ((tellL π i).length : Int) else if 0 ≤ k ∧ k < ((tellL π i).length : Int) then (tellL π i).getD k.toNat 0 else -2
theorem sPth_len (C : Int → Int) : ∀ (d : Nat) (k : Int), (sPth C d k).length = d := by
  intro d
  induction d with
  | zero => intro k; rfl
  | succ d ih => intro k; rw [sPth, List.length_cons, ih]
theorem sChr_len (C : Int → Int) : ∀ (d : Nat) (k : Int), (sChr C d k).length = d := by
  intro d
  induction d with
  | zero => intro k; rfl
  | succ d ih => intro k; rw [sChr, List.length_cons, ih]
theorem sRep_len : ∀ (d : Nat), (sRep d).length = 2 * d := by
  intro d
  induction d with
  | zero => rfl
  | succ d ih => rw [sRep, List.length_cons, List.length_cons, ih]; omega
theorem sBas_len (x : Int) : (sBas x).length ≤ 7 := by
  unfold sBas
  repeat' split
  all_goals decide
theorem sTyL_len (C : Int → Int) {e k : Int} (h0 : 0 ≤ k) (hk : k ≤ e) : ((sTyL C e k).length : Int) ≤ 2 * (e - k) + 7 ∧ (k < e → sTyE C e k ≠ -1 → ((sTyL C e k).length : Int) ≤ 7 * (sTyE C e k - k) ∧ k < sTyE C e k) ∧ (k < e → ((sTyL C e k).length : Int) ≤ 7 * (e - k)) := by
  have r := gBr_rg C (e - k).toNat k
  obtain ⟨q, hq⟩ : ∃ q, q = gBr C (e - k).toNat k := ⟨_, rfl⟩
  have rf := gField_rg C e q
  unfold sTyL sTyE
  rw [← hq] at r ⊢
  rw [List.length_append, sRep_len]
  unfold sTy0
  by_cases c : q < e
  · rw [if_pos c]
    by_cases c2 : C q = 76
    · rw [if_pos c2, if_pos ⟨c, c2⟩, sPth_len]
      omega
    · rw [if_neg c2, if_neg (fun y => c2 y.2)]
      have := sBas_len (C q)
      omega
  · rw [if_neg c, if_neg (fun y => c y.1)]
    simp only [List.length_nil]
    omega
theorem sTyE_rg (C : Int → Int) {e k : Int} (h0 : 0 ≤ k) (hk : k < e) : sTyE C e k = -1 ∨ (k < sTyE C e k ∧ sTyE C e k ≤ e + 1) := by
  have r := gBr_rg C (e - k).toNat k
  unfold sTyE
  have rf := gField_rg C e (gBr C (e - k).toNat k)
  split <;> omega
theorem sArg_len (C : Int → Int) (e : Int) : ∀ (d : Nat) (fi : Bool) (k : Int), ((sArg C e d fi k).length : Int) ≤ (if 0 ≤ k ∧ k < e then 9 * (e - k) else 0) := by
  intro d
  induction d with
  | zero => intro fi k; rw [sArg]; split <;> simp <;> omega
  | succ d ih =>
    intro fi k
    unfold sArg
    by_cases c : 0 ≤ k ∧ k < e
    · rw [if_pos c, if_pos c, List.length_append, List.length_append]
      obtain ⟨l1, l2, l3⟩ := sTyL_len C (e := e) (k := k) c.1 (by omega)
      have i := ih false (sTyE C e k)
      have h2 : ((if fi = true then ([] : List Int) else [44, 32]).length : Int) ≤ 2 := by cases fi <;> simp
      by_cases c3 : sTyE C e k = -1
      · rw [if_neg (by omega)] at i
        have := l3 c.2
        omega
      · have l2 := l2 c.2 c3
        split at i <;> omega
    · rw [if_neg c, if_neg c]
      simp
theorem sArgs_len (C : Int → Int) {m : Int} (hm : 0 ≤ m) : ((sArgs C m).length : Int) ≤ 2 + (if 1 ≤ gCl C m 500 1 then 9 * (gCl C m 500 1 - 1) else 0) := by
  unfold sArgs
  rw [List.length_cons, List.length_append, List.length_singleton]
  have := sArg_len C (gCl C m 500 1) 500 true 1
  split at this <;> split <;> omega
theorem sRes_len (C : Int → Int) {m : Int} (hm : 0 ≤ m) : ((sRes C m).length : Int) ≤ 2 * (m - gCl C m 500 1) + 5 := by
  have r := gCl_rg C m 500 1
  unfold sRes
  have := (sTyL_len C (e := m) (k := gCl C m 500 1 + 1) (by omega) (by omega)).1
  omega
theorem sCls_len {π : qP} (h : qPok π) {i : Int} (ht : pT π (pF π i) = 1) : ((sCls π i).length : Int) ≤ 2 * pN π (pF π i) + 7 := by
  obtain ⟨-, n0, -, -⟩ := h.2.2.2.2 _ ht
  unfold sCls
  split
  · rw [sPth_len]; omega
  · have := (sTyL_len (pC π (pF π i)) (e := pN π (pF π i)) (k := 0) (by decide) n0).1
    omega
theorem sNam_len {π : qP} (h : qPok π) {i o : Int} (hs : pT π (pS π i) = 1) (hf : pT π (pF π i) = 1) (ho : o ≠ 0 → pT π (pF π o) = 1) : ((sNam π i o).length : Int) ≤ 5950 := by
  obtain ⟨-, n0, n1, -⟩ := h.2.2.2.2 _ hs
  obtain ⟨-, f0, f1, -⟩ := h.2.2.2.2 _ hf
  have l1 := sRes_len (pC π (pS π i)) n0
  have l2 := sArgs_len (pC π (pS π i)) n0
  have l3 := (sTyL_len (pC π (pS π i)) (e := pN π (pS π i)) (k := 0) (by decide) n0).1
  have r := gCl_rg (pC π (pS π i)) (pN π (pS π i)) 500 1
  have l4 : ((if o = 0 then [] else sCls π o ++ [46]).length : Int) ≤ 988 := by
    split
    · simp
    · next c =>
      have := sCls_len h (ho c)
      obtain ⟨-, -, o1, -⟩ := h.2.2.2.2 _ (ho c)
      rw [List.length_append, List.length_singleton]
      omega
  unfold sNam
  rw [List.length_append, List.length_cons, List.length_append, List.length_append, sChr_len]
  cases pfit π (pS π i) 32 with
  | true =>
    rw [if_pos rfl, if_pos rfl]
    split at l2 <;> omega
  | false =>
    simp only [Bool.false_eq_true, if_false, List.length_nil]
    omega
/-! the class's Words -/
def sput (s : qS) (x : Int) : qS := qset (if s 24 2 = s 24 1 then qset s 24 3 x else s) 24 2 (s 24 2 + 1)
def say (s : qS) : List Int → qS
  | [] => s
  | x :: r => say (sput s x) r
theorem say_app : ∀ (L1 L2 : List Int) (s : qS), say s (L1 ++ L2) = say (say s L1) L2 := by
  intro L1
  induction L1 with
  | nil => intro L2 s; rfl
  | cons x r ih => intro L2 s; exact ih L2 (sput s x)
theorem sput_cell (s : qS) (x : Int) {k : Nat} (hk : k ≠ 24) : sput s x k = s k := by
  unfold sput
  rw [qset_cell _ hk]
  split
  · rw [qset_cell _ hk]
  · rfl
theorem say_cell : ∀ (L : List Int) (s : qS) {k : Nat}, k ≠ 24 → say s L k = s k := by
  intro L
  induction L with
  | nil => intro s k hk; rfl
  | cons x r ih => intro s k hk; rw [say, ih _ hk, sput_cell _ _ hk]
theorem sput_2 (s : qS) (x : Int) : sput s x 24 2 = s 24 2 + 1 ∧ sput s x 24 1 = s 24 1 ∧ sput s x 24 3 = if s 24 2 = s 24 1 then x else s 24 3 := by
  unfold sput
  split
  · refine ⟨?_, ?_, ?_⟩ <;> simp [qset_eq]
  · refine ⟨?_, ?_, ?_⟩ <;> simp [qset_eq]
theorem say_2 : ∀ (L : List Int) (s : qS), say s L 24 2 = s 24 2 + (L.length : Int) ∧ say s L 24 1 = s 24 1 := by
  intro L
  induction L with
  | nil => intro s; exact ⟨by simp [say], rfl⟩
  | cons x r ih =>
    intro s
    obtain ⟨h1, h2, -⟩ := sput_2 s x
    rw [say, (ih _).1, (ih _).2, h1, h2, List.length_cons]
    exact ⟨by omega, rfl⟩
theorem say_3 : ∀ (L : List Int) (s : qS), say s L 24 3 = if 0 ≤ s 24 1 - s 24 2 ∧ s 24 1 - s 24 2 < (L.length : Int) then L.getD (s 24 1 - s 24 2).toNat 0 else s 24 3 := by
  intro L
  induction L with
  | nil => intro s; rw [if_neg (by rintro ⟨y1, y2⟩; rw [List.length_nil] at y2; omega)]; rfl
  | cons x r ih =>
    intro s
    obtain ⟨h1, h2, h3⟩ := sput_2 s x
    rw [say, ih, h1, h2, h3, List.length_cons]
    by_cases c : s 24 2 = s 24 1
    · rw [if_pos c, if_neg (by omega), if_pos (by omega), show (s 24 1 - s 24 2).toNat = 0 by omega]
      rfl
    · rw [if_neg c]
      by_cases c2 : 0 ≤ s 24 1 - s 24 2 ∧ s 24 1 - s 24 2 < ((r.length + 1 : Nat) : Int)
      · rw [if_pos c2, if_pos (by omega)]
        have : (s 24 1 - s 24 2).toNat = (s 24 1 - (s 24 2 + 1)).toNat + 1 := by omega
        rw [this]
        rfl
      · rw [if_neg c2, if_neg (by omega)]
def qWd (s : qS) (m : Int) : Prop := 0 ≤ s 24 2 ∧ s 24 2 + m ≤ 1000000 ∧ Rg (s 24 1)
theorem qWd.le {s : qS} {m m' : Int} (h : qWd s m) (hm : m' ≤ m) : qWd s m' := ⟨h.1, by have := h.2.1; omega, h.2.2⟩
theorem qWd.put {s : qS} {m : Int} (x : Int) (h : qWd s (m + 1)) : qWd (sput s x) m := by
  obtain ⟨h1, h2, -⟩ := sput_2 s x
  obtain ⟨a1, a2, a3⟩ := h
  exact ⟨by omega, by omega, by rw [h2]; exact a3⟩
theorem qWd.say {s : qS} {m : Int} (L : List Int) (h : qWd s (m + (L.length : Int))) : qWd (say s L) m := by
  obtain ⟨h1, h2⟩ := say_2 L s
  obtain ⟨a1, a2, a3⟩ := h
  exact ⟨by omega, by omega, by rw [h2]; exact a3⟩
theorem gcx.say {s : qS} {a m : Int} {C : Int → Int} (h : gcx s a m C) (L : List Int) : gcx (say s L) a m C := by
  unfold gcx at h ⊢
  rw [say_cell L s (by decide)]
  exact h
theorem qCP.say {s : qS} {π : qP} (h : qCP s π) (L : List Int) : qCP (say s L) π := h.fr (say_cell L s (by decide)) (say_cell L s (by decide)) (say_cell L s (by decide))
theorem qCK.say {s : qS} {π : qP} (h : qCK s π) (L : List Int) : qCK (say s L) π := h.fr (say_cell L s (by decide))
section WO
variable {w : qE} {s s0 : qS} {B : Int → Int} {n : Int} {π : qP} {C : Int → Int} {a m e k x y : Int} {f : Int → qS → Prop} {fa : Nat → qS → Prop} {fv : qS → Prop} {g : Nat → qS → Prop}
theorem c109 (h : qWd s 1) (H : fv (sput s x)) : qW w 1 109 [.ref 24, qI x] s (qPV fv g) := by
  obtain ⟨a1, a2, a3⟩ := h
  unfold sput at H
  refine k109 ⟨⟨by omega, by omega⟩, a3, fun c => k109_16 ?_, fun c => k109_16 ?_⟩
  · rw [if_pos c] at H
    rw [show qset s 24 3 x 24 2 = s 24 2 by simp [qset_eq]]
    exact H
  · rw [if_neg c] at H
    exact H
theorem c108_loop (hG : gcx s a m C) (he : e ≤ m) : ∀ (d : Nat) (k : Int) (u : qS), (∀ c, c ≠ 24 → u c = s c) → 0 ≤ k → k + d = e → qWd u d → fv (say u (sPth C d k)) → qR w 1 qm108 2 [(0, .ref 24), (2, qI (a + e)), (3, qI (a + k))] [] u (qPV fv g) := by
  obtain ⟨g1, g2, g3, g4⟩ := hG
  intro d
  induction d with
  | zero =>
    intro k u hu h0 h1 hW H
    exact k108_2 ⟨⟨by omega, by omega⟩, ⟨by omega, by omega⟩, fun c => absurd c (by omega), fun _ => H⟩
  | succ d ih =>
    intro k u hu h0 h1 hW H
    obtain ⟨q1, q2, q3⟩ := g4 k h0 (by omega)
    rw [sPth, say] at H
    have h36 : ∀ v, v = (if C k = 47 then 46 else C k) → qR w 1 qm108 36 [(0, .ref 24), (2, qI (a + e)), (3, qI (a + k))] [qI v, .ref 24] u (qPV fv g) := by
      intro v hv
      refine k108_36 (c109 (hW.le (by omega)) ?_)
      rw [Int.add_assoc]
      refine ih (k + 1) _ (fun c hc => by rw [sput_cell _ _ hc, hu c hc]) (by omega) (by omega) (qWd.put (m := (d : Int)) v (hW.le (by omega))) ?_
      rw [hv]; exact H
    refine k108_2 ⟨⟨by omega, by omega⟩, ⟨by omega, by omega⟩, fun _ => ?_, fun c => absurd c (by omega)⟩
    rw [hu 6 (by decide), q1]
    exact ⟨by omega, by omega, ⟨by omega, by omega⟩, fun c => h36 46 (by rw [if_pos c]), fun c => ⟨by omega, by omega, h36 (C k) (by rw [if_neg c])⟩⟩
theorem c108 (hG : gcx s a m C) (h0 : 0 ≤ k) (hk : k ≤ e) (he : e ≤ m) (hx : x = a + k) (hy : y = a + e) (hW : qWd s (e - k)) (H : fv (say s (sPth C (e - k).toNat k))) : qW w 2 108 [.ref 24, qI x, qI y] s (qPV fv g) := by
  subst hx hy
  exact k108 (c108_loop hG he (e - k).toNat k s (fun _ _ => rfl) h0 (by omega) (hW.le (by omega)) H)
theorem c116_loop (hG : gcx s a m C) (he : e ≤ m) : ∀ (d : Nat) (k : Int) (u : qS), (∀ c, c ≠ 24 → u c = s c) → 0 ≤ k → k + d = e → qWd u d → fv (say u (sChr C d k)) → qR w 1 qm116 2 [(0, .ref 24), (2, qI (a + e)), (3, qI (a + k))] [] u (qPV fv g) := by
  obtain ⟨g1, g2, g3, g4⟩ := hG
  intro d
  induction d with
  | zero =>
    intro k u hu h0 h1 hW H
    exact k116_2 ⟨⟨by omega, by omega⟩, ⟨by omega, by omega⟩, fun c => absurd c (by omega), fun _ => H⟩
  | succ d ih =>
    intro k u hu h0 h1 hW H
    obtain ⟨q1, q2, q3⟩ := g4 k h0 (by omega)
    rw [sChr, say] at H
    refine k116_2 ⟨⟨by omega, by omega⟩, ⟨by omega, by omega⟩, fun _ => ⟨by omega, by omega, ?_⟩, fun c => absurd c (by omega)⟩
    rw [hu 6 (by decide), q1]
    refine c109 (hW.le (by omega)) ?_
    rw [Int.add_assoc]
    exact ih (k + 1) _ (fun c hc => by rw [sput_cell _ _ hc, hu c hc]) (by omega) (by omega) (qWd.put (m := (d : Int)) _ (hW.le (by omega))) H
theorem c116 (hG : gcx s a m C) (h0 : 0 ≤ k) (hk : k ≤ e) (he : e ≤ m) (hx : x = a + k) (hy : y = a + e) (hW : qWd s (e - k)) (H : fv (say s (sChr C (e - k).toNat k))) : qW w 2 116 [.ref 24, qI x, qI y] s (qPV fv g) := by
  subst hx hy
  exact k116 (c116_loop hG he (e - k).toNat k s (fun _ _ => rfl) h0 (by omega) (hW.le (by omega)) H)
/-- a word of the library's -/
def sStr (o : Nat) : List Int := (qstr o).map (fun x : Nat => (x : Int))
theorem c112_loop (hw : qfv w) {o : Nat} (ho : qso o) (hl : ((qstr o).length : Int) ≤ 100) : ∀ (d i : Nat) (u : qS), i + d = (qstr o).length → qWd u d → fv (say u ((sStr o).drop i)) → qR w 4 qm112 2 [(0, .ref 24), (1, .retAddr o), (2, qI i)] [] u (qPV fv g) := by
  intro d
  induction d with
  | zero =>
    intro i u h1 hW H
    rw [List.drop_of_length_le (by unfold sStr; rw [List.length_map]; omega)] at H
    exact k112_2 ⟨qso_k ho, c206 ho ⟨⟨by omega, by omega⟩, ⟨by omega, by omega⟩, fun c => absurd c (by omega), fun _ => H⟩⟩
  | succ d ih =>
    intro i u h1 hW H
    have hi : i < (sStr o).length := by unfold sStr; rw [List.length_map]; omega
    rw [List.drop_eq_getElem_cons hi, say] at H
    have e0 : (sStr o)[i]? = some (((qstr o).getD i 0 : Nat) : Int) := by
      unfold sStr
      rw [List.getElem?_map, List.getD_eq_getElem?_getD, List.getElem?_eq_getElem (by omega)]
      rfl
    have e1 : (sStr o)[i] = (((qstr o).getD i 0 : Nat) : Int) := Option.some.inj ((List.getElem?_eq_getElem hi).symm.trans e0)
    rw [e1] at H
    refine k112_2 ⟨qso_k ho, c206 ho ⟨⟨by omega, by omega⟩, ⟨by omega, by omega⟩, fun _ => ⟨qso_k ho, c208 hw ho (by omega) (by omega) ?_⟩, fun c => absurd c (by omega)⟩⟩
    rw [show ((i : Int)).toNat = i by omega]
    refine c109 (hW.le (by omega)) ?_
    rw [show (i : Int) + 1 = ((i + 1 : Nat) : Int) by omega]
    exact ih (i + 1) _ (by omega) (qWd.put (m := (d : Int)) _ (hW.le (by omega))) H
theorem c112 (hw : qfv w) {o : Nat} (ho : qso o) (hW : qWd s (sStr o).length) (H : fv (say s (sStr o))) : qW w 5 112 [.ref 24, .retAddr o] s (qPV fv g) := by
  have hl := qstr_le ho
  exact k112 (c112_loop hw ho hl (qstr o).length 0 s (by omega) (hW.le (by unfold sStr; rw [List.length_map]; omega)) (by simpa using H))
theorem qso_w {o : Nat} (h : o = 110 ∨ o = 112 ∨ o = 114 ∨ o = 116 ∨ o = 118 ∨ o = 120 ∨ o = 122 ∨ o = 124 ∨ o = 126 ∨ o = 128) : qso o := by
  rcases h with e | e | e | e | e | e | e | e | e | e <;> (subst e; exact ⟨by decide, by decide, by decide +kernel⟩)
theorem c111 (hx : Rg x) (H : ∀ o, qso o → sStr o = sBas x → fa o s) : qW w 1 111 [qI x] s (qPA fa g) := by
  unfold sBas at H
  refine k111 ⟨hx, fun c => ?_, fun c => ?_, fun c => ?_, fun c => ?_, fun c => ?_, fun c => ?_, fun c => ?_, fun c => ?_, fun c1 c2 c3 c4 c5 c6 c7 c8 => ?_⟩
  · exact H 110 (qso_w (by omega)) (by rw [if_pos c]; decide +kernel)
  · exact H 112 (qso_w (by omega)) (by rw [if_neg (by omega), if_pos c]; decide +kernel)
  · exact H 114 (qso_w (by omega)) (by rw [if_neg (by omega), if_neg (by omega), if_pos c]; decide +kernel)
  · exact H 116 (qso_w (by omega)) (by rw [if_neg (by omega), if_neg (by omega), if_neg (by omega), if_pos c]; decide +kernel)
  · exact H 118 (qso_w (by omega)) (by rw [if_neg (by omega), if_neg (by omega), if_neg (by omega), if_neg (by omega), if_pos c]; decide +kernel)
  · exact H 120 (qso_w (by omega)) (by rw [if_neg (by omega), if_neg (by omega), if_neg (by omega), if_neg (by omega), if_neg (by omega), if_pos c]; decide +kernel)
  · exact H 122 (qso_w (by omega)) (by rw [if_neg (by omega), if_neg (by omega), if_neg (by omega), if_neg (by omega), if_neg (by omega), if_neg (by omega), if_pos c]; decide +kernel)
  · exact H 124 (qso_w (by omega)) (by rw [if_neg (by omega), if_neg (by omega), if_neg (by omega), if_neg (by omega), if_neg (by omega), if_neg (by omega), if_neg (by omega), if_pos c]; decide +kernel)
  · exact H 126 (qso_w (by omega)) (by rw [if_neg c1, if_neg c2, if_neg c3, if_neg c4, if_neg c5, if_neg c6, if_neg c7, if_neg c8]; decide +kernel)
theorem s128 : sStr 128 = [91, 93] := by decide +kernel
theorem c110_108 (hw : qfv w) {m v5 : Int} (hm : 0 ≤ m ∧ m ≤ 500) : ∀ (d : Nat) (u : qS), (d : Int) ≤ m → qWd u (2 * d) → f v5 (say u (sRep d)) → qR w 5 qm110 108 [(0, .ref 24), (4, qI m), (5, qI v5), (6, qI (m - d))] [] u (qPI f g) := by
  intro d
  induction d with
  | zero =>
    intro u hd hW H
    exact k110_108 ⟨⟨by omega, by omega⟩, ⟨by omega, by omega⟩, fun c => absurd c (by omega), fun _ => H⟩
  | succ d ih =>
    intro u hd hW H
    have e1 : say u (sRep (d + 1)) = say (say u (sStr 128)) (sRep d) := by rw [s128]; rfl
    rw [e1] at H
    refine k110_108 ⟨⟨by omega, by omega⟩, ⟨by omega, by omega⟩, fun _ => c112 hw (qso_w (by omega)) (hW.le (by rw [s128]; simp; omega)) ?_, fun c => absurd c (by omega)⟩
    rw [show m - ((d + 1 : Nat) : Int) + 1 = m - (d : Int) by omega]
    refine ih _ (by omega) (qWd.say _ (hW.le (by rw [s128]; simp; omega))) H
theorem c110_27 (hw : qfv w) (hG : gcx s a m C) {q : Int} (h0 : 0 ≤ k) (hk : k ≤ q) (hq : q ≤ e) (he : e ≤ m) (hW : qWd s ((sTy0 C e q).length + 2 * (q - k))) (H : f (gab a (if q < e ∧ C q = 76 then gField C e q else q + 1)) (say s (sTy0 C e q ++ sRep (q - k).toNat))) : qR w 5 qm110 27 [(0, .ref 24), (1, qI (a + k)), (2, qI (a + e)), (3, qI (a + q))] [] s (qPI f g) := by
  have hG2 := hG
  obtain ⟨g1, g2, g3, g4⟩ := hG
  rw [say_app] at H
  have h105 : ∀ v5 : Int, v5 = gab a (if q < e ∧ C q = 76 then gField C e q else q + 1) → qR w 5 qm110 105 [(0, .ref 24), (4, qI (a + q - (a + k))), (5, qI v5)] [] (say s (sTy0 C e q)) (qPI f g) := by
    intro v5 hv
    rw [show a + q - (a + k) = q - k by omega]
    have := c110_108 (w := w) (f := f) (g := g) hw (m := q - k) (v5 := v5) (by omega) (q - k).toNat (say s (sTy0 C e q)) (by omega) (qWd.say _ (hW.le (by omega))) (by rw [hv]; exact H)
    rw [show q - k - (((q - k).toNat : Nat) : Int) = 0 by omega] at this
    exact k110_105 this
  refine k110_27 ⟨⟨by omega, by omega⟩, ⟨by omega, by omega⟩, fun c => ?_, fun c => ?_⟩
  · have c' : q < e := by omega
    obtain ⟨q1, q2, q3⟩ := g4 q (by omega) (by omega)
    rw [q1]
    refine ⟨by omega, by omega, ⟨by omega, by omega⟩, fun c2 => ?_, fun c2 => k110_84 ⟨⟨by omega, by omega⟩, ⟨by omega, by omega⟩, fun _ => ⟨by omega, by omega, ?_⟩, fun c3 => absurd c3 (by omega)⟩⟩
    · refine c43 hG2 (by omega) hq he rfl rfl ?_
      have rf := gField_rg C e q
      unfold sTy0 at hW h105
      rw [if_pos c', if_pos c2, sPth_len] at hW
      rw [if_pos c', if_pos c2, if_pos ⟨c', c2⟩] at h105
      by_cases c4 : gField C e q = -1
      · -- nothing to put
        have e1 : (gField C e q - 1 - (q + 1)).toNat = 0 := by omega
        rw [e1, sPth] at h105
        refine k108 (k108_2 ⟨⟨by omega, by omega⟩, ?_, fun c5 => ?_, fun _ => ?_⟩)
        · unfold gab; rw [if_pos c4]; exact ⟨by decide, by decide⟩
        · unfold gab at c5; rw [if_pos c4] at c5; omega
        · exact h105 _ rfl
      · have e1 : gab a (gField C e q) - 1 = a + (gField C e q - 1) := by unfold gab; rw [if_neg c4]; omega
        rw [e1]
        by_cases c6 : q + 1 ≤ gField C e q - 1
        · refine c108 hG2 (k := q + 1) (e := gField C e q - 1) (by omega) c6 (by omega) (by omega) rfl (hW.le (by omega)) ?_
          exact h105 _ rfl
        · have e2 : (gField C e q - 1 - (q + 1)).toNat = 0 := by omega
          rw [e2, sPth] at h105
          exact k108 (k108_2 ⟨⟨by omega, by omega⟩, ⟨by omega, by omega⟩, fun c5 => absurd c5 (by omega), fun _ => h105 _ rfl⟩)
    · rw [q1]
      unfold sTy0 at hW h105
      rw [if_pos c', if_neg c2] at hW h105
      rw [if_neg (fun y => c2 y.2)] at h105
      refine c111 ⟨by omega, by omega⟩ (fun o ho hs => c112 hw ho (hW.le (by rw [hs]; omega)) ?_)
      rw [hs]
      refine h105 _ ?_
      unfold gab
      rw [if_neg (by omega)]
      omega
  · have c' : ¬ q < e := by omega
    unfold sTy0 at h105
    rw [if_neg c', if_neg (fun y => c' y.1)] at h105
    refine k110_84 ⟨⟨by omega, by omega⟩, ⟨by omega, by omega⟩, fun c3 => absurd c3 (by omega), fun _ => h105 _ ?_⟩
    unfold gab
    rw [if_neg (by omega)]
    omega
theorem c110_br (hw : qfv w) (hG : gcx s a m C) (he : e ≤ m) (k0 : 0 ≤ k) : ∀ (d : Nat) (j : Int), k ≤ j → j + d = e → qWd s ((sTy0 C e (gBr C d j)).length + 2 * (gBr C d j - k)) → f (gab a (if gBr C d j < e ∧ C (gBr C d j) = 76 then gField C e (gBr C d j) else gBr C d j + 1)) (say s (sTy0 C e (gBr C d j) ++ sRep (gBr C d j - k).toNat)) → qR w 5 qm110 2 [(0, .ref 24), (1, qI (a + k)), (2, qI (a + e)), (3, qI (a + j))] [] s (qPI f g) := by
  have hG2 := hG
  obtain ⟨g1, g2, g3, g4⟩ := hG
  intro d
  induction d with
  | zero =>
    intro j h0 h1 hW H
    exact k110_2 ⟨⟨by omega, by omega⟩, ⟨by omega, by omega⟩, fun c => absurd c (by omega), fun _ => c110_27 hw hG2 k0 h0 (by omega) he hW H⟩
  | succ d ih =>
    intro j h0 h1 hW H
    obtain ⟨q1, q2, q3⟩ := g4 j (by omega) (by omega)
    unfold gBr at hW H
    refine k110_2 ⟨⟨by omega, by omega⟩, ⟨by omega, by omega⟩, fun _ => ?_, fun c => absurd c (by omega)⟩
    rw [q1]
    refine ⟨by omega, by omega, ⟨by omega, by omega⟩, fun c => ?_, fun c => ?_⟩
    · rw [if_pos c] at hW H
      rw [Int.add_assoc]
      exact ih (j + 1) (by omega) (by omega) hW H
    · rw [if_neg c] at hW H
      exact c110_27 hw hG2 k0 h0 (by omega) he hW H
theorem c110 (hw : qfv w) (hG : gcx s a m C) (h0 : 0 ≤ k) (hk : k ≤ e) (he : e ≤ m) (hx : x = a + k) (hy : y = a + e) (hW : qWd s (sTyL C e k).length) (H : f (gab a (sTyE C e k)) (say s (sTyL C e k))) : qW w 6 110 [.ref 24, qI x, qI y] s (qPI f g) := by
  subst hx hy
  have r := gBr_rg C (e - k).toNat k
  unfold sTyL at hW
  rw [List.length_append, sRep_len] at hW
  exact k110 (c110_br hw hG he h0 (e - k).toNat k (Int.le_refl _) (by omega) (hW.le (by omega)) H)
end WO
