/-! the old world at the start -/
theorem zeqr {args : Array Value} {s : State} {t u : Term} {a : Nat} (h : (Jvm.Cond.eq t u).before args s = true) (hu : u.eval args s none [] s = some (.ref a)) : t.eval args s none [] s = some (.ref a) := by
  cases hv : t.eval args s none [] s with
  | none => simp [Jvm.Cond.before, Jvm.Cond.holds, Jvm.Cond.value, hv] at h
  | some w =>
    simp only [Jvm.Cond.before, Jvm.Cond.holds, Jvm.Cond.value, hv, hu] at h
    cases w <;> simp_all
theorem qstr_start {args : Array Value} {s : State} {A : Nat → Prop} (e : String × Nat × List Nat) (hw : ∀ w ∈ qwS e, w.before args s = true) (hlen : e.2.2.length < 2 ^ 31) (hA : ∀ a : Nat, a < s.heap.size → ¬ A a) :
    ∃ a t, (qtS e).eval args s none [] s = some (.ref a) ∧ (qtV e).eval args s none [] s = some (.ref t) ∧ va_O "java/lang/String" a A s s.heap ∧ va_OF "java/lang/String" "coder" "B" (.int 0) a A s s.heap ∧ va_OF "java/lang/String" "value" "[B" (.ref t) a A s s.heap ∧ va_T .byte t e.2.2.length (fun j => .int (Int32.ofNat (e.2.2.getD j 0))) A s s.heap := by
  obtain ⟨a, c, cA, kA, q1, q2, q3, q4, q5, q6, -⟩ := Cond.exactly_spec (args := args) (first := s) (o := none) (s := s) (idx := []) (t := qtS e) (cls := "java/lang/String") (hw _ (by simp [qwS]))
  obtain ⟨t, ht, hT⟩ := va_Tof (tm := qtV e) (ty := .byte) (N := e.2.2.length) (f := fun j => .int (Int32.ofNat (e.2.2.getD j 0))) (A := A) hlen (hw _ (by simp [qwS])) (va_eqt (hw _ (by simp [qwS]))) (fun j hj => va_eqt (hw _ (List.mem_append_right _ (List.mem_map.mpr ⟨j, List.mem_range.mpr hj, rfl⟩)))) hA
  exact ⟨a, t, q1, ht, ⟨cA, q3, q5, by rw [q6]; exact q2, hA a (Array.getElem?_eq_some_iff.mp q3).1⟩, vk_OFof q1 (va_eqt (hw _ (by simp [qwS]))) hA, vk_OFof q1 ht hA, hT⟩
theorem qkn_start {args : Array Value} {s : State} {A : Nat → Prop} (e : String × Nat × Nat × Nat × Nat × Nat) (hw : ∀ w ∈ qwKn e, w.before args s = true) {b : Nat} (hs : (qsn e.2.1).eval args s none [] s = some (.ref b)) (hA : ∀ a : Nat, a < s.heap.size → ¬ A a) :
    ∃ a, (qtK e.1).eval args s none [] s = some (.ref a) ∧ va_O "ClassReader$Known" a A s s.heap ∧ va_OF "java/lang/Enum" "ordinal" "I" (.int (Int32.ofNat e.2.2.2.2.2)) a A s s.heap ∧ va_OF "ClassReader$Known" "word" "Ljava/lang/String;" (.ref b) a A s s.heap ∧
      va_OF "ClassReader$Known" "place" "I" (.int (Int32.ofNat e.2.2.1)) a A s s.heap ∧ va_OF "ClassReader$Known" "bit" "I" (.int (Int32.ofNat e.2.2.2.1)) a A s s.heap ∧ va_OF "ClassReader$Known" "rivals" "I" (.int (Int32.ofNat e.2.2.2.2.1)) a A s s.heap := by
  obtain ⟨a, c, cA, kA, q1, q2, q3, q4, q5, q6, -⟩ := Cond.exactly_spec (args := args) (first := s) (o := none) (s := s) (idx := []) (t := qtK e.1) (cls := "ClassReader$Known") (hw _ (by simp [qwKn]))
  exact ⟨a, q1, ⟨cA, q3, q5, by rw [q6]; exact q2, hA a (Array.getElem?_eq_some_iff.mp q3).1⟩, vk_OFof q1 (va_eqt (hw _ (by simp [qwKn]))) hA, vk_OFof q1 (zeqr (hw _ (by simp [qwKn])) hs) hA,
    vk_OFof q1 (va_eqt (hw _ (by simp [qwKn]))) hA, vk_OFof q1 (va_eqt (hw _ (by simp [qwKn]))) hA, vk_OFof q1 (va_eqt (hw _ (by simp [qwKn]))) hA⟩
theorem qStr_small : ∀ e ∈ qStr, e.2.2.length < 2 ^ 31 := by
  intro e he
  have : qStr.all (fun e => decide (e.2.2.length < 100)) = true := by decide +kernel
  have := List.all_eq_true.mp this e he
  simp only [decide_eq_true_eq] at this
  omega
theorem qKn_str : ∀ e ∈ qKn, ∃ q, qStr[e.2.1]? = some q := by
  intro e he
  have : qKn.all (fun e => (qStr[e.2.1]?).isSome) = true := by decide +kernel
  exact Option.isSome_iff_exists.mp (List.all_eq_true.mp this e he)
theorem qso_S {s : State} {b : Nat} (hN : ∀ w ∈ qN, w.before #[Value.ref b] s = true) {j : Nat} {e : String × Nat × List Nat} (he : qStr[j]? = some e) : let sa := qsa #[Value.ref b] s
    let A := fun q : Nat => s.heap.size ≤ q
    (qtS e).eval #[Value.ref b] s none [] s = some (.ref (sa (100 + 2 * j))) ∧ va_O "java/lang/String" (sa (100 + 2 * j)) A s s.heap ∧ va_OF "java/lang/String" "coder" "B" (.int 0) (sa (100 + 2 * j)) A s s.heap ∧ va_OF "java/lang/String" "value" "[B" (.ref (sa (100 + 2 * j + 1))) (sa (100 + 2 * j)) A s s.heap ∧ va_T .byte (sa (100 + 2 * j + 1)) e.2.2.length (fun j => .int (Int32.ofNat (e.2.2.getD j 0))) A s s.heap := by
  intro sa A
  have hm := List.mem_of_getElem? he
  obtain ⟨a, t, h1, h2, h3, h4, h5, h6⟩ := qstr_start (A := A) e (fun w hw => hN w (qS_in e hm w hw)) (qStr_small e hm) (fun a h => Nat.not_le.mpr h)
  have e1 : sa (100 + 2 * j) = a := qsa_of (t := qtS e) (by
    unfold qtm
    rw [if_pos (by omega), show (100 + 2 * j - 100) / 2 = j by omega, he, Option.map_some, if_pos (by omega)]) h1
  have e2 : sa (100 + 2 * j + 1) = t := qsa_of (t := qtV e) (by
    unfold qtm
    rw [if_pos (by omega), show (100 + 2 * j + 1 - 100) / 2 = j by omega, he, Option.map_some, if_neg (by omega)]) h2
  rw [e1, e2]
  exact ⟨h1, h3, h4, h5, h6⟩
theorem qKn_len : qKn.length < 90 := by decide +kernel
theorem qso_K {s : State} {b : Nat} (hN : ∀ w ∈ qN, w.before #[Value.ref b] s = true) {i : Nat} {e : String × Nat × Nat × Nat × Nat × Nat} (he : qKn[i]? = some e) : let sa := qsa #[Value.ref b] s
    let A := fun q : Nat => s.heap.size ≤ q
    (qtK e.1).eval #[Value.ref b] s none [] s = some (.ref (sa (10 + i))) ∧ va_O "ClassReader$Known" (sa (10 + i)) A s s.heap ∧ va_OF "java/lang/Enum" "ordinal" "I" (.int (Int32.ofNat e.2.2.2.2.2)) (sa (10 + i)) A s s.heap ∧ va_OF "ClassReader$Known" "word" "Ljava/lang/String;" (.ref (sa (100 + 2 * e.2.1))) (sa (10 + i)) A s s.heap ∧
      va_OF "ClassReader$Known" "place" "I" (.int (Int32.ofNat e.2.2.1)) (sa (10 + i)) A s s.heap ∧ va_OF "ClassReader$Known" "bit" "I" (.int (Int32.ofNat e.2.2.2.1)) (sa (10 + i)) A s s.heap ∧ va_OF "ClassReader$Known" "rivals" "I" (.int (Int32.ofNat e.2.2.2.2.1)) (sa (10 + i)) A s s.heap := by
  intro sa A
  have hm := List.mem_of_getElem? he
  obtain ⟨q, hq⟩ := qKn_str e hm
  have hS := (qso_S hN hq).1
  obtain ⟨a, h1, h2⟩ := qkn_start (A := A) e (fun w hw => hN w (qK_in e hm w hw)) (b := sa (100 + 2 * e.2.1)) (by
    unfold qsn
    rw [hq]
    exact hS) (fun a h => Nat.not_le.mpr h)
  have hi : i < 90 := Nat.lt_trans (List.getElem?_eq_some_iff.mp he).1 (by decide +kernel)
  have e1 : sa (10 + i) = a := qsa_of (t := qtK e.1) (by
    unfold qtm
    rw [if_neg (by omega), if_pos (by omega), show 10 + i - 10 = i by omega, he, Option.map_some]) h1
  rw [e1]
  exact ⟨h1, h2⟩
theorem qso_A {s : State} {b : Nat} (hN : ∀ w ∈ qN, w.before #[Value.ref b] s = true) : let sa := qsa #[Value.ref b] s
    let A := fun q : Nat => s.heap.size ≤ q
    qtA.eval #[Value.ref b] s none [] s = some (.ref (sa 2)) ∧ va_T (.object "ClassReader$Known") (sa 2) qKn.length (fun j => .ref (sa (10 + j))) A s s.heap := by
  intro sa A
  have hw : ∀ w ∈ qwA, w.before #[Value.ref b] s = true := fun w h => hN w (qN_in qA_eq w h)
  obtain ⟨t, ht, hT⟩ := va_Tof (tm := qtA) (ty := .object "ClassReader$Known") (N := qKn.length) (f := fun j => .ref (sa (10 + j))) (A := A) (by decide +kernel) (hw _ (by unfold qwA; simp)) (va_eqt (hw (.eq (.length qtA) (.int (Int32.ofNat qKn.length))) (by unfold qwA; simp))) (fun j hj => by
    have h1 := hw (.eq (.elem qtA (.int (Int32.ofNat j))) (qtK (qKn.getD j ("", 0, 0, 0, 0, 0)).1)) (by unfold qwA; exact List.mem_append_right _ (List.mem_map.mpr ⟨j, List.mem_range.mpr hj, rfl⟩))
    have h2 : qKn[j]? = some (qKn.getD j ("", 0, 0, 0, 0, 0)) := by simp [List.getD, hj]
    exact zeqr h1 (qso_K hN h2).1) (fun a h => Nat.not_le.mpr h)
  have e1 : sa 2 = t := qsa_of (t := qtA) rfl ht
  rw [e1]
  exact ⟨ht, hT⟩
theorem qso_W {s : State} {b : Nat} (hN : ∀ w ∈ qN, w.before #[Value.ref b] s = true) : let sa := qsa #[Value.ref b] s
    let A := fun q : Nat => s.heap.size ≤ q
    qtW.eval #[Value.ref b] s none [] s = some (.ref (sa 3)) ∧ va_T .int (sa 3) qSw.length (fun j => .int (Int32.ofNat (qSw.getD j 0))) A s s.heap := by
  intro sa A
  have hw : ∀ w ∈ qwW, w.before #[Value.ref b] s = true := fun w h => hN w (qN_in qW_eq w h)
  obtain ⟨t, ht, hT⟩ := va_Tof (tm := qtW) (ty := .int) (N := qSw.length) (f := fun j => .int (Int32.ofNat (qSw.getD j 0))) (A := A) (by decide +kernel) (hw _ (by unfold qwW; simp)) (va_eqt (hw (.eq (.length qtW) (.int (Int32.ofNat qSw.length))) (by unfold qwW; simp))) (fun j hj => va_eqt (hw _ (by unfold qwW; exact List.mem_append_right _ (List.mem_map.mpr ⟨j, List.mem_range.mpr hj, rfl⟩)))) (fun a h => Nat.not_le.mpr h)
  have e1 : sa 3 = t := qsa_of (t := qtW) rfl ht
  rw [e1]
  exact ⟨ht, hT⟩
