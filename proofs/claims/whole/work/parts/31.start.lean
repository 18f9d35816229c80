/-! all that stands at the start -/
theorem zncast {args : Array Value} {s : State} {x y : String} (h : (Jvm.Cond.not (.castable x y)).before args s = true) {c1 c2 : ClassId} (e1 : s.vm.findClass x = some c1) (e2 : s.vm.findClass y = some c2) : s.vm.assignable c1 c2 = false := by
  simpa [Jvm.Cond.before, Jvm.Cond.holds, Jvm.Cond.value, e1, e2] using h
theorem qwarm0 (s : State) : s.WarmedH s.vm := State.WarmedH.refl s
theorem qXs_tabs : ∀ w ∈ qXs, w.onTables = true := by
  intro w hw
  have hg := List.all_eq_true.mp qXs_good w hw
  simp only [Bool.and_eq_true] at hg
  exact hg.1
theorem qst1_start {s : State} {b : Nat} (hN : ∀ w ∈ qN, w.before #[Value.ref b] s = true) (hT : ∀ w ∈ lw_tbl, w.before #[Value.ref b] s = true) : qst1 s.heap.size s := by
  have hA : ∀ a : Nat, a < s.heap.size → ¬ (fun q : Nat => s.heap.size ≤ q) a := fun a h => Nat.not_le.mpr h
  have hE : ∀ w ∈ qwT, w.before #[Value.ref b] s = true := fun w h => hT w (qin_T w h)
  have hZ : ∀ w ∈ qwZ, w.before #[Value.ref b] s = true := fun w h => hN w (qN_in qZ_eq w h)
  have z1 : va_Zq Bundle.tN "UNASSIGNED_STACK" Bundle.steD (fun q : Nat => s.heap.size ≤ q) s s.heap := va_Zqof (hE _ (by simp [qwT])) (hE _ (by simp [qwT])) (hZ (.isRef (.static Bundle.tN "UNASSIGNED_STACK" Bundle.steD)) (by unfold qwZ Bundle.tN Bundle.steD; simp)) hA
  have z2 : va_Zq Bundle.tN "SUPPRESSED_SENTINEL" Bundle.listD (fun q : Nat => s.heap.size ≤ q) s s.heap := va_Zqof (hE _ (by simp [qwT])) (hE _ (by simp [qwT])) (hZ (.isRef (.static Bundle.tN "SUPPRESSED_SENTINEL" Bundle.listD)) (by unfold qwZ Bundle.tN Bundle.listD; simp)) hA
  refine ⟨⟨fun w hw => va_tabs (qXs_tabs w hw) rfl (hT w (qXs_in w hw)), fun w hw => ?_, z1, z2, zlsMove (hE (.laysStatic Bundle.tN "UNASSIGNED_STACK" Bundle.steD) (by simp [qwT])) z1 (qwarm0 s) (fun _ _ => rfl) _, zlsMove (hE (.laysStatic Bundle.tN "SUPPRESSED_SENTINEL" Bundle.listD) (by simp [qwT])) z2 (qwarm0 s) (fun _ _ => rfl) _⟩, fun x hx => ?_, fun x hx y hy c1 c2 e1 e2 => ?_⟩
  · obtain ⟨x1, x2, x3, x4, x5, x6, rfl⟩ := qNs_form hw
    exact va_Nw.of rfl (hT _ (qNs_in _ hw))
  · exact va_tabs rfl rfl (hT _ (qin_Cl _ (List.mem_map.mpr ⟨x, List.mem_range.mpr hx, rfl⟩)))
  · by_cases h : x = y
    · subst h
      cases e1.symm.trans e2
      rw [va_asg]
      simp
    · have hm : (x, y) ∈ qNcp := by
        have h4 : ∀ x : Fin 4, ∀ y : Fin 4, (x : Nat) ≠ (y : Nat) → ((x : Nat), (y : Nat)) ∈ qNcp := by decide
        exact h4 ⟨x, hx⟩ ⟨y, hy⟩ h
      rw [zncast (hN _ (qNC_in _ (List.mem_map.mpr ⟨(x, y), hm, rfl⟩))) e1 e2]
      simp [h]
theorem qst2_start {s : State} {b L : Nat} {xs : Nat → Int32} (hN : ∀ w ∈ qN, w.before #[Value.ref b] s = true) (hT : ∀ w ∈ lw_tbl, w.before #[Value.ref b] s = true) (hL : L ≤ 2048) (hX : va_X b L xs s s.heap) (hb : b < s.heap.size) :
    ∃ fv, (fv = .null ∨ fv = .retAddr 4) ∧ qst2 L xs fv (qsa #[Value.ref b] s) s.heap.size s := by
  have hA : ∀ a : Nat, a < s.heap.size → ¬ (fun q : Nat => s.heap.size ≤ q) a := fun a h => Nat.not_le.mpr h
  have hE : ∀ w ∈ qEw, w.before #[Value.ref b] s = true := fun w h => hT w (qEw_in w h)
  have hV : ∀ j, j < 5 → ∀ w ∈ qwV j, w.before #[Value.ref b] s = true := fun j hj w h => hT w (qin_V w (List.mem_flatMap.mpr ⟨j, List.mem_range.mpr hj, h⟩))
  have hZ : ∀ w ∈ qwZ, w.before #[Value.ref b] s = true := fun w h => hN w (qN_in qZ_eq w h)
  have hst : ∀ j, j < 5 → ∀ v, (Term.static (qSV j).1 (qSV j).2.1 (qSV j).2.2).eval #[Value.ref b] s none [] s = some v → va_Z (qSV j).1 (qSV j).2.1 (qSV j).2.2 v (fun q : Nat => s.heap.size ≤ q) s s.heap := fun j hj v hv => va_Zof (hV j hj _ (by simp [qwV])) (hV j hj _ (by simp [qwV])) hv hA
  obtain ⟨fv, hfv, hf⟩ : ∃ fv, (fv = .null ∨ fv = .retAddr 4) ∧ (Term.static (qSV 1).1 (qSV 1).2.1 (qSV 1).2.2).eval #[Value.ref b] s none [] s = some (zcv (qsa #[Value.ref b] s) fv) := by
    have h := hZ (.isRef (.static (qSV 1).1 (qSV 1).2.1 (qSV 1).2.2)) (by unfold qwZ qSV; simp)
    cases hv : (Term.static (qSV 1).1 (qSV 1).2.1 (qSV 1).2.2).eval #[Value.ref b] s none [] s with
    | none => simp [Jvm.Cond.before, Jvm.Cond.holds, Jvm.Cond.value, hv] at h
    | some w =>
      simp only [Jvm.Cond.before, Jvm.Cond.holds, Jvm.Cond.value, hv] at h
      cases w with
      | null => exact ⟨.null, Or.inl rfl, rfl⟩
      | ref t => exact ⟨.retAddr 4, Or.inr rfl, by show _ = some (Value.ref (qsa #[Value.ref b] s 4)); rw [qsa_of (k := 4) (t := .static (qSV 1).1 (qSV 1).2.1 (qSV 1).2.2) rfl hv]⟩
      | _ => simp at h
  obtain ⟨a1, a2⟩ := qso_A hN
  obtain ⟨w1, w2⟩ := qso_W hN
  obtain ⟨e0, he0, hn0⟩ : ∃ e, qKn[0]? = some e ∧ e.1 = "OTHER" := ⟨_, rfl, rfl⟩
  have hk0 := qso_K hN he0
  have hsb : qsa #[Value.ref b] s 1 = b := qsa_of (t := .arg 0) rfl rfl
  refine ⟨fv, hfv, qst1_start hN hT, ⟨fun j q hq => ?_, fun o j v f hv hf' => ?_, fun q ty n f hq => ?_, fun k ix q C hq hC => ?_⟩, fun o v hv => ?_, fun k ci hk => ?_, fun w hw => ?_, fun w hw => ?_⟩
  · have hq : qXs' fv j = some q := hq
    unfold qXs' at hq
    split at hq
    · cases hq
      exact hst 0 (by omega) _ (va_eqi (hZ _ (by unfold qwZ qSV; simp)))
    · cases hq
      exact hst 1 (by omega) _ hf
    · cases hq
      exact hst 2 (by omega) _ a1
    · cases hq
      exact hst 3 (by omega) _ w1
    · cases hq
      have := hk0.1
      rw [hn0] at this
      exact hst 4 (by omega) _ this
    · cases hq
  · have hv : qXo o j = some v := hv
    have hf' : (if j < 6 then some (qFV j) else none) = some f := hf'
    split at hf'
    · cases hf'
      unfold qXo at hv
      split at hv
      · next h100 =>
        split at hv
        · next hev =>
          obtain ⟨e, he, hv⟩ := Option.bind_eq_some_iff.mp hv
          have hS := qso_S hN he
          rw [show 100 + 2 * ((o - 100) / 2) = o by omega] at hS
          split at hv
          · cases hv; exact hS.2.2.1
          · cases hv; exact hS.2.2.2.1
          · cases hv
        · cases hv
      · next h100 =>
        split at hv
        · next h10 =>
          obtain ⟨e, he, hv⟩ := Option.bind_eq_some_iff.mp hv
          have hK := qso_K hN he
          rw [show 10 + (o - 10) = o by omega] at hK
          split at hv
          · cases hv; exact hK.2.2.2.2.1
          · cases hv; exact hK.2.2.2.1
          · cases hv; exact hK.2.2.2.2.2.1
          · cases hv; exact hK.2.2.2.2.2.2
          · cases hv
        · cases hv
    · cases hf'
  · have hq : qXa L xs q = some (ty, n, f) := hq
    unfold qXa at hq
    split at hq
    · next h100 =>
      split at hq
      · next hod =>
        obtain ⟨e, he, hq⟩ := Option.map_eq_some_iff.mp hq
        cases hq
        have hS := qso_S hN he
        rw [show 100 + 2 * ((q - 100) / 2) + 1 = q by omega] at hS
        exact hS.2.2.2.2
      · cases hq
    · split at hq
      · cases hq
        rw [hsb]
        obtain ⟨scr, h1, h2, h3, h4, h5⟩ := hX
        exact ⟨scr, h1, h2, h3, by omega, by rw [h4], h5, Nat.not_le.mpr hb⟩
      · cases hq; exact a2
      · cases hq; exact w2
      · cases hq
  · have hC : qcn[k]? = some C := hC
    have hm := qfind_mem (show qfind qgr k ix = some q from hq)
    have hck : qgr.all (fun e => (qgt.any (fun t => t.1 == e.1 && t.2.1 == e.2.1)) && decide (e.2.2 % 2 = 0) && decide (100 ≤ e.2.2) && (match qStr[(e.2.2 - 100) / 2]? with | some t => t.1 == qown e.1 && t.2.1 == e.2.1 | none => false)) = true := by decide +kernel
    have hck := List.all_eq_true.mp hck _ hm
    simp only [Bool.and_eq_true, decide_eq_true_eq] at hck
    obtain ⟨⟨⟨c1, c2⟩, c3⟩, c4⟩ := hck
    obtain ⟨t, ht, htt⟩ := List.any_eq_true.mp c1
    simp only [Bool.and_eq_true, beq_iff_eq] at htt
    split at c4
    · next e he =>
      simp only [Bool.and_eq_true, beq_iff_eq] at c4
      have hS := (qso_S hN he).1
      rw [show 100 + 2 * ((q - 100) / 2) = q by omega] at hS
      unfold qtS at hS
      rw [c4.1, c4.2, qown_eq hC] at hS
      have hw := hE (.stringRef (qown t.1) t.2.1 t.2.2) (List.mem_append_left _ (List.mem_flatMap.mpr ⟨t, ht, by simp [qwR]⟩))
      rw [htt.1, htt.2, qown_eq hC] at hw
      exact ⟨t.2.2, (vk_R.of hw hS)⟩
    · cases c4
  · unfold qov at hv
    split at hv
    · next h =>
      obtain ⟨e, he, hv⟩ := Option.map_eq_some_iff.mp hv
      cases hv
      have hK := qso_K hN he
      rw [show 10 + (o - 10) = o by omega] at hK
      exact ⟨hK.2.1, hK.2.2.1⟩
    · cases hv
  · unfold qsk at hk
    split at hk
    · next h =>
      obtain ⟨e, he⟩ : ∃ e, qStr[(k - 100) / 2]? = some e := ⟨_, List.getElem?_eq_getElem h.2.2⟩
      have hS := qso_S hN he
      rw [show 100 + 2 * ((k - 100) / 2) = k by omega] at hS
      exact hS.2.1
    · cases hk
  · have hg := List.all_eq_true.mp qEl_good w hw
    simp only [Bool.and_eq_true] at hg
    exact va_tabs hg.1 rfl (hT w (qEl_in w hw))
  · obtain ⟨x1, x2, x3, x4, x5, x6, rfl⟩ := qEn_form hw
    exact va_Nw.of rfl (hT _ (qin_I _ hw))
