/-! what lies below n0 and in the tables, and stays; a new exception's row -/
theorem zkeep {w : Jvm.Cond} (h : (w.onTables && (w.keepsFace || w.castAtom)) = true) {s U : State} {A a : Array Value} (hW : s.WarmedH U.vm) (hb : w.before A s = true) : w.before a U = true := by
  simp only [Bool.and_eq_true, Bool.or_eq_true] at h
  have h1 : w.before A (s.setVm U.vm) = true := by
    rcases h.2 with q | q
    · exact Cond.before_shiftedFace (State.Shifted.of_warmed hW) _ q hb
    · exact Cond.castAtom_setVm hW.alike _ q hb
  exact va_tabs h.1 (u := s.setVm U.vm) (U := U) rfl h1
theorem zlsMove {C n d : String} {n0 : Nat} {s U : State} {a0 : Array Value} (h : (Jvm.Cond.laysStatic C n d).before a0 s = true) (hZ : va_Zq C n d (fun q : Nat => n0 ≤ q) s s.heap) (hW : s.WarmedH U.vm) (hq : ∀ q : Nat, q < n0 → U.heap[q]? = s.heap[q]?) (a : Array Value) : (Jvm.Cond.laysStatic C n d).before a U = true := by
  have h1 : (Jvm.Cond.laysStatic C n d).before a0 (s.setVm U.vm) = true := Cond.before_shiftedFace (State.Shifted.of_warmed hW) _ rfl h
  obtain ⟨c, k, i, f, b, cell, g1, g2, g3, g4, g5, g6, g7, g8, g9⟩ := Cond.laysStatic_spec h1
  have hb : b < n0 := by
    have := zaS (va_Zq.moved (u := s) (U := s.setVm U.vm) hW.alike hZ) g2 g4
    exact Nat.lt_of_not_le this.1
  have g5' : U.heap[b]? = some cell := by rw [hq b hb]; exact g5
  have g1' : U.vm.findClass C = some c := g1
  have g2' : U.fieldFound? C n d = some (c, k, i, f) := g2
  simp [Jvm.Cond.before, Jvm.Cond.holds, Jvm.Cond.value, g1', g2', g3, g4, g5', g6, g7, g8, g9]
def qst0 (n0 : Nat) (U : State) : Prop := (∀ w ∈ qXs, w.before #[] U = true) ∧ (∀ w ∈ qNs, va_Nw w U) ∧ va_Zq Bundle.tN "UNASSIGNED_STACK" Bundle.steD (fun q : Nat => n0 ≤ q) U U.heap ∧ va_Zq Bundle.tN "SUPPRESSED_SENTINEL" Bundle.listD (fun q : Nat => n0 ≤ q) U U.heap ∧
  (Jvm.Cond.laysStatic Bundle.tN "UNASSIGNED_STACK" Bundle.steD).before #[] U = true ∧ (Jvm.Cond.laysStatic Bundle.tN "SUPPRESSED_SENTINEL" Bundle.listD).before #[] U = true
theorem qst0_Xs {n0 : Nat} {U : State} (h : qst0 n0 U) : ∀ w ∈ qXs, ∀ a : Array Value, w.before a U = true := by
  intro w hw a
  have hg := List.all_eq_true.mp qXs_good w hw
  simp only [Bool.and_eq_true] at hg
  exact va_tabs hg.1 rfl (h.1 w hw)
theorem qNs_form {w : Jvm.Cond} (hw : w ∈ qNs) : ∃ a i b n d h, w = .fieldLinkNest a i b n d h := by
  obtain ⟨e, -, rfl⟩ := List.mem_map.mp hw
  exact ⟨_, _, _, _, _, _, rfl⟩
theorem qst0_Ns {n0 : Nat} {U : State} (h : qst0 n0 U) : ∀ w ∈ qNs ++ qXs, ∀ a : Array Value, w.before a U = true := by
  intro w hw a
  rcases List.mem_append.mp hw with q | q
  · obtain ⟨x1, x2, x3, x4, x5, x6, rfl⟩ := qNs_form q
    exact va_Nw.use rfl (h.2.1 _ q)
  · exact qst0_Xs h w q a
theorem qst0_stay (n0 : Nat) : ∀ s U : State, qst0 n0 s → s.WarmedH U.vm → (∀ q : Nat, q < n0 → U.heap[q]? = s.heap[q]?) → qst0 n0 U := by
  intro s U ⟨h1, h2, h3, h4, h5, h6⟩ hW hq
  have hq' : ∀ a : Nat, a < s.heap.size → ¬ (fun q : Nat => n0 ≤ q) a → U.heap[a]? = s.heap[a]? := fun a _ ha => hq a (Nat.lt_of_not_le ha)
  refine ⟨fun w hw => zkeep (List.all_eq_true.mp qXs_good w hw) hW (h1 w hw), fun w hw => ?_, (va_Zq.moved hW.alike h3).kept hq', (va_Zq.moved hW.alike h4).kept hq', zlsMove h5 h3 hW hq _, zlsMove h6 h4 hW hq _⟩
  obtain ⟨x1, x2, x3, x4, x5, x6, rfl⟩ := qNs_form hw
  exact va_Nw.warmF hW (h2 _ hw)
set_option maxHeartbeats 4000000 in
theorem qthr (l : Launch) (hfl : ∀ e : Env, l.admits e → e.platform.stackTraces = false) (x : qExt) (sk : Nat → Option Nat) (n0 : Nat) {zst : State → Prop} (hz0 : ∀ U, zst U → qst0 n0 U) : zThrOK l (qT x sk) qTs (qNs ++ qXs) qxn n0 zst := by
  intro p e R s m sargs below meth c H locs cells slots Q cc pc k nL xi C ls cs i hx hb hml hsize hC hown hts hz hn0 hS hRf hRl hRc hRs hcat hs st hdg hth kk
  have hz1 := hz0 s hz
  have hC : qcn[k]? = some C := hC
  have ho := qown_eq hC
  unfold zth at hth
  split at hth
  · next ix =>
    split at hth
    · next xi' ic hxl =>
      have hmem := qfind_mem (show qfind qxl k ix = some (xi', ic) from hxl)
      split at hth
      · next j hd1 hd2 hd3 =>
        split at hth
        · next hj =>
          obtain ⟨rfl, -, -⟩ := hj
          cases hth
          have hw : ∀ w ∈ qxA (k, ix, xi, j), w.before sargs s = true := fun w hw => qst0_Xs hz1 w (List.mem_flatMap.mpr ⟨_, hmem, hw⟩) _
          unfold qxA at hw
          dsimp only at hw
          rw [ho] at hw
          have hwA : ∀ w ∈ Bundle.ownAtoms0 C j (qxn xi) qxnm, w.before sargs s = true := by
            intro w hw1
            by_cases hn : qnr w = true
            · exact hw w (List.mem_append_right _ (List.mem_filter.mpr ⟨hw1, hn⟩))
            · cases w <;> first | exact absurd rfl hn | skip
              · next t =>
                have ht : t = .static Bundle.tN "UNASSIGNED_STACK" Bundle.steD ∨ t = .static Bundle.tN "SUPPRESSED_SENTINEL" Bundle.listD := by
                  simpa [Bundle.ownAtoms0, Bundle.throwableAtoms, qxnm, Bundle.chain0Atoms, Bundle.passAtoms] using hw1
                rcases ht with rfl | rfl
                · exact zisRef hz1.2.2.1
                · exact zisRef hz1.2.2.2.1
              · next t1 t2 t3 =>
                have ht : (t1 = Bundle.tN ∧ t2 = "UNASSIGNED_STACK" ∧ t3 = Bundle.steD) ∨ (t1 = Bundle.tN ∧ t2 = "SUPPRESSED_SENTINEL" ∧ t3 = Bundle.listD) := by
                  simpa [Bundle.ownAtoms0, Bundle.throwableAtoms, qxnm, Bundle.chain0Atoms, Bundle.passAtoms] using hw1
                rcases ht with ⟨rfl, rfl, rfl⟩ | ⟨rfl, rfl, rfl⟩
                · exact hz1.2.2.2.2.1
                · exact hz1.2.2.2.2.2
          have w1 : (Jvm.Cond.classLink C ix (qxn xi)).before sargs s = true := hw _ (by simp)
          have w2 : (Jvm.Cond.instantiable (qxn xi) 6).before sargs s = true := hw _ (by simp)
          have w3 : (Jvm.Cond.initialized (qxn xi)).before sargs s = true := hw _ (by simp)
          obtain ⟨cX, kX, hfX, -⟩ := Cond.instantiable_spec w2
          have hfit : Bundle.fit (qxn xi) = true := by
            unfold qxn
            split <;> decide +kernel
          refine W.newcK hx hb hown w1 w2 w3 (g := F0 m pc ls cs) rfl hdg hRc hRs hfX rfl (fun H' kX' hkX hcell hsz hkeep => ?_)
          refine W.eq (g2 := F0 m (pc + 3) ls (.ref H.size :: cs)) rfl ?_
          refine lv_dup hx hb hd1 rfl ?_
          have hnew : s.heap.size ≤ H.size := hS.1
          refine zexInit hx hfl hb hml hsize hown hfit (by decide +kernel) hwA hz1.2.2.1 hS.2.2 hfX hkX hcell hnew hd2 (by show 2 + 3 < R.frames; omega) (by rw [List.map_cons, List.sum_cons]; show 1 + (cs.map fun v => v.category).sum + (13 * (2 + 1) + 41) ≤ R.locals; omega) (fun cell' L e1 e2 e3 => ?_)
          refine zathrow hx hb hd3 ?_
          have hH1 : ∀ q : Nat, q < H.size → (H'.setIfInBounds H.size cell')[q]? = H[q]? := fun q hq => by
            rw [Array.getElem?_setIfInBounds_ne (by omega)]; exact hkeep q hq
          refine kk H.size _ _ hH1 ⟨?_, fun q h1 h2 => ?_, fun q hq => ?_⟩ (fun t ht hW => ⟨cell', ?_, e2, ?_⟩)
          · rw [Array.size_setIfInBounds, hsz]; omega
          · rw [hH1 q (by omega)]; exact hS.2.1 q h1 h2
          · rcases List.mem_append.mp hq with z | z
            · exact hS.2.2 q z
            · rw [e3 q z]; exact Nat.le_trans hn0 hnew
          · rw [ht]; simp [hsz]
          · rw [hW.alike.findClass, e1]; exact hfX
        · cases hth
      · cases hth
    · cases hth
  · cases hth
