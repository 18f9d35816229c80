/-! the old world, with ordinal -/
def zextO (X : zEx) (ol : Nat → Nat → Bool) (ov : Nat → Option Int32) (k : Nat) (i : Instr) (st : List Value) : Option (List Value) := match i with
  | .invokevirtual ix => match st with
    | .retAddr o :: r => match ov o with
      | some v => if ol k ix = true ∧ 0 < o ∧ zcat r ≤ 16 then some (.int v :: r) else none
      | none => none
    | _ => none
  | i => zext X k i st
def qoWs (E C : String) (ix : Nat) : List Jvm.Cond := [.methodLink C ix ⟨E, "ordinal", "()I"⟩, .sameMethod E "java/lang/Enum" "ordinal" "()I", .selects E ⟨E, "ordinal", "()I"⟩ ordN, .instanceMethod ordN, .initialized "java/lang/Enum"] ++ ordWs
def zOldV (E : String) (ov : Nat → Option Int32) (sa : Nat → Nat) (A : Nat → Prop) (U : State) : Prop := ∀ o v, ov o = some v → va_O E (sa o) A U U.heap ∧ va_OF "java/lang/Enum" "ordinal" "I" (.int v) (sa o) A U U.heap
theorem zOldV.stay {E : String} {ov : Nat → Option Int32} {sa : Nat → Nat} {n0 : Nat} {s U : State} (h : zOldV E ov sa (fun q : Nat => n0 ≤ q) s) (hW : s.WarmedH U.vm) (hq : ∀ q : Nat, q < n0 → U.heap[q]? = s.heap[q]?) : zOldV E ov sa (fun q : Nat => n0 ≤ q) U := by
  have hq' : ∀ a : Nat, a < s.heap.size → ¬ (fun q : Nat => n0 ≤ q) a → U.heap[a]? = s.heap[a]? := fun a _ ha => hq a (Nat.lt_of_not_le ha)
  exact fun o v e => ⟨(va_O.moved hW.alike (h o v e).1).kept hq', (va_OF.moved hW.alike (h o v e).2).kept hq'⟩
theorem ordWs_good : ∀ w ∈ ordWs, goodWord w = true := by
  intro w hw
  exact List.all_eq_true.mp (show ordWs.all goodWord = true by decide +kernel) w hw
set_option maxHeartbeats 4000000 in
theorem zextO_ok {l : Launch} {T : zTb} {Ts Ns : List Jvm.Cond} {sa : Nat → Nat} {n0 : Nat} {zst : State → Prop} {X : zEx} {ol : Nat → Nat → Bool} {ov : Nat → Option Int32} {E : String} (hX : zText T = zextO X ol ov) (h1 : ∀ s, zst s → zOldOK X T sa (fun q : Nat => n0 ≤ q) s) (h3 : ∀ s, zst s → zOldV E ov sa (fun q : Nat => n0 ≤ q) s)
    (h2 : ∀ s a, zst s → (∀ w ∈ Ts ++ Ns, w.before a s = true) → zOldL X T s a) (h4 : ∀ s a, zst s → (∀ w ∈ Ts ++ Ns, w.before a s = true) → ∀ k ix C, ol k ix = true → zTcn T k = some C → ∀ w ∈ qoWs E C ix, w.before a s = true) : zExtOK l T Ts Ns sa n0 zst := by
  intro p e R s m sargs below meth c H locs cells slots Q cc pc len k nL C ls ad st cs st' i hx hb hml hsize hC hown hts hz hn0 hS hRf hRl hRc hRs hdg hlen ht hF kk
  rw [hX] at ht
  unfold zextO at ht
  split at ht
  · next ix =>
    have e0 : len = 3 := hlen
    subst e0
    split at ht
    · next o r =>
      split at ht
      · next v hv =>
        split at ht
        · next hc =>
          cases ht
          obtain ⟨c1, c2, c3⟩ := hc
          have hw := h4 s sargs hz hts k ix C c1 hC
          obtain ⟨hO, hF9⟩ := h3 s hz o v hv
          obtain ⟨cw, cr, rfl, hw9, hF2⟩ := zF_c hF
          obtain ⟨b, rfl, hbq⟩ := id hw9
          rw [hbq c2]
          obtain ⟨cellB, g1, g2, g3, -⟩ := hO.kept hS.2.1
          have hcat : (cr.map fun v => v.category).sum ≤ 16 := by rw [hF2.cat]; exact c3
          have hordw : ∀ w ∈ ordWs, w.before sargs s = true := fun w h => hw w (by unfold qoWs; exact List.mem_append_right _ h)
          have w1 : (Jvm.Cond.methodLink C ix ⟨E, "ordinal", "()I"⟩).before sargs s = true := hw _ (by simp [qoWs])
          have w2 : (Jvm.Cond.sameMethod E "java/lang/Enum" "ordinal" "()I").before sargs s = true := hw _ (by simp [qoWs])
          have w3 : (Jvm.Cond.selects E ⟨E, "ordinal", "()I"⟩ ordN).before sargs s = true := hw _ (by simp [qoWs])
          have w4 : (Jvm.Cond.instanceMethod ordN).before sargs s = true := hw _ (by simp [qoWs])
          have w5 : (Jvm.Cond.initialized "java/lang/Enum").before sargs s = true := hw _ (by simp [qoWs])
          have w6 : (Jvm.Cond.code ordN ordB 1 (some .int)).before sargs s = true := hordw _ (by simp [ordWs])
          refine zcallU (As := []) (rest := cr) hx hb hown (zordMet l n0 (sa o) v (fun _ => False)) w1 w2 (va_Decl.of w4 w6) ⟨by decide, by decide⟩ w4 w3 g1 g2 g3 hml hsize hdg (show (parseMethodDescriptor "()I").map (fun d => d.parameters.length) = some 0 by decide +kernel) hcat ⟨ordB, some .int, Or.inl w6⟩
            (fun w hw' a' U hU => word_at hU (good_of_word (ordWs_good w hw')) (hordw w hw')) w5 (by show 1 + 1 ≤ R.frames; omega) (by show 16 + (1 + 11) + 20 ≤ R.locals; omega) rfl rfl ?_ ?_
            (fun U hU hW => ⟨rfl, ?_⟩) (fun v' st t L e1 e2 e3 e4 e5 => ?_) (fun z st t L e1 e2 e3 e4 e5 => ?_)
          · exact hRc
          · exact hRs
          · rw [hU]
            exact (va_OF.moved hW.alike hF9).kept hS.2.1
          · obtain ⟨f1, f2⟩ := e4
            cases f1
            have eL : L = [] := by
              cases L with
              | nil => rfl
              | cons q L => exact (e5 q List.mem_cons_self).elim
            subst eL
            rw [f2, e1, List.append_nil]
            exact kk _ ⟨rfl, hF2⟩
          · cases e4.1
        · cases ht
      · cases ht
    · cases ht
  · exact zext_ok (X := X) (T := (T.1, T.2.1, T.2.2.1, T.2.2.2.1, T.2.2.2.2.1, T.2.2.2.2.2.1, T.2.2.2.2.2.2.1, T.2.2.2.2.2.2.2.1, T.2.2.2.2.2.2.2.2.1, T.2.2.2.2.2.2.2.2.2.1, zext X)) rfl h1 h2 hx hb hml hsize hC hown hts hz hn0 hS hRf hRl hRc hRs hdg hlen ht hF kk
