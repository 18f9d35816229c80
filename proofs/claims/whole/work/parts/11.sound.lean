/-! what the abstract run is worth over the machine -/
/-- what is left to others: instructions on objects that were there before -/
def zExtOK (l : Launch) (T : zTb) (Ts Ns : List Jvm.Cond) (sa : Nat → Nat) (n0 : Nat) (zst : State → Prop) : Prop :=
  ∀ {p : Program} {e : Env} {R : Room} {s : State} {m : MethodId} {sargs : Array Value} {below : List Frame} {meth : Method} {c : Code} {H : Heap} {locs : List Loc} {cells slots : Nat} {Q : State → Prop} {cc : ByteArray} {pc len k nL : Nat} {C : String} {ls : Array Slot} {ad : List Nat} {st cs st' : List Value} {i : Instr},
    p.tables.exec = Jvm.exec → c.code = cc → c.maxLocals = nL → ls.size = nL → zTcn T k = some C → s.vm.findClass C = some m.cls → (∀ w ∈ Ts ++ Ns, w.before sargs s = true) → zst s → n0 ≤ s.heap.size → va_S (fun q : Nat => n0 ≤ q) s.heap H locs → 20 ≤ R.frames → 400 ≤ R.locals → cells ≤ R.cells → slots ≤ R.slots →
    decode cc pc = .ok (i, len) → len = zlen i → zText T k i st = some st' → zF sa ad st cs →
    (∀ cs', zF sa ad st' cs' → W p l e R s m sargs below meth c H locs cells slots Q (F0 m (pc + len) ls cs')) → W p l e R s m sargs below meth c H locs cells slots Q (F0 m pc ls cs)
/-- a new exception -/
def zThrOK (l : Launch) (T : zTb) (Ts Ns : List Jvm.Cond) (xn : Nat → String) (n0 : Nat) (zst : State → Prop) : Prop :=
  ∀ {p : Program} {e : Env} {R : Room} {s : State} {m : MethodId} {sargs : Array Value} {below : List Frame} {meth : Method} {c : Code} {H : Heap} {locs : List Loc} {cells slots : Nat} {Q : State → Prop} {cc : ByteArray} {pc k nL xi : Nat} {C : String} {ls : Array Slot} {cs : List Value} {i : Instr},
    p.tables.exec = Jvm.exec → c.code = cc → c.maxLocals = nL → ls.size = nL → zTcn T k = some C → s.vm.findClass C = some m.cls → (∀ w ∈ Ts ++ Ns, w.before sargs s = true) → zst s → n0 ≤ s.heap.size → va_S (fun q : Nat => n0 ≤ q) s.heap H locs → 20 ≤ R.frames → 400 ≤ R.locals → cells + 1 ≤ R.cells → slots + 6 ≤ R.slots → (cs.map fun v => v.category).sum ≤ 16 →
    ∀ {hs : List (Nat × Nat × Nat × Nat)} {st : List Value}, decode cc pc = .ok (i, 3) → zth T k cc hs pc i st = some xi →
    (∀ (b : Nat) (H1 : Heap) (locs1 : List Loc), (∀ q : Nat, q < H.size → H1[q]? = H[q]?) → va_S (fun q : Nat => n0 ≤ q) s.heap H1 locs1 → (∀ t : State, t.heap = H1 → s.WarmedH t.vm → zExc xn xi b t) → zWT p l e R s m sargs below meth c H1 locs1 (cells + 1) (slots + 6) Q b (F0 m (pc + 7) ls cs)) →
    W p l e R s m sargs below meth c H locs cells slots Q (F0 m pc ls cs)
/-- a handler -/
def zHanOK (l : Launch) (T : zTb) (Ts Ns : List Jvm.Cond) (zcw : zM → Jvm.Cond) (xn : Nat → String) (zst : State → Prop) : Prop :=
  ∀ {p : Program} {e : Env} {R : Room} {s : State} {m : MethodId} {sargs : Array Value} {below : List Frame} {meth : Method} {c : Code} {H : Heap} {locs : List Loc} {cells slots : Nat} {Q : State → Prop} {M : zM} {mi pc x b : Nat} {ls : Array Slot} {rest : List Value},
    zTms T mi = some M → M.2.2.2.2.2.2 ≠ [] → (zcw M).before sargs s = true → s.methodNamed? M.2.1 = some m → s.vm.method? m = some meth → meth.code = some c → (∀ w ∈ Ts ++ Ns, w.before sargs s = true) → zst s → (∀ t : State, t.heap = H → s.WarmedH t.vm → zExc xn x b t) →
    (∀ hp, zhand M.2.2.2.2.2.2 pc x = some hp → W p l e R s m sargs below meth c H locs cells slots Q (F0 m hp ls [.ref b]) → zWT p l e R s m sargs below meth c H locs cells slots Q b (F0 m pc ls rest)) ∧
    (zcov M.2.2.2.2.2.2 pc = false → ∀ q ∈ c.exceptionTable.toList, covers q pc = false)
section ZS
variable {p : Program} {l : Launch} {e : Env} {R : Room} {s : State} {m : MethodId} {sargs : Array Value} {below : List Frame} {meth : Method} {c : Code}
variable {D : va_G} {tys : List (ClassId × FieldType)} {sa : Nat → Nat} {xn : Nat → String} {n0 : Nat} {zst : State → Prop} {T : zTb} {Ts Ns : List Jvm.Cond} {zcw : zM → Jvm.Cond} {M : zM} {C : String} {d mc ms mi0 : Nat} {CC : Nat → List Value → zH → zRs → Prop}
set_option maxHeartbeats 4000000 in
theorem zbody (hx : p.tables.exec = Jvm.exec) (hb : c.code = M.2.2.1) (hml : c.maxLocals = M.2.2.2.1) (hr : meth.sig.returnType = M.2.2.2.2.1) (hlocks : meth.locks = false) (hin : M.2.2.2.2.2.1 = true → meth.name = "<init>") (hC : zTcn T M.1 = some C) (hown : s.vm.findClass C = some m.cls)
    (hM0 : M.2.2.2.2.2.2 ≠ [] → zTms T mi0 = some M ∧ s.methodNamed? M.2.1 = some m ∧ (zcw M).before sargs s = true ∧ s.vm.method? m = some meth ∧ meth.code = some c) (hnh : M.2.2.2.2.2.2 = [] → ∀ q ∈ c.exceptionTable.toList, ∀ pc, covers q pc = false)
    (hT : zTabs T Ts Ns zcw) (hty : zTys tys) (hstay : zStay n0 zst) (hext : zExtOK l T Ts Ns sa n0 zst) (hthr : zThrOK l T Ts Ns xn n0 zst) (hhan : zHanOK l T Ts Ns zcw xn zst) (hsk : zSkOK T sa n0 zst)
    (hts : ∀ w ∈ Ts ++ Ns, w.before sargs s = true) (hz : zst s) (hn0 : n0 ≤ s.heap.size) (hK : va_K D (zTcl T) tys s) (hRf : d + 31 ≤ R.frames) (hRf2 : 20 ≤ R.frames) (hRl : d * 100 + 700 ≤ R.locals) (hRl2 : 400 ≤ R.locals) (hRc : mc ≤ R.cells) (hRs : ms ≤ R.slots)
    (hCC : ∀ mi as h r, CC mi as h r → zCon l T Ts zcw D tys sa xn n0 zst d mi as h r) (ad0 : List Nat) :
    ∀ (n : Nat) (g : zG) (r : zRs), zRun T CC M n g r → ∀ (locs : List Loc) (cells slots : Nat) (H : Heap) (x : List Nat) (ws : va_W) (k : zL) (ls : Array Slot) (cs : List Value), zRel sa tys (ad0 ++ x) g.2.2.2 ws → va_P D (zTcl T) ws H → va_D (fun q : Nat => n0 ≤ q) ws → va_S (fun q : Nat => n0 ≤ q) s.heap H locs →
      zLR sa (ad0 ++ x) g.2.1 k → lv_has ls M.2.2.2.1 k → zF sa (ad0 ++ x) g.2.2.1 cs → cells + r.2.2.1 = mc → slots + r.2.2.2 = ms →
      W p l e R s m sargs below meth c H locs cells slots (zMQ below (zQ D (zTcl T) tys sa xn n0 zst ad0 r.1 r.2.1) sargs s mc ms (fun q : Nat => n0 ≤ q)) (F0 m g.1 ls cs) := by
  obtain ⟨tCls, tK, tArr, tMs, tMl, tGood⟩ := hT
  obtain ⟨tFl, tNl, tKl⟩ := tK _ _ hC
  have htsT : ∀ w ∈ Ts, w.before sargs s = true := fun w hw => hts w (List.mem_append_left _ hw)
  have tClsA : zCls (zTcl T) (zTty T) (Ts ++ Ns) := fun ci q hq => ⟨fun w hw => List.mem_append_left _ ((tCls ci q hq).1 w hw), (tCls ci q hq).2⟩
  have hA : ∀ q : Nat, s.heap.size ≤ q → (fun q : Nat => n0 ≤ q) q := fun q h => Nat.le_trans hn0 h
  have hstat : ∀ {H : Heap} {locs : List Loc}, va_S (fun q : Nat => n0 ≤ q) s.heap H locs → ∀ q : Nat, q < n0 → H[q]? = s.heap[q]? := fun hS q hq => hS.2.1 q (Nat.lt_of_lt_of_le hq hn0) (Nat.not_le.mpr hq)
  have hws : ∀ {M' : zM}, zcw M' ∈ Ts → ∀ w ∈ zcw M' :: Ts, ∀ (a' : Array Value) (U : State), s.WarmedH U.vm → w.before a' U = true := by
    intro M' h1 w hw a' U hU
    have h2 : w ∈ Ts := by
      rcases List.mem_cons.mp hw with rfl | h
      · exact h1
      · exact h
    exact word_at hU (good_of_word (tGood w h2)) (htsT w h2)
  -- a world at an end
  have hend : ∀ {H : Heap} {locs : List Loc} {x : List Nat} {ws : va_W} {h : zH}, zRel sa tys (ad0 ++ x) h ws → va_P D (zTcl T) ws H → va_D (fun q : Nat => n0 ≤ q) ws → va_S (fun q : Nat => n0 ≤ q) s.heap H locs → ∀ t : State, t.heap = H → s.WarmedH t.vm → zWd D (zTcl T) tys sa n0 zst (ad0 ++ x) h t := by
    intro H locs x ws h h1 h2 h3 h4 t ht hW
    exact ⟨ws, h1, by rw [ht]; exact h2, h3, va_K.moved hW.alike hK, hstay s t hz hW (by rw [ht]; exact hstat h4), by rw [ht]; exact Nat.le_trans hn0 h4.1⟩
  have hfrm : ∀ {H : Heap} {locs : List Loc}, va_S (fun q : Nat => n0 ≤ q) s.heap H locs → ∀ t : State, t.heap = H → s.heap.size ≤ t.heap.size ∧ ∀ q : Nat, q < n0 → t.heap[q]? = s.heap[q]? := fun h4 t ht => ⟨by rw [ht]; exact h4.1, by rw [ht]; exact hstat h4⟩
  intro n
  induction n with
  | zero => intro g r hrun; exact absurd hrun (by simp [zRun])
  | succ n ih =>
    -- behind a call
    have haft : ∀ {H : Heap} {locs L : List Loc} {x xs : List Nat} {ws : va_W} {h h' : zH} {st t : State}, va_S (fun q : Nat => n0 ≤ q) s.heap H locs → st.heap = H → (st.heap.size ≤ t.heap.size ∧ ∀ q : Nat, q < n0 → t.heap[q]? = st.heap[q]?) → (∀ q ∈ L, n0 ≤ q.base) → va_S (fun q : Nat => n0 ≤ q) s.heap t.heap (locs ++ L) := by
      intro H locs L x xs ws h h' st t h1 h2 h3 h4
      subst h2
      refine ⟨Nat.le_trans h1.1 h3.1, fun q hq hA => ?_, fun q hq => ?_⟩
      · rw [h3.2 q (Nat.lt_of_not_le hA)]; exact h1.2.1 q hq hA
      · rcases List.mem_append.mp hq with z | z
        · exact h1.2.2 q z
        · exact h4 q z
    have hret : ∀ {a : Array Value} {r : zRs} {rc : zRs} {pc : Nat} {l' : zL} {rest : List Value} {locs : List Loc} {cells slots : Nat} {H : Heap} {x : List Nat} {k : zL} {ls : Array Slot} {cr : List Value}, va_S (fun q : Nat => n0 ≤ q) s.heap H locs → zLR sa (ad0 ++ x) l' k → lv_has ls M.2.2.2.1 k → zF sa (ad0 ++ x) rest cr → cells + r.2.2.1 = mc → slots + r.2.2.2 = ms →
        (match rc.1 with
          | .inl v => ∃ r', zRun T CC M n (pc + 3, l', v.toList ++ rest, rc.2.1) r' ∧ r = zadd rc.2.2.1 rc.2.2.2 r'
          | .inr x => match zhand M.2.2.2.2.2.2 pc x with
            | some hp => ∃ r', zRun T CC M n (hp, l', [.retAddr 0], rc.2.1) r' ∧ r = zadd rc.2.2.1 rc.2.2.2 r'
            | none => zcov M.2.2.2.2.2.2 pc = false ∧ r = rc) →
        (∀ (v : Option Value) (st t : State) (L : List Loc), st.heap = H → s.WarmedH st.vm → st.WarmedH t.vm → zQ D (zTcl T) tys sa xn n0 zst (ad0 ++ x) rc.1 rc.2.1 a st (.returned v) t → (∀ q ∈ L, n0 ≤ q.base) → W p l e R s m sargs below meth c t.heap (locs ++ L) (cells + rc.2.2.1) (slots + rc.2.2.2) (zMQ below (zQ D (zTcl T) tys sa xn n0 zst ad0 r.1 r.2.1) sargs s mc ms (fun q : Nat => n0 ≤ q)) (F0 m (pc + 3) ls (v.toList ++ cr))) ∧
        (∀ (b : Nat) (st t : State) (L : List Loc), st.heap = H → s.WarmedH st.vm → st.WarmedH t.vm → zQ D (zTcl T) tys sa xn n0 zst (ad0 ++ x) rc.1 rc.2.1 a st (.threw b) t → (∀ q ∈ L, n0 ≤ q.base) → zWT p l e R s m sargs below meth c t.heap (locs ++ L) (cells + rc.2.2.1) (slots + rc.2.2.2) (zMQ below (zQ D (zTcl T) tys sa xn n0 zst ad0 r.1 r.2.1) sargs s mc ms (fun q : Nat => n0 ≤ q)) b (F0 m pc ls cr)) := by
      intro a r rc pc l' rest locs cells slots H x k ls cr hS hL hl hF hmc hms hrun
      obtain ⟨ro, rh, rcc, rss⟩ := rc
      constructor
      · intro v st t L e1 hW1 hW2 hq hLq
        obtain ⟨⟨xs, ⟨ws', b1, b2, b3, b4, b5, b6⟩, hout⟩, hsz⟩ := hq
        have hS' := haft (L := L) (x := x) (xs := xs) (ws := ws') (h := rh) (h' := rh) hS e1 hsz hLq
        cases ro with
        | inr y => obtain ⟨b, hb1, -⟩ := hout; cases hb1
        | inl ov =>
          obtain ⟨r', h1, rfl⟩ := hrun
          have hv : zF sa (ad0 ++ (x ++ xs)) (ov.toList ++ rest) (v.toList ++ cr) := by
            rw [← List.append_assoc]
            cases ov with
            | none => cases hout; exact hF.mono xs
            | some w =>
              obtain ⟨cw, hcw1, hcw2⟩ := hout
              cases hcw1
              exact ⟨hcw2, hF.mono xs⟩
          exact ih _ _ h1 (locs ++ L) (cells + rcc) (slots + rss) t.heap (x ++ xs) ws' k ls _ (by rw [← List.append_assoc]; exact b1) b2 b3 hS' (by rw [← List.append_assoc]; exact hL.mono xs) hl hv (by simp only [zadd] at hmc; show cells + rcc + _ = mc; omega) (by simp only [zadd] at hms; show slots + rss + _ = ms; omega)
      · intro b st t L e1 hW1 hW2 hq hLq
        obtain ⟨⟨xs, ⟨ws', b1, b2, b3, b4, b5, b6⟩, hout⟩, hsz⟩ := hq
        have hS' := haft (L := L) (x := x) (xs := xs) (ws := ws') (h := rh) (h' := rh) hS e1 hsz hLq
        have hWt : s.WarmedH t.vm := State.WarmedH.trans hW1 hW2
        cases ro with
        | inl ov =>
          cases ov with
          | none => cases hout
          | some w => obtain ⟨cw, hcw1, -⟩ := hout; cases hcw1
        | inr y =>
          obtain ⟨b', hb1, hexc⟩ := hout
          cases hb1
          have hexc' : ∀ t' : State, t'.heap = t.heap → s.WarmedH t'.vm → zExc xn y b t' := by
            intro t' ht' hW'
            obtain ⟨cell, g1, g2, g3⟩ := hexc
            refine ⟨cell, by rw [ht']; exact g1, g2, ?_⟩
            rw [hW'.alike.findClass, ← hWt.alike.findClass]
            exact g3
          by_cases hhs : M.2.2.2.2.2.2 = []
          · dsimp only at hrun
            have hz0 : zhand M.2.2.2.2.2.2 pc y = none := by rw [hhs]; rfl
            rw [hz0] at hrun
            obtain ⟨-, rfl⟩ := hrun
            have h1c : cells + rcc = mc := hmc
            have h1s : slots + rss = ms := hms
            subst h1c
            subst h1s
            refine zWT.out rfl rfl rfl (fun q hq => hnh hhs q hq _) hlocks (fun t' ht hW => ?_) hS'.2.2
            refine ⟨⟨x ++ xs, ?_, b, rfl, hexc' t' ht hW⟩, hfrm hS' t' ht⟩
            exact hend (by rw [← List.append_assoc]; exact b1) b2 b3 hS' t' ht hW
          · have hh := fun {Q : State → Prop} => hhan (p := p) (e := e) (R := R) (below := below) (meth := meth) (c := c) (H := t.heap) (locs := locs ++ L) (cells := cells + rcc) (slots := slots + rss) (Q := Q) (pc := pc) (x := y) (b := b) (ls := ls) (rest := cr) (hM0 hhs).1 hhs (hM0 hhs).2.2.1 (hM0 hhs).2.1 (hM0 hhs).2.2.2.1 (hM0 hhs).2.2.2.2 hts hz hexc'
            dsimp only at hrun
            cases hz0 : zhand M.2.2.2.2.2.2 pc y with
            | none =>
              rw [hz0] at hrun
              obtain ⟨hcov, rfl⟩ := hrun
              have h1c : cells + rcc = mc := hmc
              have h1s : slots + rss = ms := hms
              subst h1c
              subst h1s
              refine zWT.out rfl rfl rfl ((hh (Q := fun _ => True)).2 hcov) hlocks (fun t' ht hW => ?_) hS'.2.2
              refine ⟨⟨x ++ xs, ?_, b, rfl, hexc' t' ht hW⟩, hfrm hS' t' ht⟩
              exact hend (by rw [← List.append_assoc]; exact b1) b2 b3 hS' t' ht hW
            | some hp =>
              rw [hz0] at hrun
              obtain ⟨r', h1, rfl⟩ := hrun
              refine hh.1 hp hz0 ?_
              exact ih _ _ h1 (locs ++ L) (cells + rcc) (slots + rss) t.heap (x ++ xs) ws' k ls _ (by rw [← List.append_assoc]; exact b1) b2 b3 hS' (by rw [← List.append_assoc]; exact hL.mono xs) hl ⟨⟨b, rfl, fun h => absurd h (Nat.lt_irrefl 0)⟩, True.intro⟩ (by simp only [zadd] at hmc; show cells + rcc + _ = mc; omega) (by simp only [zadd] at hms; show slots + rss + _ = ms; omega)
    intro g r hrun locs cells slots H x ws k ls cs hrel hP hD hS hL hl hF hmc hms
    rw [zRun] at hrun
    cases hstp : zstep T M g with
    | none => rw [hstp] at hrun; exact hrun.elim
    | some stp =>
      rw [hstp] at hrun
      unfold zstep at hstp
      split at hstp
      · cases hstp
      · next i len hd =>
        split at hstp
        · next pc' st' hbr =>
          cases hstp
          obtain ⟨r', h1, rfl⟩ := hrun
          exact zbr_ok hx hb hd hF hbr (fun cs' hF' => ih _ _ h1 locs cells slots H x ws k ls cs' hrel hP hD hS hL hl hF' (by simpa [zadd] using hmc) (by simpa [zadd] using hms))
        · split at hstp
          · next hlen =>
            split at hstp
            · next l' st' hp =>
              cases hstp
              obtain ⟨r', h1, rfl⟩ := hrun
              exact zpure_ok hx hb hd hlen hL hl hF hp (fun ls' k' cs' hL' hl' hF' => ih _ _ h1 locs cells slots H x ws k' ls' cs' hrel hP hD hS hL' hl' hF' (by simpa [zadd] using hmc) (by simpa [zadd] using hms))
            · split at hstp
              · next st' hp =>
                cases hstp
                obtain ⟨r', h1, rfl⟩ := hrun
                have kk : ∀ cs', zF sa (ad0 ++ x) st' cs' → W p l e R s m sargs below meth c H locs cells slots (zMQ below (zQ D (zTcl T) tys sa xn n0 zst ad0 (zadd 0 0 r').1 (zadd 0 0 r').2.1) sargs s mc ms (fun q : Nat => n0 ≤ q)) (F0 m (g.1 + len) ls cs') :=
                  fun cs' hF' => ih _ _ h1 locs cells slots H x ws k ls cs' hrel hP hD hS hL hl hF' (by simpa [zadd] using hmc) (by simpa [zadd] using hms)
                unfold zmem at hp
                split at hp
                · cases hlen; exact zgetf_ok hx hb hts hown hK tClsA tFl hd hrel hP hF hp kk
                · cases hlen; exact zaldI_ok hx hb hty hK hd hrel hP hF hp kk
                · cases hlen; exact zaldZ_ok hx hb hty hK hd hrel hP hF hp kk
                · cases hlen; exact zaldL_ok hx hb hty hK hd hrel hP hF hp kk
                · cases hlen; exact zaldD_ok hx hb hty hK hd hrel hP hF hp kk
                · cases hlen; exact zalen_ok hx hb hK hd hrel hP hF hp kk
                · cases hlen
                  unfold zkI at hp
                  split at hp
                  · next y hv => cases hp; exact lv_ldc hx hb hown (htsT _ (tKl _ _ hv)) hd (kk _ ⟨rfl, hF⟩)
                  · cases hp
                · cases hlen
                  unfold zkI at hp
                  split at hp
                  · next y hv => cases hp; exact lv_ldcw hx hb hown (htsT _ (tKl _ _ hv)) hd (kk _ ⟨rfl, hF⟩)
                  · cases hp
                · cases hlen
                  unfold zkL at hp
                  split at hp
                  · next y hv => cases hp; exact lv_ldc2 hx hb hown (htsT _ (tKl _ _ hv)) hd (kk _ ⟨rfl, hF⟩)
                  · next y hv => cases hp; exact lv_ldc2d hx hb hown (htsT _ (tKl _ _ hv)) hd (kk _ ⟨rfl, hF⟩)
                  · cases hp
                · cases hp
              · split at hstp
                · next h' st' hp =>
                  cases hstp
                  obtain ⟨r', h1, rfl⟩ := hrun
                  have kk : ∀ (ws' : va_W) (H1 : Heap) (locs1 : List Loc) (cs' : List Value), zRel sa tys (ad0 ++ x) h' ws' → va_P D (zTcl T) ws' H1 → va_D (fun q : Nat => n0 ≤ q) ws' → va_S (fun q : Nat => n0 ≤ q) s.heap H1 locs1 → zF sa (ad0 ++ x) st' cs' → W p l e R s m sargs below meth c H1 locs1 cells slots (zMQ below (zQ D (zTcl T) tys sa xn n0 zst ad0 (zadd 0 0 r').1 (zadd 0 0 r').2.1) sargs s mc ms (fun q : Nat => n0 ≤ q)) (F0 m (g.1 + len) ls cs') :=
                    fun ws' H1 locs1 cs' a1 a2 a3 a4 hF' => ih _ _ h1 locs1 cells slots H1 x ws' k ls cs' a1 a2 a3 a4 hL hl hF' (by simpa [zadd] using hmc) (by simpa [zadd] using hms)
                  unfold zwr at hp
                  split at hp
                  · cases hlen; exact zputf_ok hx hb hts hown hK tClsA tFl hin hd hrel hP hD hS hF hp kk
                  · cases hlen; exact zastI_ok hx hb hty hK hd hrel hP hD hS hF hp kk
                  · cases hlen; exact zastZ_ok hx hb hty hK hd hrel hP hD hS hF hp kk
                  · cases hlen; exact zastL_ok hx hb hty hK hd hrel hP hD hS hF hp kk
                  · cases hlen; exact zastD_ok hx hb hty hK hd hrel hP hD hS hF hp kk
                  · cases hp
                · split at hstp
                  · next xi hp =>
                    cases hstp
                    cases hrun
                    have hi : zlen i = 3 ∧ M.2.2.2.2.2.2 = [] ∧ zcat g.2.2.1 ≤ 16 := by
                      unfold zth at hp
                      split at hp
                      · split at hp
                        · split at hp
                          · split at hp
                            · next hq => exact ⟨rfl, List.isEmpty_iff.mp hq.2.1, hq.2.2⟩
                            · cases hp
                          · cases hp
                        · cases hp
                      · cases hp
                    have h1c : cells + 1 = mc := hmc
                    have h1s : slots + 6 = ms := hms
                    subst h1c
                    subst h1s
                    refine hthr hx hb hml hl.1 hC hown hts hz hn0 hS hRf2 hRl2 hRc hRs (by rw [hF.cat]; exact hi.2.2) (by rw [hd, hlen, hi.1]) hp (fun b H1 locs1 a1 a2 a3 => ?_)
                    refine zWT.out rfl rfl rfl (fun q hq => hnh hi.2.1 q hq _) hlocks (fun t ht hW => ?_) a2.2.2
                    exact ⟨⟨x, hend hrel (fun k q hk => (hP k q hk).kept (a1 q.1 (hP k q hk).lt)) hD a2 t ht hW, b, rfl, a3 t ht hW⟩, hfrm a2 t ht⟩
                  · split at hstp
                    · next h' st' dn hp =>
                      cases hstp
                      obtain ⟨r', h1, rfl⟩ := hrun
                      have kk : ∀ (y : List Nat) (ws' : va_W) (H1 : Heap) (cs' : List Value), zRel sa tys (ad0 ++ x ++ y) h' ws' → va_P D (zTcl T) ws' H1 → va_D (fun q : Nat => n0 ≤ q) ws' → va_S (fun q : Nat => n0 ≤ q) s.heap H1 locs → zF sa (ad0 ++ x ++ y) st' cs' → W p l e R s m sargs below meth c H1 locs (cells + 1) (slots + dn) (zMQ below (zQ D (zTcl T) tys sa xn n0 zst ad0 (zadd 1 dn r').1 (zadd 1 dn r').2.1) sargs s mc ms (fun q : Nat => n0 ≤ q)) (F0 m (g.1 + len) ls cs') :=
                        fun y ws' H1 cs' a1 a2 a3 a4 hF' => ih _ _ h1 locs (cells + 1) (slots + dn) H1 (x ++ y) ws' k ls cs' (by rw [← List.append_assoc]; exact a1) a2 a3 a4 (by rw [← List.append_assoc]; exact hL.mono y) hl (by rw [← List.append_assoc]; exact hF') (by simp only [zadd] at hmc; omega) (by simp only [zadd] at hms; omega)
                      have hc1 : cells + 1 ≤ R.cells := by simp only [zadd] at hmc; omega
                      have hc2 : slots + dn ≤ R.slots := by simp only [zadd] at hms; omega
                      unfold znw at hp
                      split at hp
                      · cases hlen; exact znew_ok hx hb htsT hown hK tCls tNl hA hd hrel hP hD hS hF hp hc1 hc2 kk
                      · next t =>
                        cases hlen
                        refine znewa_ok hx hb hty hK hA (htsT _ (tArr _ ?_)) hd hrel hP hD hS hF hp hc1 hc2 kk
                        unfold znewa at hp
                        split at hp
                        · split at hp
                          · cases hp
                          · split at hp
                            · exact Or.inl rfl
                            · exact Or.inr (Or.inl rfl)
                            · exact Or.inr (Or.inr (Or.inl rfl))
                            · exact Or.inr (Or.inr (Or.inr rfl))
                            · cases hp
                        · cases hp
                      · cases hp
                    · split at hstp
                      · next st' hp =>
                        cases hstp
                        obtain ⟨r', h1, rfl⟩ := hrun
                        unfold zoi at hp
                        split at hp
                        · split at hp
                          · next ix _ mi n hml3 =>
                            obtain ⟨w1, w2, w3⟩ := (tMl _ _ _ _ _ _ hC hml3).1 rfl
                            split at hp
                            · next b0 r0 hst0 =>
                              split at hp
                              · next hq =>
                                cases hp
                                cases hlen
                                rw [hst0] at hF
                                obtain ⟨cb, cr, rfl, hvb, hF1⟩ := zF_c hF
                                obtain ⟨b, hb1, rfl⟩ := hvb
                                refine W.objInit hx hb hown (htsT _ w1) (htsT _ w2) (htsT _ w3) (g := F0 m g.1 ls (.ref b :: cr)) rfl (by rw [hml]; exact hl.1) rfl hd (by omega) (by have := hF1.cat; show 2 * 0 + _ + 12 ≤ R.locals; omega) ?_
                                exact ih _ _ h1 locs cells slots H x ws k ls cr hrel hP hD hS hL hl hF1 (by simpa [zadd] using hmc) (by simpa [zadd] using hms)
                              · cases hp
                            · cases hp
                          · cases hp
                        · cases hp
                      · split at hstp
                        · next mi as rr hp =>
                          cases hstp
                          obtain ⟨rc, hcc, hm⟩ := hrun
                          have hle : rc.2.2.1 ≤ r.2.2.1 ∧ rc.2.2.2 ≤ r.2.2.2 := by
                            obtain ⟨ro, rh, rcc, rss⟩ := rc
                            cases ro with
                            | inl v => obtain ⟨r', -, rfl⟩ := hm; exact ⟨Nat.le_add_right _ _, Nat.le_add_right _ _⟩
                            | inr y =>
                              dsimp only at hm
                              cases hz0 : zhand M.2.2.2.2.2.2 g.1 y with
                              | none => rw [hz0] at hm; obtain ⟨-, rfl⟩ := hm; exact ⟨Nat.le_refl _, Nat.le_refl _⟩
                              | some hp2 => rw [hz0] at hm; obtain ⟨r', -, rfl⟩ := hm; exact ⟨Nat.le_add_right _ _, Nat.le_add_right _ _⟩
                          have hcR : cells + rc.2.2.1 ≤ R.cells := by omega
                          have hsR : slots + rc.2.2.2 ≤ R.slots := by omega
                          unfold zcl at hp
                          split at hp
                          · split at hp
                            · next mi0 n0' hml0 =>
                              split at hp
                              · next as0 r0 hza =>
                                split at hp
                                · next hq =>
                                  cases hp
                                  cases hlen
                                  obtain ⟨M', hM', w1, w2, w3, -, -⟩ := (tMl _ _ _ _ _ _ hC hml0).2 (by decide)
                                  obtain ⟨hC', hplain, hMH, hcwT, hiniT, hmaxL, hinit', hcw'⟩ := tMs _ _ hM'
                                  have hcode' : zCode M'.2.1 M'.2.2.2.1 s sargs := by
                                    rcases hcw' with ⟨q, -⟩ | ⟨hh, q, -⟩
                                    · exact ⟨_, _, Or.inl (q ▸ htsT _ hcwT)⟩
                                    · exact ⟨_, _, Or.inr ⟨hh, q ▸ htsT _ hcwT⟩⟩
                                  obtain ⟨he1, he2⟩ := zargs_eq hza
                                  rw [he1] at hF
                                  obtain ⟨c1, cr, rfl, hF1, hF2⟩ := zF.split hF
                                  obtain ⟨cas, rfl⟩ : ∃ cas, c1 = cas.reverse := ⟨c1.reverse, by simp⟩
                                  have hFas := hF1.rev
                                  rw [List.reverse_reverse, List.reverse_reverse] at hFas
                                  have hb2 := hret (a := cas.toArray) (ls := ls) hS hL hl hF2 hmc hms hm
                                  exact zcallS hx hb hown (hCC _ _ _ _ hcc M' hM' (ad0 ++ x) cas hFas) (Or.inl (htsT _ w1)) (htsT _ (w3 rfl)) hMH hml hl.1 hd (by rw [w2, hFas.len, he2]) (by rw [hF2.cat]; exact hq) hcode' (hws hcwT) (htsT _ hiniT) (zrm_fo hRf) (zrm_lo hmaxL hRl) rfl rfl hcR hsR (fun U hU hW => ⟨rfl, hend hrel hP hD hS U hU hW⟩) hb2.1 hb2.2
                                · cases hp
                              · cases hp
                            · cases hp
                          · split at hp
                            · next mi0 n0' hml0 =>
                              split at hp
                              · next as0 b0 r0 M0 hza hM0' =>
                                split at hp
                                · next ci fs hcell =>
                                  split at hp
                                  · next hq =>
                                    cases hp
                                    cases hlen
                                    obtain ⟨hq1, hq2⟩ := hq
                                    obtain ⟨M', hM', w1, w2, -, w4, -⟩ := (tMl _ _ _ _ _ _ hC hml0).2 (by decide)
                                    cases hM0'.symm.trans hM'
                                    obtain ⟨hC', hplain, hMH, hcwT, hiniT, hmaxL, hinit', hcw'⟩ := tMs _ _ hM0'
                                    have hcode' : zCode M0.2.1 M0.2.2.2.1 s sargs := by
                                      rcases hcw' with ⟨q, -⟩ | ⟨hh, q, -⟩
                                      · exact ⟨_, _, Or.inl (q ▸ htsT _ hcwT)⟩
                                      · exact ⟨_, _, Or.inr ⟨hh, q ▸ htsT _ hcwT⟩⟩
                                    obtain ⟨he1, he2⟩ := zargs_eq hza
                                    rw [he1] at hF
                                    obtain ⟨c1, cr0, rfl, hF1, hF2⟩ := zF.split hF
                                    obtain ⟨cb, cr, rfl, hvb, hF3⟩ := zF_c hF2
                                    obtain ⟨cas, rfl⟩ : ∃ cas, c1 = cas.reverse := ⟨c1.reverse, by simp⟩
                                    have hFas := hF1.rev
                                    rw [List.reverse_reverse, List.reverse_reverse] at hFas
                                    obtain ⟨a0, ee, ha0, hw0, hc0⟩ := hrel.2.2 _ _ hcell
                                    obtain ⟨bb, hbb, rfl⟩ := id hvb
                                    cases ha0.symm.trans hbb
                                    cases ee with
                                    | inl y => exact absurd hc0 (by simp [zC])
                                    | inr y =>
                                      obtain ⟨yi, ys⟩ := y
                                      cases (show yi = ci from hc0.1)
                                      subst hq1
                                      obtain ⟨qv, hqv1, -⟩ := hP _ _ hw0
                                      have hqv2 := (w4 rfl).1 qv hqv1
                                      obtain ⟨cellB, hcB, hoB, hclB⟩ := va_recv hK hP hqv1 hw0
                                      have hb2 := hret (a := (Value.ref a0 :: cas).toArray) (ls := ls) hS hL hl hF3 hmc hms hm
                                      exact zcallV hx hb hown (hCC _ _ _ _ hcc M0 hM0' (ad0 ++ x) (.ref a0 :: cas) ⟨hvb, hFas⟩) (Or.inl (htsT _ w1)) (htsT _ (w4 rfl).2.1) (htsT _ (w4 rfl).2.2) hMH hcB hoB (by rw [← hqv2]; exact hclB) hml hl.1 hd (by rw [w2, hFas.len, he2]) (by rw [hF3.cat]; exact hq2) hcode' (hws hcwT) (htsT _ hiniT) (zrm_fo hRf) (zrm_lo hmaxL hRl) rfl rfl hcR hsR (fun U hU hW => ⟨rfl, hend hrel hP hD hS U hU hW⟩) hb2.1 hb2.2
                                  · cases hp
                                · cases hp
                              · next as0 b0 r0 M0 hza hM0' =>
                                split at hp
                                · next ci hskc =>
                                  split at hp
                                  · next hq =>
                                    cases hp
                                    cases hlen
                                    obtain ⟨hq1, hq2⟩ := hq
                                    obtain ⟨M', hM', w1, w2, -, w4, -⟩ := (tMl _ _ _ _ _ _ hC hml0).2 (by decide)
                                    cases hM0'.symm.trans hM'
                                    obtain ⟨hC', hplain, hMH, hcwT, hiniT, hmaxL, hinit', hcw'⟩ := tMs _ _ hM0'
                                    have hcode' : zCode M0.2.1 M0.2.2.2.1 s sargs := by
                                      rcases hcw' with ⟨q, -⟩ | ⟨hh, q, -⟩
                                      · exact ⟨_, _, Or.inl (q ▸ htsT _ hcwT)⟩
                                      · exact ⟨_, _, Or.inr ⟨hh, q ▸ htsT _ hcwT⟩⟩
                                    obtain ⟨he1, he2⟩ := zargs_eq hza
                                    rw [he1] at hF
                                    obtain ⟨c1, cr0, rfl, hF1, hF2⟩ := zF.split hF
                                    obtain ⟨cb, cr, rfl, hvb, hF3⟩ := zF_c hF2
                                    obtain ⟨cas, rfl⟩ : ∃ cas, c1 = cas.reverse := ⟨c1.reverse, by simp⟩
                                    have hFas := hF1.rev
                                    rw [List.reverse_reverse, List.reverse_reverse] at hFas
                                    subst hq1
                                    obtain ⟨hkpos, cellB, hcB, hoB, hclB⟩ := hsk s hz b0 M0.1 _ hskc hC'
                                    obtain ⟨bb, rfl, hbb⟩ := id hvb
                                    have hbb := hbb hkpos
                                    subst hbb
                                    have hlow := hstat hS (sa b0)
                                    have hcB' : H[sa b0]? = some cellB := by rw [hlow hcB.1]; exact hcB.2
                                    have hb2 := hret (a := (Value.ref (sa b0) :: cas).toArray) (ls := ls) hS hL hl hF3 hmc hms hm
                                    exact zcallV hx hb hown (hCC _ _ _ _ hcc M0 hM0' (ad0 ++ x) (.ref (sa b0) :: cas) ⟨hvb, hFas⟩) (Or.inl (htsT _ w1)) (htsT _ (w4 rfl).2.1) (htsT _ (w4 rfl).2.2) hMH hcB' hoB hclB hml hl.1 hd (by rw [w2, hFas.len, he2]) (by rw [hF3.cat]; exact hq2) hcode' (hws hcwT) (htsT _ hiniT) (zrm_fo hRf) (zrm_lo hmaxL hRl) rfl rfl hcR hsR (fun U hU hW => ⟨rfl, hend hrel hP hD hS U hU hW⟩) hb2.1 hb2.2
                                  · cases hp
                                · cases hp
                              · cases hp
                            · cases hp
                          · split at hp
                            · next mi0 n0' hml0 =>
                              split at hp
                              · next as0 b0 r0 hza =>
                                split at hp
                                · next hq =>
                                  cases hp
                                  cases hlen
                                  obtain ⟨M', hM', w1, w2, -, -, w5⟩ := (tMl _ _ _ _ _ _ hC hml0).2 (by decide)
                                  obtain ⟨hC', hplain, hMH, hcwT, hiniT, hmaxL, hinit', hcw'⟩ := tMs _ _ hM'
                                  have hcode' : zCode M'.2.1 M'.2.2.2.1 s sargs := by
                                    rcases hcw' with ⟨q, -⟩ | ⟨hh, q, -⟩
                                    · exact ⟨_, _, Or.inl (q ▸ htsT _ hcwT)⟩
                                    · exact ⟨_, _, Or.inr ⟨hh, q ▸ htsT _ hcwT⟩⟩
                                  obtain ⟨he1, he2⟩ := zargs_eq hza
                                  obtain ⟨v1, v2, v3, v4⟩ := w5 rfl
                                  have hcode2 : (Jvm.Cond.code M'.2.1 M'.2.2.1 M'.2.2.2.1 none).before sargs s = true := by
                                    rcases hcw' with ⟨q, -⟩ | ⟨hh, q, q2⟩
                                    · rw [v3] at q; exact q ▸ htsT _ hcwT
                                    · exact absurd v4 q2
                                  rw [he1] at hF
                                  obtain ⟨c1, cr0, rfl, hF1, hF2⟩ := zF.split hF
                                  obtain ⟨cb, cr, rfl, hvb, hF3⟩ := zF_c hF2
                                  obtain ⟨cas, rfl⟩ : ∃ cas, c1 = cas.reverse := ⟨c1.reverse, by simp⟩
                                  have hFas := hF1.rev
                                  rw [List.reverse_reverse, List.reverse_reverse] at hFas
                                  obtain ⟨bb, hbb, rfl⟩ := id hvb
                                  have hb2 := hret (a := (Value.ref bb :: cas).toArray) (ls := ls) hS hL hl hF3 hmc hms hm
                                  exact zcallI hx hb hown (hCC _ _ _ _ hcc M' hM' (ad0 ++ x) (.ref bb :: cas) ⟨hvb, hFas⟩) (Or.inl (htsT _ w1)) v1 (htsT _ v2) hMH hml hl.1 hd (by rw [w2, hFas.len, he2]) (by rw [hF3.cat]; exact hq) hcode2 (hws hcwT) (htsT _ hiniT) (zrm_fo hRf) (zrm_lo hmaxL hRl) rfl rfl hcR hsR (fun U hU hW => ⟨rfl, hend hrel hP hD hS U hU hW⟩) hb2.1 hb2.2
                                · cases hp
                              · cases hp
                            · cases hp
                          · cases hp
                        · split at hstp
                          · next v hp =>
                            cases hstp
                            cases hrun
                            have h1c : cells = mc := hmc
                            have h1s : slots = ms := hms
                            subst h1c
                            subst h1s
                            unfold zrt at hp
                            split at hp
                            · split at hp
                              · next y q1 q2 =>
                                cases hp
                                cases hlen
                                rw [q2] at hF
                                obtain ⟨c0, rfl, hF0⟩ := zF_i hF
                                cases zF_n hF0
                                exact W.mono (fun t ht => zMQ.of ht) (W.iret hx hb (hr.trans q1) (fun t ht hW => ⟨⟨x, hend hrel hP hD hS t ht hW, _, rfl, rfl⟩, hfrm hS t ht⟩) hS.2.2 hd hlocks)
                              · next y q1 q2 =>
                                split at hp
                                · next hy =>
                                  cases hp
                                  cases hlen
                                  rw [q2] at hF
                                  obtain ⟨c0, rfl, hF0⟩ := zF_i hF
                                  cases zF_n hF0
                                  exact W.mono (fun t ht => zMQ.of ht) (W.zret hx hb (hr.trans q1) (by rcases hy with rfl | rfl <;> decide) (fun t ht hW => ⟨⟨x, hend hrel hP hD hS t ht hW, _, rfl, rfl⟩, hfrm hS t ht⟩) hS.2.2 hd hlocks)
                                · cases hp
                              · next y q1 q2 =>
                                split at hp
                                · next hy =>
                                  cases hp
                                  cases hlen
                                  rw [q2] at hF
                                  obtain ⟨c0, rfl, hF0⟩ := zF_i hF
                                  cases zF_n hF0
                                  exact W.mono (fun t ht => zMQ.of ht) (W.zret hx hb (hr.trans q1) hy (fun t ht hW => ⟨⟨x, hend hrel hP hD hS t ht hW, _, rfl, rfl⟩, hfrm hS t ht⟩) hS.2.2 hd hlocks)
                                · cases hp
                              · next y q1 q2 =>
                                split at hp
                                · next hy =>
                                  cases hp
                                  cases hlen
                                  rw [q2] at hF
                                  obtain ⟨c0, rfl, hF0⟩ := zF_i hF
                                  cases zF_n hF0
                                  exact W.mono (fun t ht => zMQ.of ht) (W.zret hx hb (hr.trans q1) hy (fun t ht hW => ⟨⟨x, hend hrel hP hD hS t ht hW, _, rfl, rfl⟩, hfrm hS t ht⟩) hS.2.2 hd hlocks)
                                · cases hp
                              · cases hp
                            · split at hp
                              · next y q1 q2 =>
                                cases hp
                                cases hlen
                                rw [q2] at hF
                                obtain ⟨c0, rfl, hF0⟩ := zF_l hF
                                cases zF_n hF0
                                exact W.mono (fun t ht => zMQ.of ht) (W.lret hx hb (hr.trans q1) (fun t ht hW => ⟨⟨x, hend hrel hP hD hS t ht hW, _, rfl, rfl⟩, hfrm hS t ht⟩) hS.2.2 hd hlocks)
                              · cases hp
                            · split at hp
                              · next y q1 q2 =>
                                cases hp
                                cases hlen
                                rw [q2] at hF
                                obtain ⟨c0, rfl, hF0⟩ := zF_d hF
                                cases zF_n hF0
                                exact W.mono (fun t ht => zMQ.of ht) (W.dret hx hb (hr.trans q1) (fun t ht hW => ⟨⟨x, hend hrel hP hD hS t ht hW, _, rfl, rfl⟩, hfrm hS t ht⟩) hS.2.2 hd hlocks)
                              · cases hp
                            · split at hp
                              · next q1 q2 =>
                                cases hp
                                cases hlen
                                rw [q2] at hF
                                cases zF_n hF
                                exact W.mono (fun t ht => zMQ.of ht) (W.vret hx hb (hr.trans q1) (fun t ht hW => ⟨⟨x, hend hrel hP hD hS t ht hW, rfl⟩, hfrm hS t ht⟩) hS.2.2 hd hlocks)
                              · cases hp
                            · split at hp
                              · next cn y q1 q2 =>
                                cases hp
                                cases hlen
                                rw [q2] at hF
                                obtain ⟨cv, c0, rfl, hv, hF0⟩ := zF_c hF
                                cases zF_n hF0
                                obtain ⟨bb, hbb, rfl⟩ := id hv
                                exact W.mono (fun t ht => zMQ.of ht) (W.aret hx hb (hr.trans q1) (Or.inl ⟨_, rfl⟩) (Or.inr ⟨_, rfl⟩) (fun t ht hW => ⟨⟨x, hend hrel hP hD hS t ht hW, _, rfl, hv⟩, hfrm hS t ht⟩) hS.2.2 hd hlocks)
                              · next cn y q1 q2 =>
                                cases hp
                                cases hlen
                                rw [q2] at hF
                                obtain ⟨cv, c0, rfl, hv, hF0⟩ := zF_c hF
                                cases zF_n hF0
                                obtain ⟨bb, rfl, hbb⟩ := id hv
                                exact W.mono (fun t ht => zMQ.of ht) (W.aret hx hb (hr.trans q1) (Or.inl ⟨_, rfl⟩) (Or.inr ⟨_, rfl⟩) (fun t ht hW => ⟨⟨x, hend hrel hP hD hS t ht hW, _, rfl, hv⟩, hfrm hS t ht⟩) hS.2.2 hd hlocks)
                              · cases hp
                            · cases hp
                          · split at hstp
                            · next st' hp =>
                              cases hstp
                              obtain ⟨r', h1, rfl⟩ := hrun
                              have hca : cells ≤ R.cells := by
                                have h9 : cells + r'.2.2.1 = mc := by simpa [zadd] using hmc
                                omega
                              have hcb : slots ≤ R.slots := by
                                have h9 : slots + r'.2.2.2 = ms := by simpa [zadd] using hms
                                omega
                              exact hext hx hb hml hl.1 hC hown hts hz hn0 hS hRf2 hRl2 hca hcb hd hlen hp hF (fun cs' hF' => ih _ _ h1 locs cells slots H x ws k ls cs' hrel hP hD hS hL hl hF' (by simpa [zadd] using hmc) (by simpa [zadd] using hms))
                            · cases hstp
          · cases hstp
end ZS
