/-! Strings of the library: printed by a program of mine (wip/whole/emit.py), with wip/whole/strings_head.txt, strings_tail.txt -/
/-- the bytes of a String's array, by its number; a String's bytes -/
def qsb (o : Nat) : Option (List Nat) := if 100 ≤ o ∧ o % 2 = 1 then (qStr[(o - 100) / 2]?).map (fun e => e.2.2) else none
def qso (o : Nat) : Prop := 100 ≤ o ∧ o % 2 = 0 ∧ (o - 100) / 2 < qStr.length
def qstr (o : Nat) : List Nat := ((qStr[(o - 100) / 2]?).map (fun e => e.2.2)).getD []
theorem qi_ofNat (n : Nat) : Int32.ofNat n = Int32.ofInt (n : Int) := by
  rw [← Int32.toBitVec_inj]
  simp
section QST
variable {w : qE} {d pc : Nat} {M : zM} {l : zL} {st r : List Value} {s : qS} {Q : zO → qS → Prop}
theorem qXa_b {o : Nat} {b : List Nat} (h : qsb o = some b) (L : Nat) (X : Nat → Int32) : 0 < o ∧ qXa L X o = some (.byte, b.length, fun j => .int (Int32.ofNat (b.getD j 0))) := by
  unfold qsb at h
  split at h
  · next hc =>
    obtain ⟨e, he, rfl⟩ := Option.map_eq_some_iff.mp h
    refine ⟨by omega, ?_⟩
    unfold qXa
    rw [if_pos hc.1, if_pos hc.2, he]
    rfl
  · cases h
theorem qS_bl {o : Nat} {b : List Nat} (h : qsb o = some b) {k : Nat} : zText w.T k .arraylength (.retAddr o :: st) = some (qI (b.length : Int) :: st) := by
  obtain ⟨h0, h1⟩ := qXa_b h w.1 w.2.1
  show zext (qX w.1 w.2.1 w.2.2.1) k .arraylength (.retAddr o :: st) = _
  unfold zext
  have h2 : zExA (qX w.1 w.2.1 w.2.2.1) o = some (.byte, b.length, fun j => .int (Int32.ofNat (b.getD j 0))) := h1
  simp only [h2, h0, if_true, qi_ofNat]
theorem qS_ba {o : Nat} {b : List Nat} {i : Int} (h : qsb o = some b) (h0 : 0 ≤ i) (h1 : i < (b.length : Int)) {k : Nat} : zText w.T k .baload (qI i :: .retAddr o :: st) = some (qI ((b.getD i.toNat 0 : Nat) : Int) :: st) := by
  have hb : b.length ≤ 100 := by
    unfold qsb at h
    split at h
    · obtain ⟨e, he, rfl⟩ := Option.map_eq_some_iff.mp h
      have hm := List.mem_of_getElem? he
      have : ∀ e ∈ qStr, e.2.2.length ≤ 100 := by decide +kernel
      exact this e hm
    · cases h
  obtain ⟨p0, p1⟩ := qXa_b h w.1 w.2.1
  have h2 : zExA (qX w.1 w.2.1 w.2.2.1) o = some (.byte, b.length, fun j => .int (Int32.ofNat (b.getD j 0))) := p1
  obtain ⟨q1, q2⟩ := qi_in h0 h1 (by omega)
  have hr : Rg i := ⟨by omega, by omega⟩
  have hz : ¬ (Int32.ofInt i < 0) := by
    intro c
    have := (qi_lt hr (b := 0) ⟨by omega, by omega⟩).mp c
    omega
  show zext (qX w.1 w.2.1 w.2.2.1) k .baload (qI i :: .retAddr o :: st) = _
  unfold zext
  dsimp only [qI]
  rw [if_pos p0]
  unfold zaget
  dsimp only
  rw [h2]
  dsimp only
  rw [if_pos ⟨rfl, hz, by rw [q2]; omega, rfl, rfl⟩, q2, qi_ofNat]
theorem qS_fmt (h : zgood w.2.2.1 = true) : zText w.T 14 (.getstatic 1053) st = some (w.2.2.1 :: st) := by
  show (if zgood w.2.2.1 = true then some (w.2.2.1 :: st) else none) = _
  rw [if_pos h]
theorem qS_nreturnb {x : Int32} (hd : decode M.2.2.1 pc = .ok (.ireturn, 1)) (ht : M.2.2.2.2.1 = some .byte) (hn : narrow .byte (.int x) = .int x) (k : Q (.inl (some (.int x))) s) : qR w d M pc l [.int x] s Q := qS_rt (v := some (.int x)) hd rfl rfl (fun _ => rfl) (fun _ => rfl) (fun _ => rfl) rfl (fun _ => rfl) rfl (fun _ => rfl) (by
  rw [ht]
  show (if narrow .byte (.int x) = .int x then some (some (Value.int x)) else none) = _
  rw [if_pos hn]) k
theorem qS_nreturnc {x : Int32} (hd : decode M.2.2.1 pc = .ok (.ireturn, 1)) (ht : M.2.2.2.2.1 = some .char) (hn : narrow .char (.int x) = .int x) (k : Q (.inl (some (.int x))) s) : qR w d M pc l [.int x] s Q := qS_rt (v := some (.int x)) hd rfl rfl (fun _ => rfl) (fun _ => rfl) (fun _ => rfl) rfl (fun _ => rfl) rfl (fun _ => rfl) (by
  rw [ht]
  show (if narrow .char (.int x) = .int x then some (some (Value.int x)) else none) = _
  rw [if_pos hn]) k
theorem qso_at {o : Nat} (h : qso o) : ∃ e, qStr[(o - 100) / 2]? = some e ∧ qstr o = e.2.2 := by
  obtain ⟨h1, h2, h3⟩ := h
  refine ⟨qStr[(o - 100) / 2], List.getElem?_eq_getElem h3, ?_⟩
  unfold qstr
  rw [List.getElem?_eq_getElem h3]
  rfl
theorem qso_0 {o : Nat} (h : qso o) : qXo o 0 = some (qI 0) := by
  obtain ⟨e, he, -⟩ := qso_at h
  unfold qXo
  rw [if_pos h.1, if_pos h.2.1, he]
  rfl
theorem qso_1 {o : Nat} (h : qso o) : qXo o 1 = some (.retAddr (o + 1)) := by
  obtain ⟨e, he, -⟩ := qso_at h
  unfold qXo
  rw [if_pos h.1, if_pos h.2.1, he]
  rfl
theorem qso_b {o : Nat} (h : qso o) : qsb (o + 1) = some (qstr o) := by
  obtain ⟨e, he, h2⟩ := qso_at h
  unfold qsb
  have h1 := h.1
  have h3 := h.2.1
  rw [if_pos ⟨by omega, by omega⟩, show (o + 1 - 100) / 2 = (o - 100) / 2 by omega, he, h2]
  rfl
theorem qso_k {o : Nat} (h : qso o) : qsk o = some 14 := by
  unfold qsk
  rw [if_pos (show 100 ≤ o ∧ o % 2 = 0 ∧ (o - 100) / 2 < qStr.length from h)]
  rfl
end QST
theorem qml_14_335 (w : qE) : zTml w.T 14 335 = some (207, 1, 0) := by show qfind qml 14 335 = _; decide +kernel
theorem qml_14_492 (w : qE) : zTml w.T 14 492 = some (209, 1, 0) := by show qfind qml 14 492 = _; decide +kernel
theorem qml_14_495 (w : qE) : zTml w.T 14 495 = some (210, 0, 2) := by show qfind qml 14 495 = _; decide +kernel
theorem qml_14_1059 (w : qE) : zTml w.T 14 1059 = some (212, 0, 3) := by show qfind qml 14 1059 = _; decide +kernel
theorem qml_15_9 (w : qE) : zTml w.T 15 9 = some (211, 0, 2) := by show qfind qml 15 9 = _; decide +kernel
theorem qtm_207 {w : qE} : zTms w.T 207 = some qm207 := rfl
theorem qtm_209 {w : qE} : zTms w.T 209 = some qm209 := rfl
theorem qtm_210 {w : qE} : zTms w.T 210 = some qm210 := rfl
theorem qtm_211 {w : qE} : zTms w.T 211 = some qm211 := rfl
theorem qtm_212 {w : qE} : zTms w.T 212 = some qm212 := rfl
theorem qd_206_0 : decode qm206.2.2.1 0 = .ok (.aload_n 0, 1) := by decide +kernel
theorem qd_206_1 : decode qm206.2.2.1 1 = .ok (.getfield 9, 3) := by decide +kernel
theorem qd_206_4 : decode qm206.2.2.1 4 = .ok (.arraylength, 1) := by decide +kernel
theorem qd_206_5 : decode qm206.2.2.1 5 = .ok (.aload_n 0, 1) := by decide +kernel
theorem qd_206_6 : decode qm206.2.2.1 6 = .ok (.invokevirtual 335, 3) := by decide +kernel
theorem qd_206_9 : decode qm206.2.2.1 9 = .ok (.ishr, 1) := by decide +kernel
theorem qd_206_10 : decode qm206.2.2.1 10 = .ok (.ireturn, 1) := by decide +kernel
theorem qd_207_0 : decode qm207.2.2.1 0 = .ok (.getstatic 38, 3) := by decide +kernel
theorem qd_207_3 : decode qm207.2.2.1 3 = .ok (.ifCond .eq 10, 3) := by decide +kernel
theorem qd_207_6 : decode qm207.2.2.1 6 = .ok (.aload_n 0, 1) := by decide +kernel
theorem qd_207_7 : decode qm207.2.2.1 7 = .ok (.getfield 15, 3) := by decide +kernel
theorem qd_207_10 : decode qm207.2.2.1 10 = .ok (.goto 4, 3) := by decide +kernel
theorem qd_207_14 : decode qm207.2.2.1 14 = .ok (.ireturn, 1) := by decide +kernel
theorem qd_208_0 : decode qm208.2.2.1 0 = .ok (.aload_n 0, 1) := by decide +kernel
theorem qd_208_1 : decode qm208.2.2.1 1 = .ok (.invokevirtual 492, 3) := by decide +kernel
theorem qd_208_4 : decode qm208.2.2.1 4 = .ok (.ifCond .eq 12, 3) := by decide +kernel
theorem qd_208_7 : decode qm208.2.2.1 7 = .ok (.aload_n 0, 1) := by decide +kernel
theorem qd_208_8 : decode qm208.2.2.1 8 = .ok (.getfield 9, 3) := by decide +kernel
theorem qd_208_11 : decode qm208.2.2.1 11 = .ok (.iload_n 1, 1) := by decide +kernel
theorem qd_208_12 : decode qm208.2.2.1 12 = .ok (.invokestatic 495, 3) := by decide +kernel
theorem qd_208_15 : decode qm208.2.2.1 15 = .ok (.ireturn, 1) := by decide +kernel
theorem qd_208_16 : decode qm208.2.2.1 16 = .ok (.aload_n 0, 1) := by decide +kernel
theorem qd_208_17 : decode qm208.2.2.1 17 = .ok (.getfield 9, 3) := by decide +kernel
theorem qd_208_20 : decode qm208.2.2.1 20 = .ok (.iload_n 1, 1) := by decide +kernel
theorem qd_208_21 : decode qm208.2.2.1 21 = .ok (.invokestatic 498, 3) := by decide +kernel
theorem qd_209_0 : decode qm209.2.2.1 0 = .ok (.getstatic 38, 3) := by decide +kernel
theorem qd_209_3 : decode qm209.2.2.1 3 = .ok (.ifCond .eq 14, 3) := by decide +kernel
theorem qd_209_6 : decode qm209.2.2.1 6 = .ok (.aload_n 0, 1) := by decide +kernel
theorem qd_209_7 : decode qm209.2.2.1 7 = .ok (.getfield 15, 3) := by decide +kernel
theorem qd_209_10 : decode qm209.2.2.1 10 = .ok (.ifCond .ne 7, 3) := by decide +kernel
theorem qd_209_13 : decode qm209.2.2.1 13 = .ok (.iconst 1, 1) := by decide +kernel
theorem qd_209_14 : decode qm209.2.2.1 14 = .ok (.goto 4, 3) := by decide +kernel
theorem qd_209_17 : decode qm209.2.2.1 17 = .ok (.iconst 0, 1) := by decide +kernel
theorem qd_209_18 : decode qm209.2.2.1 18 = .ok (.ireturn, 1) := by decide +kernel
theorem qd_210_0 : decode qm210.2.2.1 0 = .ok (.iload_n 1, 1) := by decide +kernel
theorem qd_210_1 : decode qm210.2.2.1 1 = .ok (.aload_n 0, 1) := by decide +kernel
theorem qd_210_2 : decode qm210.2.2.1 2 = .ok (.arraylength, 1) := by decide +kernel
theorem qd_210_3 : decode qm210.2.2.1 3 = .ok (.invokestatic 9, 3) := by decide +kernel
theorem qd_210_6 : decode qm210.2.2.1 6 = .ok (.aload_n 0, 1) := by decide +kernel
theorem qd_210_7 : decode qm210.2.2.1 7 = .ok (.iload_n 1, 1) := by decide +kernel
theorem qd_210_8 : decode qm210.2.2.1 8 = .ok (.baload, 1) := by decide +kernel
theorem qd_210_9 : decode qm210.2.2.1 9 = .ok (.sipush 255, 3) := by decide +kernel
theorem qd_210_12 : decode qm210.2.2.1 12 = .ok (.iand, 1) := by decide +kernel
theorem qd_210_13 : decode qm210.2.2.1 13 = .ok (.i2c, 1) := by decide +kernel
theorem qd_210_14 : decode qm210.2.2.1 14 = .ok (.ireturn, 1) := by decide +kernel
theorem qd_211_0 : decode qm211.2.2.1 0 = .ok (.iload_n 0, 1) := by decide +kernel
theorem qd_211_1 : decode qm211.2.2.1 1 = .ok (.iload_n 1, 1) := by decide +kernel
theorem qd_211_2 : decode qm211.2.2.1 2 = .ok (.getstatic 1053, 3) := by decide +kernel
theorem qd_211_5 : decode qm211.2.2.1 5 = .ok (.invokestatic 1059, 3) := by decide +kernel
theorem qd_211_8 : decode qm211.2.2.1 8 = .ok (.pop, 1) := by decide +kernel
theorem qd_211_9 : decode qm211.2.2.1 9 = .ok (.return_, 1) := by decide +kernel
theorem qd_212_0 : decode qm212.2.2.1 0 = .ok (.iload_n 0, 1) := by decide +kernel
theorem qd_212_1 : decode qm212.2.2.1 1 = .ok (.ifCond .lt 8, 3) := by decide +kernel
theorem qd_212_4 : decode qm212.2.2.1 4 = .ok (.iload_n 0, 1) := by decide +kernel
theorem qd_212_5 : decode qm212.2.2.1 5 = .ok (.iload_n 1, 1) := by decide +kernel
theorem qd_212_6 : decode qm212.2.2.1 6 = .ok (.if_icmp .lt 10, 3) := by decide +kernel
theorem qd_212_9 : decode qm212.2.2.1 9 = .ok (.aload_n 2, 1) := by decide +kernel
theorem qd_212_10 : decode qm212.2.2.1 10 = .ok (.iload_n 0, 1) := by decide +kernel
theorem qd_212_11 : decode qm212.2.2.1 11 = .ok (.iload_n 1, 1) := by decide +kernel
theorem qd_212_12 : decode qm212.2.2.1 12 = .ok (.invokestatic 95, 3) := by decide +kernel
theorem qd_212_16 : decode qm212.2.2.1 16 = .ok (.iload_n 0, 1) := by decide +kernel
theorem qd_212_17 : decode qm212.2.2.1 17 = .ok (.ireturn, 1) := by decide +kernel
set_option maxRecDepth 100000 in
theorem k206 {w : qE} {s : qS} {o : Nat} {f : Int → qS → Prop} {g : Nat → qS → Prop}  (H : (∃ z1 : Nat, qXo o 1 = some (.retAddr z1) ∧ 0 < o ∧ (∃ z2 : List Nat, qsb z1 = some z2 ∧ (qsk o = some 14 ∧ qW w 1 207 [.retAddr o] s (qPI (fun r3 s3 => f (qshr ((z2.length : Int)) r3) s3) g))))) : qW w 2 206 [.retAddr o] s (qPI f g) := by
  refine qW.of (M := qm206) (l := [(0, .retAddr o)]) qtm_206 rfl (Nat.le_of_ble_eq_true rfl) (zsub_c rfl zsub_n) ?_
  refine qS_oload_n qd_206_0 rfl ?_
  obtain ⟨z1, hxz1, h0z1, H⟩ := H
  refine qS_exget (v := .retAddr z1) qd_206_1 (fun _ _ => qxf_14_9 _ _ _) hxz1 h0z1 rfl ?_
  obtain ⟨z2, hxz2, H⟩ := H
  refine qS_ex (st' := [qI ((z2.length : Int))]) qd_206_4 rfl rfl (fun _ => rfl) (fun _ => rfl) (fun _ => rfl) rfl (fun _ => rfl) rfl (fun _ => rfl) rfl (qS_bl hxz2) ?_
  refine qS_oload_n qd_206_5 rfl ?_
  obtain ⟨hk3, H⟩ := H
  refine qS_coI qd_206_6 (qml_14_335 w) rfl qtm_207 hk3 (Nat.le_of_ble_eq_true rfl) rfl (Nat.le_of_ble_eq_true rfl) H (fun r3 s3 H => ?_) (fun x s1 H => Or.inr ⟨x, rfl, H⟩)
  refine qS_ishr (a := (z2.length : Int)) (b := r3) qd_206_9 ?_
  exact qS_ireturn qd_206_10 rfl (Or.inl ⟨_, rfl, H⟩)
set_option maxRecDepth 100000 in
theorem k207 {w : qE} {s : qS} {o : Nat} {f : Int → qS → Prop} {g : Nat → qS → Prop}  (H : (∃ z1 : Int, qXo o 0 = some (qI z1) ∧ 0 < o ∧ qR w 0 qm207 14 [] [qI z1] s (qPI f g))) : qW w 1 207 [.retAddr o] s (qPI f g) := by
  refine qW.of (M := qm207) (l := [(0, .retAddr o)]) qtm_207 rfl (Nat.le_of_ble_eq_true rfl) (zsub_c rfl zsub_n) ?_
  refine qS_ex (st' := [qI 1]) qd_207_0 rfl rfl (fun _ => rfl) (fun _ => rfl) (fun _ => rfl) rfl (fun _ => rfl) rfl (fun _ => rfl) rfl rfl ?_
  refine qS_if0 qd_207_3 rfl ?_
  show qR w _ _ 6 _ _ _ _
  refine qS_oload_n qd_207_6 rfl ?_
  obtain ⟨z1, hxz1, h0z1, H⟩ := H
  refine qS_exget (v := qI z1) qd_207_7 (fun _ _ => qxf_14_15 _ _ _) hxz1 h0z1 rfl ?_
  refine qS_goto qd_207_10 rfl ?_
  exact qS_sub zsub_n H
set_option maxRecDepth 100000 in
theorem k207_14 {w : qE} {s : qS} {k0 : Int} {f : Int → qS → Prop} {g : Nat → qS → Prop}  (H : ((narrow .byte (qI k0) = qI k0) ∧ f k0 s)) : qR w 0 qm207 14 [] [qI k0] s (qPI f g) := by
  exact qS_nreturnb qd_207_14 rfl H.1 (Or.inl ⟨_, rfl, H.2⟩)
set_option maxRecDepth 100000 in
theorem k208 {w : qE} {s : qS} {o : Nat} {p0 : Int} {f : Int → qS → Prop} {g : Nat → qS → Prop}  (H : (qsk o = some 14 ∧ qW w 1 209 [.retAddr o] s (qPI (fun r1 s1 => Rg r1 ∧ (r1 = 0 → (∃ z2 : Nat, qXo o 1 = some (.retAddr z2) ∧ 0 < o ∧ False)) ∧ (r1 ≠ 0 → (∃ z3 : Nat, qXo o 1 = some (.retAddr z3) ∧ 0 < o ∧ qW w 3 210 [.retAddr z3, qI p0] s1 (qPI (fun r4 s4 => ((narrow .char (qI r4) = qI r4) ∧ f r4 s4)) g)))) g))) : qW w 4 208 [.retAddr o, qI p0] s (qPI f g) := by
  refine qW.of (M := qm208) (l := [(0, .retAddr o), (1, qI p0)]) qtm_208 rfl (Nat.le_of_ble_eq_true rfl) (zsub_c rfl (zsub_c rfl zsub_n)) ?_
  refine qS_oload_n qd_208_0 rfl ?_
  obtain ⟨hk1, H⟩ := H
  refine qS_coI qd_208_1 (qml_14_492 w) rfl qtm_209 hk1 (Nat.le_of_ble_eq_true rfl) rfl (Nat.le_of_ble_eq_true rfl) H (fun r1 s1 H => ?_) (fun x s1 H => Or.inr ⟨x, rfl, H⟩)
  obtain ⟨h4a, H1, H2⟩ := H
  refine qS_if0 qd_208_4 rfl (zcnd_eq (a := r1) (b := 0) h4a ⟨by decide, by decide⟩ (fun t => qR w _ _ t _ _ _ _) (fun hc => ?_) (fun hc => ?_))
  · have H := H1 hc; clear H1 H2 hc
    refine qS_oload_n qd_208_16 rfl ?_
    obtain ⟨z2, hxz2, h0z2, H⟩ := H
    refine qS_exget (v := .retAddr z2) qd_208_17 (fun _ _ => qxf_14_9 _ _ _) hxz2 h0z2 rfl ?_
    refine qS_iload_n qd_208_20 rfl ?_
    exact H.elim
  · have H := H2 hc; clear H1 H2 hc
    refine qS_oload_n qd_208_7 rfl ?_
    obtain ⟨z3, hxz3, h0z3, H⟩ := H
    refine qS_exget (v := .retAddr z3) qd_208_8 (fun _ _ => qxf_14_9 _ _ _) hxz3 h0z3 rfl ?_
    refine qS_iload_n qd_208_11 rfl ?_
    refine qS_csI qd_208_12 (qml_14_495 w) rfl (Nat.le_of_ble_eq_true rfl) rfl (Nat.le_of_ble_eq_true rfl) H (fun r4 s4 H => ?_) (fun x s1 H => Or.inr ⟨x, rfl, H⟩)
    exact qS_nreturnc qd_208_15 rfl H.1 (Or.inl ⟨_, rfl, H.2⟩)
set_option maxRecDepth 100000 in
theorem k209 {w : qE} {s : qS} {o : Nat} {f : Int → qS → Prop} {g : Nat → qS → Prop}  (H : (∃ z1 : Int, qXo o 0 = some (qI z1) ∧ 0 < o ∧ Rg z1 ∧ (z1 = 0 → qR w 0 qm209 18 [] [qI 1] s (qPI f g)) ∧ (z1 ≠ 0 → qR w 0 qm209 17 [] [] s (qPI f g)))) : qW w 1 209 [.retAddr o] s (qPI f g) := by
  refine qW.of (M := qm209) (l := [(0, .retAddr o)]) qtm_209 rfl (Nat.le_of_ble_eq_true rfl) (zsub_c rfl zsub_n) ?_
  refine qS_ex (st' := [qI 1]) qd_209_0 rfl rfl (fun _ => rfl) (fun _ => rfl) (fun _ => rfl) rfl (fun _ => rfl) rfl (fun _ => rfl) rfl rfl ?_
  refine qS_if0 qd_209_3 rfl ?_
  show qR w _ _ 6 _ _ _ _
  refine qS_oload_n qd_209_6 rfl ?_
  obtain ⟨z1, hxz1, h0z1, H⟩ := H
  refine qS_exget (v := qI z1) qd_209_7 (fun _ _ => qxf_14_15 _ _ _) hxz1 h0z1 rfl ?_
  obtain ⟨h10a, H1, H2⟩ := H
  refine qS_if0 qd_209_10 rfl (zcnd_ne (a := z1) (b := 0) h10a ⟨by decide, by decide⟩ (fun t => qR w _ _ t _ _ _ _) (fun hc => ?_) (fun hc => ?_))
  · have H := H1 hc; clear H1 H2 hc
    refine qS_iconst qd_209_13 ?_
    refine qS_goto qd_209_14 rfl ?_
    exact qS_sub zsub_n H
  · have H := H2 hc; clear H1 H2 hc
    exact qS_sub zsub_n H
set_option maxRecDepth 100000 in
theorem k209_17 {w : qE} {s : qS}  {f : Int → qS → Prop} {g : Nat → qS → Prop}  (H : qR w 0 qm209 18 [] [qI 0] s (qPI f g)) : qR w 0 qm209 17 [] [] s (qPI f g) := by
  refine qS_iconst qd_209_17 ?_
  exact qS_sub zsub_n H
set_option maxRecDepth 100000 in
theorem k209_18 {w : qE} {s : qS} {k0 : Int} {f : Int → qS → Prop} {g : Nat → qS → Prop}  (H : ((k0 = 0 ∨ k0 = 1) ∧ f k0 s)) : qR w 0 qm209 18 [] [qI k0] s (qPI f g) := by
  exact qS_zreturn qd_209_18 rfl H.1 (Or.inl ⟨_, rfl, H.2⟩)
set_option maxRecDepth 100000 in
theorem k210 {w : qE} {s : qS} {o : Nat} {p0 : Int} {f : Int → qS → Prop} {g : Nat → qS → Prop}  (H : (∃ z1 : List Nat, qsb o = some z1 ∧ qW w 2 211 [qI p0, qI ((z1.length : Int))] s (qPV (fun s2 => (∃ z3 : List Nat, qsb o = some z3 ∧ 0 ≤ p0 ∧ p0 < (z3.length : Int) ∧ (((narrow .char (qI ((((Int32.ofInt (qand (((z3.getD (p0).toNat 0 : Nat) : Int)) 255)).toUInt32 % 65536).toInt32).toInt)) = qI ((((Int32.ofInt (qand (((z3.getD (p0).toNat 0 : Nat) : Int)) 255)).toUInt32 % 65536).toInt32).toInt)) ∧ f ((((Int32.ofInt (qand (((z3.getD (p0).toNat 0 : Nat) : Int)) 255)).toUInt32 % 65536).toInt32).toInt) s2)))) g))) : qW w 3 210 [.retAddr o, qI p0] s (qPI f g) := by
  refine qW.of (M := qm210) (l := [(0, .retAddr o), (1, qI p0)]) qtm_210 rfl (Nat.le_of_ble_eq_true rfl) (zsub_c rfl (zsub_c rfl zsub_n)) ?_
  refine qS_iload_n qd_210_0 rfl ?_
  refine qS_oload_n qd_210_1 rfl ?_
  obtain ⟨z1, hxz1, H⟩ := H
  refine qS_ex (st' := [qI ((z1.length : Int)), qI p0]) qd_210_2 rfl rfl (fun _ => rfl) (fun _ => rfl) (fun _ => rfl) rfl (fun _ => rfl) rfl (fun _ => rfl) rfl (qS_bl hxz1) ?_
  refine qS_csV qd_210_3 (qml_15_9 w) rfl (Nat.le_of_ble_eq_true rfl) rfl (Nat.le_of_ble_eq_true rfl) H (fun s2 H => ?_) (fun x s1 H => Or.inr ⟨x, rfl, H⟩)
  refine qS_oload_n qd_210_6 rfl ?_
  refine qS_iload_n qd_210_7 rfl ?_
  obtain ⟨z3, hxz3, hl, hu, H⟩ := H
  refine qS_ex (st' := [qI (((z3.getD (p0).toNat 0 : Nat) : Int))]) qd_210_8 rfl rfl (fun _ => rfl) (fun _ => rfl) (fun _ => rfl) rfl (fun _ => rfl) rfl (fun _ => rfl) rfl (qS_ba hxz3 hl hu) ?_
  refine qS_sipush qd_210_9 (by decide) ?_
  refine qS_iand (a := ((z3.getD (p0).toNat 0 : Nat) : Int)) (b := 255) qd_210_12 ?_
  refine qS_p1 (u := qI ((((Int32.ofInt (qand (((z3.getD (p0).toNat 0 : Nat) : Int)) 255)).toUInt32 % 65536).toInt32).toInt)) qd_210_13 rfl rfl (fun _ => by simp only [qI, qi_of]; rfl) ?_
  exact qS_nreturnc qd_210_14 rfl H.1 (Or.inl ⟨_, rfl, H.2⟩)
set_option maxRecDepth 100000 in
theorem k211 {w : qE} {s : qS} {p0 : Int} {p1 : Int} {f : qS → Prop} {g : Nat → qS → Prop} (hf : zgood w.2.2.1 = true) (H : qW w 1 212 [qI p0, qI p1, w.2.2.1] s (qPI (fun r1 s1 => f s1) g)) : qW w 2 211 [qI p0, qI p1] s (qPV f g) := by
  refine qW.of (M := qm211) (l := [(0, qI p0), (1, qI p1)]) qtm_211 rfl (Nat.le_of_ble_eq_true rfl) (zsub_c rfl (zsub_c rfl zsub_n)) ?_
  refine qS_iload_n qd_211_0 rfl ?_
  refine qS_iload_n qd_211_1 rfl ?_
  refine qS_ex (st' := [w.2.2.1, qI p1, qI p0]) qd_211_2 rfl rfl (fun _ => rfl) (fun _ => rfl) (fun _ => rfl) rfl (fun _ => rfl) rfl (fun _ => rfl) rfl (qS_fmt hf) ?_
  refine qS_csI qd_211_5 (qml_14_1059 w) rfl (Nat.le_of_ble_eq_true rfl) rfl (Nat.le_of_ble_eq_true rfl) H (fun r1 s1 H => ?_) (fun x s1 H => Or.inr ⟨x, rfl, H⟩)
  refine qS_pop qd_211_8 rfl ?_
  exact qS_vreturn qd_211_9 rfl (Or.inl ⟨rfl, H⟩)
set_option maxRecDepth 100000 in
theorem k212 {w : qE} {s : qS} {p0 : Int} {p1 : Int} {f : Int → qS → Prop} {g : Nat → qS → Prop} (hv : (w.2.2.1).category = 1) (H : Rg p0 ∧ (p0 < 0 → qR w 0 qm212 9 [(0, qI p0), (1, qI p1), (2, w.2.2.1)] [] s (qPI f g)) ∧ (0 ≤ p0 → Rg p1 ∧ (p0 < p1 → f p0 s) ∧ (p1 ≤ p0 → qR w 0 qm212 9 [(0, qI p0), (1, qI p1), (2, w.2.2.1)] [] s (qPI f g)))) : qW w 1 212 [qI p0, qI p1, w.2.2.1] s (qPI f g) := by
  refine qW.of (M := qm212) (l := [(0, qI p0), (1, qI p1), (2, w.2.2.1)]) qtm_212 rfl (by show 1 + (1 + ((w.2.2.1).category + 0)) ≤ 3; rw [hv]; decide) (zsub_c rfl (zsub_c rfl (zsub_c rfl zsub_n))) ?_
  refine qS_iload_n qd_212_0 rfl ?_
  obtain ⟨h1a, H1, H2⟩ := H
  refine qS_if0 qd_212_1 rfl (zcnd_lt (a := p0) (b := 0) h1a ⟨by decide, by decide⟩ (fun t => qR w _ _ t _ _ _ _) (fun hc => ?_) (fun hc => ?_))
  · have H := H1 hc; clear H1 H2 hc
    exact qS_sub (zsub_c rfl (zsub_c rfl (zsub_c rfl zsub_n))) H
  · have H := H2 hc; clear H1 H2 hc
    refine qS_iload_n qd_212_4 rfl ?_
    refine qS_iload_n qd_212_5 rfl ?_
    obtain ⟨h6b, H1, H2⟩ := H
    refine qS_icmp qd_212_6 rfl (zcnd_lt (a := p0) (b := p1) h1a h6b (fun t => qR w _ _ t _ _ _ _) (fun hc => ?_) (fun hc => ?_))
    · have H := H1 hc; clear H1 H2 hc
      refine qS_iload_n qd_212_16 rfl ?_
      exact qS_ireturn qd_212_17 rfl (Or.inl ⟨_, rfl, H⟩)
    · have H := H2 hc; clear H1 H2 hc
      exact qS_sub (zsub_c rfl (zsub_c rfl (zsub_c rfl zsub_n))) H
set_option maxRecDepth 100000 in
theorem k212_9 {w : qE} {s : qS} {v0 : Int} {v1 : Int} {f : Int → qS → Prop} {g : Nat → qS → Prop} (hv : (w.2.2.1).category = 1) (H : False) : qR w 0 qm212 9 [(0, qI v0), (1, qI v1), (2, w.2.2.1)] [] s (qPI f g) := by
  exact H.elim
/-! the contracts of String.length and String.charAt -/
section QSC
variable {w : qE} {s : qS} {f : Int → qS → Prop} {g : Nat → qS → Prop}
theorem c207 {o : Nat} (h : qso o) (H : f 0 s) : qW w 1 207 [.retAddr o] s (qPI f g) :=
  k207 ⟨0, qso_0 h, by have := h.1; omega, k207_14 ⟨rfl, H⟩⟩
theorem c209 {o : Nat} (h : qso o) (H : f 1 s) : qW w 1 209 [.retAddr o] s (qPI f g) :=
  k209 ⟨0, qso_0 h, by have := h.1; omega, ⟨by decide, by decide⟩, fun _ => k209_18 ⟨Or.inr rfl, H⟩, fun h => absurd rfl h⟩
theorem c206 {o : Nat} (h : qso o) (H : f ((qstr o).length : Int) s) : qW w 2 206 [.retAddr o] s (qPI f g) := by
  refine k206 ⟨o + 1, qso_1 h, by have := h.1; omega, qstr o, qso_b h, qso_k h, c207 h ?_⟩
  have e : qshr ((qstr o).length : Int) 0 = ((qstr o).length : Int) := by
    have hb : ∀ e ∈ qStr, qshr (e.2.2.length : Int) 0 = (e.2.2.length : Int) := by decide +kernel
    obtain ⟨e, he, h2⟩ := qso_at h
    rw [h2]
    exact hb e (List.mem_of_getElem? he)
  rw [e]
  exact H
/-- the formatter that the launch has is no wide value and no reference to a cell -/
def qfv (w : qE) : Prop := w.2.2.1 = .null ∨ w.2.2.1 = .retAddr 4
theorem qfv_c (h : qfv w) : (w.2.2.1).category = 1 := by rcases h with h | h <;> (rw [h]; rfl)
theorem qfv_g (h : qfv w) : zgood w.2.2.1 = true := by rcases h with h | h <;> (rw [h]; rfl)
theorem c211 {i n : Int} (hw : qfv w) {f : qS → Prop} (hn : Rg n) (h0 : 0 ≤ i) (h1 : i < n) (H : f s) : qW w 2 211 [qI i, qI n] s (qPV f g) := by
  have hr : Rg i := ⟨by omega, by have := hn.2; omega⟩
  refine k211 (qfv_g hw) ?_
  exact k212 (qfv_c hw) ⟨hr, fun h => absurd h (by omega), fun _ => ⟨hn, fun _ => H, fun h => absurd h (by omega)⟩⟩
theorem c208 {o : Nat} {i : Int} (hw : qfv w) (h : qso o) (h0 : 0 ≤ i) (h1 : i < ((qstr o).length : Int)) (H : f (((qstr o).getD i.toNat 0 : Nat) : Int) s) : qW w 4 208 [.retAddr o, qI i] s (qPI f g) := by
  have hb : ∀ e ∈ qStr, e.2.2.length ≤ 100 ∧ ∀ b ∈ e.2.2, (((Int32.ofInt (qand (b : Int) 255)).toUInt32 % 65536).toInt32).toInt = (b : Int) ∧ narrow .char (qI (b : Int)) = qI (b : Int) := by decide +kernel
  obtain ⟨e, he, h2⟩ := qso_at h
  obtain ⟨q1, q2⟩ := hb e (List.mem_of_getElem? he)
  have hm : (qstr o).getD i.toNat 0 ∈ e.2.2 := by
    rw [h2] at h1 ⊢
    rw [List.getD_eq_getElem?_getD, List.getElem?_eq_getElem (by omega)]
    exact List.getElem_mem _
  obtain ⟨q3, q4⟩ := q2 _ hm
  refine k208 ⟨qso_k h, c209 h ⟨⟨by decide, by decide⟩, fun h => absurd h (by decide), fun _ => ⟨o + 1, qso_1 h, by have := h.1; omega, ?_⟩⟩⟩
  refine k210 ⟨qstr o, qso_b h, c211 hw ⟨by omega, by rw [h2]; omega⟩ h0 h1 ⟨qstr o, qso_b h, h0, h1, ?_⟩⟩
  rw [q3]
  exact ⟨q4, q4, H⟩
end QSC
