/-! what the code does, in numbers: printed by a program of mine (wip/whole/gen_blocks.py, emit.py) -/
set_option maxRecDepth 100000 in
theorem k120 {w : qE} {s : qS} {p0 : Int} {p1 : Int} {f : Int → qS → Prop} {g : Nat → qS → Prop}  (H : qW w 1 95 [.ref 0] s (qPV (fun s1 => Rg p0 ∧ (p0 = 0 → f (s1 8 5) s1) ∧ (p0 = 1 → f (s1 8 6) s1) ∧ (p0 = 2 → f (s1 8 7) s1) ∧ (p0 = 3 → qW w 2 121 [.ref 9, qI p1, qI 0] s1 (qPI (fun r2 s2 => f r2 s2) g)) ∧ (p0 = 4 → qW w 2 121 [.ref 11, qI p1, qI 0] s1 (qPI (fun r3 s3 => f r3 s3) g)) ∧ ((p0 = 5 ∨ p0 = 6 ∨ p0 = 7 ∨ p0 = 8) → qW w 2 121 [.ref 13, qI p1, qI (p0 - 5)] s1 (qPI (fun r4 s4 => f r4 s4) g)) ∧ ((p0 = 9 ∨ p0 = 10) → qW w 2 121 [.ref 15, qI p1, qI (p0 - 9)] s1 (qPI (fun r5 s5 => f r5 s5) g)) ∧ (p0 ≠ 0 → p0 ≠ 1 → p0 ≠ 2 → p0 ≠ 3 → p0 ≠ 4 → p0 ≠ 5 → p0 ≠ 6 → p0 ≠ 7 → p0 ≠ 8 → p0 ≠ 9 → p0 ≠ 10 → f ((-1)) s1)) g)) : qW w 3 120 [.ref 0, qI p0, qI p1] s (qPI f g) := by
  refine qW.of (M := qm120) (l := [(0, .ref 0), (1, qI p0), (2, qI p1)]) qtm_120 rfl (Nat.le_of_ble_eq_true rfl) (zsub_c rfl (zsub_c rfl (zsub_c rfl zsub_n))) ?_
  refine qS_aload_n qd_120_0 rfl ?_
  refine qS_cvV qd_120_1 (qml_0_125 w) rfl qtm_95 (hpc_0 _ _) (Nat.le_of_ble_eq_true rfl) rfl (Nat.le_of_ble_eq_true rfl) H (fun s1 H => ?_) (fun x s1 H => Or.inr ⟨x, rfl, H⟩)
  refine qS_iload_n qd_120_4 rfl ?_
  obtain ⟨h5a, H1, H2, H3, H4, H5, H6, H7, Hd⟩ := H
  by_cases hc0 : p0 = 0
  · refine qS_tsw qd_120_5 (t := 64) h5a (by rw [hc0]; rfl) ?_
    have H := H1 hc0
    refine qS_aload_n qd_120_64 rfl ?_
    refine qS_getfield (v := .ref 8) qd_120_65 (qfl_0_37 w) (hpc_0 _ _) rfl ?_
    refine qS_getfield (v := qI (s1 8 5)) qd_120_68 (qfl_0_195 w) (hpc_8 _ _) rfl ?_
    exact qS_ireturn qd_120_71 rfl (Or.inl ⟨_, rfl, H⟩)
  by_cases hc1 : p0 = 1
  · refine qS_tsw qd_120_5 (t := 72) h5a (by rw [hc1]; rfl) ?_
    have H := H2 hc1
    refine qS_aload_n qd_120_72 rfl ?_
    refine qS_getfield (v := .ref 8) qd_120_73 (qfl_0_37 w) (hpc_0 _ _) rfl ?_
    refine qS_getfield (v := qI (s1 8 6)) qd_120_76 (qfl_0_198 w) (hpc_8 _ _) rfl ?_
    exact qS_ireturn qd_120_79 rfl (Or.inl ⟨_, rfl, H⟩)
  by_cases hc2 : p0 = 2
  · refine qS_tsw qd_120_5 (t := 80) h5a (by rw [hc2]; rfl) ?_
    have H := H3 hc2
    refine qS_aload_n qd_120_80 rfl ?_
    refine qS_getfield (v := .ref 8) qd_120_81 (qfl_0_37 w) (hpc_0 _ _) rfl ?_
    refine qS_getfield (v := qI (s1 8 7)) qd_120_84 (qfl_0_201 w) (hpc_8 _ _) rfl ?_
    exact qS_ireturn qd_120_87 rfl (Or.inl ⟨_, rfl, H⟩)
  by_cases hc3 : p0 = 3
  · refine qS_tsw qd_120_5 (t := 88) h5a (by rw [hc3]; rfl) ?_
    have H := H4 hc3
    refine qS_aload_n qd_120_88 rfl ?_
    refine qS_getfield (v := .ref 8) qd_120_89 (qfl_0_37 w) (hpc_0 _ _) rfl ?_
    refine qS_getfield (v := .ref 9) qd_120_92 (qfl_0_204 w) (hpc_8 _ _) rfl ?_
    refine qS_iload_n qd_120_95 rfl ?_
    refine qS_iconst qd_120_96 ?_
    refine qS_csI qd_120_97 (qml_0_207 w) rfl (Nat.le_of_ble_eq_true rfl) rfl (Nat.le_of_ble_eq_true rfl) H (fun r2 s2 H => ?_) (fun x s1 H => Or.inr ⟨x, rfl, H⟩)
    exact qS_ireturn qd_120_100 rfl (Or.inl ⟨_, rfl, H⟩)
  by_cases hc4 : p0 = 4
  · refine qS_tsw qd_120_5 (t := 101) h5a (by rw [hc4]; rfl) ?_
    have H := H5 hc4
    refine qS_aload_n qd_120_101 rfl ?_
    refine qS_getfield (v := .ref 8) qd_120_102 (qfl_0_37 w) (hpc_0 _ _) rfl ?_
    refine qS_getfield (v := .ref 11) qd_120_105 (qfl_0_211 w) (hpc_8 _ _) rfl ?_
    refine qS_iload_n qd_120_108 rfl ?_
    refine qS_iconst qd_120_109 ?_
    refine qS_csI qd_120_110 (qml_0_207 w) rfl (Nat.le_of_ble_eq_true rfl) rfl (Nat.le_of_ble_eq_true rfl) H (fun r3 s3 H => ?_) (fun x s1 H => Or.inr ⟨x, rfl, H⟩)
    exact qS_ireturn qd_120_113 rfl (Or.inl ⟨_, rfl, H⟩)
  by_cases hc5 : p0 = 5 ∨ p0 = 6 ∨ p0 = 7 ∨ p0 = 8
  · refine qS_tsw qd_120_5 (t := 114) h5a (by rcases hc5 with hq | hq | hq | hq <;> (rw [hq]; rfl)) ?_
    have H := H6 hc5
    refine qS_aload_n qd_120_114 rfl ?_
    refine qS_getfield (v := .ref 8) qd_120_115 (qfl_0_37 w) (hpc_0 _ _) rfl ?_
    refine qS_getfield (v := .ref 13) qd_120_118 (qfl_0_214 w) (hpc_8 _ _) rfl ?_
    refine qS_iload_n qd_120_121 rfl ?_
    refine qS_iload_n qd_120_122 rfl ?_
    refine qS_iconst qd_120_123 ?_
    refine qS_isub (a := p0) (b := 5) qd_120_124 ?_
    refine qS_csI qd_120_125 (qml_0_207 w) rfl (Nat.le_of_ble_eq_true rfl) rfl (Nat.le_of_ble_eq_true rfl) H (fun r4 s4 H => ?_) (fun x s1 H => Or.inr ⟨x, rfl, H⟩)
    exact qS_ireturn qd_120_128 rfl (Or.inl ⟨_, rfl, H⟩)
  by_cases hc6 : p0 = 9 ∨ p0 = 10
  · refine qS_tsw qd_120_5 (t := 129) h5a (by rcases hc6 with hq | hq <;> (rw [hq]; rfl)) ?_
    have H := H7 hc6
    refine qS_aload_n qd_120_129 rfl ?_
    refine qS_getfield (v := .ref 8) qd_120_130 (qfl_0_37 w) (hpc_0 _ _) rfl ?_
    refine qS_getfield (v := .ref 15) qd_120_133 (qfl_0_105 w) (hpc_8 _ _) rfl ?_
    refine qS_iload_n qd_120_136 rfl ?_
    refine qS_iload_n qd_120_137 rfl ?_
    refine qS_bipush qd_120_138 (by decide) ?_
    refine qS_isub (a := p0) (b := 9) qd_120_140 ?_
    refine qS_csI qd_120_141 (qml_0_207 w) rfl (Nat.le_of_ble_eq_true rfl) rfl (Nat.le_of_ble_eq_true rfl) H (fun r5 s5 H => ?_) (fun x s1 H => Or.inr ⟨x, rfl, H⟩)
    exact qS_ireturn qd_120_144 rfl (Or.inl ⟨_, rfl, H⟩)
  refine qS_tsw qd_120_5 (t := 145) h5a (by unfold ztsw; rw [if_pos (by omega)]; rfl) ?_
  have H := Hd (by omega) (by omega) (by omega) (by omega) (by omega) (by omega) (by omega) (by omega) (by omega) (by omega) (by omega)
  refine qS_iconst qd_120_145 ?_
  exact qS_ireturn qd_120_146 rfl (Or.inl ⟨_, rfl, H⟩)
set_option maxRecDepth 100000 in
theorem k121 {w : qE} {s : qS} {t : Nat} {p1 : Int} {p2 : Int} {f : Int → qS → Prop} {g : Nat → qS → Prop} (ht : 0 < qwid t) (H : Rg p1 ∧ (p1 = (-1) → qW w 1 34 [.ref t] s (qPI (fun r1 s1 => qR w 1 qm121 18 [] [qI r1] s1 (qPI f g)) g)) ∧ (p1 ≠ (-1) → qW w 1 36 [.ref t, qI p1, qI p2] s (qPI (fun r2 s2 => qR w 1 qm121 18 [] [qI r2] s2 (qPI f g)) g))) : qW w 2 121 [.ref t, qI p1, qI p2] s (qPI f g) := by
  refine qW.of (M := qm121) (l := [(0, .ref t), (1, qI p1), (2, qI p2)]) qtm_121 rfl (Nat.le_of_ble_eq_true rfl) (zsub_c rfl (zsub_c rfl (zsub_c rfl zsub_n))) ?_
  refine qS_iload_n qd_121_0 rfl ?_
  refine qS_iconst qd_121_1 ?_
  obtain ⟨h2a, H1, H2⟩ := H
  refine qS_icmp qd_121_2 rfl (zcnd_ne (a := p1) (b := (-1)) h2a ⟨by decide, by decide⟩ (fun t => qR w _ _ t _ _ _ _) (fun hc => ?_) (fun hc => ?_))
  · have H := H1 hc; clear H1 H2 hc
    refine qS_aload_n qd_121_5 rfl ?_
    refine qS_cvI qd_121_6 (qml_0_109 w) rfl qtm_34 (hp_tab _ _ t ht) (Nat.le_of_ble_eq_true rfl) rfl (Nat.le_of_ble_eq_true rfl) H (fun r1 s1 H => ?_) (fun x s1 H => Or.inr ⟨x, rfl, H⟩)
    refine qS_goto qd_121_9 rfl ?_
    exact qS_sub zsub_n H
  · have H := H2 hc; clear H1 H2 hc
    refine qS_aload_n qd_121_12 rfl ?_
    refine qS_iload_n qd_121_13 rfl ?_
    refine qS_iload_n qd_121_14 rfl ?_
    refine qS_cvI qd_121_15 (qml_0_132 w) rfl qtm_36 (hp_tab _ _ t ht) (Nat.le_of_ble_eq_true rfl) rfl (Nat.le_of_ble_eq_true rfl) H (fun r2 s2 H => ?_) (fun x s1 H => Or.inr ⟨x, rfl, H⟩)
    exact qS_sub zsub_n H
set_option maxRecDepth 100000 in
theorem k121_18 {w : qE} {s : qS} {k0 : Int} {f : Int → qS → Prop} {g : Nat → qS → Prop}  (H : f k0 s) : qR w 1 qm121 18 [] [qI k0] s (qPI f g) := by
  exact qS_ireturn qd_121_18 rfl (Or.inl ⟨_, rfl, H⟩)
set_option maxRecDepth 100000 in
theorem k123 {w : qE} {s : qS}  {f : Int → qS → Prop} {g : Nat → qS → Prop}  (H : f (s 25 7) s) : qW w 1 123 [.ref 25] s (qPI f g) := by
  refine qW.of (M := qm123) (l := [(0, .ref 25)]) qtm_123 rfl (Nat.le_of_ble_eq_true rfl) (zsub_c rfl zsub_n) ?_
  refine qS_aload_n qd_123_0 rfl ?_
  refine qS_getfield (v := qI (s 25 7)) qd_123_1 (qfl_8_60 w) (hpc_25 _ _) rfl ?_
  exact qS_ireturn qd_123_4 rfl (Or.inl ⟨_, rfl, H⟩)
set_option maxRecDepth 100000 in
theorem k124 {w : qE} {s : qS} {p0 : Int64} {p1 : Int} {f : Int → qS → Prop} {g : Nat → qS → Prop}  (H : qW w 1 125 [qI p1, qI 1, qI 8] (qset s 25 7 0) (qPI (fun r1 s1 => Rg r1 ∧ (r1 = 0 → f ((-1)) s1) ∧ (r1 ≠ 0 → Rg ((s1 25 3) + p1) ∧ (500 < (s1 25 3) + p1 → f ((-3)) s1) ∧ ((s1 25 3) + p1 ≤ 500 → qR w 1 qm124 37 [(0, .ref 25), (1, .long p0), (4, qI (p1 - 1))] [] s1 (qPI f g)))) g)) : qW w 2 124 [.ref 25, .long p0, qI p1] s (qPI f g) := by
  refine qW.of (M := qm124) (l := [(0, .ref 25), (1, .long p0), (3, qI p1)]) qtm_124 rfl (Nat.le_of_ble_eq_true rfl) (zsub_c rfl (zsub_c rfl (zsub_c rfl zsub_n))) ?_
  refine qS_aload_n qd_124_0 rfl ?_
  refine qS_iconst qd_124_1 ?_
  refine qS_putfield (s1 := qset s 25 7 0) qd_124_2 (qfl_8_60 w) (hpc_25 _ _) (Nat.le_of_ble_eq_true rfl) rfl rfl rfl (hps_25_7 _ _ _) ?_
  refine qS_iload_n qd_124_5 rfl ?_
  refine qS_iconst qd_124_6 ?_
  refine qS_bipush qd_124_7 (by decide) ?_
  refine qS_csI qd_124_9 (qml_8_63 w) rfl (Nat.le_of_ble_eq_true rfl) rfl (Nat.le_of_ble_eq_true rfl) H (fun r1 s1 H => ?_) (fun x s1 H => Or.inr ⟨x, rfl, H⟩)
  obtain ⟨h12a, H1, H2⟩ := H
  refine qS_if0 qd_124_12 rfl (zcnd_ne (a := r1) (b := 0) h12a ⟨by decide, by decide⟩ (fun t => qR w _ _ t _ _ _ _) (fun hc => ?_) (fun hc => ?_))
  · have H := H1 hc; clear H1 H2 hc
    refine qS_iconst qd_124_15 ?_
    exact qS_ireturn qd_124_16 rfl (Or.inl ⟨_, rfl, H⟩)
  · have H := H2 hc; clear H1 H2 hc
    refine qS_aload_n qd_124_17 rfl ?_
    refine qS_getfield (v := qI (s1 25 3)) qd_124_18 (qfl_8_67 w) (hpc_25 _ _) rfl ?_
    refine qS_iload_n qd_124_21 rfl ?_
    refine qS_iadd (a := s1 25 3) (b := p1) qd_124_22 ?_
    refine qS_sipush qd_124_23 (by decide) ?_
    obtain ⟨h26a, H1, H2⟩ := H
    refine qS_icmp qd_124_26 rfl (zcnd_le (a := (s1 25 3) + p1) (b := 500) h26a ⟨by decide, by decide⟩ (fun t => qR w _ _ t _ _ _ _) (fun hc => ?_) (fun hc => ?_))
    · have H := H1 hc; clear H1 H2 hc
      refine qS_bipush qd_124_29 (by decide) ?_
      exact qS_ireturn qd_124_31 rfl (Or.inl ⟨_, rfl, H⟩)
    · have H := H2 hc; clear H1 H2 hc
      refine qS_iload_n qd_124_32 rfl ?_
      refine qS_iconst qd_124_33 ?_
      refine qS_isub (a := p1) (b := 1) qd_124_34 ?_
      refine qS_istore (a := [(0, .ref 25), (1, .long p0)]) qd_124_35 (Nat.le_of_ble_eq_true rfl) (zsub_c rfl (zsub_c rfl zsub_n)) rfl ?_
      exact qS_sub (zsub_c rfl (zsub_c rfl (zsub_c rfl zsub_n))) H
set_option maxRecDepth 100000 in
theorem k124_37 {w : qE} {s : qS} {v1 : Int64} {v4 : Int} {f : Int → qS → Prop} {g : Nat → qS → Prop}  (H : Rg v4 ∧ (v4 < 0 → f (s 25 3) s) ∧ (0 ≤ v4 → (0 ≤ s 25 3 ∧ s 25 3 < 500 ∧ (qR w 1 qm124 37 [(0, .ref 25), (1, .long v1), (4, qI (v4 + (-1)))] [] (qset (qset s 27 (s 25 3) (qand (((Int64.toInt32 (((v1).toUInt64 >>> ((Int32.ofInt (8 * v4)).toInt64.toUInt64 &&& Int64.toUInt64 63)).toInt64))).toInt) 255)) 25 3 ((s 25 3) + 1)) (qPI f g))))) : qR w 1 qm124 37 [(0, .ref 25), (1, .long v1), (4, qI v4)] [] s (qPI f g) := by
  refine qS_iload qd_124_37 rfl ?_
  obtain ⟨h39a, H1, H2⟩ := H
  refine qS_if0 qd_124_39 rfl (zcnd_lt (a := v4) (b := 0) h39a ⟨by decide, by decide⟩ (fun t => qR w _ _ t _ _ _ _) (fun hc => ?_) (fun hc => ?_))
  · have H := H1 hc; clear H1 H2 hc
    refine qS_aload_n qd_124_79 rfl ?_
    refine qS_getfield (v := qI (s 25 3)) qd_124_80 (qfl_8_67 w) (hpc_25 _ _) rfl ?_
    exact qS_ireturn qd_124_83 rfl (Or.inl ⟨_, rfl, H⟩)
  · have H := H2 hc; clear H1 H2 hc
    refine qS_aload_n qd_124_42 rfl ?_
    refine qS_getfield (v := .ref 27) qd_124_43 (qfl_8_13 w) (hpc_25 _ _) rfl ?_
    refine qS_aload_n qd_124_46 rfl ?_
    refine qS_getfield (v := qI (s 25 3)) qd_124_47 (qfl_8_67 w) (hpc_25 _ _) rfl ?_
    refine qS_lload_n qd_124_50 rfl ?_
    refine qS_bipush qd_124_51 (by decide) ?_
    refine qS_iload qd_124_53 rfl ?_
    refine qS_imul (a := 8) (b := v4) qd_124_55 ?_
    refine qS_p2 (u := .long (((v1).toUInt64 >>> ((Int32.ofInt (8 * v4)).toInt64.toUInt64 &&& Int64.toUInt64 63)).toInt64)) qd_124_56 rfl rfl (fun _ => rfl) ?_
    refine qS_p1 (u := qI (((Int64.toInt32 (((v1).toUInt64 >>> ((Int32.ofInt (8 * v4)).toInt64.toUInt64 &&& Int64.toUInt64 63)).toInt64))).toInt)) qd_124_57 rfl rfl (fun _ => by simp only [qI, qi_of]; rfl) ?_
    refine qS_sipush qd_124_58 (by decide) ?_
    refine qS_iand (a := ((Int64.toInt32 (((v1).toUInt64 >>> ((Int32.ofInt (8 * v4)).toInt64.toUInt64 &&& Int64.toUInt64 63)).toInt64))).toInt) (b := 255) qd_124_61 ?_
    obtain ⟨hl, hu, H⟩ := H
    refine qS_iastore (a := 27) (i := s 25 3) (v := qand (((Int64.toInt32 (((v1).toUInt64 >>> ((Int32.ofInt (8 * v4)).toInt64.toUInt64 &&& Int64.toUInt64 63)).toInt64))).toInt) 255) qd_124_62 (Nat.le_of_ble_eq_true rfl) hl hu ?_
    refine qS_aload_n qd_124_63 rfl ?_
    refine qS_dup qd_124_64 rfl ?_
    refine qS_getfield (v := qI (s 25 3)) qd_124_65 (qfl_8_67 w) (hpc_25 _ _) rfl ?_
    refine qS_iconst qd_124_68 ?_
    refine qS_iadd (a := s 25 3) (b := 1) qd_124_69 ?_
    refine qS_putfield (s1 := qset (qset s 27 (s 25 3) (qand (((Int64.toInt32 (((v1).toUInt64 >>> ((Int32.ofInt (8 * v4)).toInt64.toUInt64 &&& Int64.toUInt64 63)).toInt64))).toInt) 255)) 25 3 ((s 25 3) + 1)) qd_124_70 (qfl_8_67 w) (hpc_25 _ _) (Nat.le_of_ble_eq_true rfl) rfl rfl rfl (hps_25_3 _ _ _) ?_
    refine qS_iinc (v := v4) (a := [(0, .ref 25), (1, .long v1)]) qd_124_73 (Nat.le_of_ble_eq_true rfl) rfl (zsub_c rfl (zsub_c rfl zsub_n)) rfl ?_
    refine qS_goto qd_124_76 rfl ?_
    exact qS_sub (zsub_c rfl (zsub_c rfl (zsub_c rfl zsub_n))) H
set_option maxRecDepth 100000 in
theorem k125 {w : qE} {s : qS} {p0 : Int} {p1 : Int} {p2 : Int} {f : Int → qS → Prop} {g : Nat → qS → Prop}  (H : Rg p0 ∧ Rg p1 ∧ (p0 < p1 → qR w 0 qm125 14 [] [] s (qPI f g)) ∧ (p1 ≤ p0 → Rg p2 ∧ (p2 < p0 → qR w 0 qm125 14 [] [] s (qPI f g)) ∧ (p0 ≤ p2 → qR w 0 qm125 15 [] [qI 1] s (qPI f g)))) : qW w 1 125 [qI p0, qI p1, qI p2] s (qPI f g) := by
  refine qW.of (M := qm125) (l := [(0, qI p0), (1, qI p1), (2, qI p2)]) qtm_125 rfl (Nat.le_of_ble_eq_true rfl) (zsub_c rfl (zsub_c rfl (zsub_c rfl zsub_n))) ?_
  refine qS_iload_n qd_125_0 rfl ?_
  refine qS_iload_n qd_125_1 rfl ?_
  obtain ⟨h2a, h2b, H1, H2⟩ := H
  refine qS_icmp qd_125_2 rfl (zcnd_lt (a := p0) (b := p1) h2a h2b (fun t => qR w _ _ t _ _ _ _) (fun hc => ?_) (fun hc => ?_))
  · have H := H1 hc; clear H1 H2 hc
    exact qS_sub zsub_n H
  · have H := H2 hc; clear H1 H2 hc
    refine qS_iload_n qd_125_5 rfl ?_
    refine qS_iload_n qd_125_6 rfl ?_
    obtain ⟨h7b, H1, H2⟩ := H
    refine qS_icmp qd_125_7 rfl (zcnd_gt (a := p0) (b := p2) h2a h7b (fun t => qR w _ _ t _ _ _ _) (fun hc => ?_) (fun hc => ?_))
    · have H := H1 hc; clear H1 H2 hc
      exact qS_sub zsub_n H
    · have H := H2 hc; clear H1 H2 hc
      refine qS_iconst qd_125_10 ?_
      refine qS_goto qd_125_11 rfl ?_
      exact qS_sub zsub_n H
set_option maxRecDepth 100000 in
theorem k125_14 {w : qE} {s : qS}  {f : Int → qS → Prop} {g : Nat → qS → Prop}  (H : qR w 0 qm125 15 [] [qI 0] s (qPI f g)) : qR w 0 qm125 14 [] [] s (qPI f g) := by
  refine qS_iconst qd_125_14 ?_
  exact qS_sub zsub_n H
set_option maxRecDepth 100000 in
theorem k125_15 {w : qE} {s : qS} {k0 : Int} {f : Int → qS → Prop} {g : Nat → qS → Prop}  (H : ((k0 = 0 ∨ k0 = 1) ∧ f k0 s)) : qR w 0 qm125 15 [] [qI k0] s (qPI f g) := by
  exact qS_zreturn qd_125_15 rfl H.1 (Or.inl ⟨_, rfl, H.2⟩)
set_option maxRecDepth 100000 in
theorem k126 {w : qE} {s : qS} {p0 : Int} {p1 : Int} {f : Int → qS → Prop} {g : Nat → qS → Prop}  (H : qW w 1 125 [qI p0, qI 0, qI ((s 25 3) - 1)] (qset s 25 7 0) (qPI (fun r1 s1 => Rg r1 ∧ (r1 = 0 → qR w 1 qm126 30 [] [] s1 (qPI f g)) ∧ (r1 ≠ 0 → qW w 1 125 [qI p1, qI 0, qI 255] s1 (qPI (fun r2 s2 => Rg r2 ∧ (r2 = 0 → qR w 1 qm126 30 [] [] s2 (qPI f g)) ∧ (r2 ≠ 0 → (0 ≤ p0 ∧ p0 < 500 ∧ (f 1 (qset s2 27 p0 p1))))) g))) g)) : qW w 2 126 [.ref 25, qI p0, qI p1] s (qPI f g) := by
  refine qW.of (M := qm126) (l := [(0, .ref 25), (1, qI p0), (2, qI p1)]) qtm_126 rfl (Nat.le_of_ble_eq_true rfl) (zsub_c rfl (zsub_c rfl (zsub_c rfl zsub_n))) ?_
  refine qS_aload_n qd_126_0 rfl ?_
  refine qS_iconst qd_126_1 ?_
  refine qS_putfield (s1 := qset s 25 7 0) qd_126_2 (qfl_8_60 w) (hpc_25 _ _) (Nat.le_of_ble_eq_true rfl) rfl rfl rfl (hps_25_7 _ _ _) ?_
  refine qS_iload_n qd_126_5 rfl ?_
  refine qS_iconst qd_126_6 ?_
  refine qS_aload_n qd_126_7 rfl ?_
  refine qS_getfield (v := qI (s 25 3)) qd_126_8 (qfl_8_67 w) (hpc_25 _ _) rfl ?_
  refine qS_iconst qd_126_11 ?_
  refine qS_isub (a := s 25 3) (b := 1) qd_126_12 ?_
  refine qS_csI qd_126_13 (qml_8_63 w) rfl (Nat.le_of_ble_eq_true rfl) rfl (Nat.le_of_ble_eq_true rfl) H (fun r1 s1 H => ?_) (fun x s1 H => Or.inr ⟨x, rfl, H⟩)
  obtain ⟨h16a, H1, H2⟩ := H
  refine qS_if0 qd_126_16 rfl (zcnd_eq (a := r1) (b := 0) h16a ⟨by decide, by decide⟩ (fun t => qR w _ _ t _ _ _ _) (fun hc => ?_) (fun hc => ?_))
  · have H := H1 hc; clear H1 H2 hc
    exact qS_sub zsub_n H
  · have H := H2 hc; clear H1 H2 hc
    refine qS_iload_n qd_126_19 rfl ?_
    refine qS_iconst qd_126_20 ?_
    refine qS_sipush qd_126_21 (by decide) ?_
    refine qS_csI qd_126_24 (qml_8_63 w) rfl (Nat.le_of_ble_eq_true rfl) rfl (Nat.le_of_ble_eq_true rfl) H (fun r2 s2 H => ?_) (fun x s1 H => Or.inr ⟨x, rfl, H⟩)
    obtain ⟨h27a, H1, H2⟩ := H
    refine qS_if0 qd_126_27 rfl (zcnd_ne (a := r2) (b := 0) h27a ⟨by decide, by decide⟩ (fun t => qR w _ _ t _ _ _ _) (fun hc => ?_) (fun hc => ?_))
    · have H := H1 hc; clear H1 H2 hc
      exact qS_sub zsub_n H
    · have H := H2 hc; clear H1 H2 hc
      refine qS_aload_n qd_126_32 rfl ?_
      refine qS_getfield (v := .ref 27) qd_126_33 (qfl_8_13 w) (hpc_25 _ _) rfl ?_
      refine qS_iload_n qd_126_36 rfl ?_
      refine qS_iload_n qd_126_37 rfl ?_
      obtain ⟨hl, hu, H⟩ := H
      refine qS_iastore (a := 27) (i := p0) (v := p1) qd_126_38 (Nat.le_of_ble_eq_true rfl) hl hu ?_
      refine qS_iconst qd_126_39 ?_
      exact qS_zreturn qd_126_40 rfl (Or.inr rfl) (Or.inl ⟨_, rfl, H⟩)
set_option maxRecDepth 100000 in
theorem k126_30 {w : qE} {s : qS}  {f : Int → qS → Prop} {g : Nat → qS → Prop}  (H : f 0 s) : qR w 1 qm126 30 [] [] s (qPI f g) := by
  refine qS_iconst qd_126_30 ?_
  exact qS_zreturn qd_126_31 rfl (Or.inl rfl) (Or.inl ⟨_, rfl, H⟩)
set_option maxRecDepth 100000 in
theorem k127 {w : qE} {s : qS} {p0 : Int} {f : Int → qS → Prop} {g : Nat → qS → Prop}  (H : qW w 1 125 [qI p0, qI 0, qI (s 25 3)] (qset s 25 7 0) (qPI (fun r1 s1 => Rg r1 ∧ (r1 = 0 → f ((-1)) s1) ∧ (r1 ≠ 0 → f ((s1 25 3) - p0) (qset s1 25 3 p0))) g)) : qW w 2 127 [.ref 25, qI p0] s (qPI f g) := by
  refine qW.of (M := qm127) (l := [(0, .ref 25), (1, qI p0)]) qtm_127 rfl (Nat.le_of_ble_eq_true rfl) (zsub_c rfl (zsub_c rfl zsub_n)) ?_
  refine qS_aload_n qd_127_0 rfl ?_
  refine qS_iconst qd_127_1 ?_
  refine qS_putfield (s1 := qset s 25 7 0) qd_127_2 (qfl_8_60 w) (hpc_25 _ _) (Nat.le_of_ble_eq_true rfl) rfl rfl rfl (hps_25_7 _ _ _) ?_
  refine qS_iload_n qd_127_5 rfl ?_
  refine qS_iconst qd_127_6 ?_
  refine qS_aload_n qd_127_7 rfl ?_
  refine qS_getfield (v := qI (s 25 3)) qd_127_8 (qfl_8_67 w) (hpc_25 _ _) rfl ?_
  refine qS_csI qd_127_11 (qml_8_63 w) rfl (Nat.le_of_ble_eq_true rfl) rfl (Nat.le_of_ble_eq_true rfl) H (fun r1 s1 H => ?_) (fun x s1 H => Or.inr ⟨x, rfl, H⟩)
  obtain ⟨h14a, H1, H2⟩ := H
  refine qS_if0 qd_127_14 rfl (zcnd_ne (a := r1) (b := 0) h14a ⟨by decide, by decide⟩ (fun t => qR w _ _ t _ _ _ _) (fun hc => ?_) (fun hc => ?_))
  · have H := H1 hc; clear H1 H2 hc
    refine qS_iconst qd_127_17 ?_
    exact qS_ireturn qd_127_18 rfl (Or.inl ⟨_, rfl, H⟩)
  · have H := H2 hc; clear H1 H2 hc
    refine qS_aload_n qd_127_19 rfl ?_
    refine qS_getfield (v := qI (s1 25 3)) qd_127_20 (qfl_8_67 w) (hpc_25 _ _) rfl ?_
    refine qS_iload_n qd_127_23 rfl ?_
    refine qS_isub (a := s1 25 3) (b := p0) qd_127_24 ?_
    refine qS_istore_n (a := [(0, .ref 25), (1, qI p0)]) qd_127_25 (Nat.le_of_ble_eq_true rfl) (zsub_c rfl (zsub_c rfl zsub_n)) rfl ?_
    refine qS_aload_n qd_127_26 rfl ?_
    refine qS_iload_n qd_127_27 rfl ?_
    refine qS_putfield (s1 := qset s1 25 3 p0) qd_127_28 (qfl_8_67 w) (hpc_25 _ _) (Nat.le_of_ble_eq_true rfl) rfl rfl rfl (hps_25_3 _ _ _) ?_
    refine qS_iload_n qd_127_31 rfl ?_
    exact qS_ireturn qd_127_32 rfl (Or.inl ⟨_, rfl, H⟩)
set_option maxRecDepth 100000 in
theorem k128 {w : qE} {s : qS}  {f : Int → qS → Prop} {g : Nat → qS → Prop}  (H : qR w 11 qm128 2 [(0, .ref 25), (1, qI 0)] [] s (qPI f g)) : qW w 12 128 [.ref 25] s (qPI f g) := by
  refine qW.of (M := qm128) (l := [(0, .ref 25)]) qtm_128 rfl (Nat.le_of_ble_eq_true rfl) (zsub_c rfl zsub_n) ?_
  refine qS_iconst qd_128_0 ?_
  refine qS_istore_n (a := [(0, .ref 25)]) qd_128_1 (Nat.le_of_ble_eq_true rfl) (zsub_c rfl zsub_n) rfl ?_
  exact qS_sub (zsub_c rfl (zsub_c rfl zsub_n)) H
set_option maxRecDepth 100000 in
theorem k128_2 {w : qE} {s : qS} {v1 : Int} {f : Int → qS → Prop} {g : Nat → qS → Prop}  (H : Rg v1 ∧ Rg (s 25 3) ∧ (v1 < s 25 3 → (0 ≤ v1 ∧ v1 < 500 ∧ ((0 ≤ v1 ∧ v1 < 500 ∧ (qR w 11 qm128 2 [(0, .ref 25), (1, qI (v1 + 1))] [] (qset s 28 v1 (s 27 v1)) (qPI f g)))))) ∧ (s 25 3 ≤ v1 → qR w 11 qm128 59 [(0, .ref 25), (1, qI 0)] [] (qset (qset (qset (qset (qset s 25 4 (s 25 3)) 25 5 0) 25 6 ((-2))) 25 8 0) 25 11 1) (qPI f g))) : qR w 11 qm128 2 [(0, .ref 25), (1, qI v1)] [] s (qPI f g) := by
  refine qS_iload_n qd_128_2 rfl ?_
  refine qS_aload_n qd_128_3 rfl ?_
  refine qS_getfield (v := qI (s 25 3)) qd_128_4 (qfl_8_67 w) (hpc_25 _ _) rfl ?_
  obtain ⟨h7a, h7b, H1, H2⟩ := H
  refine qS_icmp qd_128_7 rfl (zcnd_ge (a := v1) (b := s 25 3) h7a h7b (fun t => qR w _ _ t _ _ _ _) (fun hc => ?_) (fun hc => ?_))
  · have H := H1 hc; clear H1 H2 hc
    refine qS_aload_n qd_128_10 rfl ?_
    refine qS_getfield (v := .ref 28) qd_128_11 (qfl_8_16 w) (hpc_25 _ _) rfl ?_
    refine qS_iload_n qd_128_14 rfl ?_
    refine qS_aload_n qd_128_15 rfl ?_
    refine qS_getfield (v := .ref 27) qd_128_16 (qfl_8_13 w) (hpc_25 _ _) rfl ?_
    refine qS_iload_n qd_128_19 rfl ?_
    obtain ⟨hl, hu, H⟩ := H
    refine qS_iaload (a := 27) (i := v1) qd_128_20 (Nat.le_of_ble_eq_true rfl) hl hu ?_
    obtain ⟨hl, hu, H⟩ := H
    refine qS_iastore (a := 28) (i := v1) (v := s 27 v1) qd_128_21 (Nat.le_of_ble_eq_true rfl) hl hu ?_
    refine qS_iinc (v := v1) (a := [(0, .ref 25)]) qd_128_22 (Nat.le_of_ble_eq_true rfl) rfl (zsub_c rfl zsub_n) rfl ?_
    refine qS_goto qd_128_25 rfl ?_
    exact qS_sub (zsub_c rfl (zsub_c rfl zsub_n)) H
  · have H := H2 hc; clear H1 H2 hc
    refine qS_aload_n qd_128_28 rfl ?_
    refine qS_aload_n qd_128_29 rfl ?_
    refine qS_getfield (v := qI (s 25 3)) qd_128_30 (qfl_8_67 w) (hpc_25 _ _) rfl ?_
    refine qS_putfield (s1 := qset s 25 4 (s 25 3)) qd_128_33 (qfl_8_73 w) (hpc_25 _ _) (Nat.le_of_ble_eq_true rfl) rfl rfl rfl (hps_25_4 _ _ _) ?_
    refine qS_aload_n qd_128_36 rfl ?_
    refine qS_iconst qd_128_37 ?_
    refine qS_putfield (s1 := qset (qset s 25 4 (s 25 3)) 25 5 0) qd_128_38 (qfl_8_70 w) (hpc_25 _ _) (Nat.le_of_ble_eq_true rfl) rfl rfl rfl (hps_25_5 _ _ _) ?_
    refine qS_aload_n qd_128_41 rfl ?_
    refine qS_bipush qd_128_42 (by decide) ?_
    refine qS_putfield (s1 := qset (qset (qset s 25 4 (s 25 3)) 25 5 0) 25 6 ((-2))) qd_128_44 (qfl_8_19 w) (hpc_25 _ _) (Nat.le_of_ble_eq_true rfl) rfl rfl rfl (hps_25_6 _ _ _) ?_
    refine qS_aload_n qd_128_47 rfl ?_
    refine qS_iconst qd_128_48 ?_
    refine qS_putfield (s1 := qset (qset (qset (qset s 25 4 (s 25 3)) 25 5 0) 25 6 ((-2))) 25 8 0) qd_128_49 (qfl_8_239 w) (hpc_25 _ _) (Nat.le_of_ble_eq_true rfl) rfl rfl rfl (hps_25_8 _ _ _) ?_
    refine qS_aload_n qd_128_52 rfl ?_
    refine qS_iconst qd_128_53 ?_
    refine qS_putfield (s1 := qset (qset (qset (qset (qset s 25 4 (s 25 3)) 25 5 0) 25 6 ((-2))) 25 8 0) 25 11 1) qd_128_54 (qfl_8_95 w) (hpc_25 _ _) (Nat.le_of_ble_eq_true rfl) rfl rfl rfl (hps_25_11 _ _ _) ?_
    refine qS_iconst qd_128_57 ?_
    refine qS_istore_n (a := [(0, .ref 25)]) qd_128_58 (Nat.le_of_ble_eq_true rfl) (zsub_c rfl zsub_n) rfl ?_
    exact qS_sub (zsub_c rfl (zsub_c rfl zsub_n)) H
set_option maxRecDepth 100000 in
theorem k128_59 {w : qE} {s : qS} {v1 : Int} {f : Int → qS → Prop} {g : Nat → qS → Prop}  (H : Rg v1 ∧ (v1 < 9 → (0 ≤ v1 ∧ v1 < 9 ∧ (qR w 11 qm128 59 [(0, .ref 25), (1, qI (v1 + 1))] [] (qset s 37 v1 ((-1))) (qPI f g)))) ∧ (9 ≤ v1 → qW w 11 129 [.ref 25] s (qPV (fun s1 => Rg (s1 25 6) ∧ (s1 25 6 < 0 → qR w 11 qm128 95 [(0, .ref 25)] [qI 1, .ref 25] s1 (qPI f g)) ∧ (0 ≤ s1 25 6 → qR w 11 qm128 95 [(0, .ref 25)] [qI 0, .ref 25] s1 (qPI f g))) g))) : qR w 11 qm128 59 [(0, .ref 25), (1, qI v1)] [] s (qPI f g) := by
  refine qS_iload_n qd_128_59 rfl ?_
  refine qS_bipush qd_128_60 (by decide) ?_
  obtain ⟨h62a, H1, H2⟩ := H
  refine qS_icmp qd_128_62 rfl (zcnd_ge (a := v1) (b := 9) h62a ⟨by decide, by decide⟩ (fun t => qR w _ _ t _ _ _ _) (fun hc => ?_) (fun hc => ?_))
  · have H := H1 hc; clear H1 H2 hc
    refine qS_aload_n qd_128_65 rfl ?_
    refine qS_getfield (v := .ref 37) qd_128_66 (qfl_8_47 w) (hpc_25 _ _) rfl ?_
    refine qS_iload_n qd_128_69 rfl ?_
    refine qS_iconst qd_128_70 ?_
    obtain ⟨hl, hu, H⟩ := H
    refine qS_iastore (a := 37) (i := v1) (v := (-1)) qd_128_71 (Nat.le_of_ble_eq_true rfl) hl hu ?_
    refine qS_iinc (v := v1) (a := [(0, .ref 25)]) qd_128_72 (Nat.le_of_ble_eq_true rfl) rfl (zsub_c rfl zsub_n) rfl ?_
    refine qS_goto qd_128_75 rfl ?_
    exact qS_sub (zsub_c rfl (zsub_c rfl zsub_n)) H
  · have H := H2 hc; clear H1 H2 hc
    refine qS_aload_n qd_128_78 rfl ?_
    refine qS_cvV qd_128_79 (qml_8_256 w) rfl qtm_129 (hpc_25 _ _) (Nat.le_of_ble_eq_true rfl) rfl (Nat.le_of_ble_eq_true rfl) H (fun s1 H => ?_) (fun x s1 H => Or.inr ⟨x, rfl, H⟩)
    refine qS_aload_n qd_128_82 rfl ?_
    refine qS_aload_n qd_128_83 rfl ?_
    refine qS_getfield (v := qI (s1 25 6)) qd_128_84 (qfl_8_19 w) (hpc_25 _ _) rfl ?_
    obtain ⟨h87a, H1, H2⟩ := H
    refine qS_if0 qd_128_87 rfl (zcnd_ge (a := s1 25 6) (b := 0) h87a ⟨by decide, by decide⟩ (fun t => qR w _ _ t _ _ _ _) (fun hc => ?_) (fun hc => ?_))
    · have H := H1 hc; clear H1 H2 hc
      refine qS_iconst qd_128_90 ?_
      refine qS_goto qd_128_91 rfl ?_
      exact qS_sub (zsub_c rfl zsub_n) H
    · have H := H2 hc; clear H1 H2 hc
      refine qS_iconst qd_128_94 ?_
      exact qS_sub (zsub_c rfl zsub_n) H
set_option maxRecDepth 100000 in
theorem k128_95 {w : qE} {s : qS} {k1 : Int} {f : Int → qS → Prop} {g : Nat → qS → Prop}  (H : ((k1 = 0 ∨ k1 = 1) ∧ Rg k1 ∧ (k1 = 0 → Rg (s 25 8) ∧ (s 25 8 = 0 → qR w 11 qm128 122 [(0, .ref 25)] [qI 1, .ref 25] (qset s 25 9 k1) (qPI f g)) ∧ (s 25 8 ≠ 0 → qR w 11 qm128 122 [(0, .ref 25)] [qI 2, .ref 25] (qset s 25 9 k1) (qPI f g))) ∧ (k1 ≠ 0 → qR w 11 qm128 122 [(0, .ref 25)] [qI 0, .ref 25] (qset s 25 9 k1) (qPI f g)))) : qR w 11 qm128 95 [(0, .ref 25)] [qI k1, .ref 25] s (qPI f g) := by
  obtain ⟨hb95, H⟩ := H
  refine qS_putfield (s1 := qset s 25 9 k1) qd_128_95 (qfl_8_259 w) (hpc_25 _ _) (Nat.le_of_ble_eq_true rfl) (by rcases hb95 with h | h <;> (rw [h]; rfl)) rfl rfl (hps_25_9 _ _ _) ?_
  refine qS_aload_n qd_128_98 rfl ?_
  refine qS_aload_n qd_128_99 rfl ?_
  refine qS_getfield (v := qI k1) qd_128_100 (qfl_8_259 w) (hpc_25 _ _) rfl ?_
  obtain ⟨h103a, H1, H2⟩ := H
  refine qS_if0 qd_128_103 rfl (zcnd_eq (a := k1) (b := 0) h103a ⟨by decide, by decide⟩ (fun t => qR w _ _ t _ _ _ _) (fun hc => ?_) (fun hc => ?_))
  · have H := H1 hc; clear H1 H2 hc
    refine qS_aload_n qd_128_110 rfl ?_
    refine qS_getfield (v := qI (s 25 8)) qd_128_111 (qfl_8_239 w) (hpc_25 _ _) rfl ?_
    obtain ⟨h114a, H1, H2⟩ := H
    refine qS_if0 qd_128_114 rfl (zcnd_eq (a := s 25 8) (b := 0) h114a ⟨by decide, by decide⟩ (fun t => qR w _ _ t _ _ _ _) (fun hc => ?_) (fun hc => ?_))
    · have H := H1 hc; clear H1 H2 hc
      refine qS_iconst qd_128_121 ?_
      exact qS_sub (zsub_c rfl zsub_n) H
    · have H := H2 hc; clear H1 H2 hc
      refine qS_iconst qd_128_117 ?_
      refine qS_goto qd_128_118 rfl ?_
      exact qS_sub (zsub_c rfl zsub_n) H
  · have H := H2 hc; clear H1 H2 hc
    refine qS_iconst qd_128_106 ?_
    refine qS_goto qd_128_107 rfl ?_
    exact qS_sub (zsub_c rfl zsub_n) H
set_option maxRecDepth 100000 in
theorem k128_122 {w : qE} {s : qS} {k1 : Int} {f : Int → qS → Prop} {g : Nat → qS → Prop}  (H : Rg (s 25 9) ∧ (s 25 9 = 0 → qR w 11 qm128 142 [] [qI 0] (qset s 25 7 k1) (qPI f g)) ∧ (s 25 9 ≠ 0 → qW w 1 142 [.ref 25, qI 8] (qset s 25 7 k1) (qPI (fun r2 s2 => qR w 11 qm128 142 [] [qI r2] s2 (qPI f g)) g))) : qR w 11 qm128 122 [(0, .ref 25)] [qI k1, .ref 25] s (qPI f g) := by
  refine qS_putfield (s1 := qset s 25 7 k1) qd_128_122 (qfl_8_60 w) (hpc_25 _ _) (Nat.le_of_ble_eq_true rfl) rfl rfl rfl (hps_25_7 _ _ _) ?_
  refine qS_aload_n qd_128_125 rfl ?_
  refine qS_getfield (v := qI (s 25 9)) qd_128_126 (qfl_8_259 w) (hpc_25 _ _) rfl ?_
  obtain ⟨h129a, H1, H2⟩ := H
  refine qS_if0 qd_128_129 rfl (zcnd_eq (a := s 25 9) (b := 0) h129a ⟨by decide, by decide⟩ (fun t => qR w _ _ t _ _ _ _) (fun hc => ?_) (fun hc => ?_))
  · have H := H1 hc; clear H1 H2 hc
    refine qS_iconst qd_128_141 ?_
    exact qS_sub zsub_n H
  · have H := H2 hc; clear H1 H2 hc
    refine qS_aload_n qd_128_132 rfl ?_
    refine qS_bipush qd_128_133 (by decide) ?_
    refine qS_cvI qd_128_135 (qml_8_91 w) rfl qtm_142 (hpc_25 _ _) (Nat.le_of_ble_eq_true rfl) rfl (Nat.le_of_ble_eq_true rfl) H (fun r2 s2 H => ?_) (fun x s1 H => Or.inr ⟨x, rfl, H⟩)
    refine qS_goto qd_128_138 rfl ?_
    exact qS_sub zsub_n H
set_option maxRecDepth 100000 in
theorem k128_142 {w : qE} {s : qS} {k0 : Int} {f : Int → qS → Prop} {g : Nat → qS → Prop}  (H : f k0 s) : qR w 11 qm128 142 [] [qI k0] s (qPI f g) := by
  exact qS_ireturn qd_128_142 rfl (Or.inl ⟨_, rfl, H⟩)
set_option maxRecDepth 100000 in
theorem k129 {w : qE} {s : qS}  {f : qS → Prop} {g : Nat → qS → Prop}  (H : qW w 4 130 [.ref 25] s (qPI (fun r1 s1 => Rg r1 ∧ (r1 = (-889275714) → qR w 10 qm129 22 [(0, .ref 25)] [] s1 (qPV f g)) ∧ (r1 ≠ (-889275714) → qW w 1 134 [.ref 25] s1 (qPI (fun r2 s2 => Rg r2 ∧ (r2 = 0 → qR w 10 qm129 22 [(0, .ref 25)] [] s2 (qPV f g)) ∧ (r2 ≠ 0 → qW w 1 133 [.ref 25, qI 0] s2 (qPI (fun r3 s3 => qR w 10 qm129 22 [(0, .ref 25)] [] s3 (qPV f g)) g))) g))) g)) : qW w 11 129 [.ref 25] s (qPV f g) := by
  refine qW.of (M := qm129) (l := [(0, .ref 25)]) qtm_129 rfl (Nat.le_of_ble_eq_true rfl) (zsub_c rfl zsub_n) ?_
  refine qS_aload_n qd_129_0 rfl ?_
  refine qS_cvI qd_129_1 (qml_8_155 w) rfl qtm_130 (hpc_25 _ _) (Nat.le_of_ble_eq_true rfl) rfl (Nat.le_of_ble_eq_true rfl) H (fun r1 s1 H => ?_) (fun x s1 H => Or.inr ⟨x, rfl, H⟩)
  refine qS_ldc (v := qI ((-889275714))) qd_129_4 rfl rfl (fun _ => rfl) (fun _ => qS_k (qkl_8_238 w)) ?_
  obtain ⟨h6a, H1, H2⟩ := H
  refine qS_icmp qd_129_6 rfl (zcnd_eq (a := r1) (b := (-889275714)) h6a ⟨by decide, by decide⟩ (fun t => qR w _ _ t _ _ _ _) (fun hc => ?_) (fun hc => ?_))
  · have H := H1 hc; clear H1 H2 hc
    exact qS_sub (zsub_c rfl zsub_n) H
  · have H := H2 hc; clear H1 H2 hc
    refine qS_aload_n qd_129_9 rfl ?_
    refine qS_cvI qd_129_10 (qml_8_80 w) rfl qtm_134 (hpc_25 _ _) (Nat.le_of_ble_eq_true rfl) rfl (Nat.le_of_ble_eq_true rfl) H (fun r2 s2 H => ?_) (fun x s1 H => Or.inr ⟨x, rfl, H⟩)
    obtain ⟨h13a, H1, H2⟩ := H
    refine qS_if0 qd_129_13 rfl (zcnd_eq (a := r2) (b := 0) h13a ⟨by decide, by decide⟩ (fun t => qR w _ _ t _ _ _ _) (fun hc => ?_) (fun hc => ?_))
    · have H := H1 hc; clear H1 H2 hc
      exact qS_sub (zsub_c rfl zsub_n) H
    · have H := H2 hc; clear H1 H2 hc
      refine qS_aload_n qd_129_16 rfl ?_
      refine qS_iconst qd_129_17 ?_
      refine qS_cvI qd_129_18 (qml_8_76 w) rfl qtm_133 (hpc_25 _ _) (Nat.le_of_ble_eq_true rfl) rfl (Nat.le_of_ble_eq_true rfl) H (fun r3 s3 H => ?_) (fun x s1 H => Or.inr ⟨x, rfl, H⟩)
      refine qS_pop qd_129_21 rfl ?_
      exact qS_sub (zsub_c rfl zsub_n) H
set_option maxRecDepth 100000 in
theorem k129_22 {w : qE} {s : qS}  {f : qS → Prop} {g : Nat → qS → Prop}  (H : qW w 3 131 [.ref 25] s (qPI (fun r4 s4 => qW w 3 131 [.ref 25] s4 (qPI (fun r5 s5 => qW w 1 134 [.ref 25] s5 (qPI (fun r6 s6 => Rg r6 ∧ (r6 = 0 → qR w 10 qm129 77 [(0, .ref 25)] [] s6 (qPV f g)) ∧ (r6 ≠ 0 → qW w 1 125 [qI r5, qI 45, qI 69] s6 (qPI (fun r7 s7 => Rg r7 ∧ (r7 = 0 → qR w 10 qm129 66 [(0, .ref 25)] [] s7 (qPV f g)) ∧ (r7 ≠ 0 → Rg r5 ∧ (55 < r5 → Rg r4 ∧ (r4 = 0 → qR w 10 qm129 77 [(0, .ref 25)] [] s7 (qPV f g)) ∧ (r4 ≠ 0 → (r4 = 65535 → qR w 10 qm129 77 [(0, .ref 25)] [] s7 (qPV f g)) ∧ (r4 ≠ 65535 → qR w 10 qm129 66 [(0, .ref 25)] [] s7 (qPV f g)))) ∧ (r5 ≤ 55 → qR w 10 qm129 77 [(0, .ref 25)] [] s7 (qPV f g)))) g))) g)) g)) g)) : qR w 10 qm129 22 [(0, .ref 25)] [] s (qPV f g) := by
  refine qS_aload_n qd_129_22 rfl ?_
  refine qS_cvI qd_129_23 (qml_8_88 w) rfl qtm_131 (hpc_25 _ _) (Nat.le_of_ble_eq_true rfl) rfl (Nat.le_of_ble_eq_true rfl) H (fun r4 s4 H => ?_) (fun x s1 H => Or.inr ⟨x, rfl, H⟩)
  refine qS_istore_n (a := [(0, .ref 25)]) qd_129_26 (Nat.le_of_ble_eq_true rfl) (zsub_c rfl zsub_n) rfl ?_
  refine qS_aload_n qd_129_27 rfl ?_
  refine qS_cvI qd_129_28 (qml_8_88 w) rfl qtm_131 (hpc_25 _ _) (Nat.le_of_ble_eq_true rfl) rfl (Nat.le_of_ble_eq_true rfl) H (fun r5 s5 H => ?_) (fun x s1 H => Or.inr ⟨x, rfl, H⟩)
  refine qS_istore_n (a := [(1, qI r4), (0, .ref 25)]) qd_129_31 (Nat.le_of_ble_eq_true rfl) (zsub_c rfl (zsub_c rfl zsub_n)) rfl ?_
  refine qS_aload_n qd_129_32 rfl ?_
  refine qS_cvI qd_129_33 (qml_8_80 w) rfl qtm_134 (hpc_25 _ _) (Nat.le_of_ble_eq_true rfl) rfl (Nat.le_of_ble_eq_true rfl) H (fun r6 s6 H => ?_) (fun x s1 H => Or.inr ⟨x, rfl, H⟩)
  obtain ⟨h36a, H1, H2⟩ := H
  refine qS_if0 qd_129_36 rfl (zcnd_eq (a := r6) (b := 0) h36a ⟨by decide, by decide⟩ (fun t => qR w _ _ t _ _ _ _) (fun hc => ?_) (fun hc => ?_))
  · have H := H1 hc; clear H1 H2 hc
    exact qS_sub (zsub_c rfl zsub_n) H
  · have H := H2 hc; clear H1 H2 hc
    refine qS_iload_n qd_129_39 rfl ?_
    refine qS_bipush qd_129_40 (by decide) ?_
    refine qS_bipush qd_129_42 (by decide) ?_
    refine qS_csI qd_129_44 (qml_8_63 w) rfl (Nat.le_of_ble_eq_true rfl) rfl (Nat.le_of_ble_eq_true rfl) H (fun r7 s7 H => ?_) (fun x s1 H => Or.inr ⟨x, rfl, H⟩)
    obtain ⟨h47a, H1, H2⟩ := H
    refine qS_if0 qd_129_47 rfl (zcnd_eq (a := r7) (b := 0) h47a ⟨by decide, by decide⟩ (fun t => qR w _ _ t _ _ _ _) (fun hc => ?_) (fun hc => ?_))
    · have H := H1 hc; clear H1 H2 hc
      exact qS_sub (zsub_c rfl zsub_n) H
    · have H := H2 hc; clear H1 H2 hc
      refine qS_iload_n qd_129_50 rfl ?_
      refine qS_bipush qd_129_51 (by decide) ?_
      obtain ⟨h53a, H1, H2⟩ := H
      refine qS_icmp qd_129_53 rfl (zcnd_le (a := r5) (b := 55) h53a ⟨by decide, by decide⟩ (fun t => qR w _ _ t _ _ _ _) (fun hc => ?_) (fun hc => ?_))
      · have H := H1 hc; clear H1 H2 hc
        refine qS_iload_n qd_129_56 rfl ?_
        obtain ⟨h57a, H1, H2⟩ := H
        refine qS_if0 qd_129_57 rfl (zcnd_eq (a := r4) (b := 0) h57a ⟨by decide, by decide⟩ (fun t => qR w _ _ t _ _ _ _) (fun hc => ?_) (fun hc => ?_))
        · have H := H1 hc; clear H1 H2 hc
          exact qS_sub (zsub_c rfl zsub_n) H
        · have H := H2 hc; clear H1 H2 hc
          refine qS_iload_n qd_129_60 rfl ?_
          refine qS_ldc (v := qI 65535) qd_129_61 rfl rfl (fun _ => rfl) (fun _ => qS_k (qkl_8_231 w)) ?_
          obtain ⟨H1, H2⟩ := H
          refine qS_icmp qd_129_63 rfl (zcnd_eq (a := r4) (b := 65535) h57a ⟨by decide, by decide⟩ (fun t => qR w _ _ t _ _ _ _) (fun hc => ?_) (fun hc => ?_))
          · have H := H1 hc; clear H1 H2 hc
            exact qS_sub (zsub_c rfl zsub_n) H
          · have H := H2 hc; clear H1 H2 hc
            exact qS_sub (zsub_c rfl zsub_n) H
      · have H := H2 hc; clear H1 H2 hc
        exact qS_sub (zsub_c rfl zsub_n) H
set_option maxRecDepth 100000 in
theorem k129_66 {w : qE} {s : qS}  {f : qS → Prop} {g : Nat → qS → Prop}  (H : qW w 1 133 [.ref 25, qI 4] (qset s 25 8 1) (qPI (fun r8 s8 => qR w 10 qm129 77 [(0, .ref 25)] [] s8 (qPV f g)) g)) : qR w 10 qm129 66 [(0, .ref 25)] [] s (qPV f g) := by
  refine qS_aload_n qd_129_66 rfl ?_
  refine qS_iconst qd_129_67 ?_
  refine qS_putfield (s1 := qset s 25 8 1) qd_129_68 (qfl_8_239 w) (hpc_25 _ _) (Nat.le_of_ble_eq_true rfl) rfl rfl rfl (hps_25_8 _ _ _) ?_
  refine qS_aload_n qd_129_71 rfl ?_
  refine qS_iconst qd_129_72 ?_
  refine qS_cvI qd_129_73 (qml_8_76 w) rfl qtm_133 (hpc_25 _ _) (Nat.le_of_ble_eq_true rfl) rfl (Nat.le_of_ble_eq_true rfl) H (fun r8 s8 H => ?_) (fun x s1 H => Or.inr ⟨x, rfl, H⟩)
  refine qS_pop qd_129_76 rfl ?_
  exact qS_sub (zsub_c rfl zsub_n) H
set_option maxRecDepth 100000 in
theorem k129_77 {w : qE} {s : qS}  {f : qS → Prop} {g : Nat → qS → Prop}  (H : qW w 1 134 [.ref 25] s (qPI (fun r9 s9 => Rg r9 ∧ (r9 = 0 → qR w 10 qm129 88 [(0, .ref 25)] [] s9 (qPV f g)) ∧ (r9 ≠ 0 → qW w 5 135 [.ref 25] s9 (qPV (fun s10 => qR w 10 qm129 88 [(0, .ref 25)] [] s10 (qPV f g)) g))) g)) : qR w 10 qm129 77 [(0, .ref 25)] [] s (qPV f g) := by
  refine qS_aload_n qd_129_77 rfl ?_
  refine qS_cvI qd_129_78 (qml_8_80 w) rfl qtm_134 (hpc_25 _ _) (Nat.le_of_ble_eq_true rfl) rfl (Nat.le_of_ble_eq_true rfl) H (fun r9 s9 H => ?_) (fun x s1 H => Or.inr ⟨x, rfl, H⟩)
  obtain ⟨h81a, H1, H2⟩ := H
  refine qS_if0 qd_129_81 rfl (zcnd_eq (a := r9) (b := 0) h81a ⟨by decide, by decide⟩ (fun t => qR w _ _ t _ _ _ _) (fun hc => ?_) (fun hc => ?_))
  · have H := H1 hc; clear H1 H2 hc
    exact qS_sub (zsub_c rfl zsub_n) H
  · have H := H2 hc; clear H1 H2 hc
    refine qS_aload_n qd_129_84 rfl ?_
    refine qS_cvV qd_129_85 (qml_8_243 w) rfl qtm_135 (hpc_25 _ _) (Nat.le_of_ble_eq_true rfl) rfl (Nat.le_of_ble_eq_true rfl) H (fun s10 H => ?_) (fun x s1 H => Or.inr ⟨x, rfl, H⟩)
    exact qS_sub (zsub_c rfl zsub_n) H
set_option maxRecDepth 100000 in
theorem k129_88 {w : qE} {s : qS}  {f : qS → Prop} {g : Nat → qS → Prop}  (H : qW w 1 134 [.ref 25] s (qPI (fun r11 s11 => Rg r11 ∧ (r11 = 0 → qR w 10 qm129 99 [(0, .ref 25)] [] s11 (qPV f g)) ∧ (r11 ≠ 0 → qW w 8 138 [.ref 25] s11 (qPV (fun s12 => qR w 10 qm129 99 [(0, .ref 25)] [] s12 (qPV f g)) g))) g)) : qR w 10 qm129 88 [(0, .ref 25)] [] s (qPV f g) := by
  refine qS_aload_n qd_129_88 rfl ?_
  refine qS_cvI qd_129_89 (qml_8_80 w) rfl qtm_134 (hpc_25 _ _) (Nat.le_of_ble_eq_true rfl) rfl (Nat.le_of_ble_eq_true rfl) H (fun r11 s11 H => ?_) (fun x s1 H => Or.inr ⟨x, rfl, H⟩)
  obtain ⟨h92a, H1, H2⟩ := H
  refine qS_if0 qd_129_92 rfl (zcnd_eq (a := r11) (b := 0) h92a ⟨by decide, by decide⟩ (fun t => qR w _ _ t _ _ _ _) (fun hc => ?_) (fun hc => ?_))
  · have H := H1 hc; clear H1 H2 hc
    exact qS_sub (zsub_c rfl zsub_n) H
  · have H := H2 hc; clear H1 H2 hc
    refine qS_aload_n qd_129_95 rfl ?_
    refine qS_cvV qd_129_96 (qml_8_246 w) rfl qtm_138 (hpc_25 _ _) (Nat.le_of_ble_eq_true rfl) rfl (Nat.le_of_ble_eq_true rfl) H (fun s12 H => ?_) (fun x s1 H => Or.inr ⟨x, rfl, H⟩)
    exact qS_sub (zsub_c rfl zsub_n) H
set_option maxRecDepth 100000 in
theorem k129_99 {w : qE} {s : qS}  {f : qS → Prop} {g : Nat → qS → Prop}  (H : qW w 1 134 [.ref 25] s (qPI (fun r13 s13 => Rg r13 ∧ (r13 = 0 → qR w 10 qm129 110 [(0, .ref 25)] [] s13 (qPV f g)) ∧ (r13 ≠ 0 → qW w 6 158 [.ref 25] s13 (qPV (fun s14 => qR w 10 qm129 110 [(0, .ref 25)] [] s14 (qPV f g)) g))) g)) : qR w 10 qm129 99 [(0, .ref 25)] [] s (qPV f g) := by
  refine qS_aload_n qd_129_99 rfl ?_
  refine qS_cvI qd_129_100 (qml_8_80 w) rfl qtm_134 (hpc_25 _ _) (Nat.le_of_ble_eq_true rfl) rfl (Nat.le_of_ble_eq_true rfl) H (fun r13 s13 H => ?_) (fun x s1 H => Or.inr ⟨x, rfl, H⟩)
  obtain ⟨h103a, H1, H2⟩ := H
  refine qS_if0 qd_129_103 rfl (zcnd_eq (a := r13) (b := 0) h103a ⟨by decide, by decide⟩ (fun t => qR w _ _ t _ _ _ _) (fun hc => ?_) (fun hc => ?_))
  · have H := H1 hc; clear H1 H2 hc
    exact qS_sub (zsub_c rfl zsub_n) H
  · have H := H2 hc; clear H1 H2 hc
    refine qS_aload_n qd_129_106 rfl ?_
    refine qS_cvV qd_129_107 (qml_8_249 w) rfl qtm_158 (hpc_25 _ _) (Nat.le_of_ble_eq_true rfl) rfl (Nat.le_of_ble_eq_true rfl) H (fun s14 H => ?_) (fun x s1 H => Or.inr ⟨x, rfl, H⟩)
    exact qS_sub (zsub_c rfl zsub_n) H
set_option maxRecDepth 100000 in
theorem k129_110 {w : qE} {s : qS}  {f : qS → Prop} {g : Nat → qS → Prop}  (H : qW w 1 134 [.ref 25] s (qPI (fun r15 s15 => Rg r15 ∧ (r15 = 0 → qR w 10 qm129 122 [(0, .ref 25)] [] s15 (qPV f g)) ∧ (r15 ≠ 0 → qW w 10 161 [.ref 25, qI 0] s15 (qPV (fun s16 => qR w 10 qm129 122 [(0, .ref 25)] [] s16 (qPV f g)) g))) g)) : qR w 10 qm129 110 [(0, .ref 25)] [] s (qPV f g) := by
  refine qS_aload_n qd_129_110 rfl ?_
  refine qS_cvI qd_129_111 (qml_8_80 w) rfl qtm_134 (hpc_25 _ _) (Nat.le_of_ble_eq_true rfl) rfl (Nat.le_of_ble_eq_true rfl) H (fun r15 s15 H => ?_) (fun x s1 H => Or.inr ⟨x, rfl, H⟩)
  obtain ⟨h114a, H1, H2⟩ := H
  refine qS_if0 qd_129_114 rfl (zcnd_eq (a := r15) (b := 0) h114a ⟨by decide, by decide⟩ (fun t => qR w _ _ t _ _ _ _) (fun hc => ?_) (fun hc => ?_))
  · have H := H1 hc; clear H1 H2 hc
    exact qS_sub (zsub_c rfl zsub_n) H
  · have H := H2 hc; clear H1 H2 hc
    refine qS_aload_n qd_129_117 rfl ?_
    refine qS_iconst qd_129_118 ?_
    refine qS_cvV qd_129_119 (qml_8_252 w) rfl qtm_161 (hpc_25 _ _) (Nat.le_of_ble_eq_true rfl) rfl (Nat.le_of_ble_eq_true rfl) H (fun s16 H => ?_) (fun x s1 H => Or.inr ⟨x, rfl, H⟩)
    exact qS_sub (zsub_c rfl zsub_n) H
set_option maxRecDepth 100000 in
theorem k129_122 {w : qE} {s : qS}  {f : qS → Prop} {g : Nat → qS → Prop}  (H : qW w 1 134 [.ref 25] s (qPI (fun r17 s17 => Rg r17 ∧ (r17 = 0 → qR w 10 qm129 134 [(0, .ref 25)] [] s17 (qPV f g)) ∧ (r17 ≠ 0 → qW w 10 161 [.ref 25, qI 1] s17 (qPV (fun s18 => qR w 10 qm129 134 [(0, .ref 25)] [] s18 (qPV f g)) g))) g)) : qR w 10 qm129 122 [(0, .ref 25)] [] s (qPV f g) := by
  refine qS_aload_n qd_129_122 rfl ?_
  refine qS_cvI qd_129_123 (qml_8_80 w) rfl qtm_134 (hpc_25 _ _) (Nat.le_of_ble_eq_true rfl) rfl (Nat.le_of_ble_eq_true rfl) H (fun r17 s17 H => ?_) (fun x s1 H => Or.inr ⟨x, rfl, H⟩)
  obtain ⟨h126a, H1, H2⟩ := H
  refine qS_if0 qd_129_126 rfl (zcnd_eq (a := r17) (b := 0) h126a ⟨by decide, by decide⟩ (fun t => qR w _ _ t _ _ _ _) (fun hc => ?_) (fun hc => ?_))
  · have H := H1 hc; clear H1 H2 hc
    exact qS_sub (zsub_c rfl zsub_n) H
  · have H := H2 hc; clear H1 H2 hc
    refine qS_aload_n qd_129_129 rfl ?_
    refine qS_iconst qd_129_130 ?_
    refine qS_cvV qd_129_131 (qml_8_252 w) rfl qtm_161 (hpc_25 _ _) (Nat.le_of_ble_eq_true rfl) rfl (Nat.le_of_ble_eq_true rfl) H (fun s18 H => ?_) (fun x s1 H => Or.inr ⟨x, rfl, H⟩)
    exact qS_sub (zsub_c rfl zsub_n) H
set_option maxRecDepth 100000 in
theorem k129_134 {w : qE} {s : qS}  {f : qS → Prop} {g : Nat → qS → Prop}  (H : qW w 1 134 [.ref 25] s (qPI (fun r19 s19 => Rg r19 ∧ (r19 = 0 → qR w 10 qm129 148 [(0, .ref 25)] [] s19 (qPV f g)) ∧ (r19 ≠ 0 → qW w 8 166 [.ref 25, qI 2, qI 0] s19 (qPI (fun r20 s20 => qR w 10 qm129 148 [(0, .ref 25)] [] s20 (qPV f g)) g))) g)) : qR w 10 qm129 134 [(0, .ref 25)] [] s (qPV f g) := by
  refine qS_aload_n qd_129_134 rfl ?_
  refine qS_cvI qd_129_135 (qml_8_80 w) rfl qtm_134 (hpc_25 _ _) (Nat.le_of_ble_eq_true rfl) rfl (Nat.le_of_ble_eq_true rfl) H (fun r19 s19 H => ?_) (fun x s1 H => Or.inr ⟨x, rfl, H⟩)
  obtain ⟨h138a, H1, H2⟩ := H
  refine qS_if0 qd_129_138 rfl (zcnd_eq (a := r19) (b := 0) h138a ⟨by decide, by decide⟩ (fun t => qR w _ _ t _ _ _ _) (fun hc => ?_) (fun hc => ?_))
  · have H := H1 hc; clear H1 H2 hc
    exact qS_sub (zsub_c rfl zsub_n) H
  · have H := H2 hc; clear H1 H2 hc
    refine qS_aload_n qd_129_141 rfl ?_
    refine qS_iconst qd_129_142 ?_
    refine qS_iconst qd_129_143 ?_
    refine qS_cvI qd_129_144 (qml_8_207 w) rfl qtm_166 (hpc_25 _ _) (Nat.le_of_ble_eq_true rfl) rfl (Nat.le_of_ble_eq_true rfl) H (fun r20 s20 H => ?_) (fun x s1 H => Or.inr ⟨x, rfl, H⟩)
    refine qS_pop qd_129_147 rfl ?_
    exact qS_sub (zsub_c rfl zsub_n) H
set_option maxRecDepth 100000 in
theorem k129_148 {w : qE} {s : qS}  {f : qS → Prop} {g : Nat → qS → Prop}  (H : qW w 1 134 [.ref 25] s (qPI (fun r21 s21 => Rg r21 ∧ (r21 = 0 → qR w 10 qm129 175 [(0, .ref 25)] [] s21 (qPV f g)) ∧ (r21 ≠ 0 → Rg (s21 25 5) ∧ Rg (s21 25 4) ∧ (s21 25 5 < s21 25 4 → qW w 1 133 [.ref 25, qI (s21 25 5)] s21 (qPI (fun r22 s22 => qR w 10 qm129 175 [(0, .ref 25)] [] s22 (qPV f g)) g)) ∧ (s21 25 4 ≤ s21 25 5 → qR w 10 qm129 175 [(0, .ref 25)] [] s21 (qPV f g)))) g)) : qR w 10 qm129 148 [(0, .ref 25)] [] s (qPV f g) := by
  refine qS_aload_n qd_129_148 rfl ?_
  refine qS_cvI qd_129_149 (qml_8_80 w) rfl qtm_134 (hpc_25 _ _) (Nat.le_of_ble_eq_true rfl) rfl (Nat.le_of_ble_eq_true rfl) H (fun r21 s21 H => ?_) (fun x s1 H => Or.inr ⟨x, rfl, H⟩)
  obtain ⟨h152a, H1, H2⟩ := H
  refine qS_if0 qd_129_152 rfl (zcnd_eq (a := r21) (b := 0) h152a ⟨by decide, by decide⟩ (fun t => qR w _ _ t _ _ _ _) (fun hc => ?_) (fun hc => ?_))
  · have H := H1 hc; clear H1 H2 hc
    exact qS_sub (zsub_c rfl zsub_n) H
  · have H := H2 hc; clear H1 H2 hc
    refine qS_aload_n qd_129_155 rfl ?_
    refine qS_getfield (v := qI (s21 25 5)) qd_129_156 (qfl_8_70 w) (hpc_25 _ _) rfl ?_
    refine qS_aload_n qd_129_159 rfl ?_
    refine qS_getfield (v := qI (s21 25 4)) qd_129_160 (qfl_8_73 w) (hpc_25 _ _) rfl ?_
    obtain ⟨h163a, h163b, H1, H2⟩ := H
    refine qS_icmp qd_129_163 rfl (zcnd_ge (a := s21 25 5) (b := s21 25 4) h163a h163b (fun t => qR w _ _ t _ _ _ _) (fun hc => ?_) (fun hc => ?_))
    · have H := H1 hc; clear H1 H2 hc
      refine qS_aload_n qd_129_166 rfl ?_
      refine qS_aload_n qd_129_167 rfl ?_
      refine qS_getfield (v := qI (s21 25 5)) qd_129_168 (qfl_8_70 w) (hpc_25 _ _) rfl ?_
      refine qS_cvI qd_129_171 (qml_8_76 w) rfl qtm_133 (hpc_25 _ _) (Nat.le_of_ble_eq_true rfl) rfl (Nat.le_of_ble_eq_true rfl) H (fun r22 s22 H => ?_) (fun x s1 H => Or.inr ⟨x, rfl, H⟩)
      refine qS_pop qd_129_174 rfl ?_
      exact qS_sub (zsub_c rfl zsub_n) H
    · have H := H2 hc; clear H1 H2 hc
      exact qS_sub (zsub_c rfl zsub_n) H
set_option maxRecDepth 100000 in
theorem k129_175 {w : qE} {s : qS}  {f : qS → Prop} {g : Nat → qS → Prop}  (H : Rg (s 37 8) ∧ (s 37 8 < 0 → qR w 10 qm129 196 [(0, .ref 25)] [qI 0] s (qPV f g)) ∧ (0 ≤ s 37 8 → qR w 10 qm129 196 [(0, .ref 25)] [qI (s 37 8)] s (qPV f g))) : qR w 10 qm129 175 [(0, .ref 25)] [] s (qPV f g) := by
  refine qS_aload_n qd_129_175 rfl ?_
  refine qS_getfield (v := .ref 37) qd_129_176 (qfl_8_47 w) (hpc_25 _ _) rfl ?_
  refine qS_bipush qd_129_179 (by decide) ?_
  refine qS_iaload (a := 37) (i := 8) qd_129_181 (Nat.le_of_ble_eq_true rfl) (by decide) (by decide) ?_
  obtain ⟨h182a, H1, H2⟩ := H
  refine qS_if0 qd_129_182 rfl (zcnd_ge (a := s 37 8) (b := 0) h182a ⟨by decide, by decide⟩ (fun t => qR w _ _ t _ _ _ _) (fun hc => ?_) (fun hc => ?_))
  · have H := H1 hc; clear H1 H2 hc
    refine qS_iconst qd_129_185 ?_
    refine qS_goto qd_129_186 rfl ?_
    exact qS_sub (zsub_c rfl zsub_n) H
  · have H := H2 hc; clear H1 H2 hc
    refine qS_aload_n qd_129_189 rfl ?_
    refine qS_getfield (v := .ref 37) qd_129_190 (qfl_8_47 w) (hpc_25 _ _) rfl ?_
    refine qS_bipush qd_129_193 (by decide) ?_
    refine qS_iaload (a := 37) (i := 8) qd_129_195 (Nat.le_of_ble_eq_true rfl) (by decide) (by decide) ?_
    exact qS_sub (zsub_c rfl zsub_n) H
set_option maxRecDepth 100000 in
theorem k129_196 {w : qE} {s : qS} {k0 : Int} {f : qS → Prop} {g : Nat → qS → Prop}  (H : qR w 10 qm129 200 [(0, .ref 25), (3, qI k0), (4, qI 1)] [] s (qPV f g)) : qR w 10 qm129 196 [(0, .ref 25)] [qI k0] s (qPV f g) := by
  refine qS_istore_n (a := [(0, .ref 25)]) qd_129_196 (Nat.le_of_ble_eq_true rfl) (zsub_c rfl zsub_n) rfl ?_
  refine qS_iconst qd_129_197 ?_
  refine qS_istore (a := [(3, qI k0), (0, .ref 25)]) qd_129_198 (Nat.le_of_ble_eq_true rfl) (zsub_c rfl (zsub_c rfl zsub_n)) rfl ?_
  exact qS_sub (zsub_c rfl (zsub_c rfl (zsub_c rfl zsub_n))) H
set_option maxRecDepth 100000 in
theorem k129_200 {w : qE} {s : qS} {v3 : Int} {v4 : Int} {f : qS → Prop} {g : Nat → qS → Prop}  (H : Rg v4 ∧ Rg (s 25 11) ∧ (v4 < s 25 11 → qW w 1 134 [.ref 25] s (qPI (fun r23 s23 => Rg r23 ∧ (r23 = 0 → qR w 10 qm129 266 [] [] s23 (qPV f g)) ∧ (r23 ≠ 0 → qW w 2 139 [.ref 25, qI v4] s23 (qPI (fun r24 s24 => Rg r24 ∧ (r24 = 17 → qR w 10 qm129 238 [(0, .ref 25), (3, qI v3), (4, qI v4)] [] s24 (qPV f g)) ∧ (r24 ≠ 17 → qW w 2 139 [.ref 25, qI v4] s24 (qPI (fun r25 s25 => Rg r25 ∧ (r25 = 18 → qR w 10 qm129 238 [(0, .ref 25), (3, qI v3), (4, qI v4)] [] s25 (qPV f g)) ∧ (r25 ≠ 18 → qR w 10 qm129 260 [(0, .ref 25), (3, qI v3), (4, qI v4)] [] s25 (qPV f g))) g))) g))) g)) ∧ (s 25 11 ≤ v4 → qR w 10 qm129 266 [] [] s (qPV f g))) : qR w 10 qm129 200 [(0, .ref 25), (3, qI v3), (4, qI v4)] [] s (qPV f g) := by
  refine qS_iload qd_129_200 rfl ?_
  refine qS_aload_n qd_129_202 rfl ?_
  refine qS_getfield (v := qI (s 25 11)) qd_129_203 (qfl_8_95 w) (hpc_25 _ _) rfl ?_
  obtain ⟨h206a, h206b, H1, H2⟩ := H
  refine qS_icmp qd_129_206 rfl (zcnd_ge (a := v4) (b := s 25 11) h206a h206b (fun t => qR w _ _ t _ _ _ _) (fun hc => ?_) (fun hc => ?_))
  · have H := H1 hc; clear H1 H2 hc
    refine qS_aload_n qd_129_209 rfl ?_
    refine qS_cvI qd_129_210 (qml_8_80 w) rfl qtm_134 (hpc_25 _ _) (Nat.le_of_ble_eq_true rfl) rfl (Nat.le_of_ble_eq_true rfl) H (fun r23 s23 H => ?_) (fun x s1 H => Or.inr ⟨x, rfl, H⟩)
    obtain ⟨h213a, H1, H2⟩ := H
    refine qS_if0 qd_129_213 rfl (zcnd_eq (a := r23) (b := 0) h213a ⟨by decide, by decide⟩ (fun t => qR w _ _ t _ _ _ _) (fun hc => ?_) (fun hc => ?_))
    · have H := H1 hc; clear H1 H2 hc
      exact qS_sub zsub_n H
    · have H := H2 hc; clear H1 H2 hc
      refine qS_aload_n qd_129_216 rfl ?_
      refine qS_iload qd_129_217 rfl ?_
      refine qS_cvI qd_129_219 (qml_8_137 w) rfl qtm_139 (hpc_25 _ _) (Nat.le_of_ble_eq_true rfl) rfl (Nat.le_of_ble_eq_true rfl) H (fun r24 s24 H => ?_) (fun x s1 H => Or.inr ⟨x, rfl, H⟩)
      refine qS_bipush qd_129_222 (by decide) ?_
      obtain ⟨h224a, H1, H2⟩ := H
      refine qS_icmp qd_129_224 rfl (zcnd_eq (a := r24) (b := 17) h224a ⟨by decide, by decide⟩ (fun t => qR w _ _ t _ _ _ _) (fun hc => ?_) (fun hc => ?_))
      · have H := H1 hc; clear H1 H2 hc
        exact qS_sub (zsub_c rfl (zsub_c rfl (zsub_c rfl zsub_n))) H
      · have H := H2 hc; clear H1 H2 hc
        refine qS_aload_n qd_129_227 rfl ?_
        refine qS_iload qd_129_228 rfl ?_
        refine qS_cvI qd_129_230 (qml_8_137 w) rfl qtm_139 (hpc_25 _ _) (Nat.le_of_ble_eq_true rfl) rfl (Nat.le_of_ble_eq_true rfl) H (fun r25 s25 H => ?_) (fun x s1 H => Or.inr ⟨x, rfl, H⟩)
        refine qS_bipush qd_129_233 (by decide) ?_
        obtain ⟨h235a, H1, H2⟩ := H
        refine qS_icmp qd_129_235 rfl (zcnd_ne (a := r25) (b := 18) h235a ⟨by decide, by decide⟩ (fun t => qR w _ _ t _ _ _ _) (fun hc => ?_) (fun hc => ?_))
        · have H := H1 hc; clear H1 H2 hc
          exact qS_sub (zsub_c rfl (zsub_c rfl (zsub_c rfl zsub_n))) H
        · have H := H2 hc; clear H1 H2 hc
          exact qS_sub (zsub_c rfl (zsub_c rfl (zsub_c rfl zsub_n))) H
  · have H := H2 hc; clear H1 H2 hc
    exact qS_sub zsub_n H
set_option maxRecDepth 100000 in
theorem k129_238 {w : qE} {s : qS} {v3 : Int} {v4 : Int} {f : qS → Prop} {g : Nat → qS → Prop}  (H : qW w 2 141 [.ref 25, qI v4] s (qPI (fun r26 s26 => Rg r26 ∧ Rg v3 ∧ (r26 < v3 → qR w 10 qm129 260 [(0, .ref 25), (3, qI v3), (4, qI v4)] [] s26 (qPV f g)) ∧ (v3 ≤ r26 → (0 ≤ v4 ∧ v4 < 520 ∧ (qW w 1 133 [.ref 25, qI (s26 29 v4)] s26 (qPI (fun r27 s27 => qR w 10 qm129 260 [(0, .ref 25), (3, qI v3), (4, qI v4)] [] s27 (qPV f g)) g))))) g)) : qR w 10 qm129 238 [(0, .ref 25), (3, qI v3), (4, qI v4)] [] s (qPV f g) := by
  refine qS_aload_n qd_129_238 rfl ?_
  refine qS_iload qd_129_239 rfl ?_
  refine qS_cvI qd_129_241 (qml_8_149 w) rfl qtm_141 (hpc_25 _ _) (Nat.le_of_ble_eq_true rfl) rfl (Nat.le_of_ble_eq_true rfl) H (fun r26 s26 H => ?_) (fun x s1 H => Or.inr ⟨x, rfl, H⟩)
  refine qS_iload_n qd_129_244 rfl ?_
  obtain ⟨h245a, h245b, H1, H2⟩ := H
  refine qS_icmp qd_129_245 rfl (zcnd_lt (a := r26) (b := v3) h245a h245b (fun t => qR w _ _ t _ _ _ _) (fun hc => ?_) (fun hc => ?_))
  · have H := H1 hc; clear H1 H2 hc
    exact qS_sub (zsub_c rfl (zsub_c rfl (zsub_c rfl zsub_n))) H
  · have H := H2 hc; clear H1 H2 hc
    refine qS_aload_n qd_129_248 rfl ?_
    refine qS_aload_n qd_129_249 rfl ?_
    refine qS_getfield (v := .ref 29) qd_129_250 (qfl_8_23 w) (hpc_25 _ _) rfl ?_
    refine qS_iload qd_129_253 rfl ?_
    obtain ⟨hl, hu, H⟩ := H
    refine qS_iaload (a := 29) (i := v4) qd_129_255 (Nat.le_of_ble_eq_true rfl) hl hu ?_
    refine qS_cvI qd_129_256 (qml_8_76 w) rfl qtm_133 (hpc_25 _ _) (Nat.le_of_ble_eq_true rfl) rfl (Nat.le_of_ble_eq_true rfl) H (fun r27 s27 H => ?_) (fun x s1 H => Or.inr ⟨x, rfl, H⟩)
    refine qS_pop qd_129_259 rfl ?_
    exact qS_sub (zsub_c rfl (zsub_c rfl (zsub_c rfl zsub_n))) H
set_option maxRecDepth 100000 in
theorem k129_260 {w : qE} {s : qS} {v3 : Int} {v4 : Int} {f : qS → Prop} {g : Nat → qS → Prop}  (H : qR w 10 qm129 200 [(0, .ref 25), (3, qI v3), (4, qI (v4 + 1))] [] s (qPV f g)) : qR w 10 qm129 260 [(0, .ref 25), (3, qI v3), (4, qI v4)] [] s (qPV f g) := by
  refine qS_iinc (v := v4) (a := [(0, .ref 25), (3, qI v3)]) qd_129_260 (Nat.le_of_ble_eq_true rfl) rfl (zsub_c rfl (zsub_c rfl zsub_n)) rfl ?_
  refine qS_goto qd_129_263 rfl ?_
  exact qS_sub (zsub_c rfl (zsub_c rfl (zsub_c rfl zsub_n))) H
set_option maxRecDepth 100000 in
theorem k129_266 {w : qE} {s : qS}  {f : qS → Prop} {g : Nat → qS → Prop}  (H : f s) : qR w 10 qm129 266 [] [] s (qPV f g) := by
  exact qS_vreturn qd_129_266 rfl (Or.inl ⟨rfl, H⟩)
set_option maxRecDepth 100000 in
theorem k130 {w : qE} {s : qS}  {f : Int → qS → Prop} {g : Nat → qS → Prop}  (H : qW w 3 131 [.ref 25] s (qPI (fun r1 s1 => qW w 3 131 [.ref 25] s1 (qPI (fun r2 s2 => f (qor (qshl r1 16) r2) s2) g)) g)) : qW w 4 130 [.ref 25] s (qPI f g) := by
  refine qW.of (M := qm130) (l := [(0, .ref 25)]) qtm_130 rfl (Nat.le_of_ble_eq_true rfl) (zsub_c rfl zsub_n) ?_
  refine qS_aload_n qd_130_0 rfl ?_
  refine qS_cvI qd_130_1 (qml_8_88 w) rfl qtm_131 (hpc_25 _ _) (Nat.le_of_ble_eq_true rfl) rfl (Nat.le_of_ble_eq_true rfl) H (fun r1 s1 H => ?_) (fun x s1 H => Or.inr ⟨x, rfl, H⟩)
  refine qS_istore_n (a := [(0, .ref 25)]) qd_130_4 (Nat.le_of_ble_eq_true rfl) (zsub_c rfl zsub_n) rfl ?_
  refine qS_aload_n qd_130_5 rfl ?_
  refine qS_cvI qd_130_6 (qml_8_88 w) rfl qtm_131 (hpc_25 _ _) (Nat.le_of_ble_eq_true rfl) rfl (Nat.le_of_ble_eq_true rfl) H (fun r2 s2 H => ?_) (fun x s1 H => Or.inr ⟨x, rfl, H⟩)
  refine qS_istore_n (a := [(1, qI r1)]) qd_130_9 (Nat.le_of_ble_eq_true rfl) (zsub_c rfl zsub_n) rfl ?_
  refine qS_iload_n qd_130_10 rfl ?_
  refine qS_bipush qd_130_11 (by decide) ?_
  refine qS_ishl (a := r1) (b := 16) qd_130_13 ?_
  refine qS_iload_n qd_130_14 rfl ?_
  refine qS_ior (a := qshl r1 16) (b := r2) qd_130_15 ?_
  exact qS_ireturn qd_130_16 rfl (Or.inl ⟨_, rfl, H⟩)
set_option maxRecDepth 100000 in
theorem k131 {w : qE} {s : qS}  {f : Int → qS → Prop} {g : Nat → qS → Prop}  (H : qW w 2 132 [.ref 25] s (qPI (fun r1 s1 => qW w 2 132 [.ref 25] s1 (qPI (fun r2 s2 => f (qor (qshl r1 8) r2) s2) g)) g)) : qW w 3 131 [.ref 25] s (qPI f g) := by
  refine qW.of (M := qm131) (l := [(0, .ref 25)]) qtm_131 rfl (Nat.le_of_ble_eq_true rfl) (zsub_c rfl zsub_n) ?_
  refine qS_aload_n qd_131_0 rfl ?_
  refine qS_cvI qd_131_1 (qml_8_84 w) rfl qtm_132 (hpc_25 _ _) (Nat.le_of_ble_eq_true rfl) rfl (Nat.le_of_ble_eq_true rfl) H (fun r1 s1 H => ?_) (fun x s1 H => Or.inr ⟨x, rfl, H⟩)
  refine qS_istore_n (a := [(0, .ref 25)]) qd_131_4 (Nat.le_of_ble_eq_true rfl) (zsub_c rfl zsub_n) rfl ?_
  refine qS_aload_n qd_131_5 rfl ?_
  refine qS_cvI qd_131_6 (qml_8_84 w) rfl qtm_132 (hpc_25 _ _) (Nat.le_of_ble_eq_true rfl) rfl (Nat.le_of_ble_eq_true rfl) H (fun r2 s2 H => ?_) (fun x s1 H => Or.inr ⟨x, rfl, H⟩)
  refine qS_istore_n (a := [(1, qI r1)]) qd_131_9 (Nat.le_of_ble_eq_true rfl) (zsub_c rfl zsub_n) rfl ?_
  refine qS_iload_n qd_131_10 rfl ?_
  refine qS_bipush qd_131_11 (by decide) ?_
  refine qS_ishl (a := r1) (b := 8) qd_131_13 ?_
  refine qS_iload_n qd_131_14 rfl ?_
  refine qS_ior (a := qshl r1 8) (b := r2) qd_131_15 ?_
  exact qS_ireturn qd_131_16 rfl (Or.inl ⟨_, rfl, H⟩)
set_option maxRecDepth 100000 in
theorem k132 {w : qE} {s : qS}  {f : Int → qS → Prop} {g : Nat → qS → Prop}  (H : Rg (s 25 5) ∧ Rg (s 25 4) ∧ (s 25 5 < s 25 4 → qR w 1 qm132 20 [(0, .ref 25)] [] s (qPI f g)) ∧ (s 25 4 ≤ s 25 5 → qW w 1 133 [.ref 25, qI (s 25 4)] s (qPI (fun r1 s1 => qR w 1 qm132 20 [(0, .ref 25)] [] s1 (qPI f g)) g))) : qW w 2 132 [.ref 25] s (qPI f g) := by
  refine qW.of (M := qm132) (l := [(0, .ref 25)]) qtm_132 rfl (Nat.le_of_ble_eq_true rfl) (zsub_c rfl zsub_n) ?_
  refine qS_aload_n qd_132_0 rfl ?_
  refine qS_getfield (v := qI (s 25 5)) qd_132_1 (qfl_8_70 w) (hpc_25 _ _) rfl ?_
  refine qS_aload_n qd_132_4 rfl ?_
  refine qS_getfield (v := qI (s 25 4)) qd_132_5 (qfl_8_73 w) (hpc_25 _ _) rfl ?_
  obtain ⟨h8a, h8b, H1, H2⟩ := H
  refine qS_icmp qd_132_8 rfl (zcnd_lt (a := s 25 5) (b := s 25 4) h8a h8b (fun t => qR w _ _ t _ _ _ _) (fun hc => ?_) (fun hc => ?_))
  · have H := H1 hc; clear H1 H2 hc
    exact qS_sub (zsub_c rfl zsub_n) H
  · have H := H2 hc; clear H1 H2 hc
    refine qS_aload_n qd_132_11 rfl ?_
    refine qS_aload_n qd_132_12 rfl ?_
    refine qS_getfield (v := qI (s 25 4)) qd_132_13 (qfl_8_73 w) (hpc_25 _ _) rfl ?_
    refine qS_cvI qd_132_16 (qml_8_76 w) rfl qtm_133 (hpc_25 _ _) (Nat.le_of_ble_eq_true rfl) rfl (Nat.le_of_ble_eq_true rfl) H (fun r1 s1 H => ?_) (fun x s1 H => Or.inr ⟨x, rfl, H⟩)
    refine qS_pop qd_132_19 rfl ?_
    exact qS_sub (zsub_c rfl zsub_n) H
set_option maxRecDepth 100000 in
theorem k132_20 {w : qE} {s : qS}  {f : Int → qS → Prop} {g : Nat → qS → Prop}  (H : qW w 1 134 [.ref 25] s (qPI (fun r2 s2 => Rg r2 ∧ (r2 = 0 → f 0 s2) ∧ (r2 ≠ 0 → (0 ≤ ((s2 25 5) + 1) - 1 ∧ ((s2 25 5) + 1) - 1 < 500 ∧ (f ((qset s2 25 5 ((s2 25 5) + 1)) 28 (((s2 25 5) + 1) - 1)) (qset s2 25 5 ((s2 25 5) + 1)))))) g)) : qR w 1 qm132 20 [(0, .ref 25)] [] s (qPI f g) := by
  refine qS_aload_n qd_132_20 rfl ?_
  refine qS_cvI qd_132_21 (qml_8_80 w) rfl qtm_134 (hpc_25 _ _) (Nat.le_of_ble_eq_true rfl) rfl (Nat.le_of_ble_eq_true rfl) H (fun r2 s2 H => ?_) (fun x s1 H => Or.inr ⟨x, rfl, H⟩)
  obtain ⟨h24a, H1, H2⟩ := H
  refine qS_if0 qd_132_24 rfl (zcnd_ne (a := r2) (b := 0) h24a ⟨by decide, by decide⟩ (fun t => qR w _ _ t _ _ _ _) (fun hc => ?_) (fun hc => ?_))
  · have H := H1 hc; clear H1 H2 hc
    refine qS_iconst qd_132_27 ?_
    exact qS_ireturn qd_132_28 rfl (Or.inl ⟨_, rfl, H⟩)
  · have H := H2 hc; clear H1 H2 hc
    refine qS_aload_n qd_132_29 rfl ?_
    refine qS_dup qd_132_30 rfl ?_
    refine qS_getfield (v := qI (s2 25 5)) qd_132_31 (qfl_8_70 w) (hpc_25 _ _) rfl ?_
    refine qS_iconst qd_132_34 ?_
    refine qS_iadd (a := s2 25 5) (b := 1) qd_132_35 ?_
    refine qS_putfield (s1 := qset s2 25 5 ((s2 25 5) + 1)) qd_132_36 (qfl_8_70 w) (hpc_25 _ _) (Nat.le_of_ble_eq_true rfl) rfl rfl rfl (hps_25_5 _ _ _) ?_
    refine qS_aload_n qd_132_39 rfl ?_
    refine qS_getfield (v := .ref 28) qd_132_40 (qfl_8_16 w) (hpc_25 _ _) rfl ?_
    refine qS_aload_n qd_132_43 rfl ?_
    refine qS_getfield (v := qI ((s2 25 5) + 1)) qd_132_44 (qfl_8_70 w) (hpc_25 _ _) rfl ?_
    refine qS_iconst qd_132_47 ?_
    refine qS_isub (a := (s2 25 5) + 1) (b := 1) qd_132_48 ?_
    obtain ⟨hl, hu, H⟩ := H
    refine qS_iaload (a := 28) (i := ((s2 25 5) + 1) - 1) qd_132_49 (Nat.le_of_ble_eq_true rfl) hl hu ?_
    exact qS_ireturn qd_132_50 rfl (Or.inl ⟨_, rfl, H⟩)
set_option maxRecDepth 100000 in
theorem k133 {w : qE} {s : qS} {p0 : Int} {f : Int → qS → Prop} {g : Nat → qS → Prop}  (H : Rg (s 25 6) ∧ (s 25 6 < 0 → qR w 0 qm133 12 [] [] (qset s 25 6 p0) (qPI f g)) ∧ (0 ≤ s 25 6 → qR w 0 qm133 12 [] [] s (qPI f g))) : qW w 1 133 [.ref 25, qI p0] s (qPI f g) := by
  refine qW.of (M := qm133) (l := [(0, .ref 25), (1, qI p0)]) qtm_133 rfl (Nat.le_of_ble_eq_true rfl) (zsub_c rfl (zsub_c rfl zsub_n)) ?_
  refine qS_aload_n qd_133_0 rfl ?_
  refine qS_getfield (v := qI (s 25 6)) qd_133_1 (qfl_8_19 w) (hpc_25 _ _) rfl ?_
  obtain ⟨h4a, H1, H2⟩ := H
  refine qS_if0 qd_133_4 rfl (zcnd_ge (a := s 25 6) (b := 0) h4a ⟨by decide, by decide⟩ (fun t => qR w _ _ t _ _ _ _) (fun hc => ?_) (fun hc => ?_))
  · have H := H1 hc; clear H1 H2 hc
    refine qS_aload_n qd_133_7 rfl ?_
    refine qS_iload_n qd_133_8 rfl ?_
    refine qS_putfield (s1 := qset s 25 6 p0) qd_133_9 (qfl_8_19 w) (hpc_25 _ _) (Nat.le_of_ble_eq_true rfl) rfl rfl rfl (hps_25_6 _ _ _) ?_
    exact qS_sub zsub_n H
  · have H := H2 hc; clear H1 H2 hc
    exact qS_sub zsub_n H
set_option maxRecDepth 100000 in
theorem k133_12 {w : qE} {s : qS}  {f : Int → qS → Prop} {g : Nat → qS → Prop}  (H : f 0 s) : qR w 0 qm133 12 [] [] s (qPI f g) := by
  refine qS_iconst qd_133_12 ?_
  exact qS_zreturn qd_133_13 rfl (Or.inl rfl) (Or.inl ⟨_, rfl, H⟩)
set_option maxRecDepth 100000 in
theorem k134 {w : qE} {s : qS}  {f : Int → qS → Prop} {g : Nat → qS → Prop}  (H : Rg (s 25 6) ∧ (s 25 6 < 0 → qR w 0 qm134 12 [] [qI 1] s (qPI f g)) ∧ (0 ≤ s 25 6 → qR w 0 qm134 12 [] [qI 0] s (qPI f g))) : qW w 1 134 [.ref 25] s (qPI f g) := by
  refine qW.of (M := qm134) (l := [(0, .ref 25)]) qtm_134 rfl (Nat.le_of_ble_eq_true rfl) (zsub_c rfl zsub_n) ?_
  refine qS_aload_n qd_134_0 rfl ?_
  refine qS_getfield (v := qI (s 25 6)) qd_134_1 (qfl_8_19 w) (hpc_25 _ _) rfl ?_
  obtain ⟨h4a, H1, H2⟩ := H
  refine qS_if0 qd_134_4 rfl (zcnd_ge (a := s 25 6) (b := 0) h4a ⟨by decide, by decide⟩ (fun t => qR w _ _ t _ _ _ _) (fun hc => ?_) (fun hc => ?_))
  · have H := H1 hc; clear H1 H2 hc
    refine qS_iconst qd_134_7 ?_
    refine qS_goto qd_134_8 rfl ?_
    exact qS_sub zsub_n H
  · have H := H2 hc; clear H1 H2 hc
    refine qS_iconst qd_134_11 ?_
    exact qS_sub zsub_n H
set_option maxRecDepth 100000 in
theorem k134_12 {w : qE} {s : qS} {k0 : Int} {f : Int → qS → Prop} {g : Nat → qS → Prop}  (H : ((k0 = 0 ∨ k0 = 1) ∧ f k0 s)) : qR w 0 qm134 12 [] [qI k0] s (qPI f g) := by
  exact qS_zreturn qd_134_12 rfl H.1 (Or.inl ⟨_, rfl, H.2⟩)
set_option maxRecDepth 100000 in
theorem k135 {w : qE} {s : qS}  {f : qS → Prop} {g : Nat → qS → Prop}  (H : qW w 3 131 [.ref 25] s (qPI (fun r1 s1 => qW w 1 134 [.ref 25] s1 (qPI (fun r2 s2 => Rg r2 ∧ (r2 = 0 → qR w 4 qm135 27 [(0, .ref 25), (2, qI r1)] [] s2 (qPV f g)) ∧ (r2 ≠ 0 → Rg r1 ∧ (r1 = 0 → qW w 1 133 [.ref 25, qI (s 25 5)] s2 (qPI (fun r3 s3 => qR w 4 qm135 27 [(0, .ref 25), (2, qI r1)] [] s3 (qPV f g)) g)) ∧ (r1 ≠ 0 → qR w 4 qm135 27 [(0, .ref 25), (2, qI r1)] [] s2 (qPV f g)))) g)) g)) : qW w 5 135 [.ref 25] s (qPV f g) := by
  refine qW.of (M := qm135) (l := [(0, .ref 25)]) qtm_135 rfl (Nat.le_of_ble_eq_true rfl) (zsub_c rfl zsub_n) ?_
  refine qS_aload_n qd_135_0 rfl ?_
  refine qS_getfield (v := qI (s 25 5)) qd_135_1 (qfl_8_70 w) (hpc_25 _ _) rfl ?_
  refine qS_istore_n (a := [(0, .ref 25)]) qd_135_4 (Nat.le_of_ble_eq_true rfl) (zsub_c rfl zsub_n) rfl ?_
  refine qS_aload_n qd_135_5 rfl ?_
  refine qS_cvI qd_135_6 (qml_8_88 w) rfl qtm_131 (hpc_25 _ _) (Nat.le_of_ble_eq_true rfl) rfl (Nat.le_of_ble_eq_true rfl) H (fun r1 s1 H => ?_) (fun x s1 H => Or.inr ⟨x, rfl, H⟩)
  refine qS_istore_n (a := [(1, qI (s 25 5)), (0, .ref 25)]) qd_135_9 (Nat.le_of_ble_eq_true rfl) (zsub_c rfl (zsub_c rfl zsub_n)) rfl ?_
  refine qS_aload_n qd_135_10 rfl ?_
  refine qS_cvI qd_135_11 (qml_8_80 w) rfl qtm_134 (hpc_25 _ _) (Nat.le_of_ble_eq_true rfl) rfl (Nat.le_of_ble_eq_true rfl) H (fun r2 s2 H => ?_) (fun x s1 H => Or.inr ⟨x, rfl, H⟩)
  obtain ⟨h14a, H1, H2⟩ := H
  refine qS_if0 qd_135_14 rfl (zcnd_eq (a := r2) (b := 0) h14a ⟨by decide, by decide⟩ (fun t => qR w _ _ t _ _ _ _) (fun hc => ?_) (fun hc => ?_))
  · have H := H1 hc; clear H1 H2 hc
    exact qS_sub (zsub_c rfl (zsub_c rfl zsub_n)) H
  · have H := H2 hc; clear H1 H2 hc
    refine qS_iload_n qd_135_17 rfl ?_
    obtain ⟨h18a, H1, H2⟩ := H
    refine qS_if0 qd_135_18 rfl (zcnd_ne (a := r1) (b := 0) h18a ⟨by decide, by decide⟩ (fun t => qR w _ _ t _ _ _ _) (fun hc => ?_) (fun hc => ?_))
    · have H := H1 hc; clear H1 H2 hc
      refine qS_aload_n qd_135_21 rfl ?_
      refine qS_iload_n qd_135_22 rfl ?_
      refine qS_cvI qd_135_23 (qml_8_76 w) rfl qtm_133 (hpc_25 _ _) (Nat.le_of_ble_eq_true rfl) rfl (Nat.le_of_ble_eq_true rfl) H (fun r3 s3 H => ?_) (fun x s1 H => Or.inr ⟨x, rfl, H⟩)
      refine qS_pop qd_135_26 rfl ?_
      exact qS_sub (zsub_c rfl (zsub_c rfl zsub_n)) H
    · have H := H2 hc; clear H1 H2 hc
      exact qS_sub (zsub_c rfl (zsub_c rfl zsub_n)) H
set_option maxRecDepth 100000 in
theorem k135_27 {w : qE} {s : qS} {v2 : Int} {f : qS → Prop} {g : Nat → qS → Prop}  (H : qR w 4 qm135 34 [(0, .ref 25), (2, qI v2), (3, qI 1)] [] (qset s 25 11 1) (qPV f g)) : qR w 4 qm135 27 [(0, .ref 25), (2, qI v2)] [] s (qPV f g) := by
  refine qS_aload_n qd_135_27 rfl ?_
  refine qS_iconst qd_135_28 ?_
  refine qS_putfield (s1 := qset s 25 11 1) qd_135_29 (qfl_8_95 w) (hpc_25 _ _) (Nat.le_of_ble_eq_true rfl) rfl rfl rfl (hps_25_11 _ _ _) ?_
  refine qS_iconst qd_135_32 ?_
  refine qS_istore_n (a := [(0, .ref 25), (2, qI v2)]) qd_135_33 (Nat.le_of_ble_eq_true rfl) (zsub_c rfl (zsub_c rfl zsub_n)) rfl ?_
  exact qS_sub (zsub_c rfl (zsub_c rfl (zsub_c rfl zsub_n))) H
set_option maxRecDepth 100000 in
theorem k135_34 {w : qE} {s : qS} {v2 : Int} {v3 : Int} {f : qS → Prop} {g : Nat → qS → Prop}  (H : Rg v3 ∧ Rg v2 ∧ (v3 < v2 → qW w 1 134 [.ref 25] s (qPI (fun r4 s4 => Rg r4 ∧ (r4 = 0 → qR w 4 qm135 271 [] [] s4 (qPV f g)) ∧ (r4 ≠ 0 → (0 ≤ v3 ∧ v3 < 520 ∧ ((0 ≤ v3 + 1 ∧ v3 + 1 < 520 ∧ (qW w 2 132 [.ref 25] (qset (qset s4 29 v3 (s4 25 5)) 29 (v3 + 1) ((-1))) (qPI (fun r5 s5 => qW w 1 134 [.ref 25] (qset s5 25 11 (v3 + 1)) (qPI (fun r6 s6 => Rg r6 ∧ (r6 = 0 → f s6) ∧ (r6 ≠ 0 → Rg r5 ∧ (r5 = 1 → qW w 4 136 [.ref 25] s6 (qPV (fun s7 => qR w 4 qm135 265 [(0, .ref 25), (2, qI v2), (3, qI v3)] [] s7 (qPV f g)) g)) ∧ (r5 ≠ 1 → (r5 = 3 → qR w 4 qm135 117 [(0, .ref 25), (2, qI v2), (3, qI v3)] [] s6 (qPV f g)) ∧ (r5 ≠ 3 → (r5 = 4 → qR w 4 qm135 117 [(0, .ref 25), (2, qI v2), (3, qI v3)] [] s6 (qPV f g)) ∧ (r5 ≠ 4 → (r5 = 5 → qR w 4 qm135 138 [(0, .ref 25), (2, qI v2), (3, qI v3), (4, qI (s4 25 5))] [] s6 (qPV f g)) ∧ (r5 ≠ 5 → (r5 = 6 → qR w 4 qm135 138 [(0, .ref 25), (2, qI v2), (3, qI v3), (4, qI (s4 25 5))] [] s6 (qPV f g)) ∧ (r5 ≠ 6 → (r5 = 7 → qR w 4 qm135 196 [(0, .ref 25), (2, qI v2), (3, qI v3)] [] s6 (qPV f g)) ∧ (r5 ≠ 7 → (r5 = 8 → qR w 4 qm135 196 [(0, .ref 25), (2, qI v2), (3, qI v3)] [] s6 (qPV f g)) ∧ (r5 ≠ 8 → (r5 = 16 → qR w 4 qm135 196 [(0, .ref 25), (2, qI v2), (3, qI v3)] [] s6 (qPV f g)) ∧ (r5 ≠ 16 → (r5 = 15 → qW w 2 132 [.ref 25] s6 (qPI (fun r8 s8 => qW w 3 131 [.ref 25] s8 (qPI (fun r9 s9 => qR w 4 qm135 265 [(0, .ref 25), (2, qI v2), (3, qI v3)] [] s9 (qPV f g)) g)) g)) ∧ (r5 ≠ 15 → qW w 1 125 [qI r5, qI 9, qI 12] s6 (qPI (fun r10 s10 => Rg r10 ∧ (r10 = 0 → (r5 = 17 → qR w 4 qm135 250 [(0, .ref 25), (2, qI v2), (3, qI v3)] [] s10 (qPV f g)) ∧ (r5 ≠ 17 → (r5 = 18 → qR w 4 qm135 250 [(0, .ref 25), (2, qI v2), (3, qI v3)] [] s10 (qPV f g)) ∧ (r5 ≠ 18 → qW w 1 133 [.ref 25, qI (s4 25 5)] s10 (qPI (fun r11 s11 => qR w 4 qm135 265 [(0, .ref 25), (2, qI v2), (3, qI v3)] [] s11 (qPV f g)) g)))) ∧ (r10 ≠ 0 → qR w 4 qm135 250 [(0, .ref 25), (2, qI v2), (3, qI v3)] [] s10 (qPV f g))) g)))))))))))) g)) g))))))) g)) ∧ (v2 ≤ v3 → qR w 4 qm135 271 [] [] s (qPV f g))) : qR w 4 qm135 34 [(0, .ref 25), (2, qI v2), (3, qI v3)] [] s (qPV f g) := by
  refine qS_iload_n qd_135_34 rfl ?_
  refine qS_iload_n qd_135_35 rfl ?_
  obtain ⟨h36a, h36b, H1, H2⟩ := H
  refine qS_icmp qd_135_36 rfl (zcnd_ge (a := v3) (b := v2) h36a h36b (fun t => qR w _ _ t _ _ _ _) (fun hc => ?_) (fun hc => ?_))
  · have H := H1 hc; clear H1 H2 hc
    refine qS_aload_n qd_135_39 rfl ?_
    refine qS_cvI qd_135_40 (qml_8_80 w) rfl qtm_134 (hpc_25 _ _) (Nat.le_of_ble_eq_true rfl) rfl (Nat.le_of_ble_eq_true rfl) H (fun r4 s4 H => ?_) (fun x s1 H => Or.inr ⟨x, rfl, H⟩)
    obtain ⟨h43a, H1, H2⟩ := H
    refine qS_if0 qd_135_43 rfl (zcnd_eq (a := r4) (b := 0) h43a ⟨by decide, by decide⟩ (fun t => qR w _ _ t _ _ _ _) (fun hc => ?_) (fun hc => ?_))
    · have H := H1 hc; clear H1 H2 hc
      exact qS_sub zsub_n H
    · have H := H2 hc; clear H1 H2 hc
      refine qS_aload_n qd_135_46 rfl ?_
      refine qS_getfield (v := .ref 29) qd_135_47 (qfl_8_23 w) (hpc_25 _ _) rfl ?_
      refine qS_iload_n qd_135_50 rfl ?_
      refine qS_aload_n qd_135_51 rfl ?_
      refine qS_getfield (v := qI (s4 25 5)) qd_135_52 (qfl_8_70 w) (hpc_25 _ _) rfl ?_
      obtain ⟨hl, hu, H⟩ := H
      refine qS_iastore (a := 29) (i := v3) (v := s4 25 5) qd_135_55 (Nat.le_of_ble_eq_true rfl) hl hu ?_
      refine qS_aload_n qd_135_56 rfl ?_
      refine qS_getfield (v := .ref 29) qd_135_57 (qfl_8_23 w) (hpc_25 _ _) rfl ?_
      refine qS_iload_n qd_135_60 rfl ?_
      refine qS_iconst qd_135_61 ?_
      refine qS_iadd (a := v3) (b := 1) qd_135_62 ?_
      refine qS_iconst qd_135_63 ?_
      obtain ⟨hl, hu, H⟩ := H
      refine qS_iastore (a := 29) (i := v3 + 1) (v := (-1)) qd_135_64 (Nat.le_of_ble_eq_true rfl) hl hu ?_
      refine qS_aload_n qd_135_65 rfl ?_
      refine qS_getfield (v := qI (s4 25 5)) qd_135_66 (qfl_8_70 w) (hpc_25 _ _) rfl ?_
      refine qS_istore (a := [(0, .ref 25), (2, qI v2), (3, qI v3)]) qd_135_69 (Nat.le_of_ble_eq_true rfl) (zsub_c rfl (zsub_c rfl (zsub_c rfl zsub_n))) rfl ?_
      refine qS_aload_n qd_135_71 rfl ?_
      refine qS_cvI qd_135_72 (qml_8_84 w) rfl qtm_132 (hpc_25 _ _) (Nat.le_of_ble_eq_true rfl) rfl (Nat.le_of_ble_eq_true rfl) H (fun r5 s5 H => ?_) (fun x s1 H => Or.inr ⟨x, rfl, H⟩)
      refine qS_istore (a := [(4, qI (s4 25 5)), (0, .ref 25), (2, qI v2), (3, qI v3)]) qd_135_75 (Nat.le_of_ble_eq_true rfl) (zsub_c rfl (zsub_c rfl (zsub_c rfl (zsub_c rfl zsub_n)))) rfl ?_
      refine qS_aload_n qd_135_77 rfl ?_
      refine qS_iload_n qd_135_78 rfl ?_
      refine qS_iconst qd_135_79 ?_
      refine qS_iadd (a := v3) (b := 1) qd_135_80 ?_
      refine qS_putfield (s1 := qset s5 25 11 (v3 + 1)) qd_135_81 (qfl_8_95 w) (hpc_25 _ _) (Nat.le_of_ble_eq_true rfl) rfl rfl rfl (hps_25_11 _ _ _) ?_
      refine qS_aload_n qd_135_84 rfl ?_
      refine qS_cvI qd_135_85 (qml_8_80 w) rfl qtm_134 (hpc_25 _ _) (Nat.le_of_ble_eq_true rfl) rfl (Nat.le_of_ble_eq_true rfl) H (fun r6 s6 H => ?_) (fun x s1 H => Or.inr ⟨x, rfl, H⟩)
      obtain ⟨h88a, H1, H2⟩ := H
      refine qS_if0 qd_135_88 rfl (zcnd_ne (a := r6) (b := 0) h88a ⟨by decide, by decide⟩ (fun t => qR w _ _ t _ _ _ _) (fun hc => ?_) (fun hc => ?_))
      · have H := H1 hc; clear H1 H2 hc
        exact qS_vreturn qd_135_91 rfl (Or.inl ⟨rfl, H⟩)
      · have H := H2 hc; clear H1 H2 hc
        refine qS_iload qd_135_92 rfl ?_
        refine qS_iconst qd_135_94 ?_
        obtain ⟨h95a, H1, H2⟩ := H
        refine qS_icmp qd_135_95 rfl (zcnd_ne (a := r5) (b := 1) h95a ⟨by decide, by decide⟩ (fun t => qR w _ _ t _ _ _ _) (fun hc => ?_) (fun hc => ?_))
        · have H := H1 hc; clear H1 H2 hc
          refine qS_aload_n qd_135_98 rfl ?_
          refine qS_cvV qd_135_99 (qml_8_152 w) rfl qtm_136 (hpc_25 _ _) (Nat.le_of_ble_eq_true rfl) rfl (Nat.le_of_ble_eq_true rfl) H (fun s7 H => ?_) (fun x s1 H => Or.inr ⟨x, rfl, H⟩)
          refine qS_goto qd_135_102 rfl ?_
          exact qS_sub (zsub_c rfl (zsub_c rfl (zsub_c rfl zsub_n))) H
        · have H := H2 hc; clear H1 H2 hc
          refine qS_iload qd_135_105 rfl ?_
          refine qS_iconst qd_135_107 ?_
          obtain ⟨H1, H2⟩ := H
          refine qS_icmp qd_135_108 rfl (zcnd_eq (a := r5) (b := 3) h95a ⟨by decide, by decide⟩ (fun t => qR w _ _ t _ _ _ _) (fun hc => ?_) (fun hc => ?_))
          · have H := H1 hc; clear H1 H2 hc
            exact qS_sub (zsub_c rfl (zsub_c rfl (zsub_c rfl zsub_n))) H
          · have H := H2 hc; clear H1 H2 hc
            refine qS_iload qd_135_111 rfl ?_
            refine qS_iconst qd_135_113 ?_
            obtain ⟨H1, H2⟩ := H
            refine qS_icmp qd_135_114 rfl (zcnd_ne (a := r5) (b := 4) h95a ⟨by decide, by decide⟩ (fun t => qR w _ _ t _ _ _ _) (fun hc => ?_) (fun hc => ?_))
            · have H := H1 hc; clear H1 H2 hc
              exact qS_sub (zsub_c rfl (zsub_c rfl (zsub_c rfl zsub_n))) H
            · have H := H2 hc; clear H1 H2 hc
              refine qS_iload qd_135_125 rfl ?_
              refine qS_iconst qd_135_127 ?_
              obtain ⟨H1, H2⟩ := H
              refine qS_icmp qd_135_128 rfl (zcnd_eq (a := r5) (b := 5) h95a ⟨by decide, by decide⟩ (fun t => qR w _ _ t _ _ _ _) (fun hc => ?_) (fun hc => ?_))
              · have H := H1 hc; clear H1 H2 hc
                exact qS_sub (zsub_c rfl (zsub_c rfl (zsub_c rfl (zsub_c rfl zsub_n)))) H
              · have H := H2 hc; clear H1 H2 hc
                refine qS_iload qd_135_131 rfl ?_
                refine qS_bipush qd_135_133 (by decide) ?_
                obtain ⟨H1, H2⟩ := H
                refine qS_icmp qd_135_135 rfl (zcnd_ne (a := r5) (b := 6) h95a ⟨by decide, by decide⟩ (fun t => qR w _ _ t _ _ _ _) (fun hc => ?_) (fun hc => ?_))
                · have H := H1 hc; clear H1 H2 hc
                  exact qS_sub (zsub_c rfl (zsub_c rfl (zsub_c rfl (zsub_c rfl zsub_n)))) H
                · have H := H2 hc; clear H1 H2 hc
                  refine qS_iload qd_135_175 rfl ?_
                  refine qS_bipush qd_135_177 (by decide) ?_
                  obtain ⟨H1, H2⟩ := H
                  refine qS_icmp qd_135_179 rfl (zcnd_eq (a := r5) (b := 7) h95a ⟨by decide, by decide⟩ (fun t => qR w _ _ t _ _ _ _) (fun hc => ?_) (fun hc => ?_))
                  · have H := H1 hc; clear H1 H2 hc
                    exact qS_sub (zsub_c rfl (zsub_c rfl (zsub_c rfl zsub_n))) H
                  · have H := H2 hc; clear H1 H2 hc
                    refine qS_iload qd_135_182 rfl ?_
                    refine qS_bipush qd_135_184 (by decide) ?_
                    obtain ⟨H1, H2⟩ := H
                    refine qS_icmp qd_135_186 rfl (zcnd_eq (a := r5) (b := 8) h95a ⟨by decide, by decide⟩ (fun t => qR w _ _ t _ _ _ _) (fun hc => ?_) (fun hc => ?_))
                    · have H := H1 hc; clear H1 H2 hc
                      exact qS_sub (zsub_c rfl (zsub_c rfl (zsub_c rfl zsub_n))) H
                    · have H := H2 hc; clear H1 H2 hc
                      refine qS_iload qd_135_189 rfl ?_
                      refine qS_bipush qd_135_191 (by decide) ?_
                      obtain ⟨H1, H2⟩ := H
                      refine qS_icmp qd_135_193 rfl (zcnd_ne (a := r5) (b := 16) h95a ⟨by decide, by decide⟩ (fun t => qR w _ _ t _ _ _ _) (fun hc => ?_) (fun hc => ?_))
                      · have H := H1 hc; clear H1 H2 hc
                        exact qS_sub (zsub_c rfl (zsub_c rfl (zsub_c rfl zsub_n))) H
                      · have H := H2 hc; clear H1 H2 hc
                        refine qS_iload qd_135_204 rfl ?_
                        refine qS_bipush qd_135_206 (by decide) ?_
                        obtain ⟨H1, H2⟩ := H
                        refine qS_icmp qd_135_208 rfl (zcnd_ne (a := r5) (b := 15) h95a ⟨by decide, by decide⟩ (fun t => qR w _ _ t _ _ _ _) (fun hc => ?_) (fun hc => ?_))
                        · have H := H1 hc; clear H1 H2 hc
                          refine qS_aload_n qd_135_211 rfl ?_
                          refine qS_cvI qd_135_212 (qml_8_84 w) rfl qtm_132 (hpc_25 _ _) (Nat.le_of_ble_eq_true rfl) rfl (Nat.le_of_ble_eq_true rfl) H (fun r8 s8 H => ?_) (fun x s1 H => Or.inr ⟨x, rfl, H⟩)
                          refine qS_pop qd_135_215 rfl ?_
                          refine qS_aload_n qd_135_216 rfl ?_
                          refine qS_cvI qd_135_217 (qml_8_88 w) rfl qtm_131 (hpc_25 _ _) (Nat.le_of_ble_eq_true rfl) rfl (Nat.le_of_ble_eq_true rfl) H (fun r9 s9 H => ?_) (fun x s1 H => Or.inr ⟨x, rfl, H⟩)
                          refine qS_pop qd_135_220 rfl ?_
                          refine qS_goto qd_135_221 rfl ?_
                          exact qS_sub (zsub_c rfl (zsub_c rfl (zsub_c rfl zsub_n))) H
                        · have H := H2 hc; clear H1 H2 hc
                          refine qS_iload qd_135_224 rfl ?_
                          refine qS_bipush qd_135_226 (by decide) ?_
                          refine qS_bipush qd_135_228 (by decide) ?_
                          refine qS_csI qd_135_230 (qml_8_63 w) rfl (Nat.le_of_ble_eq_true rfl) rfl (Nat.le_of_ble_eq_true rfl) H (fun r10 s10 H => ?_) (fun x s1 H => Or.inr ⟨x, rfl, H⟩)
                          obtain ⟨h233a, H1, H2⟩ := H
                          refine qS_if0 qd_135_233 rfl (zcnd_ne (a := r10) (b := 0) h233a ⟨by decide, by decide⟩ (fun t => qR w _ _ t _ _ _ _) (fun hc => ?_) (fun hc => ?_))
                          · have H := H1 hc; clear H1 H2 hc
                            refine qS_iload qd_135_236 rfl ?_
                            refine qS_bipush qd_135_238 (by decide) ?_
                            obtain ⟨H1, H2⟩ := H
                            refine qS_icmp qd_135_240 rfl (zcnd_eq (a := r5) (b := 17) h95a ⟨by decide, by decide⟩ (fun t => qR w _ _ t _ _ _ _) (fun hc => ?_) (fun hc => ?_))
                            · have H := H1 hc; clear H1 H2 hc
                              exact qS_sub (zsub_c rfl (zsub_c rfl (zsub_c rfl zsub_n))) H
                            · have H := H2 hc; clear H1 H2 hc
                              refine qS_iload qd_135_243 rfl ?_
                              refine qS_bipush qd_135_245 (by decide) ?_
                              obtain ⟨H1, H2⟩ := H
                              refine qS_icmp qd_135_247 rfl (zcnd_ne (a := r5) (b := 18) h95a ⟨by decide, by decide⟩ (fun t => qR w _ _ t _ _ _ _) (fun hc => ?_) (fun hc => ?_))
                              · have H := H1 hc; clear H1 H2 hc
                                exact qS_sub (zsub_c rfl (zsub_c rfl (zsub_c rfl zsub_n))) H
                              · have H := H2 hc; clear H1 H2 hc
                                refine qS_aload_n qd_135_258 rfl ?_
                                refine qS_iload qd_135_259 rfl ?_
                                refine qS_cvI qd_135_261 (qml_8_76 w) rfl qtm_133 (hpc_25 _ _) (Nat.le_of_ble_eq_true rfl) rfl (Nat.le_of_ble_eq_true rfl) H (fun r11 s11 H => ?_) (fun x s1 H => Or.inr ⟨x, rfl, H⟩)
                                refine qS_pop qd_135_264 rfl ?_
                                exact qS_sub (zsub_c rfl (zsub_c rfl (zsub_c rfl zsub_n))) H
                          · have H := H2 hc; clear H1 H2 hc
                            exact qS_sub (zsub_c rfl (zsub_c rfl (zsub_c rfl zsub_n))) H
  · have H := H2 hc; clear H1 H2 hc
    exact qS_sub zsub_n H
set_option maxRecDepth 100000 in
theorem k135_117 {w : qE} {s : qS} {v2 : Int} {v3 : Int} {f : qS → Prop} {g : Nat → qS → Prop}  (H : qW w 4 130 [.ref 25] s (qPI (fun r12 s12 => qR w 4 qm135 265 [(0, .ref 25), (2, qI v2), (3, qI v3)] [] s12 (qPV f g)) g)) : qR w 4 qm135 117 [(0, .ref 25), (2, qI v2), (3, qI v3)] [] s (qPV f g) := by
  refine qS_aload_n qd_135_117 rfl ?_
  refine qS_cvI qd_135_118 (qml_8_155 w) rfl qtm_130 (hpc_25 _ _) (Nat.le_of_ble_eq_true rfl) rfl (Nat.le_of_ble_eq_true rfl) H (fun r12 s12 H => ?_) (fun x s1 H => Or.inr ⟨x, rfl, H⟩)
  refine qS_pop qd_135_121 rfl ?_
  refine qS_goto qd_135_122 rfl ?_
  exact qS_sub (zsub_c rfl (zsub_c rfl (zsub_c rfl zsub_n))) H
set_option maxRecDepth 100000 in
theorem k135_138 {w : qE} {s : qS} {v2 : Int} {v3 : Int} {v4 : Int} {f : qS → Prop} {g : Nat → qS → Prop}  (H : Rg (v3 + 1) ∧ Rg v2 ∧ (v3 + 1 = v2 → qW w 1 133 [.ref 25, qI v4] s (qPI (fun r13 s13 => qR w 4 qm135 152 [(0, .ref 25), (2, qI v2), (3, qI v3)] [] s13 (qPV f g)) g)) ∧ (v3 + 1 ≠ v2 → qR w 4 qm135 152 [(0, .ref 25), (2, qI v2), (3, qI v3)] [] s (qPV f g))) : qR w 4 qm135 138 [(0, .ref 25), (2, qI v2), (3, qI v3), (4, qI v4)] [] s (qPV f g) := by
  refine qS_iload_n qd_135_138 rfl ?_
  refine qS_iconst qd_135_139 ?_
  refine qS_iadd (a := v3) (b := 1) qd_135_140 ?_
  refine qS_iload_n qd_135_141 rfl ?_
  obtain ⟨h142a, h142b, H1, H2⟩ := H
  refine qS_icmp qd_135_142 rfl (zcnd_ne (a := v3 + 1) (b := v2) h142a h142b (fun t => qR w _ _ t _ _ _ _) (fun hc => ?_) (fun hc => ?_))
  · have H := H1 hc; clear H1 H2 hc
    refine qS_aload_n qd_135_145 rfl ?_
    refine qS_iload qd_135_146 rfl ?_
    refine qS_cvI qd_135_148 (qml_8_76 w) rfl qtm_133 (hpc_25 _ _) (Nat.le_of_ble_eq_true rfl) rfl (Nat.le_of_ble_eq_true rfl) H (fun r13 s13 H => ?_) (fun x s1 H => Or.inr ⟨x, rfl, H⟩)
    refine qS_pop qd_135_151 rfl ?_
    exact qS_sub (zsub_c rfl (zsub_c rfl (zsub_c rfl zsub_n))) H
  · have H := H2 hc; clear H1 H2 hc
    exact qS_sub (zsub_c rfl (zsub_c rfl (zsub_c rfl zsub_n))) H
set_option maxRecDepth 100000 in
theorem k135_196 {w : qE} {s : qS} {v2 : Int} {v3 : Int} {f : qS → Prop} {g : Nat → qS → Prop}  (H : qW w 3 131 [.ref 25] s (qPI (fun r14 s14 => qR w 4 qm135 265 [(0, .ref 25), (2, qI v2), (3, qI v3)] [] s14 (qPV f g)) g)) : qR w 4 qm135 196 [(0, .ref 25), (2, qI v2), (3, qI v3)] [] s (qPV f g) := by
  refine qS_aload_n qd_135_196 rfl ?_
  refine qS_cvI qd_135_197 (qml_8_88 w) rfl qtm_131 (hpc_25 _ _) (Nat.le_of_ble_eq_true rfl) rfl (Nat.le_of_ble_eq_true rfl) H (fun r14 s14 H => ?_) (fun x s1 H => Or.inr ⟨x, rfl, H⟩)
  refine qS_pop qd_135_200 rfl ?_
  refine qS_goto qd_135_201 rfl ?_
  exact qS_sub (zsub_c rfl (zsub_c rfl (zsub_c rfl zsub_n))) H
set_option maxRecDepth 100000 in
theorem k135_250 {w : qE} {s : qS} {v2 : Int} {v3 : Int} {f : qS → Prop} {g : Nat → qS → Prop}  (H : qW w 4 130 [.ref 25] s (qPI (fun r15 s15 => qR w 4 qm135 265 [(0, .ref 25), (2, qI v2), (3, qI v3)] [] s15 (qPV f g)) g)) : qR w 4 qm135 250 [(0, .ref 25), (2, qI v2), (3, qI v3)] [] s (qPV f g) := by
  refine qS_aload_n qd_135_250 rfl ?_
  refine qS_cvI qd_135_251 (qml_8_155 w) rfl qtm_130 (hpc_25 _ _) (Nat.le_of_ble_eq_true rfl) rfl (Nat.le_of_ble_eq_true rfl) H (fun r15 s15 H => ?_) (fun x s1 H => Or.inr ⟨x, rfl, H⟩)
  refine qS_pop qd_135_254 rfl ?_
  refine qS_goto qd_135_255 rfl ?_
  exact qS_sub (zsub_c rfl (zsub_c rfl (zsub_c rfl zsub_n))) H
set_option maxRecDepth 100000 in
theorem k135_265 {w : qE} {s : qS} {v2 : Int} {v3 : Int} {f : qS → Prop} {g : Nat → qS → Prop}  (H : qR w 4 qm135 34 [(0, .ref 25), (2, qI v2), (3, qI (v3 + 1))] [] s (qPV f g)) : qR w 4 qm135 265 [(0, .ref 25), (2, qI v2), (3, qI v3)] [] s (qPV f g) := by
  refine qS_iinc (v := v3) (a := [(0, .ref 25), (2, qI v2)]) qd_135_265 (Nat.le_of_ble_eq_true rfl) rfl (zsub_c rfl (zsub_c rfl zsub_n)) rfl ?_
  refine qS_goto qd_135_268 rfl ?_
  exact qS_sub (zsub_c rfl (zsub_c rfl (zsub_c rfl zsub_n))) H
set_option maxRecDepth 100000 in
theorem k135_271 {w : qE} {s : qS}  {f : qS → Prop} {g : Nat → qS → Prop}  (H : f s) : qR w 4 qm135 271 [] [] s (qPV f g) := by
  exact qS_vreturn qd_135_271 rfl (Or.inl ⟨rfl, H⟩)
set_option maxRecDepth 100000 in
theorem k135_152 {w : qE} {s : qS} {v2 : Int} {v3 : Int} {f : qS → Prop} {g : Nat → qS → Prop}  (H : qW w 4 130 [.ref 25] s (qPI (fun r16 s16 => qW w 4 130 [.ref 25] s16 (qPI (fun r17 s17 => qR w 4 qm135 265 [(0, .ref 25), (2, qI v2), (3, qI (v3 + 1))] [] (qset s17 25 11 ((v3 + 1) + 1)) (qPV f g)) g)) g)) : qR w 4 qm135 152 [(0, .ref 25), (2, qI v2), (3, qI v3)] [] s (qPV f g) := by
  refine qS_aload_n qd_135_152 rfl ?_
  refine qS_cvI qd_135_153 (qml_8_155 w) rfl qtm_130 (hpc_25 _ _) (Nat.le_of_ble_eq_true rfl) rfl (Nat.le_of_ble_eq_true rfl) H (fun r16 s16 H => ?_) (fun x s1 H => Or.inr ⟨x, rfl, H⟩)
  refine qS_pop qd_135_156 rfl ?_
  refine qS_aload_n qd_135_157 rfl ?_
  refine qS_cvI qd_135_158 (qml_8_155 w) rfl qtm_130 (hpc_25 _ _) (Nat.le_of_ble_eq_true rfl) rfl (Nat.le_of_ble_eq_true rfl) H (fun r17 s17 H => ?_) (fun x s1 H => Or.inr ⟨x, rfl, H⟩)
  refine qS_pop qd_135_161 rfl ?_
  refine qS_iinc (v := v3) (a := [(0, .ref 25), (2, qI v2)]) qd_135_162 (Nat.le_of_ble_eq_true rfl) rfl (zsub_c rfl (zsub_c rfl zsub_n)) rfl ?_
  refine qS_aload_n qd_135_165 rfl ?_
  refine qS_iload_n qd_135_166 rfl ?_
  refine qS_iconst qd_135_167 ?_
  refine qS_iadd (a := v3 + 1) (b := 1) qd_135_168 ?_
  refine qS_putfield (s1 := qset s17 25 11 ((v3 + 1) + 1)) qd_135_169 (qfl_8_95 w) (hpc_25 _ _) (Nat.le_of_ble_eq_true rfl) rfl rfl rfl (hps_25_11 _ _ _) ?_
  refine qS_goto qd_135_172 rfl ?_
  exact qS_sub (zsub_c rfl (zsub_c rfl (zsub_c rfl zsub_n))) H
set_option maxRecDepth 100000 in
theorem k136 {w : qE} {s : qS}  {f : qS → Prop} {g : Nat → qS → Prop}  (H : qW w 3 131 [.ref 25] s (qPI (fun r1 s1 => qW w 1 134 [.ref 25] s1 (qPI (fun r2 s2 => Rg r2 ∧ (r2 = 0 → qR w 3 qm136 36 [(0, .ref 25), (2, qI ((s1 25 5) + r1))] [] s2 (qPV f g)) ∧ (r2 ≠ 0 → Rg ((s1 25 5) + r1) ∧ Rg (s2 25 4) ∧ (s2 25 4 < (s1 25 5) + r1 → qW w 1 133 [.ref 25, qI (s2 25 4)] s2 (qPI (fun r3 s3 => qR w 3 qm136 36 [(0, .ref 25), (2, qI ((s1 25 5) + r1))] [] s3 (qPV f g)) g)) ∧ ((s1 25 5) + r1 ≤ s2 25 4 → qR w 3 qm136 36 [(0, .ref 25), (2, qI ((s1 25 5) + r1))] [] s2 (qPV f g)))) g)) g)) : qW w 4 136 [.ref 25] s (qPV f g) := by
  refine qW.of (M := qm136) (l := [(0, .ref 25)]) qtm_136 rfl (Nat.le_of_ble_eq_true rfl) (zsub_c rfl zsub_n) ?_
  refine qS_aload_n qd_136_0 rfl ?_
  refine qS_cvI qd_136_1 (qml_8_88 w) rfl qtm_131 (hpc_25 _ _) (Nat.le_of_ble_eq_true rfl) rfl (Nat.le_of_ble_eq_true rfl) H (fun r1 s1 H => ?_) (fun x s1 H => Or.inr ⟨x, rfl, H⟩)
  refine qS_istore_n (a := [(0, .ref 25)]) qd_136_4 (Nat.le_of_ble_eq_true rfl) (zsub_c rfl zsub_n) rfl ?_
  refine qS_aload_n qd_136_5 rfl ?_
  refine qS_getfield (v := qI (s1 25 5)) qd_136_6 (qfl_8_70 w) (hpc_25 _ _) rfl ?_
  refine qS_iload_n qd_136_9 rfl ?_
  refine qS_iadd (a := s1 25 5) (b := r1) qd_136_10 ?_
  refine qS_istore_n (a := [(0, .ref 25)]) qd_136_11 (Nat.le_of_ble_eq_true rfl) (zsub_c rfl zsub_n) rfl ?_
  refine qS_aload_n qd_136_12 rfl ?_
  refine qS_cvI qd_136_13 (qml_8_80 w) rfl qtm_134 (hpc_25 _ _) (Nat.le_of_ble_eq_true rfl) rfl (Nat.le_of_ble_eq_true rfl) H (fun r2 s2 H => ?_) (fun x s1 H => Or.inr ⟨x, rfl, H⟩)
  obtain ⟨h16a, H1, H2⟩ := H
  refine qS_if0 qd_136_16 rfl (zcnd_eq (a := r2) (b := 0) h16a ⟨by decide, by decide⟩ (fun t => qR w _ _ t _ _ _ _) (fun hc => ?_) (fun hc => ?_))
  · have H := H1 hc; clear H1 H2 hc
    exact qS_sub (zsub_c rfl (zsub_c rfl zsub_n)) H
  · have H := H2 hc; clear H1 H2 hc
    refine qS_iload_n qd_136_19 rfl ?_
    refine qS_aload_n qd_136_20 rfl ?_
    refine qS_getfield (v := qI (s2 25 4)) qd_136_21 (qfl_8_73 w) (hpc_25 _ _) rfl ?_
    obtain ⟨h24a, h24b, H1, H2⟩ := H
    refine qS_icmp qd_136_24 rfl (zcnd_le (a := (s1 25 5) + r1) (b := s2 25 4) h24a h24b (fun t => qR w _ _ t _ _ _ _) (fun hc => ?_) (fun hc => ?_))
    · have H := H1 hc; clear H1 H2 hc
      refine qS_aload_n qd_136_27 rfl ?_
      refine qS_aload_n qd_136_28 rfl ?_
      refine qS_getfield (v := qI (s2 25 4)) qd_136_29 (qfl_8_73 w) (hpc_25 _ _) rfl ?_
      refine qS_cvI qd_136_32 (qml_8_76 w) rfl qtm_133 (hpc_25 _ _) (Nat.le_of_ble_eq_true rfl) rfl (Nat.le_of_ble_eq_true rfl) H (fun r3 s3 H => ?_) (fun x s1 H => Or.inr ⟨x, rfl, H⟩)
      refine qS_pop qd_136_35 rfl ?_
      exact qS_sub (zsub_c rfl (zsub_c rfl zsub_n)) H
    · have H := H2 hc; clear H1 H2 hc
      exact qS_sub (zsub_c rfl (zsub_c rfl zsub_n)) H
set_option maxRecDepth 100000 in
theorem k136_36 {w : qE} {s : qS} {v2 : Int} {f : qS → Prop} {g : Nat → qS → Prop}  (H : qW w 1 134 [.ref 25] s (qPI (fun r4 s4 => Rg r4 ∧ (r4 = 0 → qR w 3 qm136 183 [] [] s4 (qPV f g)) ∧ (r4 ≠ 0 → Rg (s4 25 5) ∧ Rg v2 ∧ (s4 25 5 < v2 → (0 ≤ s4 25 5 ∧ s4 25 5 < 500 ∧ (qW w 1 137 [qI (s4 28 (s4 25 5))] s4 (qPI (fun r5 s5 => qW w 1 125 [qI (s4 28 (s4 25 5)), qI 1, qI 127] s5 (qPI (fun r6 s6 => Rg r6 ∧ (r6 = 0 → qW w 1 125 [qI (s4 28 (s4 25 5)), qI 192, qI 239] s6 (qPI (fun r7 s7 => Rg r7 ∧ (r7 = 0 → qR w 3 qm136 105 [(0, .ref 25), (2, qI v2), (4, qI r5)] [] s7 (qPV f g)) ∧ (r7 ≠ 0 → Rg ((s7 25 5) + r5) ∧ (v2 < (s7 25 5) + r5 → qR w 3 qm136 105 [(0, .ref 25), (2, qI v2), (4, qI r5)] [] s7 (qPV f g)) ∧ ((s7 25 5) + r5 ≤ v2 → qR w 3 qm136 101 [(0, .ref 25), (2, qI v2), (4, qI r5)] [] s7 (qPV f g)))) g)) ∧ (r6 ≠ 0 → qR w 3 qm136 101 [(0, .ref 25), (2, qI v2), (4, qI r5)] [] s6 (qPV f g))) g)) g)))) ∧ (v2 ≤ s4 25 5 → qR w 3 qm136 183 [] [] s4 (qPV f g)))) g)) : qR w 3 qm136 36 [(0, .ref 25), (2, qI v2)] [] s (qPV f g) := by
  refine qS_aload_n qd_136_36 rfl ?_
  refine qS_cvI qd_136_37 (qml_8_80 w) rfl qtm_134 (hpc_25 _ _) (Nat.le_of_ble_eq_true rfl) rfl (Nat.le_of_ble_eq_true rfl) H (fun r4 s4 H => ?_) (fun x s1 H => Or.inr ⟨x, rfl, H⟩)
  obtain ⟨h40a, H1, H2⟩ := H
  refine qS_if0 qd_136_40 rfl (zcnd_eq (a := r4) (b := 0) h40a ⟨by decide, by decide⟩ (fun t => qR w _ _ t _ _ _ _) (fun hc => ?_) (fun hc => ?_))
  · have H := H1 hc; clear H1 H2 hc
    exact qS_sub zsub_n H
  · have H := H2 hc; clear H1 H2 hc
    refine qS_aload_n qd_136_43 rfl ?_
    refine qS_getfield (v := qI (s4 25 5)) qd_136_44 (qfl_8_70 w) (hpc_25 _ _) rfl ?_
    refine qS_iload_n qd_136_47 rfl ?_
    obtain ⟨h48a, h48b, H1, H2⟩ := H
    refine qS_icmp qd_136_48 rfl (zcnd_ge (a := s4 25 5) (b := v2) h48a h48b (fun t => qR w _ _ t _ _ _ _) (fun hc => ?_) (fun hc => ?_))
    · have H := H1 hc; clear H1 H2 hc
      refine qS_aload_n qd_136_51 rfl ?_
      refine qS_getfield (v := .ref 28) qd_136_52 (qfl_8_16 w) (hpc_25 _ _) rfl ?_
      refine qS_aload_n qd_136_55 rfl ?_
      refine qS_getfield (v := qI (s4 25 5)) qd_136_56 (qfl_8_70 w) (hpc_25 _ _) rfl ?_
      obtain ⟨hl, hu, H⟩ := H
      refine qS_iaload (a := 28) (i := s4 25 5) qd_136_59 (Nat.le_of_ble_eq_true rfl) hl hu ?_
      refine qS_istore_n (a := [(0, .ref 25), (2, qI v2)]) qd_136_60 (Nat.le_of_ble_eq_true rfl) (zsub_c rfl (zsub_c rfl zsub_n)) rfl ?_
      refine qS_iload_n qd_136_61 rfl ?_
      refine qS_csI qd_136_62 (qml_8_98 w) rfl (Nat.le_of_ble_eq_true rfl) rfl (Nat.le_of_ble_eq_true rfl) H (fun r5 s5 H => ?_) (fun x s1 H => Or.inr ⟨x, rfl, H⟩)
      refine qS_istore (a := [(3, qI (s4 28 (s4 25 5))), (0, .ref 25), (2, qI v2)]) qd_136_65 (Nat.le_of_ble_eq_true rfl) (zsub_c rfl (zsub_c rfl (zsub_c rfl zsub_n))) rfl ?_
      refine qS_iload_n qd_136_67 rfl ?_
      refine qS_iconst qd_136_68 ?_
      refine qS_bipush qd_136_69 (by decide) ?_
      refine qS_csI qd_136_71 (qml_8_63 w) rfl (Nat.le_of_ble_eq_true rfl) rfl (Nat.le_of_ble_eq_true rfl) H (fun r6 s6 H => ?_) (fun x s1 H => Or.inr ⟨x, rfl, H⟩)
      obtain ⟨h74a, H1, H2⟩ := H
      refine qS_if0 qd_136_74 rfl (zcnd_ne (a := r6) (b := 0) h74a ⟨by decide, by decide⟩ (fun t => qR w _ _ t _ _ _ _) (fun hc => ?_) (fun hc => ?_))
      · have H := H1 hc; clear H1 H2 hc
        refine qS_iload_n qd_136_77 rfl ?_
        refine qS_sipush qd_136_78 (by decide) ?_
        refine qS_sipush qd_136_81 (by decide) ?_
        refine qS_csI qd_136_84 (qml_8_63 w) rfl (Nat.le_of_ble_eq_true rfl) rfl (Nat.le_of_ble_eq_true rfl) H (fun r7 s7 H => ?_) (fun x s1 H => Or.inr ⟨x, rfl, H⟩)
        obtain ⟨h87a, H1, H2⟩ := H
        refine qS_if0 qd_136_87 rfl (zcnd_eq (a := r7) (b := 0) h87a ⟨by decide, by decide⟩ (fun t => qR w _ _ t _ _ _ _) (fun hc => ?_) (fun hc => ?_))
        · have H := H1 hc; clear H1 H2 hc
          exact qS_sub (zsub_c rfl (zsub_c rfl (zsub_c rfl zsub_n))) H
        · have H := H2 hc; clear H1 H2 hc
          refine qS_aload_n qd_136_90 rfl ?_
          refine qS_getfield (v := qI (s7 25 5)) qd_136_91 (qfl_8_70 w) (hpc_25 _ _) rfl ?_
          refine qS_iload qd_136_94 rfl ?_
          refine qS_iadd (a := s7 25 5) (b := r5) qd_136_96 ?_
          refine qS_iload_n qd_136_97 rfl ?_
          obtain ⟨h98a, H1, H2⟩ := H
          refine qS_icmp qd_136_98 rfl (zcnd_gt (a := (s7 25 5) + r5) (b := v2) h98a h48b (fun t => qR w _ _ t _ _ _ _) (fun hc => ?_) (fun hc => ?_))
          · have H := H1 hc; clear H1 H2 hc
            exact qS_sub (zsub_c rfl (zsub_c rfl (zsub_c rfl zsub_n))) H
          · have H := H2 hc; clear H1 H2 hc
            exact qS_sub (zsub_c rfl (zsub_c rfl (zsub_c rfl zsub_n))) H
      · have H := H2 hc; clear H1 H2 hc
        exact qS_sub (zsub_c rfl (zsub_c rfl (zsub_c rfl zsub_n))) H
    · have H := H2 hc; clear H1 H2 hc
      exact qS_sub zsub_n H
set_option maxRecDepth 100000 in
theorem k136_101 {w : qE} {s : qS} {v2 : Int} {v4 : Int} {f : qS → Prop} {g : Nat → qS → Prop}  (H : qR w 3 qm136 106 [(0, .ref 25), (2, qI v2), (4, qI v4)] [qI 1] s (qPV f g)) : qR w 3 qm136 101 [(0, .ref 25), (2, qI v2), (4, qI v4)] [] s (qPV f g) := by
  refine qS_iconst qd_136_101 ?_
  refine qS_goto qd_136_102 rfl ?_
  exact qS_sub (zsub_c rfl (zsub_c rfl (zsub_c rfl zsub_n))) H
set_option maxRecDepth 100000 in
theorem k136_105 {w : qE} {s : qS} {v2 : Int} {v4 : Int} {f : qS → Prop} {g : Nat → qS → Prop}  (H : qR w 3 qm136 106 [(0, .ref 25), (2, qI v2), (4, qI v4)] [qI 0] s (qPV f g)) : qR w 3 qm136 105 [(0, .ref 25), (2, qI v2), (4, qI v4)] [] s (qPV f g) := by
  refine qS_iconst qd_136_105 ?_
  exact qS_sub (zsub_c rfl (zsub_c rfl (zsub_c rfl zsub_n))) H
set_option maxRecDepth 100000 in
theorem k136_183 {w : qE} {s : qS}  {f : qS → Prop} {g : Nat → qS → Prop}  (H : f s) : qR w 3 qm136 183 [] [] s (qPV f g) := by
  exact qS_vreturn qd_136_183 rfl (Or.inl ⟨rfl, H⟩)
set_option maxRecDepth 100000 in
theorem k136_106 {w : qE} {s : qS} {v2 : Int} {v4 : Int} {k0 : Int} {f : qS → Prop} {g : Nat → qS → Prop}  (H : qR w 3 qm136 111 [(0, .ref 25), (2, qI v2), (4, qI v4), (5, qI k0), (6, qI 1)] [] s (qPV f g)) : qR w 3 qm136 106 [(0, .ref 25), (2, qI v2), (4, qI v4)] [qI k0] s (qPV f g) := by
  refine qS_istore (a := [(0, .ref 25), (2, qI v2), (4, qI v4)]) qd_136_106 (Nat.le_of_ble_eq_true rfl) (zsub_c rfl (zsub_c rfl (zsub_c rfl zsub_n))) rfl ?_
  refine qS_iconst qd_136_108 ?_
  refine qS_istore (a := [(5, qI k0), (0, .ref 25), (2, qI v2), (4, qI v4)]) qd_136_109 (Nat.le_of_ble_eq_true rfl) (zsub_c rfl (zsub_c rfl (zsub_c rfl (zsub_c rfl zsub_n)))) rfl ?_
  exact qS_sub (zsub_c rfl (zsub_c rfl (zsub_c rfl (zsub_c rfl (zsub_c rfl zsub_n))))) H
set_option maxRecDepth 100000 in
theorem k136_111 {w : qE} {s : qS} {v2 : Int} {v4 : Int} {v5 : Int} {v6 : Int} {f : qS → Prop} {g : Nat → qS → Prop}  (H : Rg v6 ∧ Rg v4 ∧ (v6 < v4 → Rg v5 ∧ (v5 = 0 → qR w 3 qm136 152 [(0, .ref 25), (2, qI v2), (4, qI v4), (5, qI v5)] [] s (qPV f g)) ∧ (v5 ≠ 0 → (0 ≤ (s 25 5) + v6 ∧ (s 25 5) + v6 < 500 ∧ (qW w 1 125 [qI (s 28 ((s 25 5) + v6)), qI 128, qI 191] s (qPI (fun r8 s8 => qR w 3 qm136 111 [(0, .ref 25), (2, qI v2), (4, qI v4), (5, qI r8), (6, qI (v6 + 1))] [] s8 (qPV f g)) g))))) ∧ (v4 ≤ v6 → qR w 3 qm136 152 [(0, .ref 25), (2, qI v2), (4, qI v4), (5, qI v5)] [] s (qPV f g))) : qR w 3 qm136 111 [(0, .ref 25), (2, qI v2), (4, qI v4), (5, qI v5), (6, qI v6)] [] s (qPV f g) := by
  refine qS_iload qd_136_111 rfl ?_
  refine qS_iload qd_136_113 rfl ?_
  obtain ⟨h115a, h115b, H1, H2⟩ := H
  refine qS_icmp qd_136_115 rfl (zcnd_ge (a := v6) (b := v4) h115a h115b (fun t => qR w _ _ t _ _ _ _) (fun hc => ?_) (fun hc => ?_))
  · have H := H1 hc; clear H1 H2 hc
    refine qS_iload qd_136_118 rfl ?_
    obtain ⟨h120a, H1, H2⟩ := H
    refine qS_if0 qd_136_120 rfl (zcnd_eq (a := v5) (b := 0) h120a ⟨by decide, by decide⟩ (fun t => qR w _ _ t _ _ _ _) (fun hc => ?_) (fun hc => ?_))
    · have H := H1 hc; clear H1 H2 hc
      exact qS_sub (zsub_c rfl (zsub_c rfl (zsub_c rfl (zsub_c rfl zsub_n)))) H
    · have H := H2 hc; clear H1 H2 hc
      refine qS_aload_n qd_136_123 rfl ?_
      refine qS_getfield (v := .ref 28) qd_136_124 (qfl_8_16 w) (hpc_25 _ _) rfl ?_
      refine qS_aload_n qd_136_127 rfl ?_
      refine qS_getfield (v := qI (s 25 5)) qd_136_128 (qfl_8_70 w) (hpc_25 _ _) rfl ?_
      refine qS_iload qd_136_131 rfl ?_
      refine qS_iadd (a := s 25 5) (b := v6) qd_136_133 ?_
      obtain ⟨hl, hu, H⟩ := H
      refine qS_iaload (a := 28) (i := (s 25 5) + v6) qd_136_134 (Nat.le_of_ble_eq_true rfl) hl hu ?_
      refine qS_sipush qd_136_135 (by decide) ?_
      refine qS_sipush qd_136_138 (by decide) ?_
      refine qS_csI qd_136_141 (qml_8_63 w) rfl (Nat.le_of_ble_eq_true rfl) rfl (Nat.le_of_ble_eq_true rfl) H (fun r8 s8 H => ?_) (fun x s1 H => Or.inr ⟨x, rfl, H⟩)
      refine qS_istore (a := [(0, .ref 25), (2, qI v2), (4, qI v4), (6, qI v6)]) qd_136_144 (Nat.le_of_ble_eq_true rfl) (zsub_c rfl (zsub_c rfl (zsub_c rfl (zsub_c rfl zsub_n)))) rfl ?_
      refine qS_iinc (v := v6) (a := [(5, qI r8), (0, .ref 25), (2, qI v2), (4, qI v4)]) qd_136_146 (Nat.le_of_ble_eq_true rfl) rfl (zsub_c rfl (zsub_c rfl (zsub_c rfl (zsub_c rfl zsub_n)))) rfl ?_
      refine qS_goto qd_136_149 rfl ?_
      exact qS_sub (zsub_c rfl (zsub_c rfl (zsub_c rfl (zsub_c rfl (zsub_c rfl zsub_n))))) H
  · have H := H2 hc; clear H1 H2 hc
    exact qS_sub (zsub_c rfl (zsub_c rfl (zsub_c rfl (zsub_c rfl zsub_n)))) H
set_option maxRecDepth 100000 in
theorem k136_152 {w : qE} {s : qS} {v2 : Int} {v4 : Int} {v5 : Int} {f : qS → Prop} {g : Nat → qS → Prop}  (H : Rg v5 ∧ (v5 = 0 → qW w 1 133 [.ref 25, qI (s 25 5)] s (qPI (fun r9 s9 => qR w 3 qm136 180 [(0, .ref 25), (2, qI v2)] [] s9 (qPV f g)) g)) ∧ (v5 ≠ 0 → qR w 3 qm136 180 [(0, .ref 25), (2, qI v2)] [] (qset s 25 5 ((s 25 5) + v4)) (qPV f g))) : qR w 3 qm136 152 [(0, .ref 25), (2, qI v2), (4, qI v4), (5, qI v5)] [] s (qPV f g) := by
  refine qS_iload qd_136_152 rfl ?_
  obtain ⟨h154a, H1, H2⟩ := H
  refine qS_if0 qd_136_154 rfl (zcnd_eq (a := v5) (b := 0) h154a ⟨by decide, by decide⟩ (fun t => qR w _ _ t _ _ _ _) (fun hc => ?_) (fun hc => ?_))
  · have H := H1 hc; clear H1 H2 hc
    refine qS_aload_n qd_136_171 rfl ?_
    refine qS_aload_n qd_136_172 rfl ?_
    refine qS_getfield (v := qI (s 25 5)) qd_136_173 (qfl_8_70 w) (hpc_25 _ _) rfl ?_
    refine qS_cvI qd_136_176 (qml_8_76 w) rfl qtm_133 (hpc_25 _ _) (Nat.le_of_ble_eq_true rfl) rfl (Nat.le_of_ble_eq_true rfl) H (fun r9 s9 H => ?_) (fun x s1 H => Or.inr ⟨x, rfl, H⟩)
    refine qS_pop qd_136_179 rfl ?_
    exact qS_sub (zsub_c rfl (zsub_c rfl zsub_n)) H
  · have H := H2 hc; clear H1 H2 hc
    refine qS_aload_n qd_136_157 rfl ?_
    refine qS_dup qd_136_158 rfl ?_
    refine qS_getfield (v := qI (s 25 5)) qd_136_159 (qfl_8_70 w) (hpc_25 _ _) rfl ?_
    refine qS_iload qd_136_162 rfl ?_
    refine qS_iadd (a := s 25 5) (b := v4) qd_136_164 ?_
    refine qS_putfield (s1 := qset s 25 5 ((s 25 5) + v4)) qd_136_165 (qfl_8_70 w) (hpc_25 _ _) (Nat.le_of_ble_eq_true rfl) rfl rfl rfl (hps_25_5 _ _ _) ?_
    refine qS_goto qd_136_168 rfl ?_
    exact qS_sub (zsub_c rfl (zsub_c rfl zsub_n)) H
set_option maxRecDepth 100000 in
theorem k136_180 {w : qE} {s : qS} {v2 : Int} {f : qS → Prop} {g : Nat → qS → Prop}  (H : qR w 3 qm136 36 [(0, .ref 25), (2, qI v2)] [] s (qPV f g)) : qR w 3 qm136 180 [(0, .ref 25), (2, qI v2)] [] s (qPV f g) := by
  refine qS_goto qd_136_180 rfl ?_
  exact qS_sub (zsub_c rfl (zsub_c rfl zsub_n)) H
set_option maxRecDepth 100000 in
theorem k137 {w : qE} {s : qS} {p0 : Int} {f : Int → qS → Prop} {g : Nat → qS → Prop}  (H : Rg p0 ∧ (p0 < 128 → qR w 0 qm137 23 [] [qI 1] s (qPI f g)) ∧ (128 ≤ p0 → (p0 < 224 → qR w 0 qm137 23 [] [qI 2] s (qPI f g)) ∧ (224 ≤ p0 → qR w 0 qm137 23 [] [qI 3] s (qPI f g)))) : qW w 1 137 [qI p0] s (qPI f g) := by
  refine qW.of (M := qm137) (l := [(0, qI p0)]) qtm_137 rfl (Nat.le_of_ble_eq_true rfl) (zsub_c rfl zsub_n) ?_
  refine qS_iload_n qd_137_0 rfl ?_
  refine qS_sipush qd_137_1 (by decide) ?_
  obtain ⟨h4a, H1, H2⟩ := H
  refine qS_icmp qd_137_4 rfl (zcnd_ge (a := p0) (b := 128) h4a ⟨by decide, by decide⟩ (fun t => qR w _ _ t _ _ _ _) (fun hc => ?_) (fun hc => ?_))
  · have H := H1 hc; clear H1 H2 hc
    refine qS_iconst qd_137_7 ?_
    refine qS_goto qd_137_8 rfl ?_
    exact qS_sub zsub_n H
  · have H := H2 hc; clear H1 H2 hc
    refine qS_iload_n qd_137_11 rfl ?_
    refine qS_sipush qd_137_12 (by decide) ?_
    obtain ⟨H1, H2⟩ := H
    refine qS_icmp qd_137_15 rfl (zcnd_ge (a := p0) (b := 224) h4a ⟨by decide, by decide⟩ (fun t => qR w _ _ t _ _ _ _) (fun hc => ?_) (fun hc => ?_))
    · have H := H1 hc; clear H1 H2 hc
      refine qS_iconst qd_137_18 ?_
      refine qS_goto qd_137_19 rfl ?_
      exact qS_sub zsub_n H
    · have H := H2 hc; clear H1 H2 hc
      refine qS_iconst qd_137_22 ?_
      exact qS_sub zsub_n H
set_option maxRecDepth 100000 in
theorem k137_23 {w : qE} {s : qS} {k0 : Int} {f : Int → qS → Prop} {g : Nat → qS → Prop}  (H : f k0 s) : qR w 0 qm137 23 [] [qI k0] s (qPI f g) := by
  exact qS_ireturn qd_137_23 rfl (Or.inl ⟨_, rfl, H⟩)
set_option maxRecDepth 100000 in
theorem k138 {w : qE} {s : qS}  {f : qS → Prop} {g : Nat → qS → Prop}  (H : qR w 7 qm138 2 [(0, .ref 25), (1, qI 1)] [] s (qPV f g)) : qW w 8 138 [.ref 25] s (qPV f g) := by
  refine qW.of (M := qm138) (l := [(0, .ref 25)]) qtm_138 rfl (Nat.le_of_ble_eq_true rfl) (zsub_c rfl zsub_n) ?_
  refine qS_iconst qd_138_0 ?_
  refine qS_istore_n (a := [(0, .ref 25)]) qd_138_1 (Nat.le_of_ble_eq_true rfl) (zsub_c rfl zsub_n) rfl ?_
  exact qS_sub (zsub_c rfl (zsub_c rfl zsub_n)) H
set_option maxRecDepth 100000 in
theorem k138_2 {w : qE} {s : qS} {v1 : Int} {f : qS → Prop} {g : Nat → qS → Prop}  (H : Rg v1 ∧ Rg (s 25 11) ∧ (v1 < s 25 11 → qW w 1 134 [.ref 25] s (qPI (fun r1 s1 => Rg r1 ∧ (r1 = 0 → qR w 7 qm138 50 [] [] s1 (qPV f g)) ∧ (r1 ≠ 0 → qW w 2 139 [.ref 25, qI v1] s1 (qPI (fun r2 s2 => Rg r2 ∧ (0 < r2 → qW w 7 140 [.ref 25, qI v1] s2 (qPI (fun r3 s3 => Rg r3 ∧ (r3 = 0 → (0 ≤ v1 ∧ v1 < 520 ∧ (qW w 1 133 [.ref 25, qI (s3 29 v1)] s3 (qPI (fun r4 s4 => qR w 7 qm138 44 [(0, .ref 25), (1, qI v1)] [] s4 (qPV f g)) g)))) ∧ (r3 ≠ 0 → qR w 7 qm138 44 [(0, .ref 25), (1, qI v1)] [] s3 (qPV f g))) g)) ∧ (r2 ≤ 0 → qR w 7 qm138 44 [(0, .ref 25), (1, qI v1)] [] s2 (qPV f g))) g))) g)) ∧ (s 25 11 ≤ v1 → qR w 7 qm138 50 [] [] s (qPV f g))) : qR w 7 qm138 2 [(0, .ref 25), (1, qI v1)] [] s (qPV f g) := by
  refine qS_iload_n qd_138_2 rfl ?_
  refine qS_aload_n qd_138_3 rfl ?_
  refine qS_getfield (v := qI (s 25 11)) qd_138_4 (qfl_8_95 w) (hpc_25 _ _) rfl ?_
  obtain ⟨h7a, h7b, H1, H2⟩ := H
  refine qS_icmp qd_138_7 rfl (zcnd_ge (a := v1) (b := s 25 11) h7a h7b (fun t => qR w _ _ t _ _ _ _) (fun hc => ?_) (fun hc => ?_))
  · have H := H1 hc; clear H1 H2 hc
    refine qS_aload_n qd_138_10 rfl ?_
    refine qS_cvI qd_138_11 (qml_8_80 w) rfl qtm_134 (hpc_25 _ _) (Nat.le_of_ble_eq_true rfl) rfl (Nat.le_of_ble_eq_true rfl) H (fun r1 s1 H => ?_) (fun x s1 H => Or.inr ⟨x, rfl, H⟩)
    obtain ⟨h14a, H1, H2⟩ := H
    refine qS_if0 qd_138_14 rfl (zcnd_eq (a := r1) (b := 0) h14a ⟨by decide, by decide⟩ (fun t => qR w _ _ t _ _ _ _) (fun hc => ?_) (fun hc => ?_))
    · have H := H1 hc; clear H1 H2 hc
      exact qS_sub zsub_n H
    · have H := H2 hc; clear H1 H2 hc
      refine qS_aload_n qd_138_17 rfl ?_
      refine qS_iload_n qd_138_18 rfl ?_
      refine qS_cvI qd_138_19 (qml_8_137 w) rfl qtm_139 (hpc_25 _ _) (Nat.le_of_ble_eq_true rfl) rfl (Nat.le_of_ble_eq_true rfl) H (fun r2 s2 H => ?_) (fun x s1 H => Or.inr ⟨x, rfl, H⟩)
      obtain ⟨h22a, H1, H2⟩ := H
      refine qS_if0 qd_138_22 rfl (zcnd_le (a := r2) (b := 0) h22a ⟨by decide, by decide⟩ (fun t => qR w _ _ t _ _ _ _) (fun hc => ?_) (fun hc => ?_))
      · have H := H1 hc; clear H1 H2 hc
        refine qS_aload_n qd_138_25 rfl ?_
        refine qS_iload_n qd_138_26 rfl ?_
        refine qS_cvI qd_138_27 (qml_8_168 w) rfl qtm_140 (hpc_25 _ _) (Nat.le_of_ble_eq_true rfl) rfl (Nat.le_of_ble_eq_true rfl) H (fun r3 s3 H => ?_) (fun x s1 H => Or.inr ⟨x, rfl, H⟩)
        obtain ⟨h30a, H1, H2⟩ := H
        refine qS_if0 qd_138_30 rfl (zcnd_ne (a := r3) (b := 0) h30a ⟨by decide, by decide⟩ (fun t => qR w _ _ t _ _ _ _) (fun hc => ?_) (fun hc => ?_))
        · have H := H1 hc; clear H1 H2 hc
          refine qS_aload_n qd_138_33 rfl ?_
          refine qS_aload_n qd_138_34 rfl ?_
          refine qS_getfield (v := .ref 29) qd_138_35 (qfl_8_23 w) (hpc_25 _ _) rfl ?_
          refine qS_iload_n qd_138_38 rfl ?_
          obtain ⟨hl, hu, H⟩ := H
          refine qS_iaload (a := 29) (i := v1) qd_138_39 (Nat.le_of_ble_eq_true rfl) hl hu ?_
          refine qS_cvI qd_138_40 (qml_8_76 w) rfl qtm_133 (hpc_25 _ _) (Nat.le_of_ble_eq_true rfl) rfl (Nat.le_of_ble_eq_true rfl) H (fun r4 s4 H => ?_) (fun x s1 H => Or.inr ⟨x, rfl, H⟩)
          refine qS_pop qd_138_43 rfl ?_
          exact qS_sub (zsub_c rfl (zsub_c rfl zsub_n)) H
        · have H := H2 hc; clear H1 H2 hc
          exact qS_sub (zsub_c rfl (zsub_c rfl zsub_n)) H
      · have H := H2 hc; clear H1 H2 hc
        exact qS_sub (zsub_c rfl (zsub_c rfl zsub_n)) H
  · have H := H2 hc; clear H1 H2 hc
    exact qS_sub zsub_n H
set_option maxRecDepth 100000 in
theorem k138_44 {w : qE} {s : qS} {v1 : Int} {f : qS → Prop} {g : Nat → qS → Prop}  (H : qR w 7 qm138 2 [(0, .ref 25), (1, qI (v1 + 1))] [] s (qPV f g)) : qR w 7 qm138 44 [(0, .ref 25), (1, qI v1)] [] s (qPV f g) := by
  refine qS_iinc (v := v1) (a := [(0, .ref 25)]) qd_138_44 (Nat.le_of_ble_eq_true rfl) rfl (zsub_c rfl zsub_n) rfl ?_
  refine qS_goto qd_138_47 rfl ?_
  exact qS_sub (zsub_c rfl (zsub_c rfl zsub_n)) H
set_option maxRecDepth 100000 in
theorem k138_50 {w : qE} {s : qS}  {f : qS → Prop} {g : Nat → qS → Prop}  (H : f s) : qR w 7 qm138 50 [] [] s (qPV f g) := by
  exact qS_vreturn qd_138_50 rfl (Or.inl ⟨rfl, H⟩)
set_option maxRecDepth 100000 in
theorem k139 {w : qE} {s : qS} {p0 : Int} {f : Int → qS → Prop} {g : Nat → qS → Prop}  (H : qW w 1 125 [qI p0, qI 1, qI ((s 25 11) - 1)] s (qPI (fun r1 s1 => Rg r1 ∧ (r1 = 0 → qR w 1 qm139 37 [] [] s1 (qPI f g)) ∧ (r1 ≠ 0 → (0 ≤ p0 ∧ p0 < 520 ∧ (Rg (s1 29 p0) ∧ (s1 29 p0 < 0 → qR w 1 qm139 37 [] [] s1 (qPI f g)) ∧ (0 ≤ s1 29 p0 → (0 ≤ p0 ∧ p0 < 520 ∧ ((0 ≤ s1 29 p0 ∧ s1 29 p0 < 500 ∧ (qR w 1 qm139 38 [] [qI (s1 28 (s1 29 p0))] s1 (qPI f g)))))))))) g)) : qW w 2 139 [.ref 25, qI p0] s (qPI f g) := by
  refine qW.of (M := qm139) (l := [(0, .ref 25), (1, qI p0)]) qtm_139 rfl (Nat.le_of_ble_eq_true rfl) (zsub_c rfl (zsub_c rfl zsub_n)) ?_
  refine qS_iload_n qd_139_0 rfl ?_
  refine qS_iconst qd_139_1 ?_
  refine qS_aload_n qd_139_2 rfl ?_
  refine qS_getfield (v := qI (s 25 11)) qd_139_3 (qfl_8_95 w) (hpc_25 _ _) rfl ?_
  refine qS_iconst qd_139_6 ?_
  refine qS_isub (a := s 25 11) (b := 1) qd_139_7 ?_
  refine qS_csI qd_139_8 (qml_8_63 w) rfl (Nat.le_of_ble_eq_true rfl) rfl (Nat.le_of_ble_eq_true rfl) H (fun r1 s1 H => ?_) (fun x s1 H => Or.inr ⟨x, rfl, H⟩)
  obtain ⟨h11a, H1, H2⟩ := H
  refine qS_if0 qd_139_11 rfl (zcnd_eq (a := r1) (b := 0) h11a ⟨by decide, by decide⟩ (fun t => qR w _ _ t _ _ _ _) (fun hc => ?_) (fun hc => ?_))
  · have H := H1 hc; clear H1 H2 hc
    exact qS_sub zsub_n H
  · have H := H2 hc; clear H1 H2 hc
    refine qS_aload_n qd_139_14 rfl ?_
    refine qS_getfield (v := .ref 29) qd_139_15 (qfl_8_23 w) (hpc_25 _ _) rfl ?_
    refine qS_iload_n qd_139_18 rfl ?_
    obtain ⟨hl, hu, H⟩ := H
    refine qS_iaload (a := 29) (i := p0) qd_139_19 (Nat.le_of_ble_eq_true rfl) hl hu ?_
    obtain ⟨h20a, H1, H2⟩ := H
    refine qS_if0 qd_139_20 rfl (zcnd_lt (a := s1 29 p0) (b := 0) h20a ⟨by decide, by decide⟩ (fun t => qR w _ _ t _ _ _ _) (fun hc => ?_) (fun hc => ?_))
    · have H := H1 hc; clear H1 H2 hc
      exact qS_sub zsub_n H
    · have H := H2 hc; clear H1 H2 hc
      refine qS_aload_n qd_139_23 rfl ?_
      refine qS_getfield (v := .ref 28) qd_139_24 (qfl_8_16 w) (hpc_25 _ _) rfl ?_
      refine qS_aload_n qd_139_27 rfl ?_
      refine qS_getfield (v := .ref 29) qd_139_28 (qfl_8_23 w) (hpc_25 _ _) rfl ?_
      refine qS_iload_n qd_139_31 rfl ?_
      obtain ⟨hl, hu, H⟩ := H
      refine qS_iaload (a := 29) (i := p0) qd_139_32 (Nat.le_of_ble_eq_true rfl) hl hu ?_
      obtain ⟨hl, hu, H⟩ := H
      refine qS_iaload (a := 28) (i := s1 29 p0) qd_139_33 (Nat.le_of_ble_eq_true rfl) hl hu ?_
      refine qS_goto qd_139_34 rfl ?_
      exact qS_sub zsub_n H
set_option maxRecDepth 100000 in
theorem k139_37 {w : qE} {s : qS}  {f : Int → qS → Prop} {g : Nat → qS → Prop}  (H : qR w 1 qm139 38 [] [qI 0] s (qPI f g)) : qR w 1 qm139 37 [] [] s (qPI f g) := by
  refine qS_iconst qd_139_37 ?_
  exact qS_sub zsub_n H
set_option maxRecDepth 100000 in
theorem k139_38 {w : qE} {s : qS} {k0 : Int} {f : Int → qS → Prop} {g : Nat → qS → Prop}  (H : f k0 s) : qR w 1 qm139 38 [] [qI k0] s (qPI f g) := by
  exact qS_ireturn qd_139_38 rfl (Or.inl ⟨_, rfl, H⟩)
