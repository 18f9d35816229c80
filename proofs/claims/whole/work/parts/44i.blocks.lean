/-! what the code does, in numbers: printed by a program of mine (wip/whole/gen_blocks.py, emit.py) -/
set_option maxRecDepth 100000 in
theorem k191 {w : qE} {s : qS} {p0 : Int} {f : Int → qS → Prop} {g : Nat → qS → Prop}  (H : qW w 1 177 [.ref 25] s (qPI (fun r1 s1 => Rg r1 ∧ (r1 = 0 → f 0 s1) ∧ (r1 ≠ 0 → qW w 1 125 [qI p0, qI 20, qI 119] s1 (qPI (fun r2 s2 => Rg r2 ∧ (r2 = 0 → Rg p0 ∧ (p0 = 0 → f (s2 25 12) s2) ∧ (p0 = 1 → f (s2 25 13) s2) ∧ (p0 = 2 → f (s2 25 14) s2) ∧ (p0 = 3 → f (s2 25 15) s2) ∧ (p0 = 4 → f (s2 35 0) s2) ∧ (p0 = 5 → f (s2 35 1) s2) ∧ (p0 = 6 → qW w 1 142 [.ref 25, qI 6] s2 (qPI (fun r3 s3 => f r3 s3) g)) ∧ (p0 = 7 → qW w 1 142 [.ref 25, qI 4] s2 (qPI (fun r4 s4 => f r4 s4) g)) ∧ (p0 = 8 → qR w 2 qm191 155 [(0, .ref 25), (2, qI 0), (3, qI 1)] [] s2 (qPI f g)) ∧ (p0 ≠ 0 → p0 ≠ 1 → p0 ≠ 2 → p0 ≠ 3 → p0 ≠ 4 → p0 ≠ 5 → p0 ≠ 6 → p0 ≠ 7 → p0 ≠ 8 → f ((-1)) s2)) ∧ (r2 ≠ 0 → Rg (p0 - 20) ∧ Rg (s2 25 15) ∧ (p0 - 20 < s2 25 15 → qW w 1 142 [.ref 25, qI ((s2 25 16) + (2 * (p0 - 20)))] s2 (qPI (fun r5 s5 => qR w 2 qm191 51 [] [qI r5] s5 (qPI f g)) g)) ∧ (s2 25 15 ≤ p0 - 20 → qR w 2 qm191 51 [] [qI ((-2))] s2 (qPI f g)))) g))) g)) : qW w 3 191 [.ref 25, qI p0] s (qPI f g) := by
  refine qW.of (M := qm191) (l := [(0, .ref 25), (1, qI p0)]) qtm_191 rfl (Nat.le_of_ble_eq_true rfl) (zsub_c rfl (zsub_c rfl zsub_n)) ?_
  refine qS_aload_n qd_191_0 rfl ?_
  refine qS_cvI qd_191_1 (qml_8_262 w) rfl qtm_177 (hpc_25 _ _) (Nat.le_of_ble_eq_true rfl) rfl (Nat.le_of_ble_eq_true rfl) H (fun r1 s1 H => ?_) (fun x s1 H => Or.inr ⟨x, rfl, H⟩)
  obtain ⟨h4a, H1, H2⟩ := H
  refine qS_if0 qd_191_4 rfl (zcnd_ne (a := r1) (b := 0) h4a ⟨by decide, by decide⟩ (fun t => qR w _ _ t _ _ _ _) (fun hc => ?_) (fun hc => ?_))
  · have H := H1 hc; clear H1 H2 hc
    refine qS_iconst qd_191_7 ?_
    exact qS_ireturn qd_191_8 rfl (Or.inl ⟨_, rfl, H⟩)
  · have H := H2 hc; clear H1 H2 hc
    refine qS_iload_n qd_191_9 rfl ?_
    refine qS_bipush qd_191_10 (by decide) ?_
    refine qS_bipush qd_191_12 (by decide) ?_
    refine qS_csI qd_191_14 (qml_8_63 w) rfl (Nat.le_of_ble_eq_true rfl) rfl (Nat.le_of_ble_eq_true rfl) H (fun r2 s2 H => ?_) (fun x s1 H => Or.inr ⟨x, rfl, H⟩)
    obtain ⟨h17a, H1, H2⟩ := H
    refine qS_if0 qd_191_17 rfl (zcnd_eq (a := r2) (b := 0) h17a ⟨by decide, by decide⟩ (fun t => qR w _ _ t _ _ _ _) (fun hc => ?_) (fun hc => ?_))
    · have H := H1 hc; clear H1 H2 hc
      refine qS_iload_n qd_191_52 rfl ?_
      obtain ⟨h53a, H1, H2, H3, H4, H5, H6, H7, H8, H9, Hd⟩ := H
      by_cases hc0 : p0 = 0
      · refine qS_tsw qd_191_53 (t := 104) h53a (by rw [hc0]; rfl) ?_
        have H := H1 hc0
        refine qS_aload_n qd_191_104 rfl ?_
        refine qS_getfield (v := qI (s2 25 12)) qd_191_105 (qfl_8_174 w) (hpc_25 _ _) rfl ?_
        exact qS_ireturn qd_191_108 rfl (Or.inl ⟨_, rfl, H⟩)
      by_cases hc1 : p0 = 1
      · refine qS_tsw qd_191_53 (t := 109) h53a (by rw [hc1]; rfl) ?_
        have H := H2 hc1
        refine qS_aload_n qd_191_109 rfl ?_
        refine qS_getfield (v := qI (s2 25 13)) qd_191_110 (qfl_8_181 w) (hpc_25 _ _) rfl ?_
        exact qS_ireturn qd_191_113 rfl (Or.inl ⟨_, rfl, H⟩)
      by_cases hc2 : p0 = 2
      · refine qS_tsw qd_191_53 (t := 114) h53a (by rw [hc2]; rfl) ?_
        have H := H3 hc2
        refine qS_aload_n qd_191_114 rfl ?_
        refine qS_getfield (v := qI (s2 25 14)) qd_191_115 (qfl_8_184 w) (hpc_25 _ _) rfl ?_
        exact qS_ireturn qd_191_118 rfl (Or.inl ⟨_, rfl, H⟩)
      by_cases hc3 : p0 = 3
      · refine qS_tsw qd_191_53 (t := 119) h53a (by rw [hc3]; rfl) ?_
        have H := H4 hc3
        refine qS_aload_n qd_191_119 rfl ?_
        refine qS_getfield (v := qI (s2 25 15)) qd_191_120 (qfl_8_187 w) (hpc_25 _ _) rfl ?_
        exact qS_ireturn qd_191_123 rfl (Or.inl ⟨_, rfl, H⟩)
      by_cases hc4 : p0 = 4
      · refine qS_tsw qd_191_53 (t := 124) h53a (by rw [hc4]; rfl) ?_
        have H := H5 hc4
        refine qS_aload_n qd_191_124 rfl ?_
        refine qS_getfield (v := .ref 35) qd_191_125 (qfl_8_41 w) (hpc_25 _ _) rfl ?_
        refine qS_iconst qd_191_128 ?_
        refine qS_iaload (a := 35) (i := 0) qd_191_129 (Nat.le_of_ble_eq_true rfl) (by decide) (by decide) ?_
        exact qS_ireturn qd_191_130 rfl (Or.inl ⟨_, rfl, H⟩)
      by_cases hc5 : p0 = 5
      · refine qS_tsw qd_191_53 (t := 131) h53a (by rw [hc5]; rfl) ?_
        have H := H6 hc5
        refine qS_aload_n qd_191_131 rfl ?_
        refine qS_getfield (v := .ref 35) qd_191_132 (qfl_8_41 w) (hpc_25 _ _) rfl ?_
        refine qS_iconst qd_191_135 ?_
        refine qS_iaload (a := 35) (i := 1) qd_191_136 (Nat.le_of_ble_eq_true rfl) (by decide) (by decide) ?_
        exact qS_ireturn qd_191_137 rfl (Or.inl ⟨_, rfl, H⟩)
      by_cases hc6 : p0 = 6
      · refine qS_tsw qd_191_53 (t := 138) h53a (by rw [hc6]; rfl) ?_
        have H := H7 hc6
        refine qS_aload_n qd_191_138 rfl ?_
        refine qS_bipush qd_191_139 (by decide) ?_
        refine qS_cvI qd_191_141 (qml_8_91 w) rfl qtm_142 (hpc_25 _ _) (Nat.le_of_ble_eq_true rfl) rfl (Nat.le_of_ble_eq_true rfl) H (fun r3 s3 H => ?_) (fun x s1 H => Or.inr ⟨x, rfl, H⟩)
        exact qS_ireturn qd_191_144 rfl (Or.inl ⟨_, rfl, H⟩)
      by_cases hc7 : p0 = 7
      · refine qS_tsw qd_191_53 (t := 145) h53a (by rw [hc7]; rfl) ?_
        have H := H8 hc7
        refine qS_aload_n qd_191_145 rfl ?_
        refine qS_iconst qd_191_146 ?_
        refine qS_cvI qd_191_147 (qml_8_91 w) rfl qtm_142 (hpc_25 _ _) (Nat.le_of_ble_eq_true rfl) rfl (Nat.le_of_ble_eq_true rfl) H (fun r4 s4 H => ?_) (fun x s1 H => Or.inr ⟨x, rfl, H⟩)
        exact qS_ireturn qd_191_150 rfl (Or.inl ⟨_, rfl, H⟩)
      by_cases hc8 : p0 = 8
      · refine qS_tsw qd_191_53 (t := 151) h53a (by rw [hc8]; rfl) ?_
        have H := H9 hc8
        refine qS_iconst qd_191_151 ?_
        refine qS_istore_n (a := [(0, .ref 25)]) qd_191_152 (Nat.le_of_ble_eq_true rfl) (zsub_c rfl zsub_n) rfl ?_
        refine qS_iconst qd_191_153 ?_
        refine qS_istore_n (a := [(2, qI 0), (0, .ref 25)]) qd_191_154 (Nat.le_of_ble_eq_true rfl) (zsub_c rfl (zsub_c rfl zsub_n)) rfl ?_
        exact qS_sub (zsub_c rfl (zsub_c rfl (zsub_c rfl zsub_n))) H
      refine qS_tsw qd_191_53 (t := 182) h53a (by unfold ztsw; rw [if_pos (by omega)]; rfl) ?_
      have H := Hd (by omega) (by omega) (by omega) (by omega) (by omega) (by omega) (by omega) (by omega) (by omega)
      refine qS_iconst qd_191_182 ?_
      exact qS_ireturn qd_191_183 rfl (Or.inl ⟨_, rfl, H⟩)
    · have H := H2 hc; clear H1 H2 hc
      refine qS_iload_n qd_191_20 rfl ?_
      refine qS_bipush qd_191_21 (by decide) ?_
      refine qS_isub (a := p0) (b := 20) qd_191_23 ?_
      refine qS_aload_n qd_191_24 rfl ?_
      refine qS_getfield (v := qI (s2 25 15)) qd_191_25 (qfl_8_187 w) (hpc_25 _ _) rfl ?_
      obtain ⟨h28a, h28b, H1, H2⟩ := H
      refine qS_icmp qd_191_28 rfl (zcnd_ge (a := p0 - 20) (b := s2 25 15) h28a h28b (fun t => qR w _ _ t _ _ _ _) (fun hc => ?_) (fun hc => ?_))
      · have H := H1 hc; clear H1 H2 hc
        refine qS_aload_n qd_191_31 rfl ?_
        refine qS_aload_n qd_191_32 rfl ?_
        refine qS_getfield (v := qI (s2 25 16)) qd_191_33 (qfl_8_190 w) (hpc_25 _ _) rfl ?_
        refine qS_iconst qd_191_36 ?_
        refine qS_iload_n qd_191_37 rfl ?_
        refine qS_bipush qd_191_38 (by decide) ?_
        refine qS_isub (a := p0) (b := 20) qd_191_40 ?_
        refine qS_imul (a := 2) (b := p0 - 20) qd_191_41 ?_
        refine qS_iadd (a := s2 25 16) (b := 2 * (p0 - 20)) qd_191_42 ?_
        refine qS_cvI qd_191_43 (qml_8_91 w) rfl qtm_142 (hpc_25 _ _) (Nat.le_of_ble_eq_true rfl) rfl (Nat.le_of_ble_eq_true rfl) H (fun r5 s5 H => ?_) (fun x s1 H => Or.inr ⟨x, rfl, H⟩)
        refine qS_goto qd_191_46 rfl ?_
        exact qS_sub zsub_n H
      · have H := H2 hc; clear H1 H2 hc
        refine qS_bipush qd_191_49 (by decide) ?_
        exact qS_sub zsub_n H
set_option maxRecDepth 100000 in
theorem k191_51 {w : qE} {s : qS} {k0 : Int} {f : Int → qS → Prop} {g : Nat → qS → Prop}  (H : f k0 s) : qR w 2 qm191 51 [] [qI k0] s (qPI f g) := by
  exact qS_ireturn qd_191_51 rfl (Or.inl ⟨_, rfl, H⟩)
set_option maxRecDepth 100000 in
theorem k191_155 {w : qE} {s : qS} {v2 : Int} {v3 : Int} {f : Int → qS → Prop} {g : Nat → qS → Prop}  (H : Rg v3 ∧ Rg (s 25 11) ∧ (v3 < s 25 11 → qW w 2 139 [.ref 25, qI v3] s (qPI (fun r6 s6 => Rg r6 ∧ (0 < r6 → qR w 2 qm191 174 [(0, .ref 25), (2, qI (v2 + 1)), (3, qI v3)] [] s6 (qPI f g)) ∧ (r6 ≤ 0 → qR w 2 qm191 174 [(0, .ref 25), (2, qI v2), (3, qI v3)] [] s6 (qPI f g))) g)) ∧ (s 25 11 ≤ v3 → f v2 s)) : qR w 2 qm191 155 [(0, .ref 25), (2, qI v2), (3, qI v3)] [] s (qPI f g) := by
  refine qS_iload_n qd_191_155 rfl ?_
  refine qS_aload_n qd_191_156 rfl ?_
  refine qS_getfield (v := qI (s 25 11)) qd_191_157 (qfl_8_95 w) (hpc_25 _ _) rfl ?_
  obtain ⟨h160a, h160b, H1, H2⟩ := H
  refine qS_icmp qd_191_160 rfl (zcnd_ge (a := v3) (b := s 25 11) h160a h160b (fun t => qR w _ _ t _ _ _ _) (fun hc => ?_) (fun hc => ?_))
  · have H := H1 hc; clear H1 H2 hc
    refine qS_aload_n qd_191_163 rfl ?_
    refine qS_iload_n qd_191_164 rfl ?_
    refine qS_cvI qd_191_165 (qml_8_137 w) rfl qtm_139 (hpc_25 _ _) (Nat.le_of_ble_eq_true rfl) rfl (Nat.le_of_ble_eq_true rfl) H (fun r6 s6 H => ?_) (fun x s1 H => Or.inr ⟨x, rfl, H⟩)
    obtain ⟨h168a, H1, H2⟩ := H
    refine qS_if0 qd_191_168 rfl (zcnd_le (a := r6) (b := 0) h168a ⟨by decide, by decide⟩ (fun t => qR w _ _ t _ _ _ _) (fun hc => ?_) (fun hc => ?_))
    · have H := H1 hc; clear H1 H2 hc
      refine qS_iinc (v := v2) (a := [(0, .ref 25), (3, qI v3)]) qd_191_171 (Nat.le_of_ble_eq_true rfl) rfl (zsub_c rfl (zsub_c rfl zsub_n)) rfl ?_
      exact qS_sub (zsub_c rfl (zsub_c rfl (zsub_c rfl zsub_n))) H
    · have H := H2 hc; clear H1 H2 hc
      exact qS_sub (zsub_c rfl (zsub_c rfl (zsub_c rfl zsub_n))) H
  · have H := H2 hc; clear H1 H2 hc
    refine qS_iload_n qd_191_180 rfl ?_
    exact qS_ireturn qd_191_181 rfl (Or.inl ⟨_, rfl, H⟩)
set_option maxRecDepth 100000 in
theorem k191_174 {w : qE} {s : qS} {v2 : Int} {v3 : Int} {f : Int → qS → Prop} {g : Nat → qS → Prop}  (H : qR w 2 qm191 155 [(0, .ref 25), (2, qI v2), (3, qI (v3 + 1))] [] s (qPI f g)) : qR w 2 qm191 174 [(0, .ref 25), (2, qI v2), (3, qI v3)] [] s (qPI f g) := by
  refine qS_iinc (v := v3) (a := [(0, .ref 25), (2, qI v2)]) qd_191_174 (Nat.le_of_ble_eq_true rfl) rfl (zsub_c rfl (zsub_c rfl zsub_n)) rfl ?_
  refine qS_goto qd_191_177 rfl ?_
  exact qS_sub (zsub_c rfl (zsub_c rfl (zsub_c rfl zsub_n))) H
set_option maxRecDepth 100000 in
theorem k192 {w : qE} {s : qS} {p0 : Int} {p1 : Int} {p2 : Int} {f : Int → qS → Prop} {g : Nat → qS → Prop}  (H : qW w 1 177 [.ref 25] s (qPI (fun r1 s1 => Rg r1 ∧ (r1 = 0 → f 0 s1) ∧ (r1 ≠ 0 → qW w 1 125 [qI p2, qI 0, qI 7] s1 (qPI (fun r2 s2 => Rg r2 ∧ (r2 = 0 → f ((-1)) s2) ∧ (r2 ≠ 0 → Rg p0 ∧ (p0 = 0 → qR w 6 qm192 36 [(0, .ref 25), (1, qI p0), (2, qI p1), (3, qI p2)] [qI 0, .ref 35, qI 0, qI p1] s2 (qPI f g)) ∧ (p0 ≠ 0 → qR w 6 qm192 36 [(0, .ref 25), (1, qI p0), (2, qI p1), (3, qI p2)] [qI 1, .ref 35, qI 0, qI p1] s2 (qPI f g)))) g))) g)) : qW w 7 192 [.ref 25, qI p0, qI p1, qI p2] s (qPI f g) := by
  refine qW.of (M := qm192) (l := [(0, .ref 25), (1, qI p0), (2, qI p1), (3, qI p2)]) qtm_192 rfl (Nat.le_of_ble_eq_true rfl) (zsub_c rfl (zsub_c rfl (zsub_c rfl (zsub_c rfl zsub_n)))) ?_
  refine qS_aload_n qd_192_0 rfl ?_
  refine qS_cvI qd_192_1 (qml_8_262 w) rfl qtm_177 (hpc_25 _ _) (Nat.le_of_ble_eq_true rfl) rfl (Nat.le_of_ble_eq_true rfl) H (fun r1 s1 H => ?_) (fun x s1 H => Or.inr ⟨x, rfl, H⟩)
  obtain ⟨h4a, H1, H2⟩ := H
  refine qS_if0 qd_192_4 rfl (zcnd_ne (a := r1) (b := 0) h4a ⟨by decide, by decide⟩ (fun t => qR w _ _ t _ _ _ _) (fun hc => ?_) (fun hc => ?_))
  · have H := H1 hc; clear H1 H2 hc
    refine qS_iconst qd_192_7 ?_
    exact qS_ireturn qd_192_8 rfl (Or.inl ⟨_, rfl, H⟩)
  · have H := H2 hc; clear H1 H2 hc
    refine qS_iload_n qd_192_9 rfl ?_
    refine qS_iconst qd_192_10 ?_
    refine qS_bipush qd_192_11 (by decide) ?_
    refine qS_csI qd_192_13 (qml_8_63 w) rfl (Nat.le_of_ble_eq_true rfl) rfl (Nat.le_of_ble_eq_true rfl) H (fun r2 s2 H => ?_) (fun x s1 H => Or.inr ⟨x, rfl, H⟩)
    obtain ⟨h16a, H1, H2⟩ := H
    refine qS_if0 qd_192_16 rfl (zcnd_ne (a := r2) (b := 0) h16a ⟨by decide, by decide⟩ (fun t => qR w _ _ t _ _ _ _) (fun hc => ?_) (fun hc => ?_))
    · have H := H1 hc; clear H1 H2 hc
      refine qS_iconst qd_192_19 ?_
      exact qS_ireturn qd_192_20 rfl (Or.inl ⟨_, rfl, H⟩)
    · have H := H2 hc; clear H1 H2 hc
      refine qS_iload_n qd_192_21 rfl ?_
      refine qS_iconst qd_192_22 ?_
      refine qS_aload_n qd_192_23 rfl ?_
      refine qS_getfield (v := .ref 35) qd_192_24 (qfl_8_41 w) (hpc_25 _ _) rfl ?_
      refine qS_iload_n qd_192_27 rfl ?_
      obtain ⟨h28a, H1, H2⟩ := H
      refine qS_if0 qd_192_28 rfl (zcnd_eq (a := p0) (b := 0) h28a ⟨by decide, by decide⟩ (fun t => qR w _ _ t _ _ _ _) (fun hc => ?_) (fun hc => ?_))
      · have H := H1 hc; clear H1 H2 hc
        refine qS_iconst qd_192_35 ?_
        exact qS_sub (zsub_c rfl (zsub_c rfl (zsub_c rfl (zsub_c rfl zsub_n)))) H
      · have H := H2 hc; clear H1 H2 hc
        refine qS_iconst qd_192_31 ?_
        refine qS_goto qd_192_32 rfl ?_
        exact qS_sub (zsub_c rfl (zsub_c rfl (zsub_c rfl (zsub_c rfl zsub_n)))) H
set_option maxRecDepth 100000 in
theorem k192_36 {w : qE} {s : qS} {v1 : Int} {v2 : Int} {v3 : Int} {k3 : Int} {k1 : Int} {k0 : Int} {f : Int → qS → Prop} {g : Nat → qS → Prop}  (H : (0 ≤ k3 ∧ k3 < 2 ∧ (qW w 1 125 [qI k0, qI k1, qI ((s 35 k3) - 1)] s (qPI (fun r3 s3 => Rg r3 ∧ (r3 = 0 → f ((-2)) s3) ∧ (r3 ≠ 0 → Rg v1 ∧ (v1 = 0 → qR w 6 qm192 60 [(0, .ref 25), (1, qI v1), (3, qI v3)] [qI v2] s3 (qPI f g)) ∧ (v1 ≠ 0 → qR w 6 qm192 60 [(0, .ref 25), (1, qI v1), (3, qI v3)] [qI (80 + v2)] s3 (qPI f g)))) g)))) : qR w 6 qm192 36 [(0, .ref 25), (1, qI v1), (2, qI v2), (3, qI v3)] [qI k3, .ref 35, qI k1, qI k0] s (qPI f g) := by
  obtain ⟨hl, hu, H⟩ := H
  refine qS_iaload (a := 35) (i := k3) qd_192_36 (Nat.le_of_ble_eq_true rfl) hl hu ?_
  refine qS_iconst qd_192_37 ?_
  refine qS_isub (a := s 35 k3) (b := 1) qd_192_38 ?_
  refine qS_csI qd_192_39 (qml_8_63 w) rfl (Nat.le_of_ble_eq_true rfl) rfl (Nat.le_of_ble_eq_true rfl) H (fun r3 s3 H => ?_) (fun x s1 H => Or.inr ⟨x, rfl, H⟩)
  obtain ⟨h42a, H1, H2⟩ := H
  refine qS_if0 qd_192_42 rfl (zcnd_ne (a := r3) (b := 0) h42a ⟨by decide, by decide⟩ (fun t => qR w _ _ t _ _ _ _) (fun hc => ?_) (fun hc => ?_))
  · have H := H1 hc; clear H1 H2 hc
    refine qS_bipush qd_192_45 (by decide) ?_
    exact qS_ireturn qd_192_47 rfl (Or.inl ⟨_, rfl, H⟩)
  · have H := H2 hc; clear H1 H2 hc
    refine qS_iload_n qd_192_48 rfl ?_
    obtain ⟨h49a, H1, H2⟩ := H
    refine qS_if0 qd_192_49 rfl (zcnd_eq (a := v1) (b := 0) h49a ⟨by decide, by decide⟩ (fun t => qR w _ _ t _ _ _ _) (fun hc => ?_) (fun hc => ?_))
    · have H := H1 hc; clear H1 H2 hc
      refine qS_iload_n qd_192_59 rfl ?_
      exact qS_sub (zsub_c rfl (zsub_c rfl (zsub_c rfl zsub_n))) H
    · have H := H2 hc; clear H1 H2 hc
      refine qS_bipush qd_192_52 (by decide) ?_
      refine qS_iload_n qd_192_54 rfl ?_
      refine qS_iadd (a := 80) (b := v2) qd_192_55 ?_
      refine qS_goto qd_192_56 rfl ?_
      exact qS_sub (zsub_c rfl (zsub_c rfl (zsub_c rfl zsub_n))) H
set_option maxRecDepth 100000 in
theorem k192_60 {w : qE} {s : qS} {v1 : Int} {v3 : Int} {k0 : Int} {f : Int → qS → Prop} {g : Nat → qS → Prop}  (H : (0 ≤ k0 ∧ k0 < 160 ∧ (Rg v3 ∧ (v3 = 0 → qW w 1 142 [.ref 25, qI (s 30 k0)] s (qPI (fun r4 s4 => f r4 s4) g)) ∧ (v3 = 1 → qW w 1 142 [.ref 25, qI ((s 30 k0) + 2)] s (qPI (fun r5 s5 => f r5 s5) g)) ∧ (v3 = 2 → qW w 1 142 [.ref 25, qI ((s 30 k0) + 4)] s (qPI (fun r6 s6 => f r6 s6) g)) ∧ (v3 = 3 → (0 ≤ k0 ∧ k0 < 160 ∧ (f (s 31 k0) s))) ∧ (v3 = 4 → qW w 1 142 [.ref 25, qI ((s 30 k0) + 4)] s (qPI (fun r7 s7 => qW w 6 193 [.ref 25, qI v1, qI r7] s7 (qPI (fun r8 s8 => f r8 s8) g)) g)) ∧ (v3 = 5 → (0 ≤ k0 ∧ k0 < 160 ∧ (f (s 32 k0) s))) ∧ (v3 = 6 → (0 ≤ k0 ∧ k0 < 160 ∧ (f (s 33 k0) s))) ∧ (v3 ≠ 0 → v3 ≠ 1 → v3 ≠ 2 → v3 ≠ 3 → v3 ≠ 4 → v3 ≠ 5 → v3 ≠ 6 → (0 ≤ k0 ∧ k0 < 160 ∧ (f (s 34 k0) s)))))) : qR w 6 qm192 60 [(0, .ref 25), (1, qI v1), (3, qI v3)] [qI k0] s (qPI f g) := by
  refine qS_istore (a := [(0, .ref 25), (1, qI v1), (3, qI v3)]) qd_192_60 (Nat.le_of_ble_eq_true rfl) (zsub_c rfl (zsub_c rfl (zsub_c rfl zsub_n))) rfl ?_
  refine qS_aload_n qd_192_62 rfl ?_
  refine qS_getfield (v := .ref 30) qd_192_63 (qfl_8_26 w) (hpc_25 _ _) rfl ?_
  refine qS_iload qd_192_66 rfl ?_
  obtain ⟨hl, hu, H⟩ := H
  refine qS_iaload (a := 30) (i := k0) qd_192_68 (Nat.le_of_ble_eq_true rfl) hl hu ?_
  refine qS_istore (a := [(4, qI k0), (0, .ref 25), (1, qI v1), (3, qI v3)]) qd_192_69 (Nat.le_of_ble_eq_true rfl) (zsub_c rfl (zsub_c rfl (zsub_c rfl (zsub_c rfl zsub_n)))) rfl ?_
  refine qS_iload_n qd_192_71 rfl ?_
  obtain ⟨h72a, H1, H2, H3, H4, H5, H6, H7, Hd⟩ := H
  by_cases hc0 : v3 = 0
  · refine qS_tsw qd_192_72 (t := 116) h72a (by rw [hc0]; rfl) ?_
    have H := H1 hc0
    refine qS_aload_n qd_192_116 rfl ?_
    refine qS_iload qd_192_117 rfl ?_
    refine qS_cvI qd_192_119 (qml_8_91 w) rfl qtm_142 (hpc_25 _ _) (Nat.le_of_ble_eq_true rfl) rfl (Nat.le_of_ble_eq_true rfl) H (fun r4 s4 H => ?_) (fun x s1 H => Or.inr ⟨x, rfl, H⟩)
    exact qS_ireturn qd_192_122 rfl (Or.inl ⟨_, rfl, H⟩)
  by_cases hc1 : v3 = 1
  · refine qS_tsw qd_192_72 (t := 123) h72a (by rw [hc1]; rfl) ?_
    have H := H2 hc1
    refine qS_aload_n qd_192_123 rfl ?_
    refine qS_iload qd_192_124 rfl ?_
    refine qS_iconst qd_192_126 ?_
    refine qS_iadd (a := s 30 k0) (b := 2) qd_192_127 ?_
    refine qS_cvI qd_192_128 (qml_8_91 w) rfl qtm_142 (hpc_25 _ _) (Nat.le_of_ble_eq_true rfl) rfl (Nat.le_of_ble_eq_true rfl) H (fun r5 s5 H => ?_) (fun x s1 H => Or.inr ⟨x, rfl, H⟩)
    exact qS_ireturn qd_192_131 rfl (Or.inl ⟨_, rfl, H⟩)
  by_cases hc2 : v3 = 2
  · refine qS_tsw qd_192_72 (t := 132) h72a (by rw [hc2]; rfl) ?_
    have H := H3 hc2
    refine qS_aload_n qd_192_132 rfl ?_
    refine qS_iload qd_192_133 rfl ?_
    refine qS_iconst qd_192_135 ?_
    refine qS_iadd (a := s 30 k0) (b := 4) qd_192_136 ?_
    refine qS_cvI qd_192_137 (qml_8_91 w) rfl qtm_142 (hpc_25 _ _) (Nat.le_of_ble_eq_true rfl) rfl (Nat.le_of_ble_eq_true rfl) H (fun r6 s6 H => ?_) (fun x s1 H => Or.inr ⟨x, rfl, H⟩)
    exact qS_ireturn qd_192_140 rfl (Or.inl ⟨_, rfl, H⟩)
  by_cases hc3 : v3 = 3
  · refine qS_tsw qd_192_72 (t := 141) h72a (by rw [hc3]; rfl) ?_
    have H := H4 hc3
    refine qS_aload_n qd_192_141 rfl ?_
    refine qS_getfield (v := .ref 31) qd_192_142 (qfl_8_29 w) (hpc_25 _ _) rfl ?_
    refine qS_iload qd_192_145 rfl ?_
    obtain ⟨hl, hu, H⟩ := H
    refine qS_iaload (a := 31) (i := k0) qd_192_147 (Nat.le_of_ble_eq_true rfl) hl hu ?_
    exact qS_ireturn qd_192_148 rfl (Or.inl ⟨_, rfl, H⟩)
  by_cases hc4 : v3 = 4
  · refine qS_tsw qd_192_72 (t := 149) h72a (by rw [hc4]; rfl) ?_
    have H := H5 hc4
    refine qS_aload_n qd_192_149 rfl ?_
    refine qS_iload_n qd_192_150 rfl ?_
    refine qS_aload_n qd_192_151 rfl ?_
    refine qS_iload qd_192_152 rfl ?_
    refine qS_iconst qd_192_154 ?_
    refine qS_iadd (a := s 30 k0) (b := 4) qd_192_155 ?_
    refine qS_cvI qd_192_156 (qml_8_91 w) rfl qtm_142 (hpc_25 _ _) (Nat.le_of_ble_eq_true rfl) rfl (Nat.le_of_ble_eq_true rfl) H (fun r7 s7 H => ?_) (fun x s1 H => Or.inr ⟨x, rfl, H⟩)
    refine qS_cvI qd_192_159 (qml_8_309 w) rfl qtm_193 (hpc_25 _ _) (Nat.le_of_ble_eq_true rfl) rfl (Nat.le_of_ble_eq_true rfl) H (fun r8 s8 H => ?_) (fun x s1 H => Or.inr ⟨x, rfl, H⟩)
    exact qS_ireturn qd_192_162 rfl (Or.inl ⟨_, rfl, H⟩)
  by_cases hc5 : v3 = 5
  · refine qS_tsw qd_192_72 (t := 163) h72a (by rw [hc5]; rfl) ?_
    have H := H6 hc5
    refine qS_aload_n qd_192_163 rfl ?_
    refine qS_getfield (v := .ref 32) qd_192_164 (qfl_8_32 w) (hpc_25 _ _) rfl ?_
    refine qS_iload qd_192_167 rfl ?_
    obtain ⟨hl, hu, H⟩ := H
    refine qS_iaload (a := 32) (i := k0) qd_192_169 (Nat.le_of_ble_eq_true rfl) hl hu ?_
    exact qS_ireturn qd_192_170 rfl (Or.inl ⟨_, rfl, H⟩)
  by_cases hc6 : v3 = 6
  · refine qS_tsw qd_192_72 (t := 171) h72a (by rw [hc6]; rfl) ?_
    have H := H7 hc6
    refine qS_aload_n qd_192_171 rfl ?_
    refine qS_getfield (v := .ref 33) qd_192_172 (qfl_8_35 w) (hpc_25 _ _) rfl ?_
    refine qS_iload qd_192_175 rfl ?_
    obtain ⟨hl, hu, H⟩ := H
    refine qS_iaload (a := 33) (i := k0) qd_192_177 (Nat.le_of_ble_eq_true rfl) hl hu ?_
    exact qS_ireturn qd_192_178 rfl (Or.inl ⟨_, rfl, H⟩)
  refine qS_tsw qd_192_72 (t := 179) h72a (by unfold ztsw; rw [if_pos (by omega)]; rfl) ?_
  have H := Hd (by omega) (by omega) (by omega) (by omega) (by omega) (by omega) (by omega)
  refine qS_aload_n qd_192_179 rfl ?_
  refine qS_getfield (v := .ref 34) qd_192_180 (qfl_8_38 w) (hpc_25 _ _) rfl ?_
  refine qS_iload qd_192_183 rfl ?_
  obtain ⟨hl, hu, H⟩ := H
  refine qS_iaload (a := 34) (i := k0) qd_192_185 (Nat.le_of_ble_eq_true rfl) hl hu ?_
  exact qS_ireturn qd_192_186 rfl (Or.inl ⟨_, rfl, H⟩)
set_option maxRecDepth 100000 in
theorem k193 {w : qE} {s : qS} {p0 : Int} {p1 : Int} {f : Int → qS → Prop} {g : Nat → qS → Prop}  (H : qW w 2 146 [.ref 25, qI p1, qI 0] s (qPI (fun r1 s1 => Rg p0 ∧ (p0 = 0 → Rg r1 ∧ (r1 = 74 → qR w 5 qm193 23 [] [] s1 (qPI f g)) ∧ (r1 ≠ 74 → (r1 = 68 → qR w 5 qm193 23 [] [] s1 (qPI f g)) ∧ (r1 ≠ 68 → qR w 5 qm193 28 [] [qI 1] s1 (qPI f g)))) ∧ (p0 ≠ 0 → qW w 5 152 [.ref 25, qI p1] s1 (qPI (fun r2 s2 => Rg r2 ∧ (r2 = 0 → qR w 5 qm193 45 [] [qI 0] s2 (qPI f g)) ∧ (r2 ≠ 0 → qR w 5 qm193 45 [] [qI (s2 25 27)] s2 (qPI f g))) g))) g)) : qW w 6 193 [.ref 25, qI p0, qI p1] s (qPI f g) := by
  refine qW.of (M := qm193) (l := [(0, .ref 25), (1, qI p0), (2, qI p1)]) qtm_193 rfl (Nat.le_of_ble_eq_true rfl) (zsub_c rfl (zsub_c rfl (zsub_c rfl zsub_n))) ?_
  refine qS_aload_n qd_193_0 rfl ?_
  refine qS_iload_n qd_193_1 rfl ?_
  refine qS_iconst qd_193_2 ?_
  refine qS_cvI qd_193_3 (qml_8_107 w) rfl qtm_146 (hpc_25 _ _) (Nat.le_of_ble_eq_true rfl) rfl (Nat.le_of_ble_eq_true rfl) H (fun r1 s1 H => ?_) (fun x s1 H => Or.inr ⟨x, rfl, H⟩)
  refine qS_istore_n (a := [(0, .ref 25), (1, qI p0), (2, qI p1)]) qd_193_6 (Nat.le_of_ble_eq_true rfl) (zsub_c rfl (zsub_c rfl (zsub_c rfl zsub_n))) rfl ?_
  refine qS_iload_n qd_193_7 rfl ?_
  obtain ⟨h8a, H1, H2⟩ := H
  refine qS_if0 qd_193_8 rfl (zcnd_ne (a := p0) (b := 0) h8a ⟨by decide, by decide⟩ (fun t => qR w _ _ t _ _ _ _) (fun hc => ?_) (fun hc => ?_))
  · have H := H1 hc; clear H1 H2 hc
    refine qS_iload_n qd_193_11 rfl ?_
    refine qS_bipush qd_193_12 (by decide) ?_
    obtain ⟨h14a, H1, H2⟩ := H
    refine qS_icmp qd_193_14 rfl (zcnd_eq (a := r1) (b := 74) h14a ⟨by decide, by decide⟩ (fun t => qR w _ _ t _ _ _ _) (fun hc => ?_) (fun hc => ?_))
    · have H := H1 hc; clear H1 H2 hc
      exact qS_sub zsub_n H
    · have H := H2 hc; clear H1 H2 hc
      refine qS_iload_n qd_193_17 rfl ?_
      refine qS_bipush qd_193_18 (by decide) ?_
      obtain ⟨H1, H2⟩ := H
      refine qS_icmp qd_193_20 rfl (zcnd_ne (a := r1) (b := 68) h14a ⟨by decide, by decide⟩ (fun t => qR w _ _ t _ _ _ _) (fun hc => ?_) (fun hc => ?_))
      · have H := H1 hc; clear H1 H2 hc
        exact qS_sub zsub_n H
      · have H := H2 hc; clear H1 H2 hc
        refine qS_iconst qd_193_27 ?_
        exact qS_sub zsub_n H
  · have H := H2 hc; clear H1 H2 hc
    refine qS_aload_n qd_193_29 rfl ?_
    refine qS_iload_n qd_193_30 rfl ?_
    refine qS_cvI qd_193_31 (qml_8_146 w) rfl qtm_152 (hpc_25 _ _) (Nat.le_of_ble_eq_true rfl) rfl (Nat.le_of_ble_eq_true rfl) H (fun r2 s2 H => ?_) (fun x s1 H => Or.inr ⟨x, rfl, H⟩)
    obtain ⟨h34a, H1, H2⟩ := H
    refine qS_if0 qd_193_34 rfl (zcnd_eq (a := r2) (b := 0) h34a ⟨by decide, by decide⟩ (fun t => qR w _ _ t _ _ _ _) (fun hc => ?_) (fun hc => ?_))
    · have H := H1 hc; clear H1 H2 hc
      refine qS_iconst qd_193_44 ?_
      exact qS_sub zsub_n H
    · have H := H2 hc; clear H1 H2 hc
      refine qS_aload_n qd_193_37 rfl ?_
      refine qS_getfield (v := qI (s2 25 27)) qd_193_38 (qfl_8_128 w) (hpc_25 _ _) rfl ?_
      refine qS_goto qd_193_41 rfl ?_
      exact qS_sub zsub_n H
set_option maxRecDepth 100000 in
theorem k193_23 {w : qE} {s : qS}  {f : Int → qS → Prop} {g : Nat → qS → Prop}  (H : qR w 5 qm193 28 [] [qI 2] s (qPI f g)) : qR w 5 qm193 23 [] [] s (qPI f g) := by
  refine qS_iconst qd_193_23 ?_
  refine qS_goto qd_193_24 rfl ?_
  exact qS_sub zsub_n H
set_option maxRecDepth 100000 in
theorem k193_28 {w : qE} {s : qS} {k0 : Int} {f : Int → qS → Prop} {g : Nat → qS → Prop}  (H : f k0 s) : qR w 5 qm193 28 [] [qI k0] s (qPI f g) := by
  exact qS_ireturn qd_193_28 rfl (Or.inl ⟨_, rfl, H⟩)
set_option maxRecDepth 100000 in
theorem k193_45 {w : qE} {s : qS} {k0 : Int} {f : Int → qS → Prop} {g : Nat → qS → Prop}  (H : f k0 s) : qR w 5 qm193 45 [] [qI k0] s (qPI f g) := by
  exact qS_ireturn qd_193_45 rfl (Or.inl ⟨_, rfl, H⟩)
set_option maxRecDepth 100000 in
theorem k194 {w : qE} {s : qS} {p0 : Int} {p1 : Int} {f : Int → qS → Prop} {g : Nat → qS → Prop}  (H : qW w 1 177 [.ref 25] s (qPI (fun r1 s1 => Rg r1 ∧ (r1 = 0 → f 0 s1) ∧ (r1 ≠ 0 → qW w 1 125 [qI p0, qI 0, qI 10] s1 (qPI (fun r2 s2 => Rg r2 ∧ (r2 = 0 → f ((-1)) s2) ∧ (r2 ≠ 0 → Rg p0 ∧ (p0 = 0 → qR w 1 qm194 70 [(0, .ref 25), (1, qI p0), (2, qI p1)] [qI 5] s2 (qPI f g)) ∧ (p0 ≠ 0 → (p0 < 3 → qR w 1 qm194 70 [(0, .ref 25), (1, qI p0), (2, qI p1)] [qI 4] s2 (qPI f g)) ∧ (3 ≤ p0 → (p0 = 3 → qR w 1 qm194 70 [(0, .ref 25), (1, qI p0), (2, qI p1)] [qI 6] s2 (qPI f g)) ∧ (p0 ≠ 3 → (p0 = 4 → qR w 1 qm194 70 [(0, .ref 25), (1, qI p0), (2, qI p1)] [qI 7] s2 (qPI f g)) ∧ (p0 ≠ 4 → (p0 < 9 → qR w 1 qm194 70 [(0, .ref 25), (1, qI p0), (2, qI p1)] [qI 3] s2 (qPI f g)) ∧ (9 ≤ p0 → qR w 1 qm194 70 [(0, .ref 25), (1, qI p0), (2, qI p1)] [qI 8] s2 (qPI f g)))))))) g))) g)) : qW w 2 194 [.ref 25, qI p0, qI p1] s (qPI f g) := by
  refine qW.of (M := qm194) (l := [(0, .ref 25), (1, qI p0), (2, qI p1)]) qtm_194 rfl (Nat.le_of_ble_eq_true rfl) (zsub_c rfl (zsub_c rfl (zsub_c rfl zsub_n))) ?_
  refine qS_aload_n qd_194_0 rfl ?_
  refine qS_cvI qd_194_1 (qml_8_262 w) rfl qtm_177 (hpc_25 _ _) (Nat.le_of_ble_eq_true rfl) rfl (Nat.le_of_ble_eq_true rfl) H (fun r1 s1 H => ?_) (fun x s1 H => Or.inr ⟨x, rfl, H⟩)
  obtain ⟨h4a, H1, H2⟩ := H
  refine qS_if0 qd_194_4 rfl (zcnd_ne (a := r1) (b := 0) h4a ⟨by decide, by decide⟩ (fun t => qR w _ _ t _ _ _ _) (fun hc => ?_) (fun hc => ?_))
  · have H := H1 hc; clear H1 H2 hc
    refine qS_iconst qd_194_7 ?_
    exact qS_ireturn qd_194_8 rfl (Or.inl ⟨_, rfl, H⟩)
  · have H := H2 hc; clear H1 H2 hc
    refine qS_iload_n qd_194_9 rfl ?_
    refine qS_iconst qd_194_10 ?_
    refine qS_bipush qd_194_11 (by decide) ?_
    refine qS_csI qd_194_13 (qml_8_63 w) rfl (Nat.le_of_ble_eq_true rfl) rfl (Nat.le_of_ble_eq_true rfl) H (fun r2 s2 H => ?_) (fun x s1 H => Or.inr ⟨x, rfl, H⟩)
    obtain ⟨h16a, H1, H2⟩ := H
    refine qS_if0 qd_194_16 rfl (zcnd_ne (a := r2) (b := 0) h16a ⟨by decide, by decide⟩ (fun t => qR w _ _ t _ _ _ _) (fun hc => ?_) (fun hc => ?_))
    · have H := H1 hc; clear H1 H2 hc
      refine qS_iconst qd_194_19 ?_
      exact qS_ireturn qd_194_20 rfl (Or.inl ⟨_, rfl, H⟩)
    · have H := H2 hc; clear H1 H2 hc
      refine qS_iload_n qd_194_21 rfl ?_
      obtain ⟨h22a, H1, H2⟩ := H
      refine qS_if0 qd_194_22 rfl (zcnd_ne (a := p0) (b := 0) h22a ⟨by decide, by decide⟩ (fun t => qR w _ _ t _ _ _ _) (fun hc => ?_) (fun hc => ?_))
      · have H := H1 hc; clear H1 H2 hc
        refine qS_iconst qd_194_25 ?_
        refine qS_goto qd_194_26 rfl ?_
        exact qS_sub (zsub_c rfl (zsub_c rfl (zsub_c rfl zsub_n))) H
      · have H := H2 hc; clear H1 H2 hc
        refine qS_iload_n qd_194_29 rfl ?_
        refine qS_iconst qd_194_30 ?_
        obtain ⟨H1, H2⟩ := H
        refine qS_icmp qd_194_31 rfl (zcnd_ge (a := p0) (b := 3) h22a ⟨by decide, by decide⟩ (fun t => qR w _ _ t _ _ _ _) (fun hc => ?_) (fun hc => ?_))
        · have H := H1 hc; clear H1 H2 hc
          refine qS_iconst qd_194_34 ?_
          refine qS_goto qd_194_35 rfl ?_
          exact qS_sub (zsub_c rfl (zsub_c rfl (zsub_c rfl zsub_n))) H
        · have H := H2 hc; clear H1 H2 hc
          refine qS_iload_n qd_194_38 rfl ?_
          refine qS_iconst qd_194_39 ?_
          obtain ⟨H1, H2⟩ := H
          refine qS_icmp qd_194_40 rfl (zcnd_ne (a := p0) (b := 3) h22a ⟨by decide, by decide⟩ (fun t => qR w _ _ t _ _ _ _) (fun hc => ?_) (fun hc => ?_))
          · have H := H1 hc; clear H1 H2 hc
            refine qS_bipush qd_194_43 (by decide) ?_
            refine qS_goto qd_194_45 rfl ?_
            exact qS_sub (zsub_c rfl (zsub_c rfl (zsub_c rfl zsub_n))) H
          · have H := H2 hc; clear H1 H2 hc
            refine qS_iload_n qd_194_48 rfl ?_
            refine qS_iconst qd_194_49 ?_
            obtain ⟨H1, H2⟩ := H
            refine qS_icmp qd_194_50 rfl (zcnd_ne (a := p0) (b := 4) h22a ⟨by decide, by decide⟩ (fun t => qR w _ _ t _ _ _ _) (fun hc => ?_) (fun hc => ?_))
            · have H := H1 hc; clear H1 H2 hc
              refine qS_bipush qd_194_53 (by decide) ?_
              refine qS_goto qd_194_55 rfl ?_
              exact qS_sub (zsub_c rfl (zsub_c rfl (zsub_c rfl zsub_n))) H
            · have H := H2 hc; clear H1 H2 hc
              refine qS_iload_n qd_194_58 rfl ?_
              refine qS_bipush qd_194_59 (by decide) ?_
              obtain ⟨H1, H2⟩ := H
              refine qS_icmp qd_194_61 rfl (zcnd_ge (a := p0) (b := 9) h22a ⟨by decide, by decide⟩ (fun t => qR w _ _ t _ _ _ _) (fun hc => ?_) (fun hc => ?_))
              · have H := H1 hc; clear H1 H2 hc
                refine qS_iconst qd_194_64 ?_
                refine qS_goto qd_194_65 rfl ?_
                exact qS_sub (zsub_c rfl (zsub_c rfl (zsub_c rfl zsub_n))) H
              · have H := H2 hc; clear H1 H2 hc
                refine qS_bipush qd_194_68 (by decide) ?_
                exact qS_sub (zsub_c rfl (zsub_c rfl (zsub_c rfl zsub_n))) H
set_option maxRecDepth 100000 in
theorem k194_70 {w : qE} {s : qS} {v1 : Int} {v2 : Int} {k0 : Int} {f : Int → qS → Prop} {g : Nat → qS → Prop}  (H : (0 ≤ k0 ∧ k0 < 9 ∧ (Rg (s 37 k0) ∧ (s 37 k0 < 0 → qR w 1 qm194 90 [(0, .ref 25), (1, qI v1), (2, qI v2), (3, qI k0)] [qI 0] s (qPI f g)) ∧ (0 ≤ s 37 k0 → (0 ≤ k0 ∧ k0 < 9 ∧ (qR w 1 qm194 90 [(0, .ref 25), (1, qI v1), (2, qI v2), (3, qI k0)] [qI (s 37 k0)] s (qPI f g))))))) : qR w 1 qm194 70 [(0, .ref 25), (1, qI v1), (2, qI v2)] [qI k0] s (qPI f g) := by
  refine qS_istore_n (a := [(0, .ref 25), (1, qI v1), (2, qI v2)]) qd_194_70 (Nat.le_of_ble_eq_true rfl) (zsub_c rfl (zsub_c rfl (zsub_c rfl zsub_n))) rfl ?_
  refine qS_aload_n qd_194_71 rfl ?_
  refine qS_getfield (v := .ref 37) qd_194_72 (qfl_8_47 w) (hpc_25 _ _) rfl ?_
  refine qS_iload_n qd_194_75 rfl ?_
  obtain ⟨hl, hu, H⟩ := H
  refine qS_iaload (a := 37) (i := k0) qd_194_76 (Nat.le_of_ble_eq_true rfl) hl hu ?_
  obtain ⟨h77a, H1, H2⟩ := H
  refine qS_if0 qd_194_77 rfl (zcnd_ge (a := s 37 k0) (b := 0) h77a ⟨by decide, by decide⟩ (fun t => qR w _ _ t _ _ _ _) (fun hc => ?_) (fun hc => ?_))
  · have H := H1 hc; clear H1 H2 hc
    refine qS_iconst qd_194_80 ?_
    refine qS_goto qd_194_81 rfl ?_
    exact qS_sub (zsub_c rfl (zsub_c rfl (zsub_c rfl (zsub_c rfl zsub_n)))) H
  · have H := H2 hc; clear H1 H2 hc
    refine qS_aload_n qd_194_84 rfl ?_
    refine qS_getfield (v := .ref 37) qd_194_85 (qfl_8_47 w) (hpc_25 _ _) rfl ?_
    refine qS_iload_n qd_194_88 rfl ?_
    obtain ⟨hl, hu, H⟩ := H
    refine qS_iaload (a := 37) (i := k0) qd_194_89 (Nat.le_of_ble_eq_true rfl) hl hu ?_
    exact qS_sub (zsub_c rfl (zsub_c rfl (zsub_c rfl (zsub_c rfl zsub_n)))) H
set_option maxRecDepth 100000 in
theorem k194_90 {w : qE} {s : qS} {v1 : Int} {v2 : Int} {v3 : Int} {k0 : Int} {f : Int → qS → Prop} {g : Nat → qS → Prop}  (H : Rg v1 ∧ (v1 < 3 → Rg k0 ∧ (k0 = 0 → qR w 1 qm194 128 [] [qI ((-2))] s (qPI f g)) ∧ (k0 ≠ 0 → (0 ≤ v3 ∧ v3 < 9 ∧ ((v1 = 2 → qR w 1 qm194 124 [] [qI 2, qI (s 36 v3), .ref 25] s (qPI f g)) ∧ (v1 ≠ 2 → qR w 1 qm194 124 [] [qI 0, qI (s 36 v3), .ref 25] s (qPI f g)))))) ∧ (3 ≤ v1 → Rg v2 ∧ (v2 = (-1) → f k0 s) ∧ (v2 ≠ (-1) → qW w 1 125 [qI v2, qI 0, qI (k0 - 1)] s (qPI (fun r3 s3 => Rg r3 ∧ (r3 = 0 → f ((-2)) s3) ∧ (r3 ≠ 0 → Rg v3 ∧ (v3 = 8 → (0 ≤ v2 ∧ v2 < 170 ∧ ((v1 = 9 → qR w 1 qm194 176 [] [qI 0, qI (s3 38 v2), .ref 25] s3 (qPI f g)) ∧ (v1 ≠ 9 → qR w 1 qm194 176 [] [qI 2, qI (s3 38 v2), .ref 25] s3 (qPI f g))))) ∧ (v3 ≠ 8 → (0 ≤ v3 ∧ v3 < 9 ∧ ((v3 = 3 → qR w 1 qm194 209 [] [qI ((8 * v2) + (2 * (v1 - 5))), qI (s3 36 v3), .ref 25] s3 (qPI f g)) ∧ (v3 ≠ 3 → qR w 1 qm194 209 [] [qI (2 * v2), qI (s3 36 v3), .ref 25] s3 (qPI f g))))))) g)))) : qR w 1 qm194 90 [(0, .ref 25), (1, qI v1), (2, qI v2), (3, qI v3)] [qI k0] s (qPI f g) := by
  refine qS_istore (a := [(0, .ref 25), (1, qI v1), (2, qI v2), (3, qI v3)]) qd_194_90 (Nat.le_of_ble_eq_true rfl) (zsub_c rfl (zsub_c rfl (zsub_c rfl (zsub_c rfl zsub_n)))) rfl ?_
  refine qS_iload_n qd_194_92 rfl ?_
  refine qS_iconst qd_194_93 ?_
  obtain ⟨h94a, H1, H2⟩ := H
  refine qS_icmp qd_194_94 rfl (zcnd_ge (a := v1) (b := 3) h94a ⟨by decide, by decide⟩ (fun t => qR w _ _ t _ _ _ _) (fun hc => ?_) (fun hc => ?_))
  · have H := H1 hc; clear H1 H2 hc
    refine qS_iload qd_194_97 rfl ?_
    obtain ⟨h99a, H1, H2⟩ := H
    refine qS_if0 qd_194_99 rfl (zcnd_ne (a := k0) (b := 0) h99a ⟨by decide, by decide⟩ (fun t => qR w _ _ t _ _ _ _) (fun hc => ?_) (fun hc => ?_))
    · have H := H1 hc; clear H1 H2 hc
      refine qS_bipush qd_194_102 (by decide) ?_
      refine qS_goto qd_194_104 rfl ?_
      exact qS_sub zsub_n H
    · have H := H2 hc; clear H1 H2 hc
      refine qS_aload_n qd_194_107 rfl ?_
      refine qS_aload_n qd_194_108 rfl ?_
      refine qS_getfield (v := .ref 36) qd_194_109 (qfl_8_44 w) (hpc_25 _ _) rfl ?_
      refine qS_iload_n qd_194_112 rfl ?_
      obtain ⟨hl, hu, H⟩ := H
      refine qS_iaload (a := 36) (i := v3) qd_194_113 (Nat.le_of_ble_eq_true rfl) hl hu ?_
      refine qS_iload_n qd_194_114 rfl ?_
      refine qS_iconst qd_194_115 ?_
      obtain ⟨H1, H2⟩ := H
      refine qS_icmp qd_194_116 rfl (zcnd_ne (a := v1) (b := 2) h94a ⟨by decide, by decide⟩ (fun t => qR w _ _ t _ _ _ _) (fun hc => ?_) (fun hc => ?_))
      · have H := H1 hc; clear H1 H2 hc
        refine qS_iconst qd_194_119 ?_
        refine qS_goto qd_194_120 rfl ?_
        exact qS_sub zsub_n H
      · have H := H2 hc; clear H1 H2 hc
        refine qS_iconst qd_194_123 ?_
        exact qS_sub zsub_n H
  · have H := H2 hc; clear H1 H2 hc
    refine qS_iload_n qd_194_129 rfl ?_
    refine qS_iconst qd_194_130 ?_
    obtain ⟨h131a, H1, H2⟩ := H
    refine qS_icmp qd_194_131 rfl (zcnd_ne (a := v2) (b := (-1)) h131a ⟨by decide, by decide⟩ (fun t => qR w _ _ t _ _ _ _) (fun hc => ?_) (fun hc => ?_))
    · have H := H1 hc; clear H1 H2 hc
      refine qS_iload qd_194_134 rfl ?_
      exact qS_ireturn qd_194_136 rfl (Or.inl ⟨_, rfl, H⟩)
    · have H := H2 hc; clear H1 H2 hc
      refine qS_iload_n qd_194_137 rfl ?_
      refine qS_iconst qd_194_138 ?_
      refine qS_iload qd_194_139 rfl ?_
      refine qS_iconst qd_194_141 ?_
      refine qS_isub (a := k0) (b := 1) qd_194_142 ?_
      refine qS_csI qd_194_143 (qml_8_63 w) rfl (Nat.le_of_ble_eq_true rfl) rfl (Nat.le_of_ble_eq_true rfl) H (fun r3 s3 H => ?_) (fun x s1 H => Or.inr ⟨x, rfl, H⟩)
      obtain ⟨h146a, H1, H2⟩ := H
      refine qS_if0 qd_194_146 rfl (zcnd_ne (a := r3) (b := 0) h146a ⟨by decide, by decide⟩ (fun t => qR w _ _ t _ _ _ _) (fun hc => ?_) (fun hc => ?_))
      · have H := H1 hc; clear H1 H2 hc
        refine qS_bipush qd_194_149 (by decide) ?_
        exact qS_ireturn qd_194_151 rfl (Or.inl ⟨_, rfl, H⟩)
      · have H := H2 hc; clear H1 H2 hc
        refine qS_iload_n qd_194_152 rfl ?_
        refine qS_bipush qd_194_153 (by decide) ?_
        obtain ⟨h155a, H1, H2⟩ := H
        refine qS_icmp qd_194_155 rfl (zcnd_ne (a := v3) (b := 8) h155a ⟨by decide, by decide⟩ (fun t => qR w _ _ t _ _ _ _) (fun hc => ?_) (fun hc => ?_))
        · have H := H1 hc; clear H1 H2 hc
          refine qS_aload_n qd_194_158 rfl ?_
          refine qS_aload_n qd_194_159 rfl ?_
          refine qS_getfield (v := .ref 38) qd_194_160 (qfl_8_50 w) (hpc_25 _ _) rfl ?_
          refine qS_iload_n qd_194_163 rfl ?_
          obtain ⟨hl, hu, H⟩ := H
          refine qS_iaload (a := 38) (i := v2) qd_194_164 (Nat.le_of_ble_eq_true rfl) hl hu ?_
          refine qS_iload_n qd_194_165 rfl ?_
          refine qS_bipush qd_194_166 (by decide) ?_
          obtain ⟨H1, H2⟩ := H
          refine qS_icmp qd_194_168 rfl (zcnd_ne (a := v1) (b := 9) h94a ⟨by decide, by decide⟩ (fun t => qR w _ _ t _ _ _ _) (fun hc => ?_) (fun hc => ?_))
          · have H := H1 hc; clear H1 H2 hc
            refine qS_iconst qd_194_171 ?_
            refine qS_goto qd_194_172 rfl ?_
            exact qS_sub zsub_n H
          · have H := H2 hc; clear H1 H2 hc
            refine qS_iconst qd_194_175 ?_
            exact qS_sub zsub_n H
        · have H := H2 hc; clear H1 H2 hc
          refine qS_aload_n qd_194_181 rfl ?_
          refine qS_aload_n qd_194_182 rfl ?_
          refine qS_getfield (v := .ref 36) qd_194_183 (qfl_8_44 w) (hpc_25 _ _) rfl ?_
          refine qS_iload_n qd_194_186 rfl ?_
          obtain ⟨hl, hu, H⟩ := H
          refine qS_iaload (a := 36) (i := v3) qd_194_187 (Nat.le_of_ble_eq_true rfl) hl hu ?_
          refine qS_iload_n qd_194_188 rfl ?_
          refine qS_iconst qd_194_189 ?_
          obtain ⟨H1, H2⟩ := H
          refine qS_icmp qd_194_190 rfl (zcnd_ne (a := v3) (b := 3) h155a ⟨by decide, by decide⟩ (fun t => qR w _ _ t _ _ _ _) (fun hc => ?_) (fun hc => ?_))
          · have H := H1 hc; clear H1 H2 hc
            refine qS_bipush qd_194_193 (by decide) ?_
            refine qS_iload_n qd_194_195 rfl ?_
            refine qS_imul (a := 8) (b := v2) qd_194_196 ?_
            refine qS_iconst qd_194_197 ?_
            refine qS_iload_n qd_194_198 rfl ?_
            refine qS_iconst qd_194_199 ?_
            refine qS_isub (a := v1) (b := 5) qd_194_200 ?_
            refine qS_imul (a := 2) (b := v1 - 5) qd_194_201 ?_
            refine qS_iadd (a := 8 * v2) (b := 2 * (v1 - 5)) qd_194_202 ?_
            refine qS_goto qd_194_203 rfl ?_
            exact qS_sub zsub_n H
          · have H := H2 hc; clear H1 H2 hc
            refine qS_iconst qd_194_206 ?_
            refine qS_iload_n qd_194_207 rfl ?_
            refine qS_imul (a := 2) (b := v2) qd_194_208 ?_
            exact qS_sub zsub_n H
set_option maxRecDepth 100000 in
theorem k194_124 {w : qE} {s : qS} {k2 : Int} {k1 : Int} {f : Int → qS → Prop} {g : Nat → qS → Prop}  (H : qW w 1 142 [.ref 25, qI (k1 + k2)] s (qPI (fun r4 s4 => qR w 1 qm194 128 [] [qI r4] s4 (qPI f g)) g)) : qR w 1 qm194 124 [] [qI k2, qI k1, .ref 25] s (qPI f g) := by
  refine qS_iadd (a := k1) (b := k2) qd_194_124 ?_
  refine qS_cvI qd_194_125 (qml_8_91 w) rfl qtm_142 (hpc_25 _ _) (Nat.le_of_ble_eq_true rfl) rfl (Nat.le_of_ble_eq_true rfl) H (fun r4 s4 H => ?_) (fun x s1 H => Or.inr ⟨x, rfl, H⟩)
  exact qS_sub zsub_n H
set_option maxRecDepth 100000 in
theorem k194_128 {w : qE} {s : qS} {k0 : Int} {f : Int → qS → Prop} {g : Nat → qS → Prop}  (H : f k0 s) : qR w 1 qm194 128 [] [qI k0] s (qPI f g) := by
  exact qS_ireturn qd_194_128 rfl (Or.inl ⟨_, rfl, H⟩)
set_option maxRecDepth 100000 in
theorem k194_176 {w : qE} {s : qS} {k2 : Int} {k1 : Int} {f : Int → qS → Prop} {g : Nat → qS → Prop}  (H : qW w 1 142 [.ref 25, qI (k1 + k2)] s (qPI (fun r5 s5 => f r5 s5) g)) : qR w 1 qm194 176 [] [qI k2, qI k1, .ref 25] s (qPI f g) := by
  refine qS_iadd (a := k1) (b := k2) qd_194_176 ?_
  refine qS_cvI qd_194_177 (qml_8_91 w) rfl qtm_142 (hpc_25 _ _) (Nat.le_of_ble_eq_true rfl) rfl (Nat.le_of_ble_eq_true rfl) H (fun r5 s5 H => ?_) (fun x s1 H => Or.inr ⟨x, rfl, H⟩)
  exact qS_ireturn qd_194_180 rfl (Or.inl ⟨_, rfl, H⟩)
set_option maxRecDepth 100000 in
theorem k194_209 {w : qE} {s : qS} {k2 : Int} {k1 : Int} {f : Int → qS → Prop} {g : Nat → qS → Prop}  (H : qW w 1 142 [.ref 25, qI (k1 + k2)] s (qPI (fun r6 s6 => f r6 s6) g)) : qR w 1 qm194 209 [] [qI k2, qI k1, .ref 25] s (qPI f g) := by
  refine qS_iadd (a := k1) (b := k2) qd_194_209 ?_
  refine qS_cvI qd_194_210 (qml_8_91 w) rfl qtm_142 (hpc_25 _ _) (Nat.le_of_ble_eq_true rfl) rfl (Nat.le_of_ble_eq_true rfl) H (fun r6 s6 H => ?_) (fun x s1 H => Or.inr ⟨x, rfl, H⟩)
  exact qS_ireturn qd_194_213 rfl (Or.inl ⟨_, rfl, H⟩)
set_option maxRecDepth 100000 in
theorem k203 {w : qE} {s : qS} {a : Nat} {p0 : Int} {p1 : Int} {p2 : Int} {f : qS → Prop} {g : Nat → qS → Prop} (ha : 0 < qlen a) (H : qW w 1 204 [qI ((qlen a : Nat)), qI p0, qI p1] s (qPV (fun s1 => qR w 1 qm203 10 [(0, .ref a), (2, qI p1), (3, qI p2), (4, qI p0)] [] s1 (qPV f g)) g)) : qW w 2 203 [.ref a, qI p0, qI p1, qI p2] s (qPV f g) := by
  refine qW.of (M := qm203) (l := [(0, .ref a), (1, qI p0), (2, qI p1), (3, qI p2)]) qtm_203 rfl (Nat.le_of_ble_eq_true rfl) (zsub_c rfl (zsub_c rfl (zsub_c rfl (zsub_c rfl zsub_n)))) ?_
  refine qS_aload_n qd_203_0 rfl ?_
  refine qS_alen (a := a) qd_203_1 ha ?_
  refine qS_iload_n qd_203_2 rfl ?_
  refine qS_iload_n qd_203_3 rfl ?_
  refine qS_csV qd_203_4 (qml_12_13 w) rfl (Nat.le_of_ble_eq_true rfl) rfl (Nat.le_of_ble_eq_true rfl) H (fun s1 H => ?_) (fun x s1 H => Or.inr ⟨x, rfl, H⟩)
  refine qS_iload_n qd_203_7 rfl ?_
  refine qS_istore (a := [(0, .ref a), (2, qI p1), (3, qI p2)]) qd_203_8 (Nat.le_of_ble_eq_true rfl) (zsub_c rfl (zsub_c rfl (zsub_c rfl zsub_n))) rfl ?_
  exact qS_sub (zsub_c rfl (zsub_c rfl (zsub_c rfl (zsub_c rfl zsub_n)))) H
set_option maxRecDepth 100000 in
theorem k203_10 {w : qE} {s : qS} {a : Nat} {v2 : Int} {v3 : Int} {v4 : Int} {f : qS → Prop} {g : Nat → qS → Prop} (ha : 0 < qlen a) (H : Rg v4 ∧ Rg v2 ∧ (v4 < v2 → (0 ≤ v4 ∧ v4 < (qlen a : Nat) ∧ (qR w 1 qm203 10 [(0, .ref a), (2, qI v2), (3, qI v3), (4, qI (v4 + 1))] [] (qset s a v4 v3) (qPV f g)))) ∧ (v2 ≤ v4 → f s)) : qR w 1 qm203 10 [(0, .ref a), (2, qI v2), (3, qI v3), (4, qI v4)] [] s (qPV f g) := by
  refine qS_iload qd_203_10 rfl ?_
  refine qS_iload_n qd_203_12 rfl ?_
  obtain ⟨h13a, h13b, H1, H2⟩ := H
  refine qS_icmp qd_203_13 rfl (zcnd_ge (a := v4) (b := v2) h13a h13b (fun t => qR w _ _ t _ _ _ _) (fun hc => ?_) (fun hc => ?_))
  · have H := H1 hc; clear H1 H2 hc
    refine qS_aload_n qd_203_16 rfl ?_
    refine qS_iload qd_203_17 rfl ?_
    refine qS_iload_n qd_203_19 rfl ?_
    obtain ⟨hl, hu, H⟩ := H
    refine qS_iastore (a := a) (i := v4) (v := v3) qd_203_20 ha hl hu ?_
    refine qS_iinc (v := v4) (a := [(0, .ref a), (2, qI v2), (3, qI v3)]) qd_203_21 (Nat.le_of_ble_eq_true rfl) rfl (zsub_c rfl (zsub_c rfl (zsub_c rfl zsub_n))) rfl ?_
    refine qS_goto qd_203_24 rfl ?_
    exact qS_sub (zsub_c rfl (zsub_c rfl (zsub_c rfl (zsub_c rfl zsub_n)))) H
  · have H := H2 hc; clear H1 H2 hc
    exact qS_vreturn qd_203_27 rfl (Or.inl ⟨rfl, H⟩)
set_option maxRecDepth 100000 in
theorem k204 {w : qE} {s : qS} {p0 : Int} {p1 : Int} {p2 : Int} {f : qS → Prop} {g : Nat → qS → Prop}  (H : Rg p1 ∧ Rg p2 ∧ (p2 < p1 → False) ∧ (p1 ≤ p2 → (p1 < 0 → False) ∧ (0 ≤ p1 → Rg p0 ∧ (p0 < p2 → False) ∧ (p2 ≤ p0 → f s)))) : qW w 1 204 [qI p0, qI p1, qI p2] s (qPV f g) := by
  refine qW.of (M := qm204) (l := [(0, qI p0), (1, qI p1), (2, qI p2)]) qtm_204 rfl (Nat.le_of_ble_eq_true rfl) (zsub_c rfl (zsub_c rfl (zsub_c rfl zsub_n))) ?_
  refine qS_iload_n qd_204_0 rfl ?_
  refine qS_iload_n qd_204_1 rfl ?_
  obtain ⟨h2a, h2b, H1, H2⟩ := H
  refine qS_icmp qd_204_2 rfl (zcnd_le (a := p1) (b := p2) h2a h2b (fun t => qR w _ _ t _ _ _ _) (fun hc => ?_) (fun hc => ?_))
  · have H := H1 hc; clear H1 H2 hc
    exact H.elim
  · have H := H2 hc; clear H1 H2 hc
    refine qS_iload_n qd_204_46 rfl ?_
    obtain ⟨H1, H2⟩ := H
    refine qS_if0 qd_204_47 rfl (zcnd_ge (a := p1) (b := 0) h2a ⟨by decide, by decide⟩ (fun t => qR w _ _ t _ _ _ _) (fun hc => ?_) (fun hc => ?_))
    · have H := H1 hc; clear H1 H2 hc
      exact H.elim
    · have H := H2 hc; clear H1 H2 hc
      refine qS_iload_n qd_204_59 rfl ?_
      refine qS_iload_n qd_204_60 rfl ?_
      obtain ⟨h61b, H1, H2⟩ := H
      refine qS_icmp qd_204_61 rfl (zcnd_le (a := p2) (b := p0) h2b h61b (fun t => qR w _ _ t _ _ _ _) (fun hc => ?_) (fun hc => ?_))
      · have H := H1 hc; clear H1 H2 hc
        exact H.elim
      · have H := H2 hc; clear H1 H2 hc
        exact qS_vreturn qd_204_73 rfl (Or.inl ⟨rfl, H⟩)
set_option maxRecDepth 100000 in
theorem k205 {w : qE} {s : qS} {p0 : Int} {f : Int → qS → Prop} {g : Nat → qS → Prop}  (H : f (qand (((qand (((qand (p0 - (qand (qushr p0 1) 1431655765)) 858993459) + (qand (qushr (p0 - (qand (qushr p0 1) 1431655765)) 2) 858993459)) + (qushr ((qand (p0 - (qand (qushr p0 1) 1431655765)) 858993459) + (qand (qushr (p0 - (qand (qushr p0 1) 1431655765)) 2) 858993459)) 4)) 252645135) + (qushr (qand (((qand (p0 - (qand (qushr p0 1) 1431655765)) 858993459) + (qand (qushr (p0 - (qand (qushr p0 1) 1431655765)) 2) 858993459)) + (qushr ((qand (p0 - (qand (qushr p0 1) 1431655765)) 858993459) + (qand (qushr (p0 - (qand (qushr p0 1) 1431655765)) 2) 858993459)) 4)) 252645135) 8)) + (qushr ((qand (((qand (p0 - (qand (qushr p0 1) 1431655765)) 858993459) + (qand (qushr (p0 - (qand (qushr p0 1) 1431655765)) 2) 858993459)) + (qushr ((qand (p0 - (qand (qushr p0 1) 1431655765)) 858993459) + (qand (qushr (p0 - (qand (qushr p0 1) 1431655765)) 2) 858993459)) 4)) 252645135) + (qushr (qand (((qand (p0 - (qand (qushr p0 1) 1431655765)) 858993459) + (qand (qushr (p0 - (qand (qushr p0 1) 1431655765)) 2) 858993459)) + (qushr ((qand (p0 - (qand (qushr p0 1) 1431655765)) 858993459) + (qand (qushr (p0 - (qand (qushr p0 1) 1431655765)) 2) 858993459)) 4)) 252645135) 8)) 16)) 63) s) : qW w 1 205 [qI p0] s (qPI f g) := by
  refine qW.of (M := qm205) (l := [(0, qI p0)]) qtm_205 rfl (Nat.le_of_ble_eq_true rfl) (zsub_c rfl zsub_n) ?_
  refine qS_iload_n qd_205_0 rfl ?_
  refine qS_iload_n qd_205_1 rfl ?_
  refine qS_iconst qd_205_2 ?_
  refine qS_iushr (a := p0) (b := 1) qd_205_3 ?_
  refine qS_ldc (v := qI 1431655765) qd_205_4 rfl rfl (fun _ => rfl) (fun _ => qS_k (qkl_13_265 w)) ?_
  refine qS_iand (a := qushr p0 1) (b := 1431655765) qd_205_7 ?_
  refine qS_isub (a := p0) (b := qand (qushr p0 1) 1431655765) qd_205_8 ?_
  refine qS_istore_n (a := []) qd_205_9 (Nat.le_of_ble_eq_true rfl) zsub_n rfl ?_
  refine qS_iload_n qd_205_10 rfl ?_
  refine qS_ldc (v := qI 858993459) qd_205_11 rfl rfl (fun _ => rfl) (fun _ => qS_k (qkl_13_266 w)) ?_
  refine qS_iand (a := p0 - (qand (qushr p0 1) 1431655765)) (b := 858993459) qd_205_14 ?_
  refine qS_iload_n qd_205_15 rfl ?_
  refine qS_iconst qd_205_16 ?_
  refine qS_iushr (a := p0 - (qand (qushr p0 1) 1431655765)) (b := 2) qd_205_17 ?_
  refine qS_ldc (v := qI 858993459) qd_205_18 rfl rfl (fun _ => rfl) (fun _ => qS_k (qkl_13_266 w)) ?_
  refine qS_iand (a := qushr (p0 - (qand (qushr p0 1) 1431655765)) 2) (b := 858993459) qd_205_21 ?_
  refine qS_iadd (a := qand (p0 - (qand (qushr p0 1) 1431655765)) 858993459) (b := qand (qushr (p0 - (qand (qushr p0 1) 1431655765)) 2) 858993459) qd_205_22 ?_
  refine qS_istore_n (a := []) qd_205_23 (Nat.le_of_ble_eq_true rfl) zsub_n rfl ?_
  refine qS_iload_n qd_205_24 rfl ?_
  refine qS_iload_n qd_205_25 rfl ?_
  refine qS_iconst qd_205_26 ?_
  refine qS_iushr (a := (qand (p0 - (qand (qushr p0 1) 1431655765)) 858993459) + (qand (qushr (p0 - (qand (qushr p0 1) 1431655765)) 2) 858993459)) (b := 4) qd_205_27 ?_
  refine qS_iadd (a := (qand (p0 - (qand (qushr p0 1) 1431655765)) 858993459) + (qand (qushr (p0 - (qand (qushr p0 1) 1431655765)) 2) 858993459)) (b := qushr ((qand (p0 - (qand (qushr p0 1) 1431655765)) 858993459) + (qand (qushr (p0 - (qand (qushr p0 1) 1431655765)) 2) 858993459)) 4) qd_205_28 ?_
  refine qS_ldc (v := qI 252645135) qd_205_29 rfl rfl (fun _ => rfl) (fun _ => qS_k (qkl_13_267 w)) ?_
  refine qS_iand (a := ((qand (p0 - (qand (qushr p0 1) 1431655765)) 858993459) + (qand (qushr (p0 - (qand (qushr p0 1) 1431655765)) 2) 858993459)) + (qushr ((qand (p0 - (qand (qushr p0 1) 1431655765)) 858993459) + (qand (qushr (p0 - (qand (qushr p0 1) 1431655765)) 2) 858993459)) 4)) (b := 252645135) qd_205_32 ?_
  refine qS_istore_n (a := []) qd_205_33 (Nat.le_of_ble_eq_true rfl) zsub_n rfl ?_
  refine qS_iload_n qd_205_34 rfl ?_
  refine qS_iload_n qd_205_35 rfl ?_
  refine qS_bipush qd_205_36 (by decide) ?_
  refine qS_iushr (a := qand (((qand (p0 - (qand (qushr p0 1) 1431655765)) 858993459) + (qand (qushr (p0 - (qand (qushr p0 1) 1431655765)) 2) 858993459)) + (qushr ((qand (p0 - (qand (qushr p0 1) 1431655765)) 858993459) + (qand (qushr (p0 - (qand (qushr p0 1) 1431655765)) 2) 858993459)) 4)) 252645135) (b := 8) qd_205_38 ?_
  refine qS_iadd (a := qand (((qand (p0 - (qand (qushr p0 1) 1431655765)) 858993459) + (qand (qushr (p0 - (qand (qushr p0 1) 1431655765)) 2) 858993459)) + (qushr ((qand (p0 - (qand (qushr p0 1) 1431655765)) 858993459) + (qand (qushr (p0 - (qand (qushr p0 1) 1431655765)) 2) 858993459)) 4)) 252645135) (b := qushr (qand (((qand (p0 - (qand (qushr p0 1) 1431655765)) 858993459) + (qand (qushr (p0 - (qand (qushr p0 1) 1431655765)) 2) 858993459)) + (qushr ((qand (p0 - (qand (qushr p0 1) 1431655765)) 858993459) + (qand (qushr (p0 - (qand (qushr p0 1) 1431655765)) 2) 858993459)) 4)) 252645135) 8) qd_205_39 ?_
  refine qS_istore_n (a := []) qd_205_40 (Nat.le_of_ble_eq_true rfl) zsub_n rfl ?_
  refine qS_iload_n qd_205_41 rfl ?_
  refine qS_iload_n qd_205_42 rfl ?_
  refine qS_bipush qd_205_43 (by decide) ?_
  refine qS_iushr (a := (qand (((qand (p0 - (qand (qushr p0 1) 1431655765)) 858993459) + (qand (qushr (p0 - (qand (qushr p0 1) 1431655765)) 2) 858993459)) + (qushr ((qand (p0 - (qand (qushr p0 1) 1431655765)) 858993459) + (qand (qushr (p0 - (qand (qushr p0 1) 1431655765)) 2) 858993459)) 4)) 252645135) + (qushr (qand (((qand (p0 - (qand (qushr p0 1) 1431655765)) 858993459) + (qand (qushr (p0 - (qand (qushr p0 1) 1431655765)) 2) 858993459)) + (qushr ((qand (p0 - (qand (qushr p0 1) 1431655765)) 858993459) + (qand (qushr (p0 - (qand (qushr p0 1) 1431655765)) 2) 858993459)) 4)) 252645135) 8)) (b := 16) qd_205_45 ?_
  refine qS_iadd (a := (qand (((qand (p0 - (qand (qushr p0 1) 1431655765)) 858993459) + (qand (qushr (p0 - (qand (qushr p0 1) 1431655765)) 2) 858993459)) + (qushr ((qand (p0 - (qand (qushr p0 1) 1431655765)) 858993459) + (qand (qushr (p0 - (qand (qushr p0 1) 1431655765)) 2) 858993459)) 4)) 252645135) + (qushr (qand (((qand (p0 - (qand (qushr p0 1) 1431655765)) 858993459) + (qand (qushr (p0 - (qand (qushr p0 1) 1431655765)) 2) 858993459)) + (qushr ((qand (p0 - (qand (qushr p0 1) 1431655765)) 858993459) + (qand (qushr (p0 - (qand (qushr p0 1) 1431655765)) 2) 858993459)) 4)) 252645135) 8)) (b := qushr ((qand (((qand (p0 - (qand (qushr p0 1) 1431655765)) 858993459) + (qand (qushr (p0 - (qand (qushr p0 1) 1431655765)) 2) 858993459)) + (qushr ((qand (p0 - (qand (qushr p0 1) 1431655765)) 858993459) + (qand (qushr (p0 - (qand (qushr p0 1) 1431655765)) 2) 858993459)) 4)) 252645135) + (qushr (qand (((qand (p0 - (qand (qushr p0 1) 1431655765)) 858993459) + (qand (qushr (p0 - (qand (qushr p0 1) 1431655765)) 2) 858993459)) + (qushr ((qand (p0 - (qand (qushr p0 1) 1431655765)) 858993459) + (qand (qushr (p0 - (qand (qushr p0 1) 1431655765)) 2) 858993459)) 4)) 252645135) 8)) 16) qd_205_46 ?_
  refine qS_istore_n (a := []) qd_205_47 (Nat.le_of_ble_eq_true rfl) zsub_n rfl ?_
  refine qS_iload_n qd_205_48 rfl ?_
  refine qS_bipush qd_205_49 (by decide) ?_
  refine qS_iand (a := ((qand (((qand (p0 - (qand (qushr p0 1) 1431655765)) 858993459) + (qand (qushr (p0 - (qand (qushr p0 1) 1431655765)) 2) 858993459)) + (qushr ((qand (p0 - (qand (qushr p0 1) 1431655765)) 858993459) + (qand (qushr (p0 - (qand (qushr p0 1) 1431655765)) 2) 858993459)) 4)) 252645135) + (qushr (qand (((qand (p0 - (qand (qushr p0 1) 1431655765)) 858993459) + (qand (qushr (p0 - (qand (qushr p0 1) 1431655765)) 2) 858993459)) + (qushr ((qand (p0 - (qand (qushr p0 1) 1431655765)) 858993459) + (qand (qushr (p0 - (qand (qushr p0 1) 1431655765)) 2) 858993459)) 4)) 252645135) 8)) + (qushr ((qand (((qand (p0 - (qand (qushr p0 1) 1431655765)) 858993459) + (qand (qushr (p0 - (qand (qushr p0 1) 1431655765)) 2) 858993459)) + (qushr ((qand (p0 - (qand (qushr p0 1) 1431655765)) 858993459) + (qand (qushr (p0 - (qand (qushr p0 1) 1431655765)) 2) 858993459)) 4)) 252645135) + (qushr (qand (((qand (p0 - (qand (qushr p0 1) 1431655765)) 858993459) + (qand (qushr (p0 - (qand (qushr p0 1) 1431655765)) 2) 858993459)) + (qushr ((qand (p0 - (qand (qushr p0 1) 1431655765)) 858993459) + (qand (qushr (p0 - (qand (qushr p0 1) 1431655765)) 2) 858993459)) 4)) 252645135) 8)) 16)) (b := 63) qd_205_51 ?_
  exact qS_ireturn qd_205_52 rfl (Or.inl ⟨_, rfl, H⟩)
