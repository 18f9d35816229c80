/-! what the code does, in numbers: printed by a program of mine (wip/whole/gen_blocks.py, emit.py) -/
set_option maxRecDepth 100000 in
theorem k140 {w : qE} {s : qS} {p0 : Int} {f : Int → qS → Prop} {g : Nat → qS → Prop}  (H : qW w 2 139 [.ref 25, qI p0] s (qPI (fun r1 s1 => Rg r1 ∧ (6 < r1 → qW w 2 141 [.ref 25, qI p0] s1 (qPI (fun r2 s2 => qR w 6 qm140 21 [(0, .ref 25), (1, qI p0), (2, qI r1)] [qI r2] s2 (qPI f g)) g)) ∧ (r1 ≤ 6 → qR w 6 qm140 21 [(0, .ref 25), (1, qI p0), (2, qI r1)] [qI 0] s1 (qPI f g))) g)) : qW w 7 140 [.ref 25, qI p0] s (qPI f g) := by
  refine qW.of (M := qm140) (l := [(0, .ref 25), (1, qI p0)]) qtm_140 rfl (Nat.le_of_ble_eq_true rfl) (zsub_c rfl (zsub_c rfl zsub_n)) ?_
  refine qS_aload_n qd_140_0 rfl ?_
  refine qS_iload_n qd_140_1 rfl ?_
  refine qS_cvI qd_140_2 (qml_8_137 w) rfl qtm_139 (hpc_25 _ _) (Nat.le_of_ble_eq_true rfl) rfl (Nat.le_of_ble_eq_true rfl) H (fun r1 s1 H => ?_) (fun x s1 H => Or.inr ⟨x, rfl, H⟩)
  refine qS_istore_n (a := [(0, .ref 25), (1, qI p0)]) qd_140_5 (Nat.le_of_ble_eq_true rfl) (zsub_c rfl (zsub_c rfl zsub_n)) rfl ?_
  refine qS_iload_n qd_140_6 rfl ?_
  refine qS_bipush qd_140_7 (by decide) ?_
  obtain ⟨h9a, H1, H2⟩ := H
  refine qS_icmp qd_140_9 rfl (zcnd_le (a := r1) (b := 6) h9a ⟨by decide, by decide⟩ (fun t => qR w _ _ t _ _ _ _) (fun hc => ?_) (fun hc => ?_))
  · have H := H1 hc; clear H1 H2 hc
    refine qS_aload_n qd_140_12 rfl ?_
    refine qS_iload_n qd_140_13 rfl ?_
    refine qS_cvI qd_140_14 (qml_8_149 w) rfl qtm_141 (hpc_25 _ _) (Nat.le_of_ble_eq_true rfl) rfl (Nat.le_of_ble_eq_true rfl) H (fun r2 s2 H => ?_) (fun x s1 H => Or.inr ⟨x, rfl, H⟩)
    refine qS_goto qd_140_17 rfl ?_
    exact qS_sub (zsub_c rfl (zsub_c rfl (zsub_c rfl zsub_n))) H
  · have H := H2 hc; clear H1 H2 hc
    refine qS_iconst qd_140_20 ?_
    exact qS_sub (zsub_c rfl (zsub_c rfl (zsub_c rfl zsub_n))) H
set_option maxRecDepth 100000 in
theorem k140_21 {w : qE} {s : qS} {v1 : Int} {v2 : Int} {k0 : Int} {f : Int → qS → Prop} {g : Nat → qS → Prop}  (H : Rg v2 ∧ (6 < v2 → qW w 2 143 [.ref 25, qI v1] s (qPI (fun r3 s3 => qR w 6 qm140 37 [(0, .ref 25), (2, qI v2), (3, qI k0)] [qI r3] s3 (qPI f g)) g)) ∧ (v2 ≤ 6 → qR w 6 qm140 37 [(0, .ref 25), (2, qI v2), (3, qI k0)] [qI 0] s (qPI f g))) : qR w 6 qm140 21 [(0, .ref 25), (1, qI v1), (2, qI v2)] [qI k0] s (qPI f g) := by
  refine qS_istore_n (a := [(0, .ref 25), (1, qI v1), (2, qI v2)]) qd_140_21 (Nat.le_of_ble_eq_true rfl) (zsub_c rfl (zsub_c rfl (zsub_c rfl zsub_n))) rfl ?_
  refine qS_iload_n qd_140_22 rfl ?_
  refine qS_bipush qd_140_23 (by decide) ?_
  obtain ⟨h25a, H1, H2⟩ := H
  refine qS_icmp qd_140_25 rfl (zcnd_le (a := v2) (b := 6) h25a ⟨by decide, by decide⟩ (fun t => qR w _ _ t _ _ _ _) (fun hc => ?_) (fun hc => ?_))
  · have H := H1 hc; clear H1 H2 hc
    refine qS_aload_n qd_140_28 rfl ?_
    refine qS_iload_n qd_140_29 rfl ?_
    refine qS_cvI qd_140_30 (qml_8_140 w) rfl qtm_143 (hpc_25 _ _) (Nat.le_of_ble_eq_true rfl) rfl (Nat.le_of_ble_eq_true rfl) H (fun r3 s3 H => ?_) (fun x s1 H => Or.inr ⟨x, rfl, H⟩)
    refine qS_goto qd_140_33 rfl ?_
    exact qS_sub (zsub_c rfl (zsub_c rfl (zsub_c rfl zsub_n))) H
  · have H := H2 hc; clear H1 H2 hc
    refine qS_iconst qd_140_36 ?_
    exact qS_sub (zsub_c rfl (zsub_c rfl (zsub_c rfl zsub_n))) H
set_option maxRecDepth 100000 in
theorem k140_37 {w : qE} {s : qS} {v2 : Int} {v3 : Int} {k0 : Int} {f : Int → qS → Prop} {g : Nat → qS → Prop}  (H : Rg v2 ∧ (v2 = 7 → qW w 3 144 [.ref 25, qI v3] s (qPI (fun r4 s4 => Rg r4 ∧ (r4 = 0 → qR w 6 qm140 124 [] [] s4 (qPI f g)) ∧ (r4 ≠ 0 → qW w 6 145 [.ref 25, qI v3] s4 (qPI (fun r5 s5 => Rg r5 ∧ (r5 = 0 → qR w 6 qm140 124 [] [] s5 (qPI f g)) ∧ (r5 ≠ 0 → qR w 6 qm140 125 [] [qI 1] s5 (qPI f g))) g))) g)) ∧ (v2 = 8 → qW w 3 144 [.ref 25, qI v3] s (qPI (fun r6 s6 => ((r6 = 0 ∨ r6 = 1) ∧ f r6 s6)) g)) ∧ (v2 = 9 → qW w 2 139 [.ref 25, qI v3] s (qPI (fun r7 s7 => Rg r7 ∧ (r7 = 7 → qW w 6 153 [.ref 25, qI k0, qI 0] s7 (qPI (fun r8 s8 => Rg r8 ∧ (r8 = 0 → qR w 6 qm140 178 [] [] s8 (qPI f g)) ∧ (r8 ≠ 0 → qR w 6 qm140 179 [] [qI 1] s8 (qPI f g))) g)) ∧ (r7 ≠ 7 → qR w 6 qm140 178 [] [] s7 (qPI f g))) g)) ∧ ((v2 = 10 ∨ v2 = 11) → qW w 2 139 [.ref 25, qI v3] s (qPI (fun r9 s9 => Rg r9 ∧ (r9 = 7 → qW w 6 153 [.ref 25, qI k0, qI 1] s9 (qPI (fun r10 s10 => Rg r10 ∧ (r10 = 0 → qR w 6 qm140 245 [] [] s10 (qPI f g)) ∧ (r10 ≠ 0 → qW w 2 141 [.ref 25, qI k0] s10 (qPI (fun r11 s11 => qW w 3 144 [.ref 25, qI r11] s11 (qPI (fun r12 s12 => Rg r12 ∧ (r12 = 0 → qR w 6 qm140 245 [] [] s12 (qPI f g)) ∧ (r12 ≠ 0 → qW w 2 141 [.ref 25, qI k0] s12 (qPI (fun r13 s13 => qW w 4 154 [.ref 25, qI r13] s13 (qPI (fun r14 s14 => Rg r14 ∧ (r14 = 0 → qR w 6 qm140 245 [] [] s14 (qPI f g)) ∧ (r14 ≠ 0 → qW w 2 141 [.ref 25, qI k0] s14 (qPI (fun r15 s15 => qW w 3 155 [.ref 25, qI r15, qI 10] s15 (qPI (fun r16 s16 => Rg r16 ∧ (r16 = 0 → qR w 6 qm140 246 [] [qI 1] s16 (qPI f g)) ∧ (r16 ≠ 0 → qR w 6 qm140 245 [] [] s16 (qPI f g))) g)) g))) g)) g))) g)) g))) g)) ∧ (r9 ≠ 7 → qR w 6 qm140 245 [] [] s9 (qPI f g))) g)) ∧ (v2 = 12 → qW w 3 144 [.ref 25, qI v3] s (qPI (fun r17 s17 => Rg r17 ∧ (r17 = 0 → qR w 6 qm140 302 [] [] s17 (qPI f g)) ∧ (r17 ≠ 0 → qW w 3 144 [.ref 25, qI k0] s17 (qPI (fun r18 s18 => Rg r18 ∧ (r18 = 0 → qR w 6 qm140 302 [] [] s18 (qPI f g)) ∧ (r18 ≠ 0 → qW w 3 157 [.ref 25, qI v3] s18 (qPI (fun r19 s19 => Rg r19 ∧ (r19 = 0 → qW w 4 154 [.ref 25, qI v3] s19 (qPI (fun r20 s20 => Rg r20 ∧ (r20 = 0 → qR w 6 qm140 302 [] [] s20 (qPI f g)) ∧ (r20 ≠ 0 → qR w 6 qm140 280 [(0, .ref 25), (4, qI k0)] [] s20 (qPI f g))) g)) ∧ (r19 ≠ 0 → qR w 6 qm140 280 [(0, .ref 25), (4, qI k0)] [] s19 (qPI f g))) g))) g))) g)) ∧ (v2 = 15 → qW w 2 139 [.ref 25, qI k0] s (qPI (fun r21 s21 => qW w 1 125 [qI v3, qI 1, qI 9] s21 (qPI (fun r22 s22 => Rg r22 ∧ (r22 = 0 → qR w 6 qm140 399 [] [] s22 (qPI f g)) ∧ (r22 ≠ 0 → Rg v3 ∧ (v3 < 5 → Rg r21 ∧ (r21 = 9 → qR w 6 qm140 395 [] [] s22 (qPI f g)) ∧ (r21 ≠ 9 → qR w 6 qm140 399 [] [] s22 (qPI f g))) ∧ (5 ≤ v3 → (v3 = 9 → Rg r21 ∧ (r21 = 11 → qR w 6 qm140 395 [] [] s22 (qPI f g)) ∧ (r21 ≠ 11 → qR w 6 qm140 399 [] [] s22 (qPI f g))) ∧ (v3 ≠ 9 → Rg r21 ∧ (r21 = 10 → qR w 6 qm140 395 [] [] s22 (qPI f g)) ∧ (r21 ≠ 10 → (v3 = 6 → qR w 6 qm140 388 [(5, qI r21)] [] s22 (qPI f g)) ∧ (v3 ≠ 6 → (v3 = 7 → qR w 6 qm140 388 [(5, qI r21)] [] s22 (qPI f g)) ∧ (v3 ≠ 7 → qR w 6 qm140 399 [] [] s22 (qPI f g)))))))) g)) g)) ∧ (v2 = 16 → qW w 3 144 [.ref 25, qI v3] s (qPI (fun r23 s23 => Rg r23 ∧ (r23 = 0 → qR w 6 qm140 152 [] [] s23 (qPI f g)) ∧ (r23 ≠ 0 → qW w 5 152 [.ref 25, qI v3] s23 (qPI (fun r24 s24 => Rg r24 ∧ (r24 = 0 → qR w 6 qm140 152 [] [] s24 (qPI f g)) ∧ (r24 ≠ 0 → qR w 6 qm140 153 [] [qI 1] s24 (qPI f g))) g))) g)) ∧ (v2 = 17 → qW w 6 153 [.ref 25, qI k0, qI 0] s (qPI (fun r25 s25 => ((r25 = 0 ∨ r25 = 1) ∧ f r25 s25)) g)) ∧ (v2 = 18 → qW w 6 153 [.ref 25, qI k0, qI 1] s (qPI (fun r26 s26 => ((r26 = 0 ∨ r26 = 1) ∧ f r26 s26)) g)) ∧ (v2 ≠ 7 → v2 ≠ 8 → v2 ≠ 9 → v2 ≠ 10 → v2 ≠ 11 → v2 ≠ 12 → v2 ≠ 15 → v2 ≠ 16 → v2 ≠ 17 → v2 ≠ 18 → f 1 s)) : qR w 6 qm140 37 [(0, .ref 25), (2, qI v2), (3, qI v3)] [qI k0] s (qPI f g) := by
  refine qS_istore (a := [(0, .ref 25), (2, qI v2), (3, qI v3)]) qd_140_37 (Nat.le_of_ble_eq_true rfl) (zsub_c rfl (zsub_c rfl (zsub_c rfl zsub_n))) rfl ?_
  refine qS_iload_n qd_140_39 rfl ?_
  obtain ⟨h40a, H1, H2, H3, H4, H5, H6, H7, H8, H9, Hd⟩ := H
  by_cases hc0 : v2 = 7
  · refine qS_tsw qd_140_40 (t := 104) h40a (by rw [hc0]; rfl) ?_
    have H := H1 hc0
    refine qS_aload_n qd_140_104 rfl ?_
    refine qS_iload_n qd_140_105 rfl ?_
    refine qS_cvI qd_140_106 (qml_8_143 w) rfl qtm_144 (hpc_25 _ _) (Nat.le_of_ble_eq_true rfl) rfl (Nat.le_of_ble_eq_true rfl) H (fun r4 s4 H => ?_) (fun x s1 H => Or.inr ⟨x, rfl, H⟩)
    obtain ⟨h109a, H1, H2⟩ := H
    refine qS_if0 qd_140_109 rfl (zcnd_eq (a := r4) (b := 0) h109a ⟨by decide, by decide⟩ (fun t => qR w _ _ t _ _ _ _) (fun hc => ?_) (fun hc => ?_))
    · have H := H1 hc; clear H1 H2 hc
      exact qS_sub zsub_n H
    · have H := H2 hc; clear H1 H2 hc
      refine qS_aload_n qd_140_112 rfl ?_
      refine qS_iload_n qd_140_113 rfl ?_
      refine qS_cvI qd_140_114 (qml_8_158 w) rfl qtm_145 (hpc_25 _ _) (Nat.le_of_ble_eq_true rfl) rfl (Nat.le_of_ble_eq_true rfl) H (fun r5 s5 H => ?_) (fun x s1 H => Or.inr ⟨x, rfl, H⟩)
      obtain ⟨h117a, H1, H2⟩ := H
      refine qS_if0 qd_140_117 rfl (zcnd_eq (a := r5) (b := 0) h117a ⟨by decide, by decide⟩ (fun t => qR w _ _ t _ _ _ _) (fun hc => ?_) (fun hc => ?_))
      · have H := H1 hc; clear H1 H2 hc
        exact qS_sub zsub_n H
      · have H := H2 hc; clear H1 H2 hc
        refine qS_iconst qd_140_120 ?_
        refine qS_goto qd_140_121 rfl ?_
        exact qS_sub zsub_n H
  by_cases hc1 : v2 = 8
  · refine qS_tsw qd_140_40 (t := 126) h40a (by rw [hc1]; rfl) ?_
    have H := H2 hc1
    refine qS_aload_n qd_140_126 rfl ?_
    refine qS_iload_n qd_140_127 rfl ?_
    refine qS_cvI qd_140_128 (qml_8_143 w) rfl qtm_144 (hpc_25 _ _) (Nat.le_of_ble_eq_true rfl) rfl (Nat.le_of_ble_eq_true rfl) H (fun r6 s6 H => ?_) (fun x s1 H => Or.inr ⟨x, rfl, H⟩)
    exact qS_zreturn qd_140_131 rfl H.1 (Or.inl ⟨_, rfl, H.2⟩)
  by_cases hc2 : v2 = 9
  · refine qS_tsw qd_140_40 (t := 154) h40a (by rw [hc2]; rfl) ?_
    have H := H3 hc2
    refine qS_aload_n qd_140_154 rfl ?_
    refine qS_iload_n qd_140_155 rfl ?_
    refine qS_cvI qd_140_156 (qml_8_137 w) rfl qtm_139 (hpc_25 _ _) (Nat.le_of_ble_eq_true rfl) rfl (Nat.le_of_ble_eq_true rfl) H (fun r7 s7 H => ?_) (fun x s1 H => Or.inr ⟨x, rfl, H⟩)
    refine qS_bipush qd_140_159 (by decide) ?_
    obtain ⟨h161a, H1, H2⟩ := H
    refine qS_icmp qd_140_161 rfl (zcnd_ne (a := r7) (b := 7) h161a ⟨by decide, by decide⟩ (fun t => qR w _ _ t _ _ _ _) (fun hc => ?_) (fun hc => ?_))
    · have H := H1 hc; clear H1 H2 hc
      refine qS_aload_n qd_140_164 rfl ?_
      refine qS_iload qd_140_165 rfl ?_
      refine qS_iconst qd_140_167 ?_
      refine qS_cvI qd_140_168 (qml_8_161 w) rfl qtm_153 (hpc_25 _ _) (Nat.le_of_ble_eq_true rfl) rfl (Nat.le_of_ble_eq_true rfl) H (fun r8 s8 H => ?_) (fun x s1 H => Or.inr ⟨x, rfl, H⟩)
      obtain ⟨h171a, H1, H2⟩ := H
      refine qS_if0 qd_140_171 rfl (zcnd_eq (a := r8) (b := 0) h171a ⟨by decide, by decide⟩ (fun t => qR w _ _ t _ _ _ _) (fun hc => ?_) (fun hc => ?_))
      · have H := H1 hc; clear H1 H2 hc
        exact qS_sub zsub_n H
      · have H := H2 hc; clear H1 H2 hc
        refine qS_iconst qd_140_174 ?_
        refine qS_goto qd_140_175 rfl ?_
        exact qS_sub zsub_n H
    · have H := H2 hc; clear H1 H2 hc
      exact qS_sub zsub_n H
  by_cases hc3 : v2 = 10 ∨ v2 = 11
  · refine qS_tsw qd_140_40 (t := 180) h40a (by rcases hc3 with hq | hq <;> (rw [hq]; rfl)) ?_
    have H := H4 hc3
    refine qS_aload_n qd_140_180 rfl ?_
    refine qS_iload_n qd_140_181 rfl ?_
    refine qS_cvI qd_140_182 (qml_8_137 w) rfl qtm_139 (hpc_25 _ _) (Nat.le_of_ble_eq_true rfl) rfl (Nat.le_of_ble_eq_true rfl) H (fun r9 s9 H => ?_) (fun x s1 H => Or.inr ⟨x, rfl, H⟩)
    refine qS_bipush qd_140_185 (by decide) ?_
    obtain ⟨h187a, H1, H2⟩ := H
    refine qS_icmp qd_140_187 rfl (zcnd_ne (a := r9) (b := 7) h187a ⟨by decide, by decide⟩ (fun t => qR w _ _ t _ _ _ _) (fun hc => ?_) (fun hc => ?_))
    · have H := H1 hc; clear H1 H2 hc
      refine qS_aload_n qd_140_190 rfl ?_
      refine qS_iload qd_140_191 rfl ?_
      refine qS_iconst qd_140_193 ?_
      refine qS_cvI qd_140_194 (qml_8_161 w) rfl qtm_153 (hpc_25 _ _) (Nat.le_of_ble_eq_true rfl) rfl (Nat.le_of_ble_eq_true rfl) H (fun r10 s10 H => ?_) (fun x s1 H => Or.inr ⟨x, rfl, H⟩)
      obtain ⟨h197a, H1, H2⟩ := H
      refine qS_if0 qd_140_197 rfl (zcnd_eq (a := r10) (b := 0) h197a ⟨by decide, by decide⟩ (fun t => qR w _ _ t _ _ _ _) (fun hc => ?_) (fun hc => ?_))
      · have H := H1 hc; clear H1 H2 hc
        exact qS_sub zsub_n H
      · have H := H2 hc; clear H1 H2 hc
        refine qS_aload_n qd_140_200 rfl ?_
        refine qS_aload_n qd_140_201 rfl ?_
        refine qS_iload qd_140_202 rfl ?_
        refine qS_cvI qd_140_204 (qml_8_149 w) rfl qtm_141 (hpc_25 _ _) (Nat.le_of_ble_eq_true rfl) rfl (Nat.le_of_ble_eq_true rfl) H (fun r11 s11 H => ?_) (fun x s1 H => Or.inr ⟨x, rfl, H⟩)
        refine qS_cvI qd_140_207 (qml_8_143 w) rfl qtm_144 (hpc_25 _ _) (Nat.le_of_ble_eq_true rfl) rfl (Nat.le_of_ble_eq_true rfl) H (fun r12 s12 H => ?_) (fun x s1 H => Or.inr ⟨x, rfl, H⟩)
        obtain ⟨h210a, H1, H2⟩ := H
        refine qS_if0 qd_140_210 rfl (zcnd_eq (a := r12) (b := 0) h210a ⟨by decide, by decide⟩ (fun t => qR w _ _ t _ _ _ _) (fun hc => ?_) (fun hc => ?_))
        · have H := H1 hc; clear H1 H2 hc
          exact qS_sub zsub_n H
        · have H := H2 hc; clear H1 H2 hc
          refine qS_aload_n qd_140_213 rfl ?_
          refine qS_aload_n qd_140_214 rfl ?_
          refine qS_iload qd_140_215 rfl ?_
          refine qS_cvI qd_140_217 (qml_8_149 w) rfl qtm_141 (hpc_25 _ _) (Nat.le_of_ble_eq_true rfl) rfl (Nat.le_of_ble_eq_true rfl) H (fun r13 s13 H => ?_) (fun x s1 H => Or.inr ⟨x, rfl, H⟩)
          refine qS_cvI qd_140_220 (qml_8_165 w) rfl qtm_154 (hpc_25 _ _) (Nat.le_of_ble_eq_true rfl) rfl (Nat.le_of_ble_eq_true rfl) H (fun r14 s14 H => ?_) (fun x s1 H => Or.inr ⟨x, rfl, H⟩)
          obtain ⟨h223a, H1, H2⟩ := H
          refine qS_if0 qd_140_223 rfl (zcnd_eq (a := r14) (b := 0) h223a ⟨by decide, by decide⟩ (fun t => qR w _ _ t _ _ _ _) (fun hc => ?_) (fun hc => ?_))
          · have H := H1 hc; clear H1 H2 hc
            exact qS_sub zsub_n H
          · have H := H2 hc; clear H1 H2 hc
            refine qS_aload_n qd_140_226 rfl ?_
            refine qS_aload_n qd_140_227 rfl ?_
            refine qS_iload qd_140_228 rfl ?_
            refine qS_cvI qd_140_230 (qml_8_149 w) rfl qtm_141 (hpc_25 _ _) (Nat.le_of_ble_eq_true rfl) rfl (Nat.le_of_ble_eq_true rfl) H (fun r15 s15 H => ?_) (fun x s1 H => Or.inr ⟨x, rfl, H⟩)
            refine qS_bipush qd_140_233 (by decide) ?_
            refine qS_cvI qd_140_235 (qml_8_111 w) rfl qtm_155 (hpc_25 _ _) (Nat.le_of_ble_eq_true rfl) rfl (Nat.le_of_ble_eq_true rfl) H (fun r16 s16 H => ?_) (fun x s1 H => Or.inr ⟨x, rfl, H⟩)
            obtain ⟨h238a, H1, H2⟩ := H
            refine qS_if0 qd_140_238 rfl (zcnd_ne (a := r16) (b := 0) h238a ⟨by decide, by decide⟩ (fun t => qR w _ _ t _ _ _ _) (fun hc => ?_) (fun hc => ?_))
            · have H := H1 hc; clear H1 H2 hc
              refine qS_iconst qd_140_241 ?_
              refine qS_goto qd_140_242 rfl ?_
              exact qS_sub zsub_n H
            · have H := H2 hc; clear H1 H2 hc
              exact qS_sub zsub_n H
    · have H := H2 hc; clear H1 H2 hc
      exact qS_sub zsub_n H
  by_cases hc4 : v2 = 12
  · refine qS_tsw qd_140_40 (t := 247) h40a (by rw [hc4]; rfl) ?_
    have H := H5 hc4
    refine qS_aload_n qd_140_247 rfl ?_
    refine qS_iload_n qd_140_248 rfl ?_
    refine qS_cvI qd_140_249 (qml_8_143 w) rfl qtm_144 (hpc_25 _ _) (Nat.le_of_ble_eq_true rfl) rfl (Nat.le_of_ble_eq_true rfl) H (fun r17 s17 H => ?_) (fun x s1 H => Or.inr ⟨x, rfl, H⟩)
    obtain ⟨h252a, H1, H2⟩ := H
    refine qS_if0 qd_140_252 rfl (zcnd_eq (a := r17) (b := 0) h252a ⟨by decide, by decide⟩ (fun t => qR w _ _ t _ _ _ _) (fun hc => ?_) (fun hc => ?_))
    · have H := H1 hc; clear H1 H2 hc
      exact qS_sub zsub_n H
    · have H := H2 hc; clear H1 H2 hc
      refine qS_aload_n qd_140_255 rfl ?_
      refine qS_iload qd_140_256 rfl ?_
      refine qS_cvI qd_140_258 (qml_8_143 w) rfl qtm_144 (hpc_25 _ _) (Nat.le_of_ble_eq_true rfl) rfl (Nat.le_of_ble_eq_true rfl) H (fun r18 s18 H => ?_) (fun x s1 H => Or.inr ⟨x, rfl, H⟩)
      obtain ⟨h261a, H1, H2⟩ := H
      refine qS_if0 qd_140_261 rfl (zcnd_eq (a := r18) (b := 0) h261a ⟨by decide, by decide⟩ (fun t => qR w _ _ t _ _ _ _) (fun hc => ?_) (fun hc => ?_))
      · have H := H1 hc; clear H1 H2 hc
        exact qS_sub zsub_n H
      · have H := H2 hc; clear H1 H2 hc
        refine qS_aload_n qd_140_264 rfl ?_
        refine qS_iload_n qd_140_265 rfl ?_
        refine qS_cvI qd_140_266 (qml_8_115 w) rfl qtm_157 (hpc_25 _ _) (Nat.le_of_ble_eq_true rfl) rfl (Nat.le_of_ble_eq_true rfl) H (fun r19 s19 H => ?_) (fun x s1 H => Or.inr ⟨x, rfl, H⟩)
        obtain ⟨h269a, H1, H2⟩ := H
        refine qS_if0 qd_140_269 rfl (zcnd_ne (a := r19) (b := 0) h269a ⟨by decide, by decide⟩ (fun t => qR w _ _ t _ _ _ _) (fun hc => ?_) (fun hc => ?_))
        · have H := H1 hc; clear H1 H2 hc
          refine qS_aload_n qd_140_272 rfl ?_
          refine qS_iload_n qd_140_273 rfl ?_
          refine qS_cvI qd_140_274 (qml_8_165 w) rfl qtm_154 (hpc_25 _ _) (Nat.le_of_ble_eq_true rfl) rfl (Nat.le_of_ble_eq_true rfl) H (fun r20 s20 H => ?_) (fun x s1 H => Or.inr ⟨x, rfl, H⟩)
          obtain ⟨h277a, H1, H2⟩ := H
          refine qS_if0 qd_140_277 rfl (zcnd_eq (a := r20) (b := 0) h277a ⟨by decide, by decide⟩ (fun t => qR w _ _ t _ _ _ _) (fun hc => ?_) (fun hc => ?_))
          · have H := H1 hc; clear H1 H2 hc
            exact qS_sub zsub_n H
          · have H := H2 hc; clear H1 H2 hc
            exact qS_sub (zsub_c rfl (zsub_c rfl zsub_n)) H
        · have H := H2 hc; clear H1 H2 hc
          exact qS_sub (zsub_c rfl (zsub_c rfl zsub_n)) H
  by_cases hc5 : v2 = 15
  · refine qS_tsw qd_140_40 (t := 320) h40a (by rw [hc5]; rfl) ?_
    have H := H6 hc5
    refine qS_aload_n qd_140_320 rfl ?_
    refine qS_iload qd_140_321 rfl ?_
    refine qS_cvI qd_140_323 (qml_8_137 w) rfl qtm_139 (hpc_25 _ _) (Nat.le_of_ble_eq_true rfl) rfl (Nat.le_of_ble_eq_true rfl) H (fun r21 s21 H => ?_) (fun x s1 H => Or.inr ⟨x, rfl, H⟩)
    refine qS_istore (a := [(3, qI v3)]) qd_140_326 (Nat.le_of_ble_eq_true rfl) (zsub_c rfl zsub_n) rfl ?_
    refine qS_iload_n qd_140_328 rfl ?_
    refine qS_iconst qd_140_329 ?_
    refine qS_bipush qd_140_330 (by decide) ?_
    refine qS_csI qd_140_332 (qml_8_63 w) rfl (Nat.le_of_ble_eq_true rfl) rfl (Nat.le_of_ble_eq_true rfl) H (fun r22 s22 H => ?_) (fun x s1 H => Or.inr ⟨x, rfl, H⟩)
    obtain ⟨h335a, H1, H2⟩ := H
    refine qS_if0 qd_140_335 rfl (zcnd_eq (a := r22) (b := 0) h335a ⟨by decide, by decide⟩ (fun t => qR w _ _ t _ _ _ _) (fun hc => ?_) (fun hc => ?_))
    · have H := H1 hc; clear H1 H2 hc
      exact qS_sub zsub_n H
    · have H := H2 hc; clear H1 H2 hc
      refine qS_iload_n qd_140_338 rfl ?_
      refine qS_iconst qd_140_339 ?_
      obtain ⟨h340a, H1, H2⟩ := H
      refine qS_icmp qd_140_340 rfl (zcnd_ge (a := v3) (b := 5) h340a ⟨by decide, by decide⟩ (fun t => qR w _ _ t _ _ _ _) (fun hc => ?_) (fun hc => ?_))
      · have H := H1 hc; clear H1 H2 hc
        refine qS_iload qd_140_343 rfl ?_
        refine qS_bipush qd_140_345 (by decide) ?_
        obtain ⟨h347a, H1, H2⟩ := H
        refine qS_icmp qd_140_347 rfl (zcnd_ne (a := r21) (b := 9) h347a ⟨by decide, by decide⟩ (fun t => qR w _ _ t _ _ _ _) (fun hc => ?_) (fun hc => ?_))
        · have H := H1 hc; clear H1 H2 hc
          refine qS_goto qd_140_350 rfl ?_
          exact qS_sub zsub_n H
        · have H := H2 hc; clear H1 H2 hc
          exact qS_sub zsub_n H
      · have H := H2 hc; clear H1 H2 hc
        refine qS_iload_n qd_140_353 rfl ?_
        refine qS_bipush qd_140_354 (by decide) ?_
        obtain ⟨H1, H2⟩ := H
        refine qS_icmp qd_140_356 rfl (zcnd_ne (a := v3) (b := 9) h340a ⟨by decide, by decide⟩ (fun t => qR w _ _ t _ _ _ _) (fun hc => ?_) (fun hc => ?_))
        · have H := H1 hc; clear H1 H2 hc
          refine qS_iload qd_140_359 rfl ?_
          refine qS_bipush qd_140_361 (by decide) ?_
          obtain ⟨h363a, H1, H2⟩ := H
          refine qS_icmp qd_140_363 rfl (zcnd_ne (a := r21) (b := 11) h363a ⟨by decide, by decide⟩ (fun t => qR w _ _ t _ _ _ _) (fun hc => ?_) (fun hc => ?_))
          · have H := H1 hc; clear H1 H2 hc
            refine qS_goto qd_140_366 rfl ?_
            exact qS_sub zsub_n H
          · have H := H2 hc; clear H1 H2 hc
            exact qS_sub zsub_n H
        · have H := H2 hc; clear H1 H2 hc
          refine qS_iload qd_140_369 rfl ?_
          refine qS_bipush qd_140_371 (by decide) ?_
          obtain ⟨h373a, H1, H2⟩ := H
          refine qS_icmp qd_140_373 rfl (zcnd_eq (a := r21) (b := 10) h373a ⟨by decide, by decide⟩ (fun t => qR w _ _ t _ _ _ _) (fun hc => ?_) (fun hc => ?_))
          · have H := H1 hc; clear H1 H2 hc
            exact qS_sub zsub_n H
          · have H := H2 hc; clear H1 H2 hc
            refine qS_iload_n qd_140_376 rfl ?_
            refine qS_bipush qd_140_377 (by decide) ?_
            obtain ⟨H1, H2⟩ := H
            refine qS_icmp qd_140_379 rfl (zcnd_eq (a := v3) (b := 6) h340a ⟨by decide, by decide⟩ (fun t => qR w _ _ t _ _ _ _) (fun hc => ?_) (fun hc => ?_))
            · have H := H1 hc; clear H1 H2 hc
              exact qS_sub (zsub_c rfl zsub_n) H
            · have H := H2 hc; clear H1 H2 hc
              refine qS_iload_n qd_140_382 rfl ?_
              refine qS_bipush qd_140_383 (by decide) ?_
              obtain ⟨H1, H2⟩ := H
              refine qS_icmp qd_140_385 rfl (zcnd_ne (a := v3) (b := 7) h340a ⟨by decide, by decide⟩ (fun t => qR w _ _ t _ _ _ _) (fun hc => ?_) (fun hc => ?_))
              · have H := H1 hc; clear H1 H2 hc
                exact qS_sub (zsub_c rfl zsub_n) H
              · have H := H2 hc; clear H1 H2 hc
                exact qS_sub zsub_n H
  by_cases hc6 : v2 = 16
  · refine qS_tsw qd_140_40 (t := 132) h40a (by rw [hc6]; rfl) ?_
    have H := H7 hc6
    refine qS_aload_n qd_140_132 rfl ?_
    refine qS_iload_n qd_140_133 rfl ?_
    refine qS_cvI qd_140_134 (qml_8_143 w) rfl qtm_144 (hpc_25 _ _) (Nat.le_of_ble_eq_true rfl) rfl (Nat.le_of_ble_eq_true rfl) H (fun r23 s23 H => ?_) (fun x s1 H => Or.inr ⟨x, rfl, H⟩)
    obtain ⟨h137a, H1, H2⟩ := H
    refine qS_if0 qd_140_137 rfl (zcnd_eq (a := r23) (b := 0) h137a ⟨by decide, by decide⟩ (fun t => qR w _ _ t _ _ _ _) (fun hc => ?_) (fun hc => ?_))
    · have H := H1 hc; clear H1 H2 hc
      exact qS_sub zsub_n H
    · have H := H2 hc; clear H1 H2 hc
      refine qS_aload_n qd_140_140 rfl ?_
      refine qS_iload_n qd_140_141 rfl ?_
      refine qS_cvI qd_140_142 (qml_8_146 w) rfl qtm_152 (hpc_25 _ _) (Nat.le_of_ble_eq_true rfl) rfl (Nat.le_of_ble_eq_true rfl) H (fun r24 s24 H => ?_) (fun x s1 H => Or.inr ⟨x, rfl, H⟩)
      obtain ⟨h145a, H1, H2⟩ := H
      refine qS_if0 qd_140_145 rfl (zcnd_eq (a := r24) (b := 0) h145a ⟨by decide, by decide⟩ (fun t => qR w _ _ t _ _ _ _) (fun hc => ?_) (fun hc => ?_))
      · have H := H1 hc; clear H1 H2 hc
        exact qS_sub zsub_n H
      · have H := H2 hc; clear H1 H2 hc
        refine qS_iconst qd_140_148 ?_
        refine qS_goto qd_140_149 rfl ?_
        exact qS_sub zsub_n H
  by_cases hc7 : v2 = 17
  · refine qS_tsw qd_140_40 (t := 304) h40a (by rw [hc7]; rfl) ?_
    have H := H8 hc7
    refine qS_aload_n qd_140_304 rfl ?_
    refine qS_iload qd_140_305 rfl ?_
    refine qS_iconst qd_140_307 ?_
    refine qS_cvI qd_140_308 (qml_8_161 w) rfl qtm_153 (hpc_25 _ _) (Nat.le_of_ble_eq_true rfl) rfl (Nat.le_of_ble_eq_true rfl) H (fun r25 s25 H => ?_) (fun x s1 H => Or.inr ⟨x, rfl, H⟩)
    exact qS_zreturn qd_140_311 rfl H.1 (Or.inl ⟨_, rfl, H.2⟩)
  by_cases hc8 : v2 = 18
  · refine qS_tsw qd_140_40 (t := 312) h40a (by rw [hc8]; rfl) ?_
    have H := H9 hc8
    refine qS_aload_n qd_140_312 rfl ?_
    refine qS_iload qd_140_313 rfl ?_
    refine qS_iconst qd_140_315 ?_
    refine qS_cvI qd_140_316 (qml_8_161 w) rfl qtm_153 (hpc_25 _ _) (Nat.le_of_ble_eq_true rfl) rfl (Nat.le_of_ble_eq_true rfl) H (fun r26 s26 H => ?_) (fun x s1 H => Or.inr ⟨x, rfl, H⟩)
    exact qS_zreturn qd_140_319 rfl H.1 (Or.inl ⟨_, rfl, H.2⟩)
  refine qS_tsw qd_140_40 (t := 401) h40a (by
    by_cases hz : v2 < 7 ∨ 18 < v2
    · unfold ztsw; rw [if_pos hz]; rfl
    · have hz2 : v2 = 13 ∨ v2 = 14 := by omega
      rcases hz2 with hq | hq <;> (rw [hq]; rfl)) ?_
  have H := Hd (by omega) (by omega) (by omega) (by omega) (by omega) (by omega) (by omega) (by omega) (by omega) (by omega)
  refine qS_iconst qd_140_401 ?_
  exact qS_zreturn qd_140_402 rfl (Or.inr rfl) (Or.inl ⟨_, rfl, H⟩)
set_option maxRecDepth 100000 in
theorem k140_124 {w : qE} {s : qS}  {f : Int → qS → Prop} {g : Nat → qS → Prop}  (H : qR w 6 qm140 125 [] [qI 0] s (qPI f g)) : qR w 6 qm140 124 [] [] s (qPI f g) := by
  refine qS_iconst qd_140_124 ?_
  exact qS_sub zsub_n H
set_option maxRecDepth 100000 in
theorem k140_125 {w : qE} {s : qS} {k0 : Int} {f : Int → qS → Prop} {g : Nat → qS → Prop}  (H : ((k0 = 0 ∨ k0 = 1) ∧ f k0 s)) : qR w 6 qm140 125 [] [qI k0] s (qPI f g) := by
  exact qS_zreturn qd_140_125 rfl H.1 (Or.inl ⟨_, rfl, H.2⟩)
set_option maxRecDepth 100000 in
theorem k140_152 {w : qE} {s : qS}  {f : Int → qS → Prop} {g : Nat → qS → Prop}  (H : qR w 6 qm140 153 [] [qI 0] s (qPI f g)) : qR w 6 qm140 152 [] [] s (qPI f g) := by
  refine qS_iconst qd_140_152 ?_
  exact qS_sub zsub_n H
set_option maxRecDepth 100000 in
theorem k140_153 {w : qE} {s : qS} {k0 : Int} {f : Int → qS → Prop} {g : Nat → qS → Prop}  (H : ((k0 = 0 ∨ k0 = 1) ∧ f k0 s)) : qR w 6 qm140 153 [] [qI k0] s (qPI f g) := by
  exact qS_zreturn qd_140_153 rfl H.1 (Or.inl ⟨_, rfl, H.2⟩)
set_option maxRecDepth 100000 in
theorem k140_178 {w : qE} {s : qS}  {f : Int → qS → Prop} {g : Nat → qS → Prop}  (H : qR w 6 qm140 179 [] [qI 0] s (qPI f g)) : qR w 6 qm140 178 [] [] s (qPI f g) := by
  refine qS_iconst qd_140_178 ?_
  exact qS_sub zsub_n H
set_option maxRecDepth 100000 in
theorem k140_179 {w : qE} {s : qS} {k0 : Int} {f : Int → qS → Prop} {g : Nat → qS → Prop}  (H : ((k0 = 0 ∨ k0 = 1) ∧ f k0 s)) : qR w 6 qm140 179 [] [qI k0] s (qPI f g) := by
  exact qS_zreturn qd_140_179 rfl H.1 (Or.inl ⟨_, rfl, H.2⟩)
set_option maxRecDepth 100000 in
theorem k140_245 {w : qE} {s : qS}  {f : Int → qS → Prop} {g : Nat → qS → Prop}  (H : qR w 6 qm140 246 [] [qI 0] s (qPI f g)) : qR w 6 qm140 245 [] [] s (qPI f g) := by
  refine qS_iconst qd_140_245 ?_
  exact qS_sub zsub_n H
set_option maxRecDepth 100000 in
theorem k140_246 {w : qE} {s : qS} {k0 : Int} {f : Int → qS → Prop} {g : Nat → qS → Prop}  (H : ((k0 = 0 ∨ k0 = 1) ∧ f k0 s)) : qR w 6 qm140 246 [] [qI k0] s (qPI f g) := by
  exact qS_zreturn qd_140_246 rfl H.1 (Or.inl ⟨_, rfl, H.2⟩)
set_option maxRecDepth 100000 in
theorem k140_280 {w : qE} {s : qS} {v4 : Int} {f : Int → qS → Prop} {g : Nat → qS → Prop}  (H : qW w 5 147 [.ref 25, qI v4] s (qPI (fun r27 s27 => Rg r27 ∧ (r27 = 0 → qW w 5 152 [.ref 25, qI v4] s27 (qPI (fun r28 s28 => Rg r28 ∧ (r28 = 0 → qR w 6 qm140 302 [] [] s28 (qPI f g)) ∧ (r28 ≠ 0 → qR w 6 qm140 298 [] [] s28 (qPI f g))) g)) ∧ (r27 ≠ 0 → qR w 6 qm140 298 [] [] s27 (qPI f g))) g)) : qR w 6 qm140 280 [(0, .ref 25), (4, qI v4)] [] s (qPI f g) := by
  refine qS_aload_n qd_140_280 rfl ?_
  refine qS_iload qd_140_281 rfl ?_
  refine qS_cvI qd_140_283 (qml_8_134 w) rfl qtm_147 (hpc_25 _ _) (Nat.le_of_ble_eq_true rfl) rfl (Nat.le_of_ble_eq_true rfl) H (fun r27 s27 H => ?_) (fun x s1 H => Or.inr ⟨x, rfl, H⟩)
  obtain ⟨h286a, H1, H2⟩ := H
  refine qS_if0 qd_140_286 rfl (zcnd_ne (a := r27) (b := 0) h286a ⟨by decide, by decide⟩ (fun t => qR w _ _ t _ _ _ _) (fun hc => ?_) (fun hc => ?_))
  · have H := H1 hc; clear H1 H2 hc
    refine qS_aload_n qd_140_289 rfl ?_
    refine qS_iload qd_140_290 rfl ?_
    refine qS_cvI qd_140_292 (qml_8_146 w) rfl qtm_152 (hpc_25 _ _) (Nat.le_of_ble_eq_true rfl) rfl (Nat.le_of_ble_eq_true rfl) H (fun r28 s28 H => ?_) (fun x s1 H => Or.inr ⟨x, rfl, H⟩)
    obtain ⟨h295a, H1, H2⟩ := H
    refine qS_if0 qd_140_295 rfl (zcnd_eq (a := r28) (b := 0) h295a ⟨by decide, by decide⟩ (fun t => qR w _ _ t _ _ _ _) (fun hc => ?_) (fun hc => ?_))
    · have H := H1 hc; clear H1 H2 hc
      exact qS_sub zsub_n H
    · have H := H2 hc; clear H1 H2 hc
      exact qS_sub zsub_n H
  · have H := H2 hc; clear H1 H2 hc
    exact qS_sub zsub_n H
set_option maxRecDepth 100000 in
theorem k140_302 {w : qE} {s : qS}  {f : Int → qS → Prop} {g : Nat → qS → Prop}  (H : qR w 6 qm140 303 [] [qI 0] s (qPI f g)) : qR w 6 qm140 302 [] [] s (qPI f g) := by
  refine qS_iconst qd_140_302 ?_
  exact qS_sub zsub_n H
set_option maxRecDepth 100000 in
theorem k140_388 {w : qE} {s : qS} {v5 : Int} {f : Int → qS → Prop} {g : Nat → qS → Prop}  (H : Rg v5 ∧ (v5 = 11 → qR w 6 qm140 395 [] [] s (qPI f g)) ∧ (v5 ≠ 11 → qR w 6 qm140 399 [] [] s (qPI f g))) : qR w 6 qm140 388 [(5, qI v5)] [] s (qPI f g) := by
  refine qS_iload qd_140_388 rfl ?_
  refine qS_bipush qd_140_390 (by decide) ?_
  obtain ⟨h392a, H1, H2⟩ := H
  refine qS_icmp qd_140_392 rfl (zcnd_ne (a := v5) (b := 11) h392a ⟨by decide, by decide⟩ (fun t => qR w _ _ t _ _ _ _) (fun hc => ?_) (fun hc => ?_))
  · have H := H1 hc; clear H1 H2 hc
    exact qS_sub zsub_n H
  · have H := H2 hc; clear H1 H2 hc
    exact qS_sub zsub_n H
set_option maxRecDepth 100000 in
theorem k140_395 {w : qE} {s : qS}  {f : Int → qS → Prop} {g : Nat → qS → Prop}  (H : qR w 6 qm140 400 [] [qI 1] s (qPI f g)) : qR w 6 qm140 395 [] [] s (qPI f g) := by
  refine qS_iconst qd_140_395 ?_
  refine qS_goto qd_140_396 rfl ?_
  exact qS_sub zsub_n H
set_option maxRecDepth 100000 in
theorem k140_399 {w : qE} {s : qS}  {f : Int → qS → Prop} {g : Nat → qS → Prop}  (H : qR w 6 qm140 400 [] [qI 0] s (qPI f g)) : qR w 6 qm140 399 [] [] s (qPI f g) := by
  refine qS_iconst qd_140_399 ?_
  exact qS_sub zsub_n H
set_option maxRecDepth 100000 in
theorem k140_298 {w : qE} {s : qS}  {f : Int → qS → Prop} {g : Nat → qS → Prop}  (H : qR w 6 qm140 303 [] [qI 1] s (qPI f g)) : qR w 6 qm140 298 [] [] s (qPI f g) := by
  refine qS_iconst qd_140_298 ?_
  refine qS_goto qd_140_299 rfl ?_
  exact qS_sub zsub_n H
set_option maxRecDepth 100000 in
theorem k140_303 {w : qE} {s : qS} {k0 : Int} {f : Int → qS → Prop} {g : Nat → qS → Prop}  (H : ((k0 = 0 ∨ k0 = 1) ∧ f k0 s)) : qR w 6 qm140 303 [] [qI k0] s (qPI f g) := by
  exact qS_zreturn qd_140_303 rfl H.1 (Or.inl ⟨_, rfl, H.2⟩)
set_option maxRecDepth 100000 in
theorem k140_400 {w : qE} {s : qS} {k0 : Int} {f : Int → qS → Prop} {g : Nat → qS → Prop}  (H : ((k0 = 0 ∨ k0 = 1) ∧ f k0 s)) : qR w 6 qm140 400 [] [qI k0] s (qPI f g) := by
  exact qS_zreturn qd_140_400 rfl H.1 (Or.inl ⟨_, rfl, H.2⟩)
set_option maxRecDepth 100000 in
theorem k141 {w : qE} {s : qS} {p0 : Int} {f : Int → qS → Prop} {g : Nat → qS → Prop}  (H : (0 ≤ p0 ∧ p0 < 520 ∧ ((0 ≤ s 29 p0 ∧ s 29 p0 < 500 ∧ (Rg (s 28 (s 29 p0)) ∧ (s 28 (s 29 p0) = 15 → (0 ≤ p0 ∧ p0 < 520 ∧ ((0 ≤ (s 29 p0) + 1 ∧ (s 29 p0) + 1 < 500 ∧ (qR w 1 qm141 44 [] [qI (s 28 ((s 29 p0) + 1))] s (qPI f g)))))) ∧ (s 28 (s 29 p0) ≠ 15 → (0 ≤ p0 ∧ p0 < 520 ∧ (qW w 1 142 [.ref 25, qI ((s 29 p0) + 1)] s (qPI (fun r1 s1 => qR w 1 qm141 44 [] [qI r1] s1 (qPI f g)) g))))))))) : qW w 2 141 [.ref 25, qI p0] s (qPI f g) := by
  refine qW.of (M := qm141) (l := [(0, .ref 25), (1, qI p0)]) qtm_141 rfl (Nat.le_of_ble_eq_true rfl) (zsub_c rfl (zsub_c rfl zsub_n)) ?_
  refine qS_aload_n qd_141_0 rfl ?_
  refine qS_getfield (v := .ref 28) qd_141_1 (qfl_8_16 w) (hpc_25 _ _) rfl ?_
  refine qS_aload_n qd_141_4 rfl ?_
  refine qS_getfield (v := .ref 29) qd_141_5 (qfl_8_23 w) (hpc_25 _ _) rfl ?_
  refine qS_iload_n qd_141_8 rfl ?_
  obtain ⟨hl, hu, H⟩ := H
  refine qS_iaload (a := 29) (i := p0) qd_141_9 (Nat.le_of_ble_eq_true rfl) hl hu ?_
  obtain ⟨hl, hu, H⟩ := H
  refine qS_iaload (a := 28) (i := s 29 p0) qd_141_10 (Nat.le_of_ble_eq_true rfl) hl hu ?_
  refine qS_bipush qd_141_11 (by decide) ?_
  obtain ⟨h13a, H1, H2⟩ := H
  refine qS_icmp qd_141_13 rfl (zcnd_ne (a := s 28 (s 29 p0)) (b := 15) h13a ⟨by decide, by decide⟩ (fun t => qR w _ _ t _ _ _ _) (fun hc => ?_) (fun hc => ?_))
  · have H := H1 hc; clear H1 H2 hc
    refine qS_aload_n qd_141_16 rfl ?_
    refine qS_getfield (v := .ref 28) qd_141_17 (qfl_8_16 w) (hpc_25 _ _) rfl ?_
    refine qS_aload_n qd_141_20 rfl ?_
    refine qS_getfield (v := .ref 29) qd_141_21 (qfl_8_23 w) (hpc_25 _ _) rfl ?_
    refine qS_iload_n qd_141_24 rfl ?_
    obtain ⟨hl, hu, H⟩ := H
    refine qS_iaload (a := 29) (i := p0) qd_141_25 (Nat.le_of_ble_eq_true rfl) hl hu ?_
    refine qS_iconst qd_141_26 ?_
    refine qS_iadd (a := s 29 p0) (b := 1) qd_141_27 ?_
    obtain ⟨hl, hu, H⟩ := H
    refine qS_iaload (a := 28) (i := (s 29 p0) + 1) qd_141_28 (Nat.le_of_ble_eq_true rfl) hl hu ?_
    refine qS_goto qd_141_29 rfl ?_
    exact qS_sub zsub_n H
  · have H := H2 hc; clear H1 H2 hc
    refine qS_aload_n qd_141_32 rfl ?_
    refine qS_aload_n qd_141_33 rfl ?_
    refine qS_getfield (v := .ref 29) qd_141_34 (qfl_8_23 w) (hpc_25 _ _) rfl ?_
    refine qS_iload_n qd_141_37 rfl ?_
    obtain ⟨hl, hu, H⟩ := H
    refine qS_iaload (a := 29) (i := p0) qd_141_38 (Nat.le_of_ble_eq_true rfl) hl hu ?_
    refine qS_iconst qd_141_39 ?_
    refine qS_iadd (a := s 29 p0) (b := 1) qd_141_40 ?_
    refine qS_cvI qd_141_41 (qml_8_91 w) rfl qtm_142 (hpc_25 _ _) (Nat.le_of_ble_eq_true rfl) rfl (Nat.le_of_ble_eq_true rfl) H (fun r1 s1 H => ?_) (fun x s1 H => Or.inr ⟨x, rfl, H⟩)
    exact qS_sub zsub_n H
set_option maxRecDepth 100000 in
theorem k141_44 {w : qE} {s : qS} {k0 : Int} {f : Int → qS → Prop} {g : Nat → qS → Prop}  (H : f k0 s) : qR w 1 qm141 44 [] [qI k0] s (qPI f g) := by
  exact qS_ireturn qd_141_44 rfl (Or.inl ⟨_, rfl, H⟩)
set_option maxRecDepth 100000 in
theorem k142 {w : qE} {s : qS} {p0 : Int} {f : Int → qS → Prop} {g : Nat → qS → Prop}  (H : (0 ≤ p0 ∧ p0 < 500 ∧ ((0 ≤ p0 + 1 ∧ p0 + 1 < 500 ∧ (f (qor (qshl (s 28 p0) 8) (s 28 (p0 + 1))) s))))) : qW w 1 142 [.ref 25, qI p0] s (qPI f g) := by
  refine qW.of (M := qm142) (l := [(0, .ref 25), (1, qI p0)]) qtm_142 rfl (Nat.le_of_ble_eq_true rfl) (zsub_c rfl (zsub_c rfl zsub_n)) ?_
  refine qS_aload_n qd_142_0 rfl ?_
  refine qS_getfield (v := .ref 28) qd_142_1 (qfl_8_16 w) (hpc_25 _ _) rfl ?_
  refine qS_iload_n qd_142_4 rfl ?_
  obtain ⟨hl, hu, H⟩ := H
  refine qS_iaload (a := 28) (i := p0) qd_142_5 (Nat.le_of_ble_eq_true rfl) hl hu ?_
  refine qS_bipush qd_142_6 (by decide) ?_
  refine qS_ishl (a := s 28 p0) (b := 8) qd_142_8 ?_
  refine qS_aload_n qd_142_9 rfl ?_
  refine qS_getfield (v := .ref 28) qd_142_10 (qfl_8_16 w) (hpc_25 _ _) rfl ?_
  refine qS_iload_n qd_142_13 rfl ?_
  refine qS_iconst qd_142_14 ?_
  refine qS_iadd (a := p0) (b := 1) qd_142_15 ?_
  obtain ⟨hl, hu, H⟩ := H
  refine qS_iaload (a := 28) (i := p0 + 1) qd_142_16 (Nat.le_of_ble_eq_true rfl) hl hu ?_
  refine qS_ior (a := qshl (s 28 p0) 8) (b := s 28 (p0 + 1)) qd_142_17 ?_
  exact qS_ireturn qd_142_18 rfl (Or.inl ⟨_, rfl, H⟩)
set_option maxRecDepth 100000 in
theorem k143 {w : qE} {s : qS} {p0 : Int} {f : Int → qS → Prop} {g : Nat → qS → Prop}  (H : (0 ≤ p0 ∧ p0 < 520 ∧ ((0 ≤ s 29 p0 ∧ s 29 p0 < 500 ∧ (Rg (s 28 (s 29 p0)) ∧ (s 28 (s 29 p0) = 15 → (0 ≤ p0 ∧ p0 < 520 ∧ (qW w 1 142 [.ref 25, qI ((s 29 p0) + 2)] s (qPI (fun r1 s1 => f r1 s1) g)))) ∧ (s 28 (s 29 p0) ≠ 15 → (8 < s 28 (s 29 p0) → (s 28 (s 29 p0) = 16 → qR w 1 qm143 58 [] [] s (qPI f g)) ∧ (s 28 (s 29 p0) ≠ 16 → (0 ≤ p0 ∧ p0 < 520 ∧ (qW w 1 142 [.ref 25, qI ((s 29 p0) + 3)] s (qPI (fun r2 s2 => qR w 1 qm143 59 [] [qI r2] s2 (qPI f g)) g))))) ∧ (s 28 (s 29 p0) ≤ 8 → qR w 1 qm143 58 [] [] s (qPI f g)))))))) : qW w 2 143 [.ref 25, qI p0] s (qPI f g) := by
  refine qW.of (M := qm143) (l := [(0, .ref 25), (1, qI p0)]) qtm_143 rfl (Nat.le_of_ble_eq_true rfl) (zsub_c rfl (zsub_c rfl zsub_n)) ?_
  refine qS_aload_n qd_143_0 rfl ?_
  refine qS_getfield (v := .ref 28) qd_143_1 (qfl_8_16 w) (hpc_25 _ _) rfl ?_
  refine qS_aload_n qd_143_4 rfl ?_
  refine qS_getfield (v := .ref 29) qd_143_5 (qfl_8_23 w) (hpc_25 _ _) rfl ?_
  refine qS_iload_n qd_143_8 rfl ?_
  obtain ⟨hl, hu, H⟩ := H
  refine qS_iaload (a := 29) (i := p0) qd_143_9 (Nat.le_of_ble_eq_true rfl) hl hu ?_
  obtain ⟨hl, hu, H⟩ := H
  refine qS_iaload (a := 28) (i := s 29 p0) qd_143_10 (Nat.le_of_ble_eq_true rfl) hl hu ?_
  refine qS_istore_n (a := [(0, .ref 25), (1, qI p0)]) qd_143_11 (Nat.le_of_ble_eq_true rfl) (zsub_c rfl (zsub_c rfl zsub_n)) rfl ?_
  refine qS_iload_n qd_143_12 rfl ?_
  refine qS_bipush qd_143_13 (by decide) ?_
  obtain ⟨h15a, H1, H2⟩ := H
  refine qS_icmp qd_143_15 rfl (zcnd_ne (a := s 28 (s 29 p0)) (b := 15) h15a ⟨by decide, by decide⟩ (fun t => qR w _ _ t _ _ _ _) (fun hc => ?_) (fun hc => ?_))
  · have H := H1 hc; clear H1 H2 hc
    refine qS_aload_n qd_143_18 rfl ?_
    refine qS_aload_n qd_143_19 rfl ?_
    refine qS_getfield (v := .ref 29) qd_143_20 (qfl_8_23 w) (hpc_25 _ _) rfl ?_
    refine qS_iload_n qd_143_23 rfl ?_
    obtain ⟨hl, hu, H⟩ := H
    refine qS_iaload (a := 29) (i := p0) qd_143_24 (Nat.le_of_ble_eq_true rfl) hl hu ?_
    refine qS_iconst qd_143_25 ?_
    refine qS_iadd (a := s 29 p0) (b := 2) qd_143_26 ?_
    refine qS_cvI qd_143_27 (qml_8_91 w) rfl qtm_142 (hpc_25 _ _) (Nat.le_of_ble_eq_true rfl) rfl (Nat.le_of_ble_eq_true rfl) H (fun r1 s1 H => ?_) (fun x s1 H => Or.inr ⟨x, rfl, H⟩)
    exact qS_ireturn qd_143_30 rfl (Or.inl ⟨_, rfl, H⟩)
  · have H := H2 hc; clear H1 H2 hc
    refine qS_iload_n qd_143_31 rfl ?_
    refine qS_bipush qd_143_32 (by decide) ?_
    obtain ⟨H1, H2⟩ := H
    refine qS_icmp qd_143_34 rfl (zcnd_le (a := s 28 (s 29 p0)) (b := 8) h15a ⟨by decide, by decide⟩ (fun t => qR w _ _ t _ _ _ _) (fun hc => ?_) (fun hc => ?_))
    · have H := H1 hc; clear H1 H2 hc
      refine qS_iload_n qd_143_37 rfl ?_
      refine qS_bipush qd_143_38 (by decide) ?_
      obtain ⟨H1, H2⟩ := H
      refine qS_icmp qd_143_40 rfl (zcnd_eq (a := s 28 (s 29 p0)) (b := 16) h15a ⟨by decide, by decide⟩ (fun t => qR w _ _ t _ _ _ _) (fun hc => ?_) (fun hc => ?_))
      · have H := H1 hc; clear H1 H2 hc
        exact qS_sub zsub_n H
      · have H := H2 hc; clear H1 H2 hc
        refine qS_aload_n qd_143_43 rfl ?_
        refine qS_aload_n qd_143_44 rfl ?_
        refine qS_getfield (v := .ref 29) qd_143_45 (qfl_8_23 w) (hpc_25 _ _) rfl ?_
        refine qS_iload_n qd_143_48 rfl ?_
        obtain ⟨hl, hu, H⟩ := H
        refine qS_iaload (a := 29) (i := p0) qd_143_49 (Nat.le_of_ble_eq_true rfl) hl hu ?_
        refine qS_iconst qd_143_50 ?_
        refine qS_iadd (a := s 29 p0) (b := 3) qd_143_51 ?_
        refine qS_cvI qd_143_52 (qml_8_91 w) rfl qtm_142 (hpc_25 _ _) (Nat.le_of_ble_eq_true rfl) rfl (Nat.le_of_ble_eq_true rfl) H (fun r2 s2 H => ?_) (fun x s1 H => Or.inr ⟨x, rfl, H⟩)
        refine qS_goto qd_143_55 rfl ?_
        exact qS_sub zsub_n H
    · have H := H2 hc; clear H1 H2 hc
      exact qS_sub zsub_n H
set_option maxRecDepth 100000 in
theorem k143_58 {w : qE} {s : qS}  {f : Int → qS → Prop} {g : Nat → qS → Prop}  (H : qR w 1 qm143 59 [] [qI 0] s (qPI f g)) : qR w 1 qm143 58 [] [] s (qPI f g) := by
  refine qS_iconst qd_143_58 ?_
  exact qS_sub zsub_n H
set_option maxRecDepth 100000 in
theorem k143_59 {w : qE} {s : qS} {k0 : Int} {f : Int → qS → Prop} {g : Nat → qS → Prop}  (H : f k0 s) : qR w 1 qm143 59 [] [qI k0] s (qPI f g) := by
  exact qS_ireturn qd_143_59 rfl (Or.inl ⟨_, rfl, H⟩)
set_option maxRecDepth 100000 in
theorem k144 {w : qE} {s : qS} {p0 : Int} {f : Int → qS → Prop} {g : Nat → qS → Prop}  (H : qW w 2 139 [.ref 25, qI p0] s (qPI (fun r1 s1 => Rg r1 ∧ (r1 = 1 → qR w 2 qm144 14 [] [qI 1] s1 (qPI f g)) ∧ (r1 ≠ 1 → qR w 2 qm144 14 [] [qI 0] s1 (qPI f g))) g)) : qW w 3 144 [.ref 25, qI p0] s (qPI f g) := by
  refine qW.of (M := qm144) (l := [(0, .ref 25), (1, qI p0)]) qtm_144 rfl (Nat.le_of_ble_eq_true rfl) (zsub_c rfl (zsub_c rfl zsub_n)) ?_
  refine qS_aload_n qd_144_0 rfl ?_
  refine qS_iload_n qd_144_1 rfl ?_
  refine qS_cvI qd_144_2 (qml_8_137 w) rfl qtm_139 (hpc_25 _ _) (Nat.le_of_ble_eq_true rfl) rfl (Nat.le_of_ble_eq_true rfl) H (fun r1 s1 H => ?_) (fun x s1 H => Or.inr ⟨x, rfl, H⟩)
  refine qS_iconst qd_144_5 ?_
  obtain ⟨h6a, H1, H2⟩ := H
  refine qS_icmp qd_144_6 rfl (zcnd_ne (a := r1) (b := 1) h6a ⟨by decide, by decide⟩ (fun t => qR w _ _ t _ _ _ _) (fun hc => ?_) (fun hc => ?_))
  · have H := H1 hc; clear H1 H2 hc
    refine qS_iconst qd_144_9 ?_
    refine qS_goto qd_144_10 rfl ?_
    exact qS_sub zsub_n H
  · have H := H2 hc; clear H1 H2 hc
    refine qS_iconst qd_144_13 ?_
    exact qS_sub zsub_n H
set_option maxRecDepth 100000 in
theorem k144_14 {w : qE} {s : qS} {k0 : Int} {f : Int → qS → Prop} {g : Nat → qS → Prop}  (H : ((k0 = 0 ∨ k0 = 1) ∧ f k0 s)) : qR w 2 qm144 14 [] [qI k0] s (qPI f g) := by
  exact qS_zreturn qd_144_14 rfl H.1 (Or.inl ⟨_, rfl, H.2⟩)
set_option maxRecDepth 100000 in
theorem k145 {w : qE} {s : qS} {p0 : Int} {f : Int → qS → Prop} {g : Nat → qS → Prop}  (H : qW w 2 146 [.ref 25, qI p0, qI 0] s (qPI (fun r1 s1 => Rg r1 ∧ (r1 = 91 → qW w 5 147 [.ref 25, qI p0] s1 (qPI (fun r2 s2 => qR w 5 qm145 34 [] [qI r2] s2 (qPI f g)) g)) ∧ (r1 ≠ 91 → qW w 3 150 [.ref 25, qI p0, qI 0, qI 0] s1 (qPI (fun r3 s3 => Rg r3 ∧ (0 < r3 → qR w 5 qm145 34 [] [qI 1] s3 (qPI f g)) ∧ (r3 ≤ 0 → qR w 5 qm145 34 [] [qI 0] s3 (qPI f g))) g))) g)) : qW w 6 145 [.ref 25, qI p0] s (qPI f g) := by
  refine qW.of (M := qm145) (l := [(0, .ref 25), (1, qI p0)]) qtm_145 rfl (Nat.le_of_ble_eq_true rfl) (zsub_c rfl (zsub_c rfl zsub_n)) ?_
  refine qS_aload_n qd_145_0 rfl ?_
  refine qS_iload_n qd_145_1 rfl ?_
  refine qS_iconst qd_145_2 ?_
  refine qS_cvI qd_145_3 (qml_8_107 w) rfl qtm_146 (hpc_25 _ _) (Nat.le_of_ble_eq_true rfl) rfl (Nat.le_of_ble_eq_true rfl) H (fun r1 s1 H => ?_) (fun x s1 H => Or.inr ⟨x, rfl, H⟩)
  refine qS_bipush qd_145_6 (by decide) ?_
  obtain ⟨h8a, H1, H2⟩ := H
  refine qS_icmp qd_145_8 rfl (zcnd_ne (a := r1) (b := 91) h8a ⟨by decide, by decide⟩ (fun t => qR w _ _ t _ _ _ _) (fun hc => ?_) (fun hc => ?_))
  · have H := H1 hc; clear H1 H2 hc
    refine qS_aload_n qd_145_11 rfl ?_
    refine qS_iload_n qd_145_12 rfl ?_
    refine qS_cvI qd_145_13 (qml_8_134 w) rfl qtm_147 (hpc_25 _ _) (Nat.le_of_ble_eq_true rfl) rfl (Nat.le_of_ble_eq_true rfl) H (fun r2 s2 H => ?_) (fun x s1 H => Or.inr ⟨x, rfl, H⟩)
    refine qS_goto qd_145_16 rfl ?_
    exact qS_sub zsub_n H
  · have H := H2 hc; clear H1 H2 hc
    refine qS_aload_n qd_145_19 rfl ?_
    refine qS_iload_n qd_145_20 rfl ?_
    refine qS_iconst qd_145_21 ?_
    refine qS_iconst qd_145_22 ?_
    refine qS_cvI qd_145_23 (qml_8_121 w) rfl qtm_150 (hpc_25 _ _) (Nat.le_of_ble_eq_true rfl) rfl (Nat.le_of_ble_eq_true rfl) H (fun r3 s3 H => ?_) (fun x s1 H => Or.inr ⟨x, rfl, H⟩)
    obtain ⟨h26a, H1, H2⟩ := H
    refine qS_if0 qd_145_26 rfl (zcnd_le (a := r3) (b := 0) h26a ⟨by decide, by decide⟩ (fun t => qR w _ _ t _ _ _ _) (fun hc => ?_) (fun hc => ?_))
    · have H := H1 hc; clear H1 H2 hc
      refine qS_iconst qd_145_29 ?_
      refine qS_goto qd_145_30 rfl ?_
      exact qS_sub zsub_n H
    · have H := H2 hc; clear H1 H2 hc
      refine qS_iconst qd_145_33 ?_
      exact qS_sub zsub_n H
set_option maxRecDepth 100000 in
theorem k145_34 {w : qE} {s : qS} {k0 : Int} {f : Int → qS → Prop} {g : Nat → qS → Prop}  (H : ((k0 = 0 ∨ k0 = 1) ∧ f k0 s)) : qR w 5 qm145 34 [] [qI k0] s (qPI f g) := by
  exact qS_zreturn qd_145_34 rfl H.1 (Or.inl ⟨_, rfl, H.2⟩)
set_option maxRecDepth 100000 in
theorem k146 {w : qE} {s : qS} {p0 : Int} {p1 : Int} {f : Int → qS → Prop} {g : Nat → qS → Prop}  (H : (0 ≤ p0 ∧ p0 < 520 ∧ ((0 ≤ p0 ∧ p0 < 520 ∧ (qW w 1 142 [.ref 25, qI ((s 29 p0) + 1)] s (qPI (fun r1 s1 => qR w 1 qm146 28 [(0, .ref 25), (2, qI p1), (3, qI ((s 29 p0) + 3)), (4, qI (((s 29 p0) + 3) + r1)), (5, qI 0)] [] s1 (qPI f g)) g)))))) : qW w 2 146 [.ref 25, qI p0, qI p1] s (qPI f g) := by
  refine qW.of (M := qm146) (l := [(0, .ref 25), (1, qI p0), (2, qI p1)]) qtm_146 rfl (Nat.le_of_ble_eq_true rfl) (zsub_c rfl (zsub_c rfl (zsub_c rfl zsub_n))) ?_
  refine qS_aload_n qd_146_0 rfl ?_
  refine qS_getfield (v := .ref 29) qd_146_1 (qfl_8_23 w) (hpc_25 _ _) rfl ?_
  refine qS_iload_n qd_146_4 rfl ?_
  obtain ⟨hl, hu, H⟩ := H
  refine qS_iaload (a := 29) (i := p0) qd_146_5 (Nat.le_of_ble_eq_true rfl) hl hu ?_
  refine qS_iconst qd_146_6 ?_
  refine qS_iadd (a := s 29 p0) (b := 3) qd_146_7 ?_
  refine qS_istore_n (a := [(0, .ref 25), (1, qI p0), (2, qI p1)]) qd_146_8 (Nat.le_of_ble_eq_true rfl) (zsub_c rfl (zsub_c rfl (zsub_c rfl zsub_n))) rfl ?_
  refine qS_iload_n qd_146_9 rfl ?_
  refine qS_aload_n qd_146_10 rfl ?_
  refine qS_aload_n qd_146_11 rfl ?_
  refine qS_getfield (v := .ref 29) qd_146_12 (qfl_8_23 w) (hpc_25 _ _) rfl ?_
  refine qS_iload_n qd_146_15 rfl ?_
  obtain ⟨hl, hu, H⟩ := H
  refine qS_iaload (a := 29) (i := p0) qd_146_16 (Nat.le_of_ble_eq_true rfl) hl hu ?_
  refine qS_iconst qd_146_17 ?_
  refine qS_iadd (a := s 29 p0) (b := 1) qd_146_18 ?_
  refine qS_cvI qd_146_19 (qml_8_91 w) rfl qtm_142 (hpc_25 _ _) (Nat.le_of_ble_eq_true rfl) rfl (Nat.le_of_ble_eq_true rfl) H (fun r1 s1 H => ?_) (fun x s1 H => Or.inr ⟨x, rfl, H⟩)
  refine qS_iadd (a := (s 29 p0) + 3) (b := r1) qd_146_22 ?_
  refine qS_istore (a := [(3, qI ((s 29 p0) + 3)), (0, .ref 25), (2, qI p1)]) qd_146_23 (Nat.le_of_ble_eq_true rfl) (zsub_c rfl (zsub_c rfl (zsub_c rfl zsub_n))) rfl ?_
  refine qS_iconst qd_146_25 ?_
  refine qS_istore (a := [(4, qI (((s 29 p0) + 3) + r1)), (3, qI ((s 29 p0) + 3)), (0, .ref 25), (2, qI p1)]) qd_146_26 (Nat.le_of_ble_eq_true rfl) (zsub_c rfl (zsub_c rfl (zsub_c rfl (zsub_c rfl zsub_n)))) rfl ?_
  exact qS_sub (zsub_c rfl (zsub_c rfl (zsub_c rfl (zsub_c rfl (zsub_c rfl zsub_n))))) H
set_option maxRecDepth 100000 in
theorem k146_28 {w : qE} {s : qS} {v2 : Int} {v3 : Int} {v4 : Int} {v5 : Int} {f : Int → qS → Prop} {g : Nat → qS → Prop}  (H : Rg v5 ∧ Rg v2 ∧ (v5 < v2 → Rg v3 ∧ Rg v4 ∧ (v3 < v4 → (0 ≤ v3 ∧ v3 < 500 ∧ (qW w 1 137 [qI (s 28 v3)] s (qPI (fun r2 s2 => qR w 1 qm146 28 [(0, .ref 25), (2, qI v2), (3, qI (v3 + r2)), (4, qI v4), (5, qI (v5 + 1))] [] s2 (qPI f g)) g)))) ∧ (v4 ≤ v3 → qR w 1 qm146 58 [(0, .ref 25), (3, qI v3), (4, qI v4)] [] s (qPI f g))) ∧ (v2 ≤ v5 → qR w 1 qm146 58 [(0, .ref 25), (3, qI v3), (4, qI v4)] [] s (qPI f g))) : qR w 1 qm146 28 [(0, .ref 25), (2, qI v2), (3, qI v3), (4, qI v4), (5, qI v5)] [] s (qPI f g) := by
  refine qS_iload qd_146_28 rfl ?_
  refine qS_iload_n qd_146_30 rfl ?_
  obtain ⟨h31a, h31b, H1, H2⟩ := H
  refine qS_icmp qd_146_31 rfl (zcnd_ge (a := v5) (b := v2) h31a h31b (fun t => qR w _ _ t _ _ _ _) (fun hc => ?_) (fun hc => ?_))
  · have H := H1 hc; clear H1 H2 hc
    refine qS_iload_n qd_146_34 rfl ?_
    refine qS_iload qd_146_35 rfl ?_
    obtain ⟨h37a, h37b, H1, H2⟩ := H
    refine qS_icmp qd_146_37 rfl (zcnd_ge (a := v3) (b := v4) h37a h37b (fun t => qR w _ _ t _ _ _ _) (fun hc => ?_) (fun hc => ?_))
    · have H := H1 hc; clear H1 H2 hc
      refine qS_iload_n qd_146_40 rfl ?_
      refine qS_aload_n qd_146_41 rfl ?_
      refine qS_getfield (v := .ref 28) qd_146_42 (qfl_8_16 w) (hpc_25 _ _) rfl ?_
      refine qS_iload_n qd_146_45 rfl ?_
      obtain ⟨hl, hu, H⟩ := H
      refine qS_iaload (a := 28) (i := v3) qd_146_46 (Nat.le_of_ble_eq_true rfl) hl hu ?_
      refine qS_csI qd_146_47 (qml_8_98 w) rfl (Nat.le_of_ble_eq_true rfl) rfl (Nat.le_of_ble_eq_true rfl) H (fun r2 s2 H => ?_) (fun x s1 H => Or.inr ⟨x, rfl, H⟩)
      refine qS_iadd (a := v3) (b := r2) qd_146_50 ?_
      refine qS_istore_n (a := [(0, .ref 25), (2, qI v2), (4, qI v4), (5, qI v5)]) qd_146_51 (Nat.le_of_ble_eq_true rfl) (zsub_c rfl (zsub_c rfl (zsub_c rfl (zsub_c rfl zsub_n)))) rfl ?_
      refine qS_iinc (v := v5) (a := [(3, qI (v3 + r2)), (0, .ref 25), (2, qI v2), (4, qI v4)]) qd_146_52 (Nat.le_of_ble_eq_true rfl) rfl (zsub_c rfl (zsub_c rfl (zsub_c rfl (zsub_c rfl zsub_n)))) rfl ?_
      refine qS_goto qd_146_55 rfl ?_
      exact qS_sub (zsub_c rfl (zsub_c rfl (zsub_c rfl (zsub_c rfl (zsub_c rfl zsub_n))))) H
    · have H := H2 hc; clear H1 H2 hc
      exact qS_sub (zsub_c rfl (zsub_c rfl (zsub_c rfl zsub_n))) H
  · have H := H2 hc; clear H1 H2 hc
    exact qS_sub (zsub_c rfl (zsub_c rfl (zsub_c rfl zsub_n))) H
set_option maxRecDepth 100000 in
theorem k146_58 {w : qE} {s : qS} {v3 : Int} {v4 : Int} {f : Int → qS → Prop} {g : Nat → qS → Prop}  (H : Rg v3 ∧ Rg v4 ∧ (v3 < v4 → (0 ≤ v3 ∧ v3 < 500 ∧ (qW w 1 137 [qI (s 28 v3)] s (qPI (fun r3 s3 => Rg r3 ∧ (r3 = 1 → qR w 1 qm146 157 [] [qI (s 28 v3)] s3 (qPI f g)) ∧ (r3 ≠ 1 → (r3 = 2 → (0 ≤ v3 + 1 ∧ v3 + 1 < 500 ∧ (qR w 1 qm146 157 [] [qI (((qand (s 28 v3) 31) * 64) + (qand (s3 28 (v3 + 1)) 63))] s3 (qPI f g)))) ∧ (r3 ≠ 2 → (0 ≤ v3 + 1 ∧ v3 + 1 < 500 ∧ ((0 ≤ v3 + 2 ∧ v3 + 2 < 500 ∧ (qR w 1 qm146 157 [] [qI ((((qand (s 28 v3) 15) * 4096) + ((qand (s3 28 (v3 + 1)) 63) * 64)) + (qand (s3 28 (v3 + 2)) 63))] s3 (qPI f g)))))))) g)))) ∧ (v4 ≤ v3 → f ((-1)) s)) : qR w 1 qm146 58 [(0, .ref 25), (3, qI v3), (4, qI v4)] [] s (qPI f g) := by
  refine qS_iload_n qd_146_58 rfl ?_
  refine qS_iload qd_146_59 rfl ?_
  obtain ⟨h61a, h61b, H1, H2⟩ := H
  refine qS_icmp qd_146_61 rfl (zcnd_lt (a := v3) (b := v4) h61a h61b (fun t => qR w _ _ t _ _ _ _) (fun hc => ?_) (fun hc => ?_))
  · have H := H1 hc; clear H1 H2 hc
    refine qS_aload_n qd_146_66 rfl ?_
    refine qS_getfield (v := .ref 28) qd_146_67 (qfl_8_16 w) (hpc_25 _ _) rfl ?_
    refine qS_iload_n qd_146_70 rfl ?_
    obtain ⟨hl, hu, H⟩ := H
    refine qS_iaload (a := 28) (i := v3) qd_146_71 (Nat.le_of_ble_eq_true rfl) hl hu ?_
    refine qS_istore (a := [(0, .ref 25), (3, qI v3)]) qd_146_72 (Nat.le_of_ble_eq_true rfl) (zsub_c rfl (zsub_c rfl zsub_n)) rfl ?_
    refine qS_iload qd_146_74 rfl ?_
    refine qS_csI qd_146_76 (qml_8_98 w) rfl (Nat.le_of_ble_eq_true rfl) rfl (Nat.le_of_ble_eq_true rfl) H (fun r3 s3 H => ?_) (fun x s1 H => Or.inr ⟨x, rfl, H⟩)
    refine qS_istore (a := [(5, qI (s 28 v3)), (0, .ref 25), (3, qI v3)]) qd_146_79 (Nat.le_of_ble_eq_true rfl) (zsub_c rfl (zsub_c rfl (zsub_c rfl zsub_n))) rfl ?_
    refine qS_iload qd_146_81 rfl ?_
    refine qS_iconst qd_146_83 ?_
    obtain ⟨h84a, H1, H2⟩ := H
    refine qS_icmp qd_146_84 rfl (zcnd_ne (a := r3) (b := 1) h84a ⟨by decide, by decide⟩ (fun t => qR w _ _ t _ _ _ _) (fun hc => ?_) (fun hc => ?_))
    · have H := H1 hc; clear H1 H2 hc
      refine qS_iload qd_146_87 rfl ?_
      refine qS_goto qd_146_89 rfl ?_
      exact qS_sub zsub_n H
    · have H := H2 hc; clear H1 H2 hc
      refine qS_iload qd_146_92 rfl ?_
      refine qS_iconst qd_146_94 ?_
      obtain ⟨H1, H2⟩ := H
      refine qS_icmp qd_146_95 rfl (zcnd_ne (a := r3) (b := 2) h84a ⟨by decide, by decide⟩ (fun t => qR w _ _ t _ _ _ _) (fun hc => ?_) (fun hc => ?_))
      · have H := H1 hc; clear H1 H2 hc
        refine qS_iload qd_146_98 rfl ?_
        refine qS_bipush qd_146_100 (by decide) ?_
        refine qS_iand (a := s 28 v3) (b := 31) qd_146_102 ?_
        refine qS_bipush qd_146_103 (by decide) ?_
        refine qS_imul (a := qand (s 28 v3) 31) (b := 64) qd_146_105 ?_
        refine qS_aload_n qd_146_106 rfl ?_
        refine qS_getfield (v := .ref 28) qd_146_107 (qfl_8_16 w) (hpc_25 _ _) rfl ?_
        refine qS_iload_n qd_146_110 rfl ?_
        refine qS_iconst qd_146_111 ?_
        refine qS_iadd (a := v3) (b := 1) qd_146_112 ?_
        obtain ⟨hl, hu, H⟩ := H
        refine qS_iaload (a := 28) (i := v3 + 1) qd_146_113 (Nat.le_of_ble_eq_true rfl) hl hu ?_
        refine qS_bipush qd_146_114 (by decide) ?_
        refine qS_iand (a := s3 28 (v3 + 1)) (b := 63) qd_146_116 ?_
        refine qS_iadd (a := (qand (s 28 v3) 31) * 64) (b := qand (s3 28 (v3 + 1)) 63) qd_146_117 ?_
        refine qS_goto qd_146_118 rfl ?_
        exact qS_sub zsub_n H
      · have H := H2 hc; clear H1 H2 hc
        refine qS_iload qd_146_121 rfl ?_
        refine qS_bipush qd_146_123 (by decide) ?_
        refine qS_iand (a := s 28 v3) (b := 15) qd_146_125 ?_
        refine qS_sipush qd_146_126 (by decide) ?_
        refine qS_imul (a := qand (s 28 v3) 15) (b := 4096) qd_146_129 ?_
        refine qS_aload_n qd_146_130 rfl ?_
        refine qS_getfield (v := .ref 28) qd_146_131 (qfl_8_16 w) (hpc_25 _ _) rfl ?_
        refine qS_iload_n qd_146_134 rfl ?_
        refine qS_iconst qd_146_135 ?_
        refine qS_iadd (a := v3) (b := 1) qd_146_136 ?_
        obtain ⟨hl, hu, H⟩ := H
        refine qS_iaload (a := 28) (i := v3 + 1) qd_146_137 (Nat.le_of_ble_eq_true rfl) hl hu ?_
        refine qS_bipush qd_146_138 (by decide) ?_
        refine qS_iand (a := s3 28 (v3 + 1)) (b := 63) qd_146_140 ?_
        refine qS_bipush qd_146_141 (by decide) ?_
        refine qS_imul (a := qand (s3 28 (v3 + 1)) 63) (b := 64) qd_146_143 ?_
        refine qS_iadd (a := (qand (s 28 v3) 15) * 4096) (b := (qand (s3 28 (v3 + 1)) 63) * 64) qd_146_144 ?_
        refine qS_aload_n qd_146_145 rfl ?_
        refine qS_getfield (v := .ref 28) qd_146_146 (qfl_8_16 w) (hpc_25 _ _) rfl ?_
        refine qS_iload_n qd_146_149 rfl ?_
        refine qS_iconst qd_146_150 ?_
        refine qS_iadd (a := v3) (b := 2) qd_146_151 ?_
        obtain ⟨hl, hu, H⟩ := H
        refine qS_iaload (a := 28) (i := v3 + 2) qd_146_152 (Nat.le_of_ble_eq_true rfl) hl hu ?_
        refine qS_bipush qd_146_153 (by decide) ?_
        refine qS_iand (a := s3 28 (v3 + 2)) (b := 63) qd_146_155 ?_
        refine qS_iadd (a := ((qand (s 28 v3) 15) * 4096) + ((qand (s3 28 (v3 + 1)) 63) * 64)) (b := qand (s3 28 (v3 + 2)) 63) qd_146_156 ?_
        exact qS_sub zsub_n H
  · have H := H2 hc; clear H1 H2 hc
    refine qS_iconst qd_146_64 ?_
    exact qS_ireturn qd_146_65 rfl (Or.inl ⟨_, rfl, H⟩)
set_option maxRecDepth 100000 in
theorem k146_157 {w : qE} {s : qS} {k0 : Int} {f : Int → qS → Prop} {g : Nat → qS → Prop}  (H : f k0 s) : qR w 1 qm146 157 [] [qI k0] s (qPI f g) := by
  exact qS_ireturn qd_146_157 rfl (Or.inl ⟨_, rfl, H⟩)
set_option maxRecDepth 100000 in
theorem k147 {w : qE} {s : qS} {p0 : Int} {f : Int → qS → Prop} {g : Nat → qS → Prop}  (H : qW w 4 148 [.ref 25, qI p0, qI 0] s (qPI (fun r1 s1 => Rg r1 ∧ (0 < r1 → qW w 2 151 [.ref 25, qI p0] s1 (qPI (fun r2 s2 => Rg r2 ∧ (r1 = r2 → qR w 4 qm147 25 [] [qI 1] s2 (qPI f g)) ∧ (r1 ≠ r2 → qR w 4 qm147 24 [] [] s2 (qPI f g))) g)) ∧ (r1 ≤ 0 → qR w 4 qm147 24 [] [] s1 (qPI f g))) g)) : qW w 5 147 [.ref 25, qI p0] s (qPI f g) := by
  refine qW.of (M := qm147) (l := [(0, .ref 25), (1, qI p0)]) qtm_147 rfl (Nat.le_of_ble_eq_true rfl) (zsub_c rfl (zsub_c rfl zsub_n)) ?_
  refine qS_aload_n qd_147_0 rfl ?_
  refine qS_iload_n qd_147_1 rfl ?_
  refine qS_iconst qd_147_2 ?_
  refine qS_cvI qd_147_3 (qml_8_125 w) rfl qtm_148 (hpc_25 _ _) (Nat.le_of_ble_eq_true rfl) rfl (Nat.le_of_ble_eq_true rfl) H (fun r1 s1 H => ?_) (fun x s1 H => Or.inr ⟨x, rfl, H⟩)
  refine qS_istore_n (a := [(0, .ref 25), (1, qI p0)]) qd_147_6 (Nat.le_of_ble_eq_true rfl) (zsub_c rfl (zsub_c rfl zsub_n)) rfl ?_
  refine qS_iload_n qd_147_7 rfl ?_
  obtain ⟨h8a, H1, H2⟩ := H
  refine qS_if0 qd_147_8 rfl (zcnd_le (a := r1) (b := 0) h8a ⟨by decide, by decide⟩ (fun t => qR w _ _ t _ _ _ _) (fun hc => ?_) (fun hc => ?_))
  · have H := H1 hc; clear H1 H2 hc
    refine qS_iload_n qd_147_11 rfl ?_
    refine qS_aload_n qd_147_12 rfl ?_
    refine qS_iload_n qd_147_13 rfl ?_
    refine qS_cvI qd_147_14 (qml_8_104 w) rfl qtm_151 (hpc_25 _ _) (Nat.le_of_ble_eq_true rfl) rfl (Nat.le_of_ble_eq_true rfl) H (fun r2 s2 H => ?_) (fun x s1 H => Or.inr ⟨x, rfl, H⟩)
    obtain ⟨h17b, H1, H2⟩ := H
    refine qS_icmp qd_147_17 rfl (zcnd_ne (a := r1) (b := r2) h8a h17b (fun t => qR w _ _ t _ _ _ _) (fun hc => ?_) (fun hc => ?_))
    · have H := H1 hc; clear H1 H2 hc
      refine qS_iconst qd_147_20 ?_
      refine qS_goto qd_147_21 rfl ?_
      exact qS_sub zsub_n H
    · have H := H2 hc; clear H1 H2 hc
      exact qS_sub zsub_n H
  · have H := H2 hc; clear H1 H2 hc
    exact qS_sub zsub_n H
set_option maxRecDepth 100000 in
theorem k147_24 {w : qE} {s : qS}  {f : Int → qS → Prop} {g : Nat → qS → Prop}  (H : qR w 4 qm147 25 [] [qI 0] s (qPI f g)) : qR w 4 qm147 24 [] [] s (qPI f g) := by
  refine qS_iconst qd_147_24 ?_
  exact qS_sub zsub_n H
set_option maxRecDepth 100000 in
theorem k147_25 {w : qE} {s : qS} {k0 : Int} {f : Int → qS → Prop} {g : Nat → qS → Prop}  (H : ((k0 = 0 ∨ k0 = 1) ∧ f k0 s)) : qR w 4 qm147 25 [] [qI k0] s (qPI f g) := by
  exact qS_zreturn qd_147_25 rfl H.1 (Or.inl ⟨_, rfl, H.2⟩)
set_option maxRecDepth 100000 in
theorem k148 {w : qE} {s : qS} {p0 : Int} {p1 : Int} {f : Int → qS → Prop} {g : Nat → qS → Prop}  (H : qR w 3 qm148 2 [(0, .ref 25), (1, qI p0), (3, qI p1)] [] s (qPI f g)) : qW w 4 148 [.ref 25, qI p0, qI p1] s (qPI f g) := by
  refine qW.of (M := qm148) (l := [(0, .ref 25), (1, qI p0), (2, qI p1)]) qtm_148 rfl (Nat.le_of_ble_eq_true rfl) (zsub_c rfl (zsub_c rfl (zsub_c rfl zsub_n))) ?_
  refine qS_iload_n qd_148_0 rfl ?_
  refine qS_istore_n (a := [(0, .ref 25), (1, qI p0)]) qd_148_1 (Nat.le_of_ble_eq_true rfl) (zsub_c rfl (zsub_c rfl zsub_n)) rfl ?_
  exact qS_sub (zsub_c rfl (zsub_c rfl (zsub_c rfl zsub_n))) H
set_option maxRecDepth 100000 in
theorem k148_2 {w : qE} {s : qS} {v1 : Int} {v3 : Int} {f : Int → qS → Prop} {g : Nat → qS → Prop}  (H : qW w 2 146 [.ref 25, qI v1, qI v3] s (qPI (fun r1 s1 => Rg r1 ∧ (r1 = 91 → qR w 3 qm148 2 [(0, .ref 25), (1, qI v1), (3, qI (v3 + 1))] [] s1 (qPI f g)) ∧ (r1 ≠ 91 → qW w 2 146 [.ref 25, qI v1, qI v3] s1 (qPI (fun r2 s2 => qW w 1 149 [qI r2] s2 (qPI (fun r3 s3 => Rg r3 ∧ (r3 < 0 → Rg r2 ∧ (r2 = 76 → qW w 3 150 [.ref 25, qI v1, qI (v3 + 1), qI 59] s3 (qPI (fun r4 s4 => Rg r4 ∧ (r4 < 0 → qR w 3 qm148 73 [] [qI ((-1))] s4 (qPI f g)) ∧ (0 ≤ r4 → qR w 3 qm148 73 [] [qI (r4 + 1)] s4 (qPI f g))) g)) ∧ (r2 ≠ 76 → f ((-1)) s3)) ∧ (0 ≤ r3 → f (v3 + 1) s3)) g)) g))) g)) : qR w 3 qm148 2 [(0, .ref 25), (1, qI v1), (3, qI v3)] [] s (qPI f g) := by
  refine qS_aload_n qd_148_2 rfl ?_
  refine qS_iload_n qd_148_3 rfl ?_
  refine qS_iload_n qd_148_4 rfl ?_
  refine qS_cvI qd_148_5 (qml_8_107 w) rfl qtm_146 (hpc_25 _ _) (Nat.le_of_ble_eq_true rfl) rfl (Nat.le_of_ble_eq_true rfl) H (fun r1 s1 H => ?_) (fun x s1 H => Or.inr ⟨x, rfl, H⟩)
  refine qS_bipush qd_148_8 (by decide) ?_
  obtain ⟨h10a, H1, H2⟩ := H
  refine qS_icmp qd_148_10 rfl (zcnd_ne (a := r1) (b := 91) h10a ⟨by decide, by decide⟩ (fun t => qR w _ _ t _ _ _ _) (fun hc => ?_) (fun hc => ?_))
  · have H := H1 hc; clear H1 H2 hc
    refine qS_iinc (v := v3) (a := [(0, .ref 25), (1, qI v1)]) qd_148_13 (Nat.le_of_ble_eq_true rfl) rfl (zsub_c rfl (zsub_c rfl zsub_n)) rfl ?_
    refine qS_goto qd_148_16 rfl ?_
    exact qS_sub (zsub_c rfl (zsub_c rfl (zsub_c rfl zsub_n))) H
  · have H := H2 hc; clear H1 H2 hc
    refine qS_aload_n qd_148_19 rfl ?_
    refine qS_iload_n qd_148_20 rfl ?_
    refine qS_iload_n qd_148_21 rfl ?_
    refine qS_cvI qd_148_22 (qml_8_107 w) rfl qtm_146 (hpc_25 _ _) (Nat.le_of_ble_eq_true rfl) rfl (Nat.le_of_ble_eq_true rfl) H (fun r2 s2 H => ?_) (fun x s1 H => Or.inr ⟨x, rfl, H⟩)
    refine qS_istore (a := [(0, .ref 25), (1, qI v1), (3, qI v3)]) qd_148_25 (Nat.le_of_ble_eq_true rfl) (zsub_c rfl (zsub_c rfl (zsub_c rfl zsub_n))) rfl ?_
    refine qS_iload qd_148_27 rfl ?_
    refine qS_csI qd_148_29 (qml_8_118 w) rfl (Nat.le_of_ble_eq_true rfl) rfl (Nat.le_of_ble_eq_true rfl) H (fun r3 s3 H => ?_) (fun x s1 H => Or.inr ⟨x, rfl, H⟩)
    obtain ⟨h32a, H1, H2⟩ := H
    refine qS_if0 qd_148_32 rfl (zcnd_lt (a := r3) (b := 0) h32a ⟨by decide, by decide⟩ (fun t => qR w _ _ t _ _ _ _) (fun hc => ?_) (fun hc => ?_))
    · have H := H1 hc; clear H1 H2 hc
      refine qS_iload qd_148_39 rfl ?_
      refine qS_bipush qd_148_41 (by decide) ?_
      obtain ⟨h43a, H1, H2⟩ := H
      refine qS_icmp qd_148_43 rfl (zcnd_eq (a := r2) (b := 76) h43a ⟨by decide, by decide⟩ (fun t => qR w _ _ t _ _ _ _) (fun hc => ?_) (fun hc => ?_))
      · have H := H1 hc; clear H1 H2 hc
        refine qS_aload_n qd_148_48 rfl ?_
        refine qS_iload_n qd_148_49 rfl ?_
        refine qS_iload_n qd_148_50 rfl ?_
        refine qS_iconst qd_148_51 ?_
        refine qS_iadd (a := v3) (b := 1) qd_148_52 ?_
        refine qS_bipush qd_148_53 (by decide) ?_
        refine qS_cvI qd_148_55 (qml_8_121 w) rfl qtm_150 (hpc_25 _ _) (Nat.le_of_ble_eq_true rfl) rfl (Nat.le_of_ble_eq_true rfl) H (fun r4 s4 H => ?_) (fun x s1 H => Or.inr ⟨x, rfl, H⟩)
        refine qS_istore (a := []) qd_148_58 (Nat.le_of_ble_eq_true rfl) zsub_n rfl ?_
        refine qS_iload qd_148_60 rfl ?_
        obtain ⟨h62a, H1, H2⟩ := H
        refine qS_if0 qd_148_62 rfl (zcnd_ge (a := r4) (b := 0) h62a ⟨by decide, by decide⟩ (fun t => qR w _ _ t _ _ _ _) (fun hc => ?_) (fun hc => ?_))
        · have H := H1 hc; clear H1 H2 hc
          refine qS_iconst qd_148_65 ?_
          refine qS_goto qd_148_66 rfl ?_
          exact qS_sub zsub_n H
        · have H := H2 hc; clear H1 H2 hc
          refine qS_iload qd_148_69 rfl ?_
          refine qS_iconst qd_148_71 ?_
          refine qS_iadd (a := r4) (b := 1) qd_148_72 ?_
          exact qS_sub zsub_n H
      · have H := H2 hc; clear H1 H2 hc
        refine qS_iconst qd_148_46 ?_
        exact qS_ireturn qd_148_47 rfl (Or.inl ⟨_, rfl, H⟩)
    · have H := H2 hc; clear H1 H2 hc
      refine qS_iload_n qd_148_35 rfl ?_
      refine qS_iconst qd_148_36 ?_
      refine qS_iadd (a := v3) (b := 1) qd_148_37 ?_
      exact qS_ireturn qd_148_38 rfl (Or.inl ⟨_, rfl, H⟩)
set_option maxRecDepth 100000 in
theorem k148_73 {w : qE} {s : qS} {k0 : Int} {f : Int → qS → Prop} {g : Nat → qS → Prop}  (H : f k0 s) : qR w 3 qm148 73 [] [qI k0] s (qPI f g) := by
  exact qS_ireturn qd_148_73 rfl (Or.inl ⟨_, rfl, H⟩)
set_option maxRecDepth 100000 in
theorem k149 {w : qE} {s : qS} {p0 : Int} {f : Int → qS → Prop} {g : Nat → qS → Prop}  (H : Rg p0 ∧ (p0 = 66 → f 0 s) ∧ (p0 = 67 → f 1 s) ∧ (p0 = 68 → f 2 s) ∧ (p0 = 70 → f 3 s) ∧ (p0 = 73 → f 4 s) ∧ (p0 = 74 → f 5 s) ∧ (p0 = 83 → f 6 s) ∧ (p0 = 90 → f 7 s) ∧ (p0 ≠ 66 → p0 ≠ 67 → p0 ≠ 68 → p0 ≠ 70 → p0 ≠ 73 → p0 ≠ 74 → p0 ≠ 83 → p0 ≠ 90 → f ((-1)) s)) : qW w 1 149 [qI p0] s (qPI f g) := by
  refine qW.of (M := qm149) (l := [(0, qI p0)]) qtm_149 rfl (Nat.le_of_ble_eq_true rfl) (zsub_c rfl zsub_n) ?_
  refine qS_iload_n qd_149_0 rfl ?_
  obtain ⟨h1a, H1, H2, H3, H4, H5, H6, H7, H8, Hd⟩ := H
  by_cases hc0 : p0 = 66
  · refine qS_tsw qd_149_1 (t := 116) h1a (by rw [hc0]; rfl) ?_
    have H := H1 hc0
    refine qS_iconst qd_149_116 ?_
    exact qS_ireturn qd_149_117 rfl (Or.inl ⟨_, rfl, H⟩)
  by_cases hc1 : p0 = 67
  · refine qS_tsw qd_149_1 (t := 118) h1a (by rw [hc1]; rfl) ?_
    have H := H2 hc1
    refine qS_iconst qd_149_118 ?_
    exact qS_ireturn qd_149_119 rfl (Or.inl ⟨_, rfl, H⟩)
  by_cases hc2 : p0 = 68
  · refine qS_tsw qd_149_1 (t := 120) h1a (by rw [hc2]; rfl) ?_
    have H := H3 hc2
    refine qS_iconst qd_149_120 ?_
    exact qS_ireturn qd_149_121 rfl (Or.inl ⟨_, rfl, H⟩)
  by_cases hc3 : p0 = 70
  · refine qS_tsw qd_149_1 (t := 122) h1a (by rw [hc3]; rfl) ?_
    have H := H4 hc3
    refine qS_iconst qd_149_122 ?_
    exact qS_ireturn qd_149_123 rfl (Or.inl ⟨_, rfl, H⟩)
  by_cases hc4 : p0 = 73
  · refine qS_tsw qd_149_1 (t := 124) h1a (by rw [hc4]; rfl) ?_
    have H := H5 hc4
    refine qS_iconst qd_149_124 ?_
    exact qS_ireturn qd_149_125 rfl (Or.inl ⟨_, rfl, H⟩)
  by_cases hc5 : p0 = 74
  · refine qS_tsw qd_149_1 (t := 126) h1a (by rw [hc5]; rfl) ?_
    have H := H6 hc5
    refine qS_iconst qd_149_126 ?_
    exact qS_ireturn qd_149_127 rfl (Or.inl ⟨_, rfl, H⟩)
  by_cases hc6 : p0 = 83
  · refine qS_tsw qd_149_1 (t := 128) h1a (by rw [hc6]; rfl) ?_
    have H := H7 hc6
    refine qS_bipush qd_149_128 (by decide) ?_
    exact qS_ireturn qd_149_130 rfl (Or.inl ⟨_, rfl, H⟩)
  by_cases hc7 : p0 = 90
  · refine qS_tsw qd_149_1 (t := 131) h1a (by rw [hc7]; rfl) ?_
    have H := H8 hc7
    refine qS_bipush qd_149_131 (by decide) ?_
    exact qS_ireturn qd_149_133 rfl (Or.inl ⟨_, rfl, H⟩)
  refine qS_tsw qd_149_1 (t := 134) h1a (by
    by_cases hz : p0 < 66 ∨ 90 < p0
    · unfold ztsw; rw [if_pos hz]; rfl
    · have hz2 : p0 = 69 ∨ p0 = 71 ∨ p0 = 72 ∨ p0 = 75 ∨ p0 = 76 ∨ p0 = 77 ∨ p0 = 78 ∨ p0 = 79 ∨ p0 = 80 ∨ p0 = 81 ∨ p0 = 82 ∨ p0 = 84 ∨ p0 = 85 ∨ p0 = 86 ∨ p0 = 87 ∨ p0 = 88 ∨ p0 = 89 := by omega
      rcases hz2 with hq | hq | hq | hq | hq | hq | hq | hq | hq | hq | hq | hq | hq | hq | hq | hq | hq <;> (rw [hq]; rfl)) ?_
  have H := Hd (by omega) (by omega) (by omega) (by omega) (by omega) (by omega) (by omega) (by omega)
  refine qS_iconst qd_149_134 ?_
  exact qS_ireturn qd_149_135 rfl (Or.inl ⟨_, rfl, H⟩)
set_option maxRecDepth 100000 in
theorem k150 {w : qE} {s : qS} {p0 : Int} {p1 : Int} {p2 : Int} {f : Int → qS → Prop} {g : Nat → qS → Prop}  (H : qR w 2 qm150 6 [(0, .ref 25), (1, qI p0), (3, qI p2), (4, qI p1), (5, qI 0)] [] s (qPI f g)) : qW w 3 150 [.ref 25, qI p0, qI p1, qI p2] s (qPI f g) := by
  refine qW.of (M := qm150) (l := [(0, .ref 25), (1, qI p0), (2, qI p1), (3, qI p2)]) qtm_150 rfl (Nat.le_of_ble_eq_true rfl) (zsub_c rfl (zsub_c rfl (zsub_c rfl (zsub_c rfl zsub_n)))) ?_
  refine qS_iload_n qd_150_0 rfl ?_
  refine qS_istore (a := [(0, .ref 25), (1, qI p0), (3, qI p2)]) qd_150_1 (Nat.le_of_ble_eq_true rfl) (zsub_c rfl (zsub_c rfl (zsub_c rfl zsub_n))) rfl ?_
  refine qS_iconst qd_150_3 ?_
  refine qS_istore (a := [(4, qI p1), (0, .ref 25), (1, qI p0), (3, qI p2)]) qd_150_4 (Nat.le_of_ble_eq_true rfl) (zsub_c rfl (zsub_c rfl (zsub_c rfl (zsub_c rfl zsub_n)))) rfl ?_
  exact qS_sub (zsub_c rfl (zsub_c rfl (zsub_c rfl (zsub_c rfl (zsub_c rfl zsub_n))))) H
set_option maxRecDepth 100000 in
theorem k150_6 {w : qE} {s : qS} {v1 : Int} {v3 : Int} {v4 : Int} {v5 : Int} {f : Int → qS → Prop} {g : Nat → qS → Prop}  (H : qW w 2 146 [.ref 25, qI v1, qI v4] s (qPI (fun r1 s1 => Rg v3 ∧ (v3 = 0 → qR w 2 qm150 26 [(0, .ref 25), (1, qI v1), (3, qI v3), (4, qI v4), (5, qI v5), (6, qI r1)] [qI ((-1)), qI r1] s1 (qPI f g)) ∧ (v3 ≠ 0 → qR w 2 qm150 26 [(0, .ref 25), (1, qI v1), (3, qI v3), (4, qI v4), (5, qI v5), (6, qI r1)] [qI v3, qI r1] s1 (qPI f g))) g)) : qR w 2 qm150 6 [(0, .ref 25), (1, qI v1), (3, qI v3), (4, qI v4), (5, qI v5)] [] s (qPI f g) := by
  refine qS_aload_n qd_150_6 rfl ?_
  refine qS_iload_n qd_150_7 rfl ?_
  refine qS_iload qd_150_8 rfl ?_
  refine qS_cvI qd_150_10 (qml_8_107 w) rfl qtm_146 (hpc_25 _ _) (Nat.le_of_ble_eq_true rfl) rfl (Nat.le_of_ble_eq_true rfl) H (fun r1 s1 H => ?_) (fun x s1 H => Or.inr ⟨x, rfl, H⟩)
  refine qS_istore (a := [(0, .ref 25), (1, qI v1), (3, qI v3), (4, qI v4), (5, qI v5)]) qd_150_13 (Nat.le_of_ble_eq_true rfl) (zsub_c rfl (zsub_c rfl (zsub_c rfl (zsub_c rfl (zsub_c rfl zsub_n))))) rfl ?_
  refine qS_iload qd_150_15 rfl ?_
  refine qS_iload_n qd_150_17 rfl ?_
  obtain ⟨h18a, H1, H2⟩ := H
  refine qS_if0 qd_150_18 rfl (zcnd_ne (a := v3) (b := 0) h18a ⟨by decide, by decide⟩ (fun t => qR w _ _ t _ _ _ _) (fun hc => ?_) (fun hc => ?_))
  · have H := H1 hc; clear H1 H2 hc
    refine qS_iconst qd_150_21 ?_
    refine qS_goto qd_150_22 rfl ?_
    exact qS_sub (zsub_c rfl (zsub_c rfl (zsub_c rfl (zsub_c rfl (zsub_c rfl (zsub_c rfl zsub_n)))))) H
  · have H := H2 hc; clear H1 H2 hc
    refine qS_iload_n qd_150_25 rfl ?_
    exact qS_sub (zsub_c rfl (zsub_c rfl (zsub_c rfl (zsub_c rfl (zsub_c rfl (zsub_c rfl zsub_n)))))) H
set_option maxRecDepth 100000 in
theorem k150_26 {w : qE} {s : qS} {v1 : Int} {v3 : Int} {v4 : Int} {v5 : Int} {v6 : Int} {k1 : Int} {k0 : Int} {f : Int → qS → Prop} {g : Nat → qS → Prop}  (H : Rg k0 ∧ Rg k1 ∧ (k0 = k1 → Rg v5 ∧ (0 < v5 → qR w 2 qm150 40 [] [qI v4] s (qPI f g)) ∧ (v5 ≤ 0 → qR w 2 qm150 40 [] [qI ((-1))] s (qPI f g))) ∧ (k0 ≠ k1 → Rg v6 ∧ (v6 < 0 → qR w 2 qm150 79 [] [] s (qPI f g)) ∧ (0 ≤ v6 → (v6 = 46 → qR w 2 qm150 79 [] [] s (qPI f g)) ∧ (v6 ≠ 46 → (v6 = 59 → qR w 2 qm150 79 [] [] s (qPI f g)) ∧ (v6 ≠ 59 → (v6 = 91 → qR w 2 qm150 79 [] [] s (qPI f g)) ∧ (v6 ≠ 91 → (v6 = 47 → Rg v5 ∧ (v5 = 0 → qR w 2 qm150 79 [] [] s (qPI f g)) ∧ (v5 ≠ 0 → qR w 2 qm150 81 [(0, .ref 25), (1, qI v1), (3, qI v3), (4, qI v4), (5, qI v5), (6, qI v6)] [] s (qPI f g))) ∧ (v6 ≠ 47 → qR w 2 qm150 81 [(0, .ref 25), (1, qI v1), (3, qI v3), (4, qI v4), (5, qI v5), (6, qI v6)] [] s (qPI f g)))))))) : qR w 2 qm150 26 [(0, .ref 25), (1, qI v1), (3, qI v3), (4, qI v4), (5, qI v5), (6, qI v6)] [qI k1, qI k0] s (qPI f g) := by
  obtain ⟨h26a, h26b, H1, H2⟩ := H
  refine qS_icmp qd_150_26 rfl (zcnd_ne (a := k0) (b := k1) h26a h26b (fun t => qR w _ _ t _ _ _ _) (fun hc => ?_) (fun hc => ?_))
  · have H := H1 hc; clear H1 H2 hc
    refine qS_iload qd_150_29 rfl ?_
    obtain ⟨h31a, H1, H2⟩ := H
    refine qS_if0 qd_150_31 rfl (zcnd_le (a := v5) (b := 0) h31a ⟨by decide, by decide⟩ (fun t => qR w _ _ t _ _ _ _) (fun hc => ?_) (fun hc => ?_))
    · have H := H1 hc; clear H1 H2 hc
      refine qS_iload qd_150_34 rfl ?_
      refine qS_goto qd_150_36 rfl ?_
      exact qS_sub zsub_n H
    · have H := H2 hc; clear H1 H2 hc
      refine qS_iconst qd_150_39 ?_
      exact qS_sub zsub_n H
  · have H := H2 hc; clear H1 H2 hc
    refine qS_iload qd_150_41 rfl ?_
    obtain ⟨h43a, H1, H2⟩ := H
    refine qS_if0 qd_150_43 rfl (zcnd_lt (a := v6) (b := 0) h43a ⟨by decide, by decide⟩ (fun t => qR w _ _ t _ _ _ _) (fun hc => ?_) (fun hc => ?_))
    · have H := H1 hc; clear H1 H2 hc
      exact qS_sub zsub_n H
    · have H := H2 hc; clear H1 H2 hc
      refine qS_iload qd_150_46 rfl ?_
      refine qS_bipush qd_150_48 (by decide) ?_
      obtain ⟨H1, H2⟩ := H
      refine qS_icmp qd_150_50 rfl (zcnd_eq (a := v6) (b := 46) h43a ⟨by decide, by decide⟩ (fun t => qR w _ _ t _ _ _ _) (fun hc => ?_) (fun hc => ?_))
      · have H := H1 hc; clear H1 H2 hc
        exact qS_sub zsub_n H
      · have H := H2 hc; clear H1 H2 hc
        refine qS_iload qd_150_53 rfl ?_
        refine qS_bipush qd_150_55 (by decide) ?_
        obtain ⟨H1, H2⟩ := H
        refine qS_icmp qd_150_57 rfl (zcnd_eq (a := v6) (b := 59) h43a ⟨by decide, by decide⟩ (fun t => qR w _ _ t _ _ _ _) (fun hc => ?_) (fun hc => ?_))
        · have H := H1 hc; clear H1 H2 hc
          exact qS_sub zsub_n H
        · have H := H2 hc; clear H1 H2 hc
          refine qS_iload qd_150_60 rfl ?_
          refine qS_bipush qd_150_62 (by decide) ?_
          obtain ⟨H1, H2⟩ := H
          refine qS_icmp qd_150_64 rfl (zcnd_eq (a := v6) (b := 91) h43a ⟨by decide, by decide⟩ (fun t => qR w _ _ t _ _ _ _) (fun hc => ?_) (fun hc => ?_))
          · have H := H1 hc; clear H1 H2 hc
            exact qS_sub zsub_n H
          · have H := H2 hc; clear H1 H2 hc
            refine qS_iload qd_150_67 rfl ?_
            refine qS_bipush qd_150_69 (by decide) ?_
            obtain ⟨H1, H2⟩ := H
            refine qS_icmp qd_150_71 rfl (zcnd_ne (a := v6) (b := 47) h43a ⟨by decide, by decide⟩ (fun t => qR w _ _ t _ _ _ _) (fun hc => ?_) (fun hc => ?_))
            · have H := H1 hc; clear H1 H2 hc
              refine qS_iload qd_150_74 rfl ?_
              obtain ⟨h76a, H1, H2⟩ := H
              refine qS_if0 qd_150_76 rfl (zcnd_ne (a := v5) (b := 0) h76a ⟨by decide, by decide⟩ (fun t => qR w _ _ t _ _ _ _) (fun hc => ?_) (fun hc => ?_))
              · have H := H1 hc; clear H1 H2 hc
                exact qS_sub zsub_n H
              · have H := H2 hc; clear H1 H2 hc
                exact qS_sub (zsub_c rfl (zsub_c rfl (zsub_c rfl (zsub_c rfl (zsub_c rfl (zsub_c rfl zsub_n)))))) H
            · have H := H2 hc; clear H1 H2 hc
              exact qS_sub (zsub_c rfl (zsub_c rfl (zsub_c rfl (zsub_c rfl (zsub_c rfl (zsub_c rfl zsub_n)))))) H
set_option maxRecDepth 100000 in
theorem k150_40 {w : qE} {s : qS} {k0 : Int} {f : Int → qS → Prop} {g : Nat → qS → Prop}  (H : f k0 s) : qR w 2 qm150 40 [] [qI k0] s (qPI f g) := by
  exact qS_ireturn qd_150_40 rfl (Or.inl ⟨_, rfl, H⟩)
set_option maxRecDepth 100000 in
theorem k150_79 {w : qE} {s : qS}  {f : Int → qS → Prop} {g : Nat → qS → Prop}  (H : f ((-1)) s) : qR w 2 qm150 79 [] [] s (qPI f g) := by
  refine qS_iconst qd_150_79 ?_
  exact qS_ireturn qd_150_80 rfl (Or.inl ⟨_, rfl, H⟩)
set_option maxRecDepth 100000 in
theorem k150_81 {w : qE} {s : qS} {v1 : Int} {v3 : Int} {v4 : Int} {v5 : Int} {v6 : Int} {f : Int → qS → Prop} {g : Nat → qS → Prop}  (H : Rg v6 ∧ (v6 = 47 → qR w 2 qm150 96 [(0, .ref 25), (1, qI v1), (3, qI v3), (4, qI v4)] [qI 0] s (qPI f g)) ∧ (v6 ≠ 47 → qR w 2 qm150 96 [(0, .ref 25), (1, qI v1), (3, qI v3), (4, qI v4)] [qI (v5 + 1)] s (qPI f g))) : qR w 2 qm150 81 [(0, .ref 25), (1, qI v1), (3, qI v3), (4, qI v4), (5, qI v5), (6, qI v6)] [] s (qPI f g) := by
  refine qS_iload qd_150_81 rfl ?_
  refine qS_bipush qd_150_83 (by decide) ?_
  obtain ⟨h85a, H1, H2⟩ := H
  refine qS_icmp qd_150_85 rfl (zcnd_ne (a := v6) (b := 47) h85a ⟨by decide, by decide⟩ (fun t => qR w _ _ t _ _ _ _) (fun hc => ?_) (fun hc => ?_))
  · have H := H1 hc; clear H1 H2 hc
    refine qS_iconst qd_150_88 ?_
    refine qS_goto qd_150_89 rfl ?_
    exact qS_sub (zsub_c rfl (zsub_c rfl (zsub_c rfl (zsub_c rfl zsub_n)))) H
  · have H := H2 hc; clear H1 H2 hc
    refine qS_iload qd_150_92 rfl ?_
    refine qS_iconst qd_150_94 ?_
    refine qS_iadd (a := v5) (b := 1) qd_150_95 ?_
    exact qS_sub (zsub_c rfl (zsub_c rfl (zsub_c rfl (zsub_c rfl zsub_n)))) H
set_option maxRecDepth 100000 in
theorem k150_96 {w : qE} {s : qS} {v1 : Int} {v3 : Int} {v4 : Int} {k0 : Int} {f : Int → qS → Prop} {g : Nat → qS → Prop}  (H : qR w 2 qm150 6 [(0, .ref 25), (1, qI v1), (3, qI v3), (4, qI (v4 + 1)), (5, qI k0)] [] s (qPI f g)) : qR w 2 qm150 96 [(0, .ref 25), (1, qI v1), (3, qI v3), (4, qI v4)] [qI k0] s (qPI f g) := by
  refine qS_istore (a := [(0, .ref 25), (1, qI v1), (3, qI v3), (4, qI v4)]) qd_150_96 (Nat.le_of_ble_eq_true rfl) (zsub_c rfl (zsub_c rfl (zsub_c rfl (zsub_c rfl zsub_n)))) rfl ?_
  refine qS_iinc (v := v4) (a := [(5, qI k0), (0, .ref 25), (1, qI v1), (3, qI v3)]) qd_150_98 (Nat.le_of_ble_eq_true rfl) rfl (zsub_c rfl (zsub_c rfl (zsub_c rfl (zsub_c rfl zsub_n)))) rfl ?_
  refine qS_goto qd_150_101 rfl ?_
  exact qS_sub (zsub_c rfl (zsub_c rfl (zsub_c rfl (zsub_c rfl (zsub_c rfl zsub_n))))) H
set_option maxRecDepth 100000 in
theorem k151 {w : qE} {s : qS} {p0 : Int} {f : Int → qS → Prop} {g : Nat → qS → Prop}  (H : (0 ≤ p0 ∧ p0 < 520 ∧ ((0 ≤ p0 ∧ p0 < 520 ∧ (qW w 1 142 [.ref 25, qI ((s 29 p0) + 1)] s (qPI (fun r1 s1 => (0 ≤ p0 ∧ p0 < 520 ∧ (qR w 1 qm151 34 [(0, .ref 25), (2, qI 0), (3, qI (((s 29 p0) + 3) + r1)), (4, qI ((s1 29 p0) + 3))] [] s1 (qPI f g)))) g)))))) : qW w 2 151 [.ref 25, qI p0] s (qPI f g) := by
  refine qW.of (M := qm151) (l := [(0, .ref 25), (1, qI p0)]) qtm_151 rfl (Nat.le_of_ble_eq_true rfl) (zsub_c rfl (zsub_c rfl zsub_n)) ?_
  refine qS_iconst qd_151_0 ?_
  refine qS_istore_n (a := [(0, .ref 25), (1, qI p0)]) qd_151_1 (Nat.le_of_ble_eq_true rfl) (zsub_c rfl (zsub_c rfl zsub_n)) rfl ?_
  refine qS_aload_n qd_151_2 rfl ?_
  refine qS_getfield (v := .ref 29) qd_151_3 (qfl_8_23 w) (hpc_25 _ _) rfl ?_
  refine qS_iload_n qd_151_6 rfl ?_
  obtain ⟨hl, hu, H⟩ := H
  refine qS_iaload (a := 29) (i := p0) qd_151_7 (Nat.le_of_ble_eq_true rfl) hl hu ?_
  refine qS_iconst qd_151_8 ?_
  refine qS_iadd (a := s 29 p0) (b := 3) qd_151_9 ?_
  refine qS_aload_n qd_151_10 rfl ?_
  refine qS_aload_n qd_151_11 rfl ?_
  refine qS_getfield (v := .ref 29) qd_151_12 (qfl_8_23 w) (hpc_25 _ _) rfl ?_
  refine qS_iload_n qd_151_15 rfl ?_
  obtain ⟨hl, hu, H⟩ := H
  refine qS_iaload (a := 29) (i := p0) qd_151_16 (Nat.le_of_ble_eq_true rfl) hl hu ?_
  refine qS_iconst qd_151_17 ?_
  refine qS_iadd (a := s 29 p0) (b := 1) qd_151_18 ?_
  refine qS_cvI qd_151_19 (qml_8_91 w) rfl qtm_142 (hpc_25 _ _) (Nat.le_of_ble_eq_true rfl) rfl (Nat.le_of_ble_eq_true rfl) H (fun r1 s1 H => ?_) (fun x s1 H => Or.inr ⟨x, rfl, H⟩)
  refine qS_iadd (a := (s 29 p0) + 3) (b := r1) qd_151_22 ?_
  refine qS_istore_n (a := [(2, qI 0), (0, .ref 25), (1, qI p0)]) qd_151_23 (Nat.le_of_ble_eq_true rfl) (zsub_c rfl (zsub_c rfl (zsub_c rfl zsub_n))) rfl ?_
  refine qS_aload_n qd_151_24 rfl ?_
  refine qS_getfield (v := .ref 29) qd_151_25 (qfl_8_23 w) (hpc_25 _ _) rfl ?_
  refine qS_iload_n qd_151_28 rfl ?_
  obtain ⟨hl, hu, H⟩ := H
  refine qS_iaload (a := 29) (i := p0) qd_151_29 (Nat.le_of_ble_eq_true rfl) hl hu ?_
  refine qS_iconst qd_151_30 ?_
  refine qS_iadd (a := s1 29 p0) (b := 3) qd_151_31 ?_
  refine qS_istore (a := [(3, qI (((s 29 p0) + 3) + r1)), (2, qI 0), (0, .ref 25)]) qd_151_32 (Nat.le_of_ble_eq_true rfl) (zsub_c rfl (zsub_c rfl (zsub_c rfl zsub_n))) rfl ?_
  exact qS_sub (zsub_c rfl (zsub_c rfl (zsub_c rfl (zsub_c rfl zsub_n)))) H
set_option maxRecDepth 100000 in
theorem k151_34 {w : qE} {s : qS} {v2 : Int} {v3 : Int} {v4 : Int} {f : Int → qS → Prop} {g : Nat → qS → Prop}  (H : Rg v4 ∧ Rg v3 ∧ (v4 < v3 → (0 ≤ v4 ∧ v4 < 500 ∧ (qW w 1 137 [qI (s 28 v4)] s (qPI (fun r2 s2 => qR w 1 qm151 34 [(0, .ref 25), (2, qI (v2 + 1)), (3, qI v3), (4, qI (v4 + r2))] [] s2 (qPI f g)) g)))) ∧ (v3 ≤ v4 → f v2 s)) : qR w 1 qm151 34 [(0, .ref 25), (2, qI v2), (3, qI v3), (4, qI v4)] [] s (qPI f g) := by
  refine qS_iload qd_151_34 rfl ?_
  refine qS_iload_n qd_151_36 rfl ?_
  obtain ⟨h37a, h37b, H1, H2⟩ := H
  refine qS_icmp qd_151_37 rfl (zcnd_ge (a := v4) (b := v3) h37a h37b (fun t => qR w _ _ t _ _ _ _) (fun hc => ?_) (fun hc => ?_))
  · have H := H1 hc; clear H1 H2 hc
    refine qS_iinc (v := v2) (a := [(0, .ref 25), (3, qI v3), (4, qI v4)]) qd_151_40 (Nat.le_of_ble_eq_true rfl) rfl (zsub_c rfl (zsub_c rfl (zsub_c rfl zsub_n))) rfl ?_
    refine qS_iload qd_151_43 rfl ?_
    refine qS_aload_n qd_151_45 rfl ?_
    refine qS_getfield (v := .ref 28) qd_151_46 (qfl_8_16 w) (hpc_25 _ _) rfl ?_
    refine qS_iload qd_151_49 rfl ?_
    obtain ⟨hl, hu, H⟩ := H
    refine qS_iaload (a := 28) (i := v4) qd_151_51 (Nat.le_of_ble_eq_true rfl) hl hu ?_
    refine qS_csI qd_151_52 (qml_8_98 w) rfl (Nat.le_of_ble_eq_true rfl) rfl (Nat.le_of_ble_eq_true rfl) H (fun r2 s2 H => ?_) (fun x s1 H => Or.inr ⟨x, rfl, H⟩)
    refine qS_iadd (a := v4) (b := r2) qd_151_55 ?_
    refine qS_istore (a := [(2, qI (v2 + 1)), (0, .ref 25), (3, qI v3)]) qd_151_56 (Nat.le_of_ble_eq_true rfl) (zsub_c rfl (zsub_c rfl (zsub_c rfl zsub_n))) rfl ?_
    refine qS_goto qd_151_58 rfl ?_
    exact qS_sub (zsub_c rfl (zsub_c rfl (zsub_c rfl (zsub_c rfl zsub_n)))) H
  · have H := H2 hc; clear H1 H2 hc
    refine qS_iload_n qd_151_61 rfl ?_
    exact qS_ireturn qd_151_62 rfl (Or.inl ⟨_, rfl, H⟩)
set_option maxRecDepth 100000 in
theorem k152 {w : qE} {s : qS} {p0 : Int} {f : Int → qS → Prop} {g : Nat → qS → Prop}  (H : qW w 2 146 [.ref 25, qI p0, qI 0] (qset s 25 27 0) (qPI (fun r1 s1 => Rg r1 ∧ (r1 = 40 → qR w 4 qm152 20 [(0, .ref 25), (1, qI p0), (2, qI 1)] [] s1 (qPI f g)) ∧ (r1 ≠ 40 → f 0 s1)) g)) : qW w 5 152 [.ref 25, qI p0] s (qPI f g) := by
  refine qW.of (M := qm152) (l := [(0, .ref 25), (1, qI p0)]) qtm_152 rfl (Nat.le_of_ble_eq_true rfl) (zsub_c rfl (zsub_c rfl zsub_n)) ?_
  refine qS_aload_n qd_152_0 rfl ?_
  refine qS_iconst qd_152_1 ?_
  refine qS_putfield (s1 := qset s 25 27 0) qd_152_2 (qfl_8_128 w) (hpc_25 _ _) (Nat.le_of_ble_eq_true rfl) rfl rfl rfl (hps_25_27 _ _ _) ?_
  refine qS_aload_n qd_152_5 rfl ?_
  refine qS_iload_n qd_152_6 rfl ?_
  refine qS_iconst qd_152_7 ?_
  refine qS_cvI qd_152_8 (qml_8_107 w) rfl qtm_146 (hpc_25 _ _) (Nat.le_of_ble_eq_true rfl) rfl (Nat.le_of_ble_eq_true rfl) H (fun r1 s1 H => ?_) (fun x s1 H => Or.inr ⟨x, rfl, H⟩)
  refine qS_bipush qd_152_11 (by decide) ?_
  obtain ⟨h13a, H1, H2⟩ := H
  refine qS_icmp qd_152_13 rfl (zcnd_eq (a := r1) (b := 40) h13a ⟨by decide, by decide⟩ (fun t => qR w _ _ t _ _ _ _) (fun hc => ?_) (fun hc => ?_))
  · have H := H1 hc; clear H1 H2 hc
    refine qS_iconst qd_152_18 ?_
    refine qS_istore_n (a := [(0, .ref 25), (1, qI p0)]) qd_152_19 (Nat.le_of_ble_eq_true rfl) (zsub_c rfl (zsub_c rfl zsub_n)) rfl ?_
    exact qS_sub (zsub_c rfl (zsub_c rfl (zsub_c rfl zsub_n))) H
  · have H := H2 hc; clear H1 H2 hc
    refine qS_iconst qd_152_16 ?_
    exact qS_zreturn qd_152_17 rfl (Or.inl rfl) (Or.inl ⟨_, rfl, H⟩)
set_option maxRecDepth 100000 in
theorem k152_20 {w : qE} {s : qS} {v1 : Int} {v2 : Int} {f : Int → qS → Prop} {g : Nat → qS → Prop}  (H : Rg v2 ∧ (0 < v2 → qW w 2 146 [.ref 25, qI v1, qI v2] s (qPI (fun r2 s2 => Rg r2 ∧ (r2 = 41 → qR w 4 qm152 78 [(0, .ref 25), (1, qI v1), (2, qI v2)] [] s2 (qPI f g)) ∧ (r2 ≠ 41 → qW w 2 146 [.ref 25, qI v1, qI v2] s2 (qPI (fun r3 s3 => Rg r3 ∧ (r3 = 74 → qR w 4 qm152 59 [(0, .ref 25), (1, qI v1), (2, qI v2)] [qI (s3 25 27), .ref 25] s3 (qPI f g)) ∧ (r3 ≠ 74 → (r3 = 68 → qR w 4 qm152 59 [(0, .ref 25), (1, qI v1), (2, qI v2)] [qI (s3 25 27), .ref 25] s3 (qPI f g)) ∧ (r3 ≠ 68 → qR w 4 qm152 64 [(0, .ref 25), (1, qI v1), (2, qI v2)] [qI 1, qI (s3 25 27), .ref 25] s3 (qPI f g)))) g))) g)) ∧ (v2 ≤ 0 → qR w 4 qm152 78 [(0, .ref 25), (1, qI v1), (2, qI v2)] [] s (qPI f g))) : qR w 4 qm152 20 [(0, .ref 25), (1, qI v1), (2, qI v2)] [] s (qPI f g) := by
  refine qS_iload_n qd_152_20 rfl ?_
  obtain ⟨h21a, H1, H2⟩ := H
  refine qS_if0 qd_152_21 rfl (zcnd_le (a := v2) (b := 0) h21a ⟨by decide, by decide⟩ (fun t => qR w _ _ t _ _ _ _) (fun hc => ?_) (fun hc => ?_))
  · have H := H1 hc; clear H1 H2 hc
    refine qS_aload_n qd_152_24 rfl ?_
    refine qS_iload_n qd_152_25 rfl ?_
    refine qS_iload_n qd_152_26 rfl ?_
    refine qS_cvI qd_152_27 (qml_8_107 w) rfl qtm_146 (hpc_25 _ _) (Nat.le_of_ble_eq_true rfl) rfl (Nat.le_of_ble_eq_true rfl) H (fun r2 s2 H => ?_) (fun x s1 H => Or.inr ⟨x, rfl, H⟩)
    refine qS_bipush qd_152_30 (by decide) ?_
    obtain ⟨h32a, H1, H2⟩ := H
    refine qS_icmp qd_152_32 rfl (zcnd_eq (a := r2) (b := 41) h32a ⟨by decide, by decide⟩ (fun t => qR w _ _ t _ _ _ _) (fun hc => ?_) (fun hc => ?_))
    · have H := H1 hc; clear H1 H2 hc
      exact qS_sub (zsub_c rfl (zsub_c rfl (zsub_c rfl zsub_n))) H
    · have H := H2 hc; clear H1 H2 hc
      refine qS_aload_n qd_152_35 rfl ?_
      refine qS_iload_n qd_152_36 rfl ?_
      refine qS_iload_n qd_152_37 rfl ?_
      refine qS_cvI qd_152_38 (qml_8_107 w) rfl qtm_146 (hpc_25 _ _) (Nat.le_of_ble_eq_true rfl) rfl (Nat.le_of_ble_eq_true rfl) H (fun r3 s3 H => ?_) (fun x s1 H => Or.inr ⟨x, rfl, H⟩)
      refine qS_istore_n (a := [(0, .ref 25), (1, qI v1), (2, qI v2)]) qd_152_41 (Nat.le_of_ble_eq_true rfl) (zsub_c rfl (zsub_c rfl (zsub_c rfl zsub_n))) rfl ?_
      refine qS_aload_n qd_152_42 rfl ?_
      refine qS_dup qd_152_43 rfl ?_
      refine qS_getfield (v := qI (s3 25 27)) qd_152_44 (qfl_8_128 w) (hpc_25 _ _) rfl ?_
      refine qS_iload_n qd_152_47 rfl ?_
      refine qS_bipush qd_152_48 (by decide) ?_
      obtain ⟨h50a, H1, H2⟩ := H
      refine qS_icmp qd_152_50 rfl (zcnd_eq (a := r3) (b := 74) h50a ⟨by decide, by decide⟩ (fun t => qR w _ _ t _ _ _ _) (fun hc => ?_) (fun hc => ?_))
      · have H := H1 hc; clear H1 H2 hc
        exact qS_sub (zsub_c rfl (zsub_c rfl (zsub_c rfl zsub_n))) H
      · have H := H2 hc; clear H1 H2 hc
        refine qS_iload_n qd_152_53 rfl ?_
        refine qS_bipush qd_152_54 (by decide) ?_
        obtain ⟨H1, H2⟩ := H
        refine qS_icmp qd_152_56 rfl (zcnd_ne (a := r3) (b := 68) h50a ⟨by decide, by decide⟩ (fun t => qR w _ _ t _ _ _ _) (fun hc => ?_) (fun hc => ?_))
        · have H := H1 hc; clear H1 H2 hc
          exact qS_sub (zsub_c rfl (zsub_c rfl (zsub_c rfl zsub_n))) H
        · have H := H2 hc; clear H1 H2 hc
          refine qS_iconst qd_152_63 ?_
          exact qS_sub (zsub_c rfl (zsub_c rfl (zsub_c rfl zsub_n))) H
  · have H := H2 hc; clear H1 H2 hc
    exact qS_sub (zsub_c rfl (zsub_c rfl (zsub_c rfl zsub_n))) H
set_option maxRecDepth 100000 in
theorem k152_59 {w : qE} {s : qS} {v1 : Int} {v2 : Int} {k1 : Int} {f : Int → qS → Prop} {g : Nat → qS → Prop}  (H : qR w 4 qm152 64 [(0, .ref 25), (1, qI v1), (2, qI v2)] [qI 2, qI k1, .ref 25] s (qPI f g)) : qR w 4 qm152 59 [(0, .ref 25), (1, qI v1), (2, qI v2)] [qI k1, .ref 25] s (qPI f g) := by
  refine qS_iconst qd_152_59 ?_
  refine qS_goto qd_152_60 rfl ?_
  exact qS_sub (zsub_c rfl (zsub_c rfl (zsub_c rfl zsub_n))) H
set_option maxRecDepth 100000 in
theorem k152_64 {w : qE} {s : qS} {v1 : Int} {v2 : Int} {k2 : Int} {k1 : Int} {f : Int → qS → Prop} {g : Nat → qS → Prop}  (H : qW w 4 148 [.ref 25, qI v1, qI v2] (qset s 25 27 (k1 + k2)) (qPI (fun r4 s4 => qR w 4 qm152 20 [(0, .ref 25), (1, qI v1), (2, qI r4)] [] s4 (qPI f g)) g)) : qR w 4 qm152 64 [(0, .ref 25), (1, qI v1), (2, qI v2)] [qI k2, qI k1, .ref 25] s (qPI f g) := by
  refine qS_iadd (a := k1) (b := k2) qd_152_64 ?_
  refine qS_putfield (s1 := qset s 25 27 (k1 + k2)) qd_152_65 (qfl_8_128 w) (hpc_25 _ _) (Nat.le_of_ble_eq_true rfl) rfl rfl rfl (hps_25_27 _ _ _) ?_
  refine qS_aload_n qd_152_68 rfl ?_
  refine qS_iload_n qd_152_69 rfl ?_
  refine qS_iload_n qd_152_70 rfl ?_
  refine qS_cvI qd_152_71 (qml_8_125 w) rfl qtm_148 (hpc_25 _ _) (Nat.le_of_ble_eq_true rfl) rfl (Nat.le_of_ble_eq_true rfl) H (fun r4 s4 H => ?_) (fun x s1 H => Or.inr ⟨x, rfl, H⟩)
  refine qS_istore_n (a := [(0, .ref 25), (1, qI v1)]) qd_152_74 (Nat.le_of_ble_eq_true rfl) (zsub_c rfl (zsub_c rfl zsub_n)) rfl ?_
  refine qS_goto qd_152_75 rfl ?_
  exact qS_sub (zsub_c rfl (zsub_c rfl (zsub_c rfl zsub_n))) H
set_option maxRecDepth 100000 in
theorem k152_78 {w : qE} {s : qS} {v1 : Int} {v2 : Int} {f : Int → qS → Prop} {g : Nat → qS → Prop}  (H : Rg v2 ∧ (v2 < 0 → f 0 s) ∧ (0 ≤ v2 → qW w 2 146 [.ref 25, qI v1, qI (v2 + 1)] (qset s 25 28 v2) (qPI (fun r5 s5 => Rg r5 ∧ (r5 = 86 → qR w 4 qm152 116 [(0, .ref 25), (1, qI v1)] [qI (v2 + 2)] s5 (qPI f g)) ∧ (r5 ≠ 86 → qW w 4 148 [.ref 25, qI v1, qI (v2 + 1)] s5 (qPI (fun r6 s6 => qR w 4 qm152 116 [(0, .ref 25), (1, qI v1)] [qI r6] s6 (qPI f g)) g))) g))) : qR w 4 qm152 78 [(0, .ref 25), (1, qI v1), (2, qI v2)] [] s (qPI f g) := by
  refine qS_iload_n qd_152_78 rfl ?_
  obtain ⟨h79a, H1, H2⟩ := H
  refine qS_if0 qd_152_79 rfl (zcnd_ge (a := v2) (b := 0) h79a ⟨by decide, by decide⟩ (fun t => qR w _ _ t _ _ _ _) (fun hc => ?_) (fun hc => ?_))
  · have H := H1 hc; clear H1 H2 hc
    refine qS_iconst qd_152_82 ?_
    exact qS_zreturn qd_152_83 rfl (Or.inl rfl) (Or.inl ⟨_, rfl, H⟩)
  · have H := H2 hc; clear H1 H2 hc
    refine qS_aload_n qd_152_84 rfl ?_
    refine qS_iload_n qd_152_85 rfl ?_
    refine qS_putfield (s1 := qset s 25 28 v2) qd_152_86 (qfl_8_131 w) (hpc_25 _ _) (Nat.le_of_ble_eq_true rfl) rfl rfl rfl (hps_25_28 _ _ _) ?_
    refine qS_aload_n qd_152_89 rfl ?_
    refine qS_iload_n qd_152_90 rfl ?_
    refine qS_iload_n qd_152_91 rfl ?_
    refine qS_iconst qd_152_92 ?_
    refine qS_iadd (a := v2) (b := 1) qd_152_93 ?_
    refine qS_cvI qd_152_94 (qml_8_107 w) rfl qtm_146 (hpc_25 _ _) (Nat.le_of_ble_eq_true rfl) rfl (Nat.le_of_ble_eq_true rfl) H (fun r5 s5 H => ?_) (fun x s1 H => Or.inr ⟨x, rfl, H⟩)
    refine qS_bipush qd_152_97 (by decide) ?_
    obtain ⟨h99a, H1, H2⟩ := H
    refine qS_icmp qd_152_99 rfl (zcnd_ne (a := r5) (b := 86) h99a ⟨by decide, by decide⟩ (fun t => qR w _ _ t _ _ _ _) (fun hc => ?_) (fun hc => ?_))
    · have H := H1 hc; clear H1 H2 hc
      refine qS_iload_n qd_152_102 rfl ?_
      refine qS_iconst qd_152_103 ?_
      refine qS_iadd (a := v2) (b := 2) qd_152_104 ?_
      refine qS_goto qd_152_105 rfl ?_
      exact qS_sub (zsub_c rfl (zsub_c rfl zsub_n)) H
    · have H := H2 hc; clear H1 H2 hc
      refine qS_aload_n qd_152_108 rfl ?_
      refine qS_iload_n qd_152_109 rfl ?_
      refine qS_iload_n qd_152_110 rfl ?_
      refine qS_iconst qd_152_111 ?_
      refine qS_iadd (a := v2) (b := 1) qd_152_112 ?_
      refine qS_cvI qd_152_113 (qml_8_125 w) rfl qtm_148 (hpc_25 _ _) (Nat.le_of_ble_eq_true rfl) rfl (Nat.le_of_ble_eq_true rfl) H (fun r6 s6 H => ?_) (fun x s1 H => Or.inr ⟨x, rfl, H⟩)
      exact qS_sub (zsub_c rfl (zsub_c rfl zsub_n)) H
set_option maxRecDepth 100000 in
theorem k152_116 {w : qE} {s : qS} {v1 : Int} {k0 : Int} {f : Int → qS → Prop} {g : Nat → qS → Prop}  (H : Rg k0 ∧ (0 < k0 → qW w 2 151 [.ref 25, qI v1] s (qPI (fun r7 s7 => Rg r7 ∧ (k0 = r7 → qR w 4 qm152 135 [] [qI 1] s7 (qPI f g)) ∧ (k0 ≠ r7 → qR w 4 qm152 134 [] [] s7 (qPI f g))) g)) ∧ (k0 ≤ 0 → qR w 4 qm152 134 [] [] s (qPI f g))) : qR w 4 qm152 116 [(0, .ref 25), (1, qI v1)] [qI k0] s (qPI f g) := by
  refine qS_istore_n (a := [(0, .ref 25), (1, qI v1)]) qd_152_116 (Nat.le_of_ble_eq_true rfl) (zsub_c rfl (zsub_c rfl zsub_n)) rfl ?_
  refine qS_iload_n qd_152_117 rfl ?_
  obtain ⟨h118a, H1, H2⟩ := H
  refine qS_if0 qd_152_118 rfl (zcnd_le (a := k0) (b := 0) h118a ⟨by decide, by decide⟩ (fun t => qR w _ _ t _ _ _ _) (fun hc => ?_) (fun hc => ?_))
  · have H := H1 hc; clear H1 H2 hc
    refine qS_iload_n qd_152_121 rfl ?_
    refine qS_aload_n qd_152_122 rfl ?_
    refine qS_iload_n qd_152_123 rfl ?_
    refine qS_cvI qd_152_124 (qml_8_104 w) rfl qtm_151 (hpc_25 _ _) (Nat.le_of_ble_eq_true rfl) rfl (Nat.le_of_ble_eq_true rfl) H (fun r7 s7 H => ?_) (fun x s1 H => Or.inr ⟨x, rfl, H⟩)
    obtain ⟨h127b, H1, H2⟩ := H
    refine qS_icmp qd_152_127 rfl (zcnd_ne (a := k0) (b := r7) h118a h127b (fun t => qR w _ _ t _ _ _ _) (fun hc => ?_) (fun hc => ?_))
    · have H := H1 hc; clear H1 H2 hc
      refine qS_iconst qd_152_130 ?_
      refine qS_goto qd_152_131 rfl ?_
      exact qS_sub zsub_n H
    · have H := H2 hc; clear H1 H2 hc
      exact qS_sub zsub_n H
  · have H := H2 hc; clear H1 H2 hc
    exact qS_sub zsub_n H
set_option maxRecDepth 100000 in
theorem k152_134 {w : qE} {s : qS}  {f : Int → qS → Prop} {g : Nat → qS → Prop}  (H : qR w 4 qm152 135 [] [qI 0] s (qPI f g)) : qR w 4 qm152 134 [] [] s (qPI f g) := by
  refine qS_iconst qd_152_134 ?_
  exact qS_sub zsub_n H
set_option maxRecDepth 100000 in
theorem k152_135 {w : qE} {s : qS} {k0 : Int} {f : Int → qS → Prop} {g : Nat → qS → Prop}  (H : ((k0 = 0 ∨ k0 = 1) ∧ f k0 s)) : qR w 4 qm152 135 [] [qI k0] s (qPI f g) := by
  exact qS_zreturn qd_152_135 rfl H.1 (Or.inl ⟨_, rfl, H.2⟩)
set_option maxRecDepth 100000 in
theorem k153 {w : qE} {s : qS} {p0 : Int} {p1 : Int} {f : Int → qS → Prop} {g : Nat → qS → Prop}  (H : qW w 2 139 [.ref 25, qI p0] s (qPI (fun r1 s1 => Rg r1 ∧ (r1 = 12 → qW w 2 143 [.ref 25, qI p0] s1 (qPI (fun r2 s2 => qW w 3 144 [.ref 25, qI r2] s2 (qPI (fun r3 s3 => Rg r3 ∧ (r3 = 0 → qR w 5 qm153 53 [] [] s3 (qPI f g)) ∧ (r3 ≠ 0 → Rg p1 ∧ (p1 = 0 → qW w 5 147 [.ref 25, qI r2] s3 (qPI (fun r4 s4 => Rg r4 ∧ (r4 = 0 → qR w 5 qm153 53 [] [] s4 (qPI f g)) ∧ (r4 ≠ 0 → qR w 5 qm153 49 [] [] s4 (qPI f g))) g)) ∧ (p1 ≠ 0 → qW w 5 152 [.ref 25, qI r2] s3 (qPI (fun r5 s5 => Rg r5 ∧ (r5 = 0 → qR w 5 qm153 53 [] [] s5 (qPI f g)) ∧ (r5 ≠ 0 → qR w 5 qm153 49 [] [] s5 (qPI f g))) g)))) g)) g)) ∧ (r1 ≠ 12 → f 0 s1)) g)) : qW w 6 153 [.ref 25, qI p0, qI p1] s (qPI f g) := by
  refine qW.of (M := qm153) (l := [(0, .ref 25), (1, qI p0), (2, qI p1)]) qtm_153 rfl (Nat.le_of_ble_eq_true rfl) (zsub_c rfl (zsub_c rfl (zsub_c rfl zsub_n))) ?_
  refine qS_aload_n qd_153_0 rfl ?_
  refine qS_iload_n qd_153_1 rfl ?_
  refine qS_cvI qd_153_2 (qml_8_137 w) rfl qtm_139 (hpc_25 _ _) (Nat.le_of_ble_eq_true rfl) rfl (Nat.le_of_ble_eq_true rfl) H (fun r1 s1 H => ?_) (fun x s1 H => Or.inr ⟨x, rfl, H⟩)
  refine qS_bipush qd_153_5 (by decide) ?_
  obtain ⟨h7a, H1, H2⟩ := H
  refine qS_icmp qd_153_7 rfl (zcnd_eq (a := r1) (b := 12) h7a ⟨by decide, by decide⟩ (fun t => qR w _ _ t _ _ _ _) (fun hc => ?_) (fun hc => ?_))
  · have H := H1 hc; clear H1 H2 hc
    refine qS_aload_n qd_153_12 rfl ?_
    refine qS_iload_n qd_153_13 rfl ?_
    refine qS_cvI qd_153_14 (qml_8_140 w) rfl qtm_143 (hpc_25 _ _) (Nat.le_of_ble_eq_true rfl) rfl (Nat.le_of_ble_eq_true rfl) H (fun r2 s2 H => ?_) (fun x s1 H => Or.inr ⟨x, rfl, H⟩)
    refine qS_istore_n (a := [(0, .ref 25), (2, qI p1)]) qd_153_17 (Nat.le_of_ble_eq_true rfl) (zsub_c rfl (zsub_c rfl zsub_n)) rfl ?_
    refine qS_aload_n qd_153_18 rfl ?_
    refine qS_iload_n qd_153_19 rfl ?_
    refine qS_cvI qd_153_20 (qml_8_143 w) rfl qtm_144 (hpc_25 _ _) (Nat.le_of_ble_eq_true rfl) rfl (Nat.le_of_ble_eq_true rfl) H (fun r3 s3 H => ?_) (fun x s1 H => Or.inr ⟨x, rfl, H⟩)
    obtain ⟨h23a, H1, H2⟩ := H
    refine qS_if0 qd_153_23 rfl (zcnd_eq (a := r3) (b := 0) h23a ⟨by decide, by decide⟩ (fun t => qR w _ _ t _ _ _ _) (fun hc => ?_) (fun hc => ?_))
    · have H := H1 hc; clear H1 H2 hc
      exact qS_sub zsub_n H
    · have H := H2 hc; clear H1 H2 hc
      refine qS_iload_n qd_153_26 rfl ?_
      obtain ⟨h27a, H1, H2⟩ := H
      refine qS_if0 qd_153_27 rfl (zcnd_eq (a := p1) (b := 0) h27a ⟨by decide, by decide⟩ (fun t => qR w _ _ t _ _ _ _) (fun hc => ?_) (fun hc => ?_))
      · have H := H1 hc; clear H1 H2 hc
        refine qS_aload_n qd_153_41 rfl ?_
        refine qS_iload_n qd_153_42 rfl ?_
        refine qS_cvI qd_153_43 (qml_8_134 w) rfl qtm_147 (hpc_25 _ _) (Nat.le_of_ble_eq_true rfl) rfl (Nat.le_of_ble_eq_true rfl) H (fun r4 s4 H => ?_) (fun x s1 H => Or.inr ⟨x, rfl, H⟩)
        obtain ⟨h46a, H1, H2⟩ := H
        refine qS_if0 qd_153_46 rfl (zcnd_eq (a := r4) (b := 0) h46a ⟨by decide, by decide⟩ (fun t => qR w _ _ t _ _ _ _) (fun hc => ?_) (fun hc => ?_))
        · have H := H1 hc; clear H1 H2 hc
          exact qS_sub zsub_n H
        · have H := H2 hc; clear H1 H2 hc
          exact qS_sub zsub_n H
      · have H := H2 hc; clear H1 H2 hc
        refine qS_aload_n qd_153_30 rfl ?_
        refine qS_iload_n qd_153_31 rfl ?_
        refine qS_cvI qd_153_32 (qml_8_146 w) rfl qtm_152 (hpc_25 _ _) (Nat.le_of_ble_eq_true rfl) rfl (Nat.le_of_ble_eq_true rfl) H (fun r5 s5 H => ?_) (fun x s1 H => Or.inr ⟨x, rfl, H⟩)
        obtain ⟨h35a, H1, H2⟩ := H
        refine qS_if0 qd_153_35 rfl (zcnd_eq (a := r5) (b := 0) h35a ⟨by decide, by decide⟩ (fun t => qR w _ _ t _ _ _ _) (fun hc => ?_) (fun hc => ?_))
        · have H := H1 hc; clear H1 H2 hc
          exact qS_sub zsub_n H
        · have H := H2 hc; clear H1 H2 hc
          refine qS_goto qd_153_38 rfl ?_
          exact qS_sub zsub_n H
  · have H := H2 hc; clear H1 H2 hc
    refine qS_iconst qd_153_10 ?_
    exact qS_zreturn qd_153_11 rfl (Or.inl rfl) (Or.inl ⟨_, rfl, H⟩)
set_option maxRecDepth 100000 in
theorem k153_49 {w : qE} {s : qS}  {f : Int → qS → Prop} {g : Nat → qS → Prop}  (H : qR w 5 qm153 54 [] [qI 1] s (qPI f g)) : qR w 5 qm153 49 [] [] s (qPI f g) := by
  refine qS_iconst qd_153_49 ?_
  refine qS_goto qd_153_50 rfl ?_
  exact qS_sub zsub_n H
set_option maxRecDepth 100000 in
theorem k153_53 {w : qE} {s : qS}  {f : Int → qS → Prop} {g : Nat → qS → Prop}  (H : qR w 5 qm153 54 [] [qI 0] s (qPI f g)) : qR w 5 qm153 53 [] [] s (qPI f g) := by
  refine qS_iconst qd_153_53 ?_
  exact qS_sub zsub_n H
set_option maxRecDepth 100000 in
theorem k153_54 {w : qE} {s : qS} {k0 : Int} {f : Int → qS → Prop} {g : Nat → qS → Prop}  (H : ((k0 = 0 ∨ k0 = 1) ∧ f k0 s)) : qR w 5 qm153 54 [] [qI k0] s (qPI f g) := by
  exact qS_zreturn qd_153_54 rfl H.1 (Or.inl ⟨_, rfl, H.2⟩)
set_option maxRecDepth 100000 in
theorem k154 {w : qE} {s : qS} {p0 : Int} {f : Int → qS → Prop} {g : Nat → qS → Prop}  (H : qW w 3 155 [.ref 25, qI p0, qI 9] s (qPI (fun r1 s1 => Rg r1 ∧ (r1 = 0 → qW w 3 155 [.ref 25, qI p0, qI 10] s1 (qPI (fun r2 s2 => Rg r2 ∧ (r2 = 0 → qW w 2 151 [.ref 25, qI p0] s2 (qPI (fun r3 s3 => qR w 3 qm154 30 [(0, .ref 25), (1, qI p0), (2, qI r3), (3, qI 0)] [] s3 (qPI f g)) g)) ∧ (r2 ≠ 0 → qR w 3 qm154 20 [] [] s2 (qPI f g))) g)) ∧ (r1 ≠ 0 → qR w 3 qm154 20 [] [] s1 (qPI f g))) g)) : qW w 4 154 [.ref 25, qI p0] s (qPI f g) := by
  refine qW.of (M := qm154) (l := [(0, .ref 25), (1, qI p0)]) qtm_154 rfl (Nat.le_of_ble_eq_true rfl) (zsub_c rfl (zsub_c rfl zsub_n)) ?_
  refine qS_aload_n qd_154_0 rfl ?_
  refine qS_iload_n qd_154_1 rfl ?_
  refine qS_bipush qd_154_2 (by decide) ?_
  refine qS_cvI qd_154_4 (qml_8_111 w) rfl qtm_155 (hpc_25 _ _) (Nat.le_of_ble_eq_true rfl) rfl (Nat.le_of_ble_eq_true rfl) H (fun r1 s1 H => ?_) (fun x s1 H => Or.inr ⟨x, rfl, H⟩)
  obtain ⟨h7a, H1, H2⟩ := H
  refine qS_if0 qd_154_7 rfl (zcnd_ne (a := r1) (b := 0) h7a ⟨by decide, by decide⟩ (fun t => qR w _ _ t _ _ _ _) (fun hc => ?_) (fun hc => ?_))
  · have H := H1 hc; clear H1 H2 hc
    refine qS_aload_n qd_154_10 rfl ?_
    refine qS_iload_n qd_154_11 rfl ?_
    refine qS_bipush qd_154_12 (by decide) ?_
    refine qS_cvI qd_154_14 (qml_8_111 w) rfl qtm_155 (hpc_25 _ _) (Nat.le_of_ble_eq_true rfl) rfl (Nat.le_of_ble_eq_true rfl) H (fun r2 s2 H => ?_) (fun x s1 H => Or.inr ⟨x, rfl, H⟩)
    obtain ⟨h17a, H1, H2⟩ := H
    refine qS_if0 qd_154_17 rfl (zcnd_eq (a := r2) (b := 0) h17a ⟨by decide, by decide⟩ (fun t => qR w _ _ t _ _ _ _) (fun hc => ?_) (fun hc => ?_))
    · have H := H1 hc; clear H1 H2 hc
      refine qS_aload_n qd_154_22 rfl ?_
      refine qS_iload_n qd_154_23 rfl ?_
      refine qS_cvI qd_154_24 (qml_8_104 w) rfl qtm_151 (hpc_25 _ _) (Nat.le_of_ble_eq_true rfl) rfl (Nat.le_of_ble_eq_true rfl) H (fun r3 s3 H => ?_) (fun x s1 H => Or.inr ⟨x, rfl, H⟩)
      refine qS_istore_n (a := [(0, .ref 25), (1, qI p0)]) qd_154_27 (Nat.le_of_ble_eq_true rfl) (zsub_c rfl (zsub_c rfl zsub_n)) rfl ?_
      refine qS_iconst qd_154_28 ?_
      refine qS_istore_n (a := [(2, qI r3), (0, .ref 25), (1, qI p0)]) qd_154_29 (Nat.le_of_ble_eq_true rfl) (zsub_c rfl (zsub_c rfl (zsub_c rfl zsub_n))) rfl ?_
      exact qS_sub (zsub_c rfl (zsub_c rfl (zsub_c rfl (zsub_c rfl zsub_n)))) H
    · have H := H2 hc; clear H1 H2 hc
      exact qS_sub zsub_n H
  · have H := H2 hc; clear H1 H2 hc
    exact qS_sub zsub_n H
set_option maxRecDepth 100000 in
theorem k154_20 {w : qE} {s : qS}  {f : Int → qS → Prop} {g : Nat → qS → Prop}  (H : f 1 s) : qR w 3 qm154 20 [] [] s (qPI f g) := by
  refine qS_iconst qd_154_20 ?_
  exact qS_zreturn qd_154_21 rfl (Or.inr rfl) (Or.inl ⟨_, rfl, H⟩)
set_option maxRecDepth 100000 in
theorem k154_30 {w : qE} {s : qS} {v1 : Int} {v2 : Int} {v3 : Int} {f : Int → qS → Prop} {g : Nat → qS → Prop}  (H : Rg v3 ∧ Rg v2 ∧ (v3 < v2 → qW w 2 146 [.ref 25, qI v1, qI v3] s (qPI (fun r4 s4 => Rg r4 ∧ (r4 = 60 → qR w 3 qm154 57 [] [] s4 (qPI f g)) ∧ (r4 ≠ 60 → qW w 2 146 [.ref 25, qI v1, qI v3] s4 (qPI (fun r5 s5 => Rg r5 ∧ (r5 = 62 → qR w 3 qm154 57 [] [] s5 (qPI f g)) ∧ (r5 ≠ 62 → qR w 3 qm154 30 [(0, .ref 25), (1, qI v1), (2, qI v2), (3, qI (v3 + 1))] [] s5 (qPI f g))) g))) g)) ∧ (v2 ≤ v3 → qW w 3 157 [.ref 25, qI v1] s (qPI (fun r6 s6 => ((r6 = 0 ∨ r6 = 1) ∧ f r6 s6)) g))) : qR w 3 qm154 30 [(0, .ref 25), (1, qI v1), (2, qI v2), (3, qI v3)] [] s (qPI f g) := by
  refine qS_iload_n qd_154_30 rfl ?_
  refine qS_iload_n qd_154_31 rfl ?_
  obtain ⟨h32a, h32b, H1, H2⟩ := H
  refine qS_icmp qd_154_32 rfl (zcnd_ge (a := v3) (b := v2) h32a h32b (fun t => qR w _ _ t _ _ _ _) (fun hc => ?_) (fun hc => ?_))
  · have H := H1 hc; clear H1 H2 hc
    refine qS_aload_n qd_154_35 rfl ?_
    refine qS_iload_n qd_154_36 rfl ?_
    refine qS_iload_n qd_154_37 rfl ?_
    refine qS_cvI qd_154_38 (qml_8_107 w) rfl qtm_146 (hpc_25 _ _) (Nat.le_of_ble_eq_true rfl) rfl (Nat.le_of_ble_eq_true rfl) H (fun r4 s4 H => ?_) (fun x s1 H => Or.inr ⟨x, rfl, H⟩)
    refine qS_bipush qd_154_41 (by decide) ?_
    obtain ⟨h43a, H1, H2⟩ := H
    refine qS_icmp qd_154_43 rfl (zcnd_eq (a := r4) (b := 60) h43a ⟨by decide, by decide⟩ (fun t => qR w _ _ t _ _ _ _) (fun hc => ?_) (fun hc => ?_))
    · have H := H1 hc; clear H1 H2 hc
      exact qS_sub zsub_n H
    · have H := H2 hc; clear H1 H2 hc
      refine qS_aload_n qd_154_46 rfl ?_
      refine qS_iload_n qd_154_47 rfl ?_
      refine qS_iload_n qd_154_48 rfl ?_
      refine qS_cvI qd_154_49 (qml_8_107 w) rfl qtm_146 (hpc_25 _ _) (Nat.le_of_ble_eq_true rfl) rfl (Nat.le_of_ble_eq_true rfl) H (fun r5 s5 H => ?_) (fun x s1 H => Or.inr ⟨x, rfl, H⟩)
      refine qS_bipush qd_154_52 (by decide) ?_
      obtain ⟨h54a, H1, H2⟩ := H
      refine qS_icmp qd_154_54 rfl (zcnd_ne (a := r5) (b := 62) h54a ⟨by decide, by decide⟩ (fun t => qR w _ _ t _ _ _ _) (fun hc => ?_) (fun hc => ?_))
      · have H := H1 hc; clear H1 H2 hc
        exact qS_sub zsub_n H
      · have H := H2 hc; clear H1 H2 hc
        refine qS_iinc (v := v3) (a := [(0, .ref 25), (1, qI v1), (2, qI v2)]) qd_154_59 (Nat.le_of_ble_eq_true rfl) rfl (zsub_c rfl (zsub_c rfl (zsub_c rfl zsub_n))) rfl ?_
        refine qS_goto qd_154_62 rfl ?_
        exact qS_sub (zsub_c rfl (zsub_c rfl (zsub_c rfl (zsub_c rfl zsub_n)))) H
  · have H := H2 hc; clear H1 H2 hc
    refine qS_aload_n qd_154_65 rfl ?_
    refine qS_iload_n qd_154_66 rfl ?_
    refine qS_cvI qd_154_67 (qml_8_115 w) rfl qtm_157 (hpc_25 _ _) (Nat.le_of_ble_eq_true rfl) rfl (Nat.le_of_ble_eq_true rfl) H (fun r6 s6 H => ?_) (fun x s1 H => Or.inr ⟨x, rfl, H⟩)
    exact qS_zreturn qd_154_70 rfl H.1 (Or.inl ⟨_, rfl, H.2⟩)
set_option maxRecDepth 100000 in
theorem k154_57 {w : qE} {s : qS}  {f : Int → qS → Prop} {g : Nat → qS → Prop}  (H : f 0 s) : qR w 3 qm154 57 [] [] s (qPI f g) := by
  refine qS_iconst qd_154_57 ?_
  exact qS_zreturn qd_154_58 rfl (Or.inl rfl) (Or.inl ⟨_, rfl, H⟩)
set_option maxRecDepth 100000 in
theorem k155 {w : qE} {s : qS} {p0 : Int} {p1 : Int} {f : Int → qS → Prop} {g : Nat → qS → Prop}  (H : qW w 1 156 [.ref 25, qI p1] s (qPI (fun r1 s1 => qW w 2 151 [.ref 25, qI p0] s1 (qPI (fun r2 s2 => qR w 2 qm155 16 [(0, .ref 25), (1, qI p0), (3, qI r1), (4, qI r2), (5, qI 0)] [] s2 (qPI f g)) g)) g)) : qW w 3 155 [.ref 25, qI p0, qI p1] s (qPI f g) := by
  refine qW.of (M := qm155) (l := [(0, .ref 25), (1, qI p0), (2, qI p1)]) qtm_155 rfl (Nat.le_of_ble_eq_true rfl) (zsub_c rfl (zsub_c rfl (zsub_c rfl zsub_n))) ?_
  refine qS_aload_n qd_155_0 rfl ?_
  refine qS_iload_n qd_155_1 rfl ?_
  refine qS_cvI qd_155_2 (qml_8_101 w) rfl qtm_156 (hpc_25 _ _) (Nat.le_of_ble_eq_true rfl) rfl (Nat.le_of_ble_eq_true rfl) H (fun r1 s1 H => ?_) (fun x s1 H => Or.inr ⟨x, rfl, H⟩)
  refine qS_istore_n (a := [(0, .ref 25), (1, qI p0)]) qd_155_5 (Nat.le_of_ble_eq_true rfl) (zsub_c rfl (zsub_c rfl zsub_n)) rfl ?_
  refine qS_aload_n qd_155_6 rfl ?_
  refine qS_iload_n qd_155_7 rfl ?_
  refine qS_cvI qd_155_8 (qml_8_104 w) rfl qtm_151 (hpc_25 _ _) (Nat.le_of_ble_eq_true rfl) rfl (Nat.le_of_ble_eq_true rfl) H (fun r2 s2 H => ?_) (fun x s1 H => Or.inr ⟨x, rfl, H⟩)
  refine qS_istore (a := [(3, qI r1), (0, .ref 25), (1, qI p0)]) qd_155_11 (Nat.le_of_ble_eq_true rfl) (zsub_c rfl (zsub_c rfl (zsub_c rfl zsub_n))) rfl ?_
  refine qS_iconst qd_155_13 ?_
  refine qS_istore (a := [(4, qI r2), (3, qI r1), (0, .ref 25), (1, qI p0)]) qd_155_14 (Nat.le_of_ble_eq_true rfl) (zsub_c rfl (zsub_c rfl (zsub_c rfl (zsub_c rfl zsub_n)))) rfl ?_
  exact qS_sub (zsub_c rfl (zsub_c rfl (zsub_c rfl (zsub_c rfl (zsub_c rfl zsub_n))))) H
set_option maxRecDepth 100000 in
theorem k155_16 {w : qE} {s : qS} {v1 : Int} {v3 : Int} {v4 : Int} {v5 : Int} {f : Int → qS → Prop} {g : Nat → qS → Prop}  (H : Rg v5 ∧ Rg v4 ∧ (v5 < v4 → (0 ≤ v3 + v5 ∧ v3 + v5 < 203 ∧ (Rg (s 26 (v3 + v5)) ∧ (s 26 (v3 + v5) = 0 → qR w 2 qm155 54 [] [] s (qPI f g)) ∧ (s 26 (v3 + v5) ≠ 0 → (0 ≤ v3 + v5 ∧ v3 + v5 < 203 ∧ (qW w 2 146 [.ref 25, qI v1, qI v5] s (qPI (fun r3 s3 => Rg r3 ∧ (s 26 (v3 + v5) = r3 → qR w 2 qm155 16 [(0, .ref 25), (1, qI v1), (3, qI v3), (4, qI v4), (5, qI (v5 + 1))] [] s3 (qPI f g)) ∧ (s 26 (v3 + v5) ≠ r3 → qR w 2 qm155 54 [] [] s3 (qPI f g))) g))))))) ∧ (v4 ≤ v5 → (0 ≤ v3 + v4 ∧ v3 + v4 < 203 ∧ (Rg (s 26 (v3 + v4)) ∧ (s 26 (v3 + v4) = 0 → qR w 2 qm155 79 [] [qI 1] s (qPI f g)) ∧ (s 26 (v3 + v4) ≠ 0 → qR w 2 qm155 79 [] [qI 0] s (qPI f g)))))) : qR w 2 qm155 16 [(0, .ref 25), (1, qI v1), (3, qI v3), (4, qI v4), (5, qI v5)] [] s (qPI f g) := by
  refine qS_iload qd_155_16 rfl ?_
  refine qS_iload qd_155_18 rfl ?_
  obtain ⟨h20a, h20b, H1, H2⟩ := H
  refine qS_icmp qd_155_20 rfl (zcnd_ge (a := v5) (b := v4) h20a h20b (fun t => qR w _ _ t _ _ _ _) (fun hc => ?_) (fun hc => ?_))
  · have H := H1 hc; clear H1 H2 hc
    refine qS_aload_n qd_155_23 rfl ?_
    refine qS_getfield (v := .ref 26) qd_155_24 (qfl_8_7 w) (hpc_25 _ _) rfl ?_
    refine qS_iload_n qd_155_27 rfl ?_
    refine qS_iload qd_155_28 rfl ?_
    refine qS_iadd (a := v3) (b := v5) qd_155_30 ?_
    obtain ⟨hl, hu, H⟩ := H
    refine qS_iaload (a := 26) (i := v3 + v5) qd_155_31 (Nat.le_of_ble_eq_true rfl) hl hu ?_
    obtain ⟨h32a, H1, H2⟩ := H
    refine qS_if0 qd_155_32 rfl (zcnd_eq (a := s 26 (v3 + v5)) (b := 0) h32a ⟨by decide, by decide⟩ (fun t => qR w _ _ t _ _ _ _) (fun hc => ?_) (fun hc => ?_))
    · have H := H1 hc; clear H1 H2 hc
      exact qS_sub zsub_n H
    · have H := H2 hc; clear H1 H2 hc
      refine qS_aload_n qd_155_35 rfl ?_
      refine qS_getfield (v := .ref 26) qd_155_36 (qfl_8_7 w) (hpc_25 _ _) rfl ?_
      refine qS_iload_n qd_155_39 rfl ?_
      refine qS_iload qd_155_40 rfl ?_
      refine qS_iadd (a := v3) (b := v5) qd_155_42 ?_
      obtain ⟨hl, hu, H⟩ := H
      refine qS_iaload (a := 26) (i := v3 + v5) qd_155_43 (Nat.le_of_ble_eq_true rfl) hl hu ?_
      refine qS_aload_n qd_155_44 rfl ?_
      refine qS_iload_n qd_155_45 rfl ?_
      refine qS_iload qd_155_46 rfl ?_
      refine qS_cvI qd_155_48 (qml_8_107 w) rfl qtm_146 (hpc_25 _ _) (Nat.le_of_ble_eq_true rfl) rfl (Nat.le_of_ble_eq_true rfl) H (fun r3 s3 H => ?_) (fun x s1 H => Or.inr ⟨x, rfl, H⟩)
      obtain ⟨h51b, H1, H2⟩ := H
      refine qS_icmp qd_155_51 rfl (zcnd_eq (a := s 26 (v3 + v5)) (b := r3) h32a h51b (fun t => qR w _ _ t _ _ _ _) (fun hc => ?_) (fun hc => ?_))
      · have H := H1 hc; clear H1 H2 hc
        refine qS_iinc (v := v5) (a := [(0, .ref 25), (1, qI v1), (3, qI v3), (4, qI v4)]) qd_155_56 (Nat.le_of_ble_eq_true rfl) rfl (zsub_c rfl (zsub_c rfl (zsub_c rfl (zsub_c rfl zsub_n)))) rfl ?_
        refine qS_goto qd_155_59 rfl ?_
        exact qS_sub (zsub_c rfl (zsub_c rfl (zsub_c rfl (zsub_c rfl (zsub_c rfl zsub_n))))) H
      · have H := H2 hc; clear H1 H2 hc
        exact qS_sub zsub_n H
  · have H := H2 hc; clear H1 H2 hc
    refine qS_aload_n qd_155_62 rfl ?_
    refine qS_getfield (v := .ref 26) qd_155_63 (qfl_8_7 w) (hpc_25 _ _) rfl ?_
    refine qS_iload_n qd_155_66 rfl ?_
    refine qS_iload qd_155_67 rfl ?_
    refine qS_iadd (a := v3) (b := v4) qd_155_69 ?_
    obtain ⟨hl, hu, H⟩ := H
    refine qS_iaload (a := 26) (i := v3 + v4) qd_155_70 (Nat.le_of_ble_eq_true rfl) hl hu ?_
    obtain ⟨h71a, H1, H2⟩ := H
    refine qS_if0 qd_155_71 rfl (zcnd_ne (a := s 26 (v3 + v4)) (b := 0) h71a ⟨by decide, by decide⟩ (fun t => qR w _ _ t _ _ _ _) (fun hc => ?_) (fun hc => ?_))
    · have H := H1 hc; clear H1 H2 hc
      refine qS_iconst qd_155_74 ?_
      refine qS_goto qd_155_75 rfl ?_
      exact qS_sub zsub_n H
    · have H := H2 hc; clear H1 H2 hc
      refine qS_iconst qd_155_78 ?_
      exact qS_sub zsub_n H
set_option maxRecDepth 100000 in
theorem k155_54 {w : qE} {s : qS}  {f : Int → qS → Prop} {g : Nat → qS → Prop}  (H : f 0 s) : qR w 2 qm155 54 [] [] s (qPI f g) := by
  refine qS_iconst qd_155_54 ?_
  exact qS_zreturn qd_155_55 rfl (Or.inl rfl) (Or.inl ⟨_, rfl, H⟩)
set_option maxRecDepth 100000 in
theorem k155_79 {w : qE} {s : qS} {k0 : Int} {f : Int → qS → Prop} {g : Nat → qS → Prop}  (H : ((k0 = 0 ∨ k0 = 1) ∧ f k0 s)) : qR w 2 qm155 79 [] [qI k0] s (qPI f g) := by
  exact qS_zreturn qd_155_79 rfl H.1 (Or.inl ⟨_, rfl, H.2⟩)
set_option maxRecDepth 100000 in
theorem k156 {w : qE} {s : qS} {p0 : Int} {f : Int → qS → Prop} {g : Nat → qS → Prop}  (H : qR w 0 qm156 4 [(0, .ref 25), (1, qI p0), (2, qI 0), (3, qI 0)] [] s (qPI f g)) : qW w 1 156 [.ref 25, qI p0] s (qPI f g) := by
  refine qW.of (M := qm156) (l := [(0, .ref 25), (1, qI p0)]) qtm_156 rfl (Nat.le_of_ble_eq_true rfl) (zsub_c rfl (zsub_c rfl zsub_n)) ?_
  refine qS_iconst qd_156_0 ?_
  refine qS_istore_n (a := [(0, .ref 25), (1, qI p0)]) qd_156_1 (Nat.le_of_ble_eq_true rfl) (zsub_c rfl (zsub_c rfl zsub_n)) rfl ?_
  refine qS_iconst qd_156_2 ?_
  refine qS_istore_n (a := [(2, qI 0), (0, .ref 25), (1, qI p0)]) qd_156_3 (Nat.le_of_ble_eq_true rfl) (zsub_c rfl (zsub_c rfl (zsub_c rfl zsub_n))) rfl ?_
  exact qS_sub (zsub_c rfl (zsub_c rfl (zsub_c rfl (zsub_c rfl zsub_n)))) H
set_option maxRecDepth 100000 in
theorem k156_4 {w : qE} {s : qS} {v1 : Int} {v2 : Int} {v3 : Int} {f : Int → qS → Prop} {g : Nat → qS → Prop}  (H : Rg v3 ∧ Rg v1 ∧ (v3 < v1 → (0 ≤ v2 ∧ v2 < 203 ∧ (Rg (s 26 v2) ∧ (s 26 v2 = 0 → qR w 0 qm156 21 [(0, .ref 25), (1, qI v1), (2, qI v2), (3, qI (v3 + 1))] [] s (qPI f g)) ∧ (s 26 v2 ≠ 0 → qR w 0 qm156 21 [(0, .ref 25), (1, qI v1), (2, qI v2), (3, qI v3)] [] s (qPI f g))))) ∧ (v1 ≤ v3 → f v2 s)) : qR w 0 qm156 4 [(0, .ref 25), (1, qI v1), (2, qI v2), (3, qI v3)] [] s (qPI f g) := by
  refine qS_iload_n qd_156_4 rfl ?_
  refine qS_iload_n qd_156_5 rfl ?_
  obtain ⟨h6a, h6b, H1, H2⟩ := H
  refine qS_icmp qd_156_6 rfl (zcnd_ge (a := v3) (b := v1) h6a h6b (fun t => qR w _ _ t _ _ _ _) (fun hc => ?_) (fun hc => ?_))
  · have H := H1 hc; clear H1 H2 hc
    refine qS_aload_n qd_156_9 rfl ?_
    refine qS_getfield (v := .ref 26) qd_156_10 (qfl_8_7 w) (hpc_25 _ _) rfl ?_
    refine qS_iload_n qd_156_13 rfl ?_
    obtain ⟨hl, hu, H⟩ := H
    refine qS_iaload (a := 26) (i := v2) qd_156_14 (Nat.le_of_ble_eq_true rfl) hl hu ?_
    obtain ⟨h15a, H1, H2⟩ := H
    refine qS_if0 qd_156_15 rfl (zcnd_ne (a := s 26 v2) (b := 0) h15a ⟨by decide, by decide⟩ (fun t => qR w _ _ t _ _ _ _) (fun hc => ?_) (fun hc => ?_))
    · have H := H1 hc; clear H1 H2 hc
      refine qS_iinc (v := v3) (a := [(0, .ref 25), (1, qI v1), (2, qI v2)]) qd_156_18 (Nat.le_of_ble_eq_true rfl) rfl (zsub_c rfl (zsub_c rfl (zsub_c rfl zsub_n))) rfl ?_
      exact qS_sub (zsub_c rfl (zsub_c rfl (zsub_c rfl (zsub_c rfl zsub_n)))) H
    · have H := H2 hc; clear H1 H2 hc
      exact qS_sub (zsub_c rfl (zsub_c rfl (zsub_c rfl (zsub_c rfl zsub_n)))) H
  · have H := H2 hc; clear H1 H2 hc
    refine qS_iload_n qd_156_27 rfl ?_
    exact qS_ireturn qd_156_28 rfl (Or.inl ⟨_, rfl, H⟩)
set_option maxRecDepth 100000 in
theorem k156_21 {w : qE} {s : qS} {v1 : Int} {v2 : Int} {v3 : Int} {f : Int → qS → Prop} {g : Nat → qS → Prop}  (H : qR w 0 qm156 4 [(0, .ref 25), (1, qI v1), (2, qI (v2 + 1)), (3, qI v3)] [] s (qPI f g)) : qR w 0 qm156 21 [(0, .ref 25), (1, qI v1), (2, qI v2), (3, qI v3)] [] s (qPI f g) := by
  refine qS_iinc (v := v2) (a := [(0, .ref 25), (1, qI v1), (3, qI v3)]) qd_156_21 (Nat.le_of_ble_eq_true rfl) rfl (zsub_c rfl (zsub_c rfl (zsub_c rfl zsub_n))) rfl ?_
  refine qS_goto qd_156_24 rfl ?_
  exact qS_sub (zsub_c rfl (zsub_c rfl (zsub_c rfl (zsub_c rfl zsub_n)))) H
set_option maxRecDepth 100000 in
theorem k157 {w : qE} {s : qS} {p0 : Int} {f : Int → qS → Prop} {g : Nat → qS → Prop}  (H : qW w 2 151 [.ref 25, qI p0] s (qPI (fun r1 s1 => qR w 2 qm157 8 [(0, .ref 25), (1, qI p0), (2, qI r1), (3, qI 0)] [] s1 (qPI f g)) g)) : qW w 3 157 [.ref 25, qI p0] s (qPI f g) := by
  refine qW.of (M := qm157) (l := [(0, .ref 25), (1, qI p0)]) qtm_157 rfl (Nat.le_of_ble_eq_true rfl) (zsub_c rfl (zsub_c rfl zsub_n)) ?_
  refine qS_aload_n qd_157_0 rfl ?_
  refine qS_iload_n qd_157_1 rfl ?_
  refine qS_cvI qd_157_2 (qml_8_104 w) rfl qtm_151 (hpc_25 _ _) (Nat.le_of_ble_eq_true rfl) rfl (Nat.le_of_ble_eq_true rfl) H (fun r1 s1 H => ?_) (fun x s1 H => Or.inr ⟨x, rfl, H⟩)
  refine qS_istore_n (a := [(0, .ref 25), (1, qI p0)]) qd_157_5 (Nat.le_of_ble_eq_true rfl) (zsub_c rfl (zsub_c rfl zsub_n)) rfl ?_
  refine qS_iconst qd_157_6 ?_
  refine qS_istore_n (a := [(2, qI r1), (0, .ref 25), (1, qI p0)]) qd_157_7 (Nat.le_of_ble_eq_true rfl) (zsub_c rfl (zsub_c rfl (zsub_c rfl zsub_n))) rfl ?_
  exact qS_sub (zsub_c rfl (zsub_c rfl (zsub_c rfl (zsub_c rfl zsub_n)))) H
set_option maxRecDepth 100000 in
theorem k157_8 {w : qE} {s : qS} {v1 : Int} {v2 : Int} {v3 : Int} {f : Int → qS → Prop} {g : Nat → qS → Prop}  (H : Rg v3 ∧ Rg v2 ∧ (v3 < v2 → qW w 2 146 [.ref 25, qI v1, qI v3] s (qPI (fun r2 s2 => Rg r2 ∧ (r2 = 46 → qR w 2 qm157 49 [] [] s2 (qPI f g)) ∧ (r2 ≠ 46 → (r2 = 59 → qR w 2 qm157 49 [] [] s2 (qPI f g)) ∧ (r2 ≠ 59 → (r2 = 91 → qR w 2 qm157 49 [] [] s2 (qPI f g)) ∧ (r2 ≠ 91 → (r2 = 47 → qR w 2 qm157 49 [] [] s2 (qPI f g)) ∧ (r2 ≠ 47 → qR w 2 qm157 8 [(0, .ref 25), (1, qI v1), (2, qI v2), (3, qI (v3 + 1))] [] s2 (qPI f g)))))) g)) ∧ (v2 ≤ v3 → (0 < v2 → qR w 2 qm157 66 [] [qI 1] s (qPI f g)) ∧ (v2 ≤ 0 → qR w 2 qm157 66 [] [qI 0] s (qPI f g)))) : qR w 2 qm157 8 [(0, .ref 25), (1, qI v1), (2, qI v2), (3, qI v3)] [] s (qPI f g) := by
  refine qS_iload_n qd_157_8 rfl ?_
  refine qS_iload_n qd_157_9 rfl ?_
  obtain ⟨h10a, h10b, H1, H2⟩ := H
  refine qS_icmp qd_157_10 rfl (zcnd_ge (a := v3) (b := v2) h10a h10b (fun t => qR w _ _ t _ _ _ _) (fun hc => ?_) (fun hc => ?_))
  · have H := H1 hc; clear H1 H2 hc
    refine qS_aload_n qd_157_13 rfl ?_
    refine qS_iload_n qd_157_14 rfl ?_
    refine qS_iload_n qd_157_15 rfl ?_
    refine qS_cvI qd_157_16 (qml_8_107 w) rfl qtm_146 (hpc_25 _ _) (Nat.le_of_ble_eq_true rfl) rfl (Nat.le_of_ble_eq_true rfl) H (fun r2 s2 H => ?_) (fun x s1 H => Or.inr ⟨x, rfl, H⟩)
    refine qS_istore (a := [(0, .ref 25), (1, qI v1), (2, qI v2), (3, qI v3)]) qd_157_19 (Nat.le_of_ble_eq_true rfl) (zsub_c rfl (zsub_c rfl (zsub_c rfl (zsub_c rfl zsub_n)))) rfl ?_
    refine qS_iload qd_157_21 rfl ?_
    refine qS_bipush qd_157_23 (by decide) ?_
    obtain ⟨h25a, H1, H2⟩ := H
    refine qS_icmp qd_157_25 rfl (zcnd_eq (a := r2) (b := 46) h25a ⟨by decide, by decide⟩ (fun t => qR w _ _ t _ _ _ _) (fun hc => ?_) (fun hc => ?_))
    · have H := H1 hc; clear H1 H2 hc
      exact qS_sub zsub_n H
    · have H := H2 hc; clear H1 H2 hc
      refine qS_iload qd_157_28 rfl ?_
      refine qS_bipush qd_157_30 (by decide) ?_
      obtain ⟨H1, H2⟩ := H
      refine qS_icmp qd_157_32 rfl (zcnd_eq (a := r2) (b := 59) h25a ⟨by decide, by decide⟩ (fun t => qR w _ _ t _ _ _ _) (fun hc => ?_) (fun hc => ?_))
      · have H := H1 hc; clear H1 H2 hc
        exact qS_sub zsub_n H
      · have H := H2 hc; clear H1 H2 hc
        refine qS_iload qd_157_35 rfl ?_
        refine qS_bipush qd_157_37 (by decide) ?_
        obtain ⟨H1, H2⟩ := H
        refine qS_icmp qd_157_39 rfl (zcnd_eq (a := r2) (b := 91) h25a ⟨by decide, by decide⟩ (fun t => qR w _ _ t _ _ _ _) (fun hc => ?_) (fun hc => ?_))
        · have H := H1 hc; clear H1 H2 hc
          exact qS_sub zsub_n H
        · have H := H2 hc; clear H1 H2 hc
          refine qS_iload qd_157_42 rfl ?_
          refine qS_bipush qd_157_44 (by decide) ?_
          obtain ⟨H1, H2⟩ := H
          refine qS_icmp qd_157_46 rfl (zcnd_ne (a := r2) (b := 47) h25a ⟨by decide, by decide⟩ (fun t => qR w _ _ t _ _ _ _) (fun hc => ?_) (fun hc => ?_))
          · have H := H1 hc; clear H1 H2 hc
            exact qS_sub zsub_n H
          · have H := H2 hc; clear H1 H2 hc
            refine qS_iinc (v := v3) (a := [(0, .ref 25), (1, qI v1), (2, qI v2)]) qd_157_51 (Nat.le_of_ble_eq_true rfl) rfl (zsub_c rfl (zsub_c rfl (zsub_c rfl zsub_n))) rfl ?_
            refine qS_goto qd_157_54 rfl ?_
            exact qS_sub (zsub_c rfl (zsub_c rfl (zsub_c rfl (zsub_c rfl zsub_n)))) H
  · have H := H2 hc; clear H1 H2 hc
    refine qS_iload_n qd_157_57 rfl ?_
    obtain ⟨H1, H2⟩ := H
    refine qS_if0 qd_157_58 rfl (zcnd_le (a := v2) (b := 0) h10b ⟨by decide, by decide⟩ (fun t => qR w _ _ t _ _ _ _) (fun hc => ?_) (fun hc => ?_))
    · have H := H1 hc; clear H1 H2 hc
      refine qS_iconst qd_157_61 ?_
      refine qS_goto qd_157_62 rfl ?_
      exact qS_sub zsub_n H
    · have H := H2 hc; clear H1 H2 hc
      refine qS_iconst qd_157_65 ?_
      exact qS_sub zsub_n H
set_option maxRecDepth 100000 in
theorem k157_49 {w : qE} {s : qS}  {f : Int → qS → Prop} {g : Nat → qS → Prop}  (H : f 0 s) : qR w 2 qm157 49 [] [] s (qPI f g) := by
  refine qS_iconst qd_157_49 ?_
  exact qS_zreturn qd_157_50 rfl (Or.inl rfl) (Or.inl ⟨_, rfl, H⟩)
set_option maxRecDepth 100000 in
theorem k157_66 {w : qE} {s : qS} {k0 : Int} {f : Int → qS → Prop} {g : Nat → qS → Prop}  (H : ((k0 = 0 ∨ k0 = 1) ∧ f k0 s)) : qR w 2 qm157 66 [] [qI k0] s (qPI f g) := by
  exact qS_zreturn qd_157_66 rfl H.1 (Or.inl ⟨_, rfl, H.2⟩)
set_option maxRecDepth 100000 in
theorem k158 {w : qE} {s : qS}  {f : qS → Prop} {g : Nat → qS → Prop}  (H : qW w 3 131 [.ref 25] s (qPI (fun r1 s1 => Rg (qand r1 512) ∧ (qand r1 512 = 0 → qR w 5 qm158 29 [(0, .ref 25), (1, qI (s 25 5))] [qI 0] (qset s1 25 12 r1) (qPV f g)) ∧ (qand r1 512 ≠ 0 → qR w 5 qm158 29 [(0, .ref 25), (1, qI (s 25 5))] [qI 1] (qset s1 25 12 r1) (qPV f g))) g)) : qW w 6 158 [.ref 25] s (qPV f g) := by
  refine qW.of (M := qm158) (l := [(0, .ref 25)]) qtm_158 rfl (Nat.le_of_ble_eq_true rfl) (zsub_c rfl zsub_n) ?_
  refine qS_aload_n qd_158_0 rfl ?_
  refine qS_getfield (v := qI (s 25 5)) qd_158_1 (qfl_8_70 w) (hpc_25 _ _) rfl ?_
  refine qS_istore_n (a := [(0, .ref 25)]) qd_158_4 (Nat.le_of_ble_eq_true rfl) (zsub_c rfl zsub_n) rfl ?_
  refine qS_aload_n qd_158_5 rfl ?_
  refine qS_aload_n qd_158_6 rfl ?_
  refine qS_cvI qd_158_7 (qml_8_88 w) rfl qtm_131 (hpc_25 _ _) (Nat.le_of_ble_eq_true rfl) rfl (Nat.le_of_ble_eq_true rfl) H (fun r1 s1 H => ?_) (fun x s1 H => Or.inr ⟨x, rfl, H⟩)
  refine qS_putfield (s1 := qset s1 25 12 r1) qd_158_10 (qfl_8_174 w) (hpc_25 _ _) (Nat.le_of_ble_eq_true rfl) rfl rfl rfl (hps_25_12 _ _ _) ?_
  refine qS_aload_n qd_158_13 rfl ?_
  refine qS_getfield (v := qI r1) qd_158_14 (qfl_8_174 w) (hpc_25 _ _) rfl ?_
  refine qS_sipush qd_158_17 (by decide) ?_
  refine qS_iand (a := r1) (b := 512) qd_158_20 ?_
  obtain ⟨h21a, H1, H2⟩ := H
  refine qS_if0 qd_158_21 rfl (zcnd_eq (a := qand r1 512) (b := 0) h21a ⟨by decide, by decide⟩ (fun t => qR w _ _ t _ _ _ _) (fun hc => ?_) (fun hc => ?_))
  · have H := H1 hc; clear H1 H2 hc
    refine qS_iconst qd_158_28 ?_
    exact qS_sub (zsub_c rfl (zsub_c rfl zsub_n)) H
  · have H := H2 hc; clear H1 H2 hc
    refine qS_iconst qd_158_24 ?_
    refine qS_goto qd_158_25 rfl ?_
    exact qS_sub (zsub_c rfl (zsub_c rfl zsub_n)) H
set_option maxRecDepth 100000 in
theorem k158_29 {w : qE} {s : qS} {v1 : Int} {k0 : Int} {f : qS → Prop} {g : Nat → qS → Prop}  (H : Rg (qand (s 25 12) 1040) ∧ (qand (s 25 12) 1040 = 1040 → qR w 5 qm158 49 [(0, .ref 25), (1, qI v1), (2, qI k0)] [qI 1] s (qPV f g)) ∧ (qand (s 25 12) 1040 ≠ 1040 → qR w 5 qm158 49 [(0, .ref 25), (1, qI v1), (2, qI k0)] [qI 0] s (qPV f g))) : qR w 5 qm158 29 [(0, .ref 25), (1, qI v1)] [qI k0] s (qPV f g) := by
  refine qS_istore_n (a := [(0, .ref 25), (1, qI v1)]) qd_158_29 (Nat.le_of_ble_eq_true rfl) (zsub_c rfl (zsub_c rfl zsub_n)) rfl ?_
  refine qS_aload_n qd_158_30 rfl ?_
  refine qS_getfield (v := qI (s 25 12)) qd_158_31 (qfl_8_174 w) (hpc_25 _ _) rfl ?_
  refine qS_sipush qd_158_34 (by decide) ?_
  refine qS_iand (a := s 25 12) (b := 1040) qd_158_37 ?_
  refine qS_sipush qd_158_38 (by decide) ?_
  obtain ⟨h41a, H1, H2⟩ := H
  refine qS_icmp qd_158_41 rfl (zcnd_ne (a := qand (s 25 12) 1040) (b := 1040) h41a ⟨by decide, by decide⟩ (fun t => qR w _ _ t _ _ _ _) (fun hc => ?_) (fun hc => ?_))
  · have H := H1 hc; clear H1 H2 hc
    refine qS_iconst qd_158_44 ?_
    refine qS_goto qd_158_45 rfl ?_
    exact qS_sub (zsub_c rfl (zsub_c rfl (zsub_c rfl zsub_n))) H
  · have H := H2 hc; clear H1 H2 hc
    refine qS_iconst qd_158_48 ?_
    exact qS_sub (zsub_c rfl (zsub_c rfl (zsub_c rfl zsub_n))) H
set_option maxRecDepth 100000 in
theorem k158_49 {w : qE} {s : qS} {v1 : Int} {v2 : Int} {k0 : Int} {f : qS → Prop} {g : Nat → qS → Prop}  (H : qW w 1 134 [.ref 25] s (qPI (fun r2 s2 => Rg r2 ∧ (r2 = 0 → qR w 5 qm158 88 [(0, .ref 25), (2, qI v2)] [] s2 (qPV f g)) ∧ (r2 ≠ 0 → Rg v2 ∧ (v2 = 0 → Rg k0 ∧ (k0 = 0 → qR w 5 qm158 88 [(0, .ref 25), (2, qI v2)] [] s2 (qPV f g)) ∧ (k0 ≠ 0 → qR w 5 qm158 82 [(0, .ref 25), (1, qI v1), (2, qI v2)] [] s2 (qPV f g))) ∧ (v2 ≠ 0 → Rg (qand (s2 25 12) 1040) ∧ (qand (s2 25 12) 1040 = 1024 → qR w 5 qm158 88 [(0, .ref 25), (2, qI v2)] [] s2 (qPV f g)) ∧ (qand (s2 25 12) 1040 ≠ 1024 → qR w 5 qm158 82 [(0, .ref 25), (1, qI v1), (2, qI v2)] [] s2 (qPV f g))))) g)) : qR w 5 qm158 49 [(0, .ref 25), (1, qI v1), (2, qI v2)] [qI k0] s (qPV f g) := by
  refine qS_istore_n (a := [(0, .ref 25), (1, qI v1), (2, qI v2)]) qd_158_49 (Nat.le_of_ble_eq_true rfl) (zsub_c rfl (zsub_c rfl (zsub_c rfl zsub_n))) rfl ?_
  refine qS_aload_n qd_158_50 rfl ?_
  refine qS_cvI qd_158_51 (qml_8_80 w) rfl qtm_134 (hpc_25 _ _) (Nat.le_of_ble_eq_true rfl) rfl (Nat.le_of_ble_eq_true rfl) H (fun r2 s2 H => ?_) (fun x s1 H => Or.inr ⟨x, rfl, H⟩)
  obtain ⟨h54a, H1, H2⟩ := H
  refine qS_if0 qd_158_54 rfl (zcnd_eq (a := r2) (b := 0) h54a ⟨by decide, by decide⟩ (fun t => qR w _ _ t _ _ _ _) (fun hc => ?_) (fun hc => ?_))
  · have H := H1 hc; clear H1 H2 hc
    exact qS_sub (zsub_c rfl (zsub_c rfl zsub_n)) H
  · have H := H2 hc; clear H1 H2 hc
    refine qS_iload_n qd_158_57 rfl ?_
    obtain ⟨h58a, H1, H2⟩ := H
    refine qS_if0 qd_158_58 rfl (zcnd_eq (a := v2) (b := 0) h58a ⟨by decide, by decide⟩ (fun t => qR w _ _ t _ _ _ _) (fun hc => ?_) (fun hc => ?_))
    · have H := H1 hc; clear H1 H2 hc
      refine qS_iload_n qd_158_78 rfl ?_
      obtain ⟨h79a, H1, H2⟩ := H
      refine qS_if0 qd_158_79 rfl (zcnd_eq (a := k0) (b := 0) h79a ⟨by decide, by decide⟩ (fun t => qR w _ _ t _ _ _ _) (fun hc => ?_) (fun hc => ?_))
      · have H := H1 hc; clear H1 H2 hc
        exact qS_sub (zsub_c rfl (zsub_c rfl zsub_n)) H
      · have H := H2 hc; clear H1 H2 hc
        exact qS_sub (zsub_c rfl (zsub_c rfl (zsub_c rfl zsub_n))) H
    · have H := H2 hc; clear H1 H2 hc
      refine qS_aload_n qd_158_61 rfl ?_
      refine qS_getfield (v := qI (s2 25 12)) qd_158_62 (qfl_8_174 w) (hpc_25 _ _) rfl ?_
      refine qS_sipush qd_158_65 (by decide) ?_
      refine qS_iand (a := s2 25 12) (b := 1040) qd_158_68 ?_
      refine qS_sipush qd_158_69 (by decide) ?_
      obtain ⟨h72a, H1, H2⟩ := H
      refine qS_icmp qd_158_72 rfl (zcnd_eq (a := qand (s2 25 12) 1040) (b := 1024) h72a ⟨by decide, by decide⟩ (fun t => qR w _ _ t _ _ _ _) (fun hc => ?_) (fun hc => ?_))
      · have H := H1 hc; clear H1 H2 hc
        exact qS_sub (zsub_c rfl (zsub_c rfl zsub_n)) H
      · have H := H2 hc; clear H1 H2 hc
        refine qS_goto qd_158_75 rfl ?_
        exact qS_sub (zsub_c rfl (zsub_c rfl (zsub_c rfl zsub_n))) H
set_option maxRecDepth 100000 in
theorem k158_82 {w : qE} {s : qS} {v1 : Int} {v2 : Int} {f : qS → Prop} {g : Nat → qS → Prop}  (H : qW w 1 133 [.ref 25, qI v1] s (qPI (fun r3 s3 => qR w 5 qm158 88 [(0, .ref 25), (2, qI v2)] [] s3 (qPV f g)) g)) : qR w 5 qm158 82 [(0, .ref 25), (1, qI v1), (2, qI v2)] [] s (qPV f g) := by
  refine qS_aload_n qd_158_82 rfl ?_
  refine qS_iload_n qd_158_83 rfl ?_
  refine qS_cvI qd_158_84 (qml_8_76 w) rfl qtm_133 (hpc_25 _ _) (Nat.le_of_ble_eq_true rfl) rfl (Nat.le_of_ble_eq_true rfl) H (fun r3 s3 H => ?_) (fun x s1 H => Or.inr ⟨x, rfl, H⟩)
  refine qS_pop qd_158_87 rfl ?_
  exact qS_sub (zsub_c rfl (zsub_c rfl zsub_n)) H
set_option maxRecDepth 100000 in
theorem k158_88 {w : qE} {s : qS} {v2 : Int} {f : qS → Prop} {g : Nat → qS → Prop}  (H : qW w 5 159 [.ref 25, qI 0] s (qPI (fun r4 s4 => Rg v2 ∧ (v2 = 0 → qR w 5 qm158 108 [(0, .ref 25)] [qI 1, .ref 25, .ref 25] (qset s4 25 13 r4) (qPV f g)) ∧ (v2 ≠ 0 → qR w 5 qm158 108 [(0, .ref 25)] [qI 0, .ref 25, .ref 25] (qset s4 25 13 r4) (qPV f g))) g)) : qR w 5 qm158 88 [(0, .ref 25), (2, qI v2)] [] s (qPV f g) := by
  refine qS_aload_n qd_158_88 rfl ?_
  refine qS_aload_n qd_158_89 rfl ?_
  refine qS_iconst qd_158_90 ?_
  refine qS_cvI qd_158_91 (qml_8_177 w) rfl qtm_159 (hpc_25 _ _) (Nat.le_of_ble_eq_true rfl) rfl (Nat.le_of_ble_eq_true rfl) H (fun r4 s4 H => ?_) (fun x s1 H => Or.inr ⟨x, rfl, H⟩)
  refine qS_putfield (s1 := qset s4 25 13 r4) qd_158_94 (qfl_8_181 w) (hpc_25 _ _) (Nat.le_of_ble_eq_true rfl) rfl rfl rfl (hps_25_13 _ _ _) ?_
  refine qS_aload_n qd_158_97 rfl ?_
  refine qS_aload_n qd_158_98 rfl ?_
  refine qS_iload_n qd_158_99 rfl ?_
  obtain ⟨h100a, H1, H2⟩ := H
  refine qS_if0 qd_158_100 rfl (zcnd_ne (a := v2) (b := 0) h100a ⟨by decide, by decide⟩ (fun t => qR w _ _ t _ _ _ _) (fun hc => ?_) (fun hc => ?_))
  · have H := H1 hc; clear H1 H2 hc
    refine qS_iconst qd_158_103 ?_
    refine qS_goto qd_158_104 rfl ?_
    exact qS_sub (zsub_c rfl zsub_n) H
  · have H := H2 hc; clear H1 H2 hc
    refine qS_iconst qd_158_107 ?_
    exact qS_sub (zsub_c rfl zsub_n) H
set_option maxRecDepth 100000 in
theorem k158_108 {w : qE} {s : qS} {k2 : Int} {f : qS → Prop} {g : Nat → qS → Prop}  (H : qW w 5 159 [.ref 25, qI k2] s (qPI (fun r5 s5 => qW w 3 131 [.ref 25] (qset s5 25 14 r5) (qPI (fun r6 s6 => qR w 5 qm158 133 [(0, .ref 25), (4, qI 0)] [] (qset (qset s6 25 15 r6) 25 16 (s6 25 5)) (qPV f g)) g)) g)) : qR w 5 qm158 108 [(0, .ref 25)] [qI k2, .ref 25, .ref 25] s (qPV f g) := by
  refine qS_cvI qd_158_108 (qml_8_177 w) rfl qtm_159 (hpc_25 _ _) (Nat.le_of_ble_eq_true rfl) rfl (Nat.le_of_ble_eq_true rfl) H (fun r5 s5 H => ?_) (fun x s1 H => Or.inr ⟨x, rfl, H⟩)
  refine qS_putfield (s1 := qset s5 25 14 r5) qd_158_111 (qfl_8_184 w) (hpc_25 _ _) (Nat.le_of_ble_eq_true rfl) rfl rfl rfl (hps_25_14 _ _ _) ?_
  refine qS_aload_n qd_158_114 rfl ?_
  refine qS_aload_n qd_158_115 rfl ?_
  refine qS_cvI qd_158_116 (qml_8_88 w) rfl qtm_131 (hpc_25 _ _) (Nat.le_of_ble_eq_true rfl) rfl (Nat.le_of_ble_eq_true rfl) H (fun r6 s6 H => ?_) (fun x s1 H => Or.inr ⟨x, rfl, H⟩)
  refine qS_putfield (s1 := qset s6 25 15 r6) qd_158_119 (qfl_8_187 w) (hpc_25 _ _) (Nat.le_of_ble_eq_true rfl) rfl rfl rfl (hps_25_15 _ _ _) ?_
  refine qS_aload_n qd_158_122 rfl ?_
  refine qS_aload_n qd_158_123 rfl ?_
  refine qS_getfield (v := qI (s6 25 5)) qd_158_124 (qfl_8_70 w) (hpc_25 _ _) rfl ?_
  refine qS_putfield (s1 := qset (qset s6 25 15 r6) 25 16 (s6 25 5)) qd_158_127 (qfl_8_190 w) (hpc_25 _ _) (Nat.le_of_ble_eq_true rfl) rfl rfl rfl (hps_25_16 _ _ _) ?_
  refine qS_iconst qd_158_130 ?_
  refine qS_istore (a := [(0, .ref 25)]) qd_158_131 (Nat.le_of_ble_eq_true rfl) (zsub_c rfl zsub_n) rfl ?_
  exact qS_sub (zsub_c rfl (zsub_c rfl zsub_n)) H
set_option maxRecDepth 100000 in
theorem k158_133 {w : qE} {s : qS} {v4 : Int} {f : qS → Prop} {g : Nat → qS → Prop}  (H : Rg v4 ∧ Rg (s 25 15) ∧ (v4 < s 25 15 → qW w 1 134 [.ref 25] s (qPI (fun r7 s7 => Rg r7 ∧ (r7 = 0 → qR w 5 qm158 161 [] [] s7 (qPV f g)) ∧ (r7 ≠ 0 → qW w 5 159 [.ref 25, qI 0] s7 (qPI (fun r8 s8 => qR w 5 qm158 133 [(0, .ref 25), (4, qI (v4 + 1))] [] s8 (qPV f g)) g))) g)) ∧ (s 25 15 ≤ v4 → qR w 5 qm158 161 [] [] s (qPV f g))) : qR w 5 qm158 133 [(0, .ref 25), (4, qI v4)] [] s (qPV f g) := by
  refine qS_iload qd_158_133 rfl ?_
  refine qS_aload_n qd_158_135 rfl ?_
  refine qS_getfield (v := qI (s 25 15)) qd_158_136 (qfl_8_187 w) (hpc_25 _ _) rfl ?_
  obtain ⟨h139a, h139b, H1, H2⟩ := H
  refine qS_icmp qd_158_139 rfl (zcnd_ge (a := v4) (b := s 25 15) h139a h139b (fun t => qR w _ _ t _ _ _ _) (fun hc => ?_) (fun hc => ?_))
  · have H := H1 hc; clear H1 H2 hc
    refine qS_aload_n qd_158_142 rfl ?_
    refine qS_cvI qd_158_143 (qml_8_80 w) rfl qtm_134 (hpc_25 _ _) (Nat.le_of_ble_eq_true rfl) rfl (Nat.le_of_ble_eq_true rfl) H (fun r7 s7 H => ?_) (fun x s1 H => Or.inr ⟨x, rfl, H⟩)
    obtain ⟨h146a, H1, H2⟩ := H
    refine qS_if0 qd_158_146 rfl (zcnd_eq (a := r7) (b := 0) h146a ⟨by decide, by decide⟩ (fun t => qR w _ _ t _ _ _ _) (fun hc => ?_) (fun hc => ?_))
    · have H := H1 hc; clear H1 H2 hc
      exact qS_sub zsub_n H
    · have H := H2 hc; clear H1 H2 hc
      refine qS_aload_n qd_158_149 rfl ?_
      refine qS_iconst qd_158_150 ?_
      refine qS_cvI qd_158_151 (qml_8_177 w) rfl qtm_159 (hpc_25 _ _) (Nat.le_of_ble_eq_true rfl) rfl (Nat.le_of_ble_eq_true rfl) H (fun r8 s8 H => ?_) (fun x s1 H => Or.inr ⟨x, rfl, H⟩)
      refine qS_pop qd_158_154 rfl ?_
      refine qS_iinc (v := v4) (a := [(0, .ref 25)]) qd_158_155 (Nat.le_of_ble_eq_true rfl) rfl (zsub_c rfl zsub_n) rfl ?_
      refine qS_goto qd_158_158 rfl ?_
      exact qS_sub (zsub_c rfl (zsub_c rfl zsub_n)) H
  · have H := H2 hc; clear H1 H2 hc
    exact qS_sub zsub_n H
set_option maxRecDepth 100000 in
theorem k158_161 {w : qE} {s : qS}  {f : qS → Prop} {g : Nat → qS → Prop}  (H : f s) : qR w 5 qm158 161 [] [] s (qPV f g) := by
  exact qS_vreturn qd_158_161 rfl (Or.inl ⟨rfl, H⟩)
