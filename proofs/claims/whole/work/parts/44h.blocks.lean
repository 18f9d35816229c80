/-! what the code does, in numbers: printed by a program of mine (wip/whole/gen_blocks.py, emit.py) -/
set_option maxRecDepth 100000 in
theorem k173 {w : qE} {s : qS} {p0 : Int} {f : qS → Prop} {g : Nat → qS → Prop}  (H : Rg p0 ∧ (p0 = 4 → qR w 5 qm173 10 [(0, .ref 25), (1, qI p0)] [] s (qPV f g)) ∧ (p0 ≠ 4 → (p0 = 5 → qR w 5 qm173 10 [(0, .ref 25), (1, qI p0)] [] s (qPV f g)) ∧ (p0 ≠ 5 → qW w 3 131 [.ref 25] s (qPI (fun r1 s1 => qR w 5 qm173 18 [(0, .ref 25), (1, qI p0)] [qI r1] s1 (qPV f g)) g)))) : qW w 6 173 [.ref 25, qI p0] s (qPV f g) := by
  refine qW.of (M := qm173) (l := [(0, .ref 25), (1, qI p0)]) qtm_173 rfl (Nat.le_of_ble_eq_true rfl) (zsub_c rfl (zsub_c rfl zsub_n)) ?_
  refine qS_iload_n qd_173_0 rfl ?_
  refine qS_iconst qd_173_1 ?_
  obtain ⟨h2a, H1, H2⟩ := H
  refine qS_icmp qd_173_2 rfl (zcnd_eq (a := p0) (b := 4) h2a ⟨by decide, by decide⟩ (fun t => qR w _ _ t _ _ _ _) (fun hc => ?_) (fun hc => ?_))
  · have H := H1 hc; clear H1 H2 hc
    exact qS_sub (zsub_c rfl (zsub_c rfl zsub_n)) H
  · have H := H2 hc; clear H1 H2 hc
    refine qS_iload_n qd_173_5 rfl ?_
    refine qS_iconst qd_173_6 ?_
    obtain ⟨H1, H2⟩ := H
    refine qS_icmp qd_173_7 rfl (zcnd_ne (a := p0) (b := 5) h2a ⟨by decide, by decide⟩ (fun t => qR w _ _ t _ _ _ _) (fun hc => ?_) (fun hc => ?_))
    · have H := H1 hc; clear H1 H2 hc
      exact qS_sub (zsub_c rfl (zsub_c rfl zsub_n)) H
    · have H := H2 hc; clear H1 H2 hc
      refine qS_aload_n qd_173_14 rfl ?_
      refine qS_cvI qd_173_15 (qml_8_88 w) rfl qtm_131 (hpc_25 _ _) (Nat.le_of_ble_eq_true rfl) rfl (Nat.le_of_ble_eq_true rfl) H (fun r1 s1 H => ?_) (fun x s1 H => Or.inr ⟨x, rfl, H⟩)
      exact qS_sub (zsub_c rfl (zsub_c rfl zsub_n)) H
set_option maxRecDepth 100000 in
theorem k173_10 {w : qE} {s : qS} {v1 : Int} {f : qS → Prop} {g : Nat → qS → Prop}  (H : qR w 5 qm173 18 [(0, .ref 25), (1, qI v1)] [qI 1] s (qPV f g)) : qR w 5 qm173 10 [(0, .ref 25), (1, qI v1)] [] s (qPV f g) := by
  refine qS_iconst qd_173_10 ?_
  refine qS_goto qd_173_11 rfl ?_
  exact qS_sub (zsub_c rfl (zsub_c rfl zsub_n)) H
set_option maxRecDepth 100000 in
theorem k173_18 {w : qE} {s : qS} {v1 : Int} {k0 : Int} {f : qS → Prop} {g : Nat → qS → Prop}  (H : (0 ≤ v1 ∧ v1 < 9 ∧ ((0 ≤ v1 ∧ v1 < 9 ∧ (qR w 5 qm173 38 [(0, .ref 25), (1, qI v1), (2, qI k0), (3, qI 0)] [] (qset (qset s 36 v1 (s 25 5)) 37 v1 k0) (qPV f g)))))) : qR w 5 qm173 18 [(0, .ref 25), (1, qI v1)] [qI k0] s (qPV f g) := by
  refine qS_istore_n (a := [(0, .ref 25), (1, qI v1)]) qd_173_18 (Nat.le_of_ble_eq_true rfl) (zsub_c rfl (zsub_c rfl zsub_n)) rfl ?_
  refine qS_aload_n qd_173_19 rfl ?_
  refine qS_getfield (v := .ref 36) qd_173_20 (qfl_8_44 w) (hpc_25 _ _) rfl ?_
  refine qS_iload_n qd_173_23 rfl ?_
  refine qS_aload_n qd_173_24 rfl ?_
  refine qS_getfield (v := qI (s 25 5)) qd_173_25 (qfl_8_70 w) (hpc_25 _ _) rfl ?_
  obtain ⟨hl, hu, H⟩ := H
  refine qS_iastore (a := 36) (i := v1) (v := s 25 5) qd_173_28 (Nat.le_of_ble_eq_true rfl) hl hu ?_
  refine qS_aload_n qd_173_29 rfl ?_
  refine qS_getfield (v := .ref 37) qd_173_30 (qfl_8_47 w) (hpc_25 _ _) rfl ?_
  refine qS_iload_n qd_173_33 rfl ?_
  refine qS_iload_n qd_173_34 rfl ?_
  obtain ⟨hl, hu, H⟩ := H
  refine qS_iastore (a := 37) (i := v1) (v := k0) qd_173_35 (Nat.le_of_ble_eq_true rfl) hl hu ?_
  refine qS_iconst qd_173_36 ?_
  refine qS_istore_n (a := [(2, qI k0), (0, .ref 25), (1, qI v1)]) qd_173_37 (Nat.le_of_ble_eq_true rfl) (zsub_c rfl (zsub_c rfl (zsub_c rfl zsub_n))) rfl ?_
  exact qS_sub (zsub_c rfl (zsub_c rfl (zsub_c rfl (zsub_c rfl zsub_n)))) H
set_option maxRecDepth 100000 in
theorem k173_38 {w : qE} {s : qS} {v1 : Int} {v2 : Int} {v3 : Int} {f : qS → Prop} {g : Nat → qS → Prop}  (H : Rg v3 ∧ Rg v2 ∧ (v3 < v2 → qW w 1 134 [.ref 25] s (qPI (fun r2 s2 => Rg r2 ∧ (r2 = 0 → qR w 5 qm173 115 [] [] s2 (qPV f g)) ∧ (r2 ≠ 0 → Rg v1 ∧ (v1 = 8 → qW w 5 174 [.ref 25, qI v3] s2 (qPV (fun s3 => qR w 5 qm173 109 [(0, .ref 25), (1, qI v1), (2, qI v2), (3, qI v3)] [] s3 (qPV f g)) g)) ∧ (v1 ≠ 8 → qW w 4 171 [.ref 25, qI 7, qI 0] s2 (qPV (fun s4 => (v1 = 4 → qW w 4 171 [.ref 25, qI 12, qI 1] s4 (qPV (fun s5 => qR w 5 qm173 83 [(0, .ref 25), (1, qI v1), (2, qI v2), (3, qI v3)] [] s5 (qPV f g)) g)) ∧ (v1 ≠ 4 → qR w 5 qm173 83 [(0, .ref 25), (1, qI v1), (2, qI v2), (3, qI v3)] [] s4 (qPV f g))) g)))) g)) ∧ (v2 ≤ v3 → qR w 5 qm173 115 [] [] s (qPV f g))) : qR w 5 qm173 38 [(0, .ref 25), (1, qI v1), (2, qI v2), (3, qI v3)] [] s (qPV f g) := by
  refine qS_iload_n qd_173_38 rfl ?_
  refine qS_iload_n qd_173_39 rfl ?_
  obtain ⟨h40a, h40b, H1, H2⟩ := H
  refine qS_icmp qd_173_40 rfl (zcnd_ge (a := v3) (b := v2) h40a h40b (fun t => qR w _ _ t _ _ _ _) (fun hc => ?_) (fun hc => ?_))
  · have H := H1 hc; clear H1 H2 hc
    refine qS_aload_n qd_173_43 rfl ?_
    refine qS_cvI qd_173_44 (qml_8_80 w) rfl qtm_134 (hpc_25 _ _) (Nat.le_of_ble_eq_true rfl) rfl (Nat.le_of_ble_eq_true rfl) H (fun r2 s2 H => ?_) (fun x s1 H => Or.inr ⟨x, rfl, H⟩)
    obtain ⟨h47a, H1, H2⟩ := H
    refine qS_if0 qd_173_47 rfl (zcnd_eq (a := r2) (b := 0) h47a ⟨by decide, by decide⟩ (fun t => qR w _ _ t _ _ _ _) (fun hc => ?_) (fun hc => ?_))
    · have H := H1 hc; clear H1 H2 hc
      exact qS_sub zsub_n H
    · have H := H2 hc; clear H1 H2 hc
      refine qS_iload_n qd_173_50 rfl ?_
      refine qS_bipush qd_173_51 (by decide) ?_
      obtain ⟨h53a, H1, H2⟩ := H
      refine qS_icmp qd_173_53 rfl (zcnd_ne (a := v1) (b := 8) h53a ⟨by decide, by decide⟩ (fun t => qR w _ _ t _ _ _ _) (fun hc => ?_) (fun hc => ?_))
      · have H := H1 hc; clear H1 H2 hc
        refine qS_aload_n qd_173_56 rfl ?_
        refine qS_iload_n qd_173_57 rfl ?_
        refine qS_cvV qd_173_58 (qml_8_235 w) rfl qtm_174 (hpc_25 _ _) (Nat.le_of_ble_eq_true rfl) rfl (Nat.le_of_ble_eq_true rfl) H (fun s3 H => ?_) (fun x s1 H => Or.inr ⟨x, rfl, H⟩)
        refine qS_goto qd_173_61 rfl ?_
        exact qS_sub (zsub_c rfl (zsub_c rfl (zsub_c rfl (zsub_c rfl zsub_n)))) H
      · have H := H2 hc; clear H1 H2 hc
        refine qS_aload_n qd_173_64 rfl ?_
        refine qS_bipush qd_173_65 (by decide) ?_
        refine qS_iconst qd_173_67 ?_
        refine qS_cvV qd_173_68 (qml_8_224 w) rfl qtm_171 (hpc_25 _ _) (Nat.le_of_ble_eq_true rfl) rfl (Nat.le_of_ble_eq_true rfl) H (fun s4 H => ?_) (fun x s1 H => Or.inr ⟨x, rfl, H⟩)
        refine qS_iload_n qd_173_71 rfl ?_
        refine qS_iconst qd_173_72 ?_
        obtain ⟨H1, H2⟩ := H
        refine qS_icmp qd_173_73 rfl (zcnd_ne (a := v1) (b := 4) h53a ⟨by decide, by decide⟩ (fun t => qR w _ _ t _ _ _ _) (fun hc => ?_) (fun hc => ?_))
        · have H := H1 hc; clear H1 H2 hc
          refine qS_aload_n qd_173_76 rfl ?_
          refine qS_bipush qd_173_77 (by decide) ?_
          refine qS_iconst qd_173_79 ?_
          refine qS_cvV qd_173_80 (qml_8_224 w) rfl qtm_171 (hpc_25 _ _) (Nat.le_of_ble_eq_true rfl) rfl (Nat.le_of_ble_eq_true rfl) H (fun s5 H => ?_) (fun x s1 H => Or.inr ⟨x, rfl, H⟩)
          exact qS_sub (zsub_c rfl (zsub_c rfl (zsub_c rfl (zsub_c rfl zsub_n)))) H
        · have H := H2 hc; clear H1 H2 hc
          exact qS_sub (zsub_c rfl (zsub_c rfl (zsub_c rfl (zsub_c rfl zsub_n)))) H
  · have H := H2 hc; clear H1 H2 hc
    exact qS_sub zsub_n H
set_option maxRecDepth 100000 in
theorem k173_83 {w : qE} {s : qS} {v1 : Int} {v2 : Int} {v3 : Int} {f : qS → Prop} {g : Nat → qS → Prop}  (H : Rg v1 ∧ (v1 = 3 → qW w 4 171 [.ref 25, qI 7, qI 1] s (qPV (fun s6 => qW w 4 171 [.ref 25, qI 1, qI 1] s6 (qPV (fun s7 => qW w 3 131 [.ref 25] s7 (qPI (fun r8 s8 => qR w 5 qm173 109 [(0, .ref 25), (1, qI v1), (2, qI v2), (3, qI v3)] [] s8 (qPV f g)) g)) g)) g)) ∧ (v1 ≠ 3 → qR w 5 qm173 109 [(0, .ref 25), (1, qI v1), (2, qI v2), (3, qI v3)] [] s (qPV f g))) : qR w 5 qm173 83 [(0, .ref 25), (1, qI v1), (2, qI v2), (3, qI v3)] [] s (qPV f g) := by
  refine qS_iload_n qd_173_83 rfl ?_
  refine qS_iconst qd_173_84 ?_
  obtain ⟨h85a, H1, H2⟩ := H
  refine qS_icmp qd_173_85 rfl (zcnd_eq (a := v1) (b := 3) h85a ⟨by decide, by decide⟩ (fun t => qR w _ _ t _ _ _ _) (fun hc => ?_) (fun hc => ?_))
  · have H := H1 hc; clear H1 H2 hc
    refine qS_aload_n qd_173_91 rfl ?_
    refine qS_bipush qd_173_92 (by decide) ?_
    refine qS_iconst qd_173_94 ?_
    refine qS_cvV qd_173_95 (qml_8_224 w) rfl qtm_171 (hpc_25 _ _) (Nat.le_of_ble_eq_true rfl) rfl (Nat.le_of_ble_eq_true rfl) H (fun s6 H => ?_) (fun x s1 H => Or.inr ⟨x, rfl, H⟩)
    refine qS_aload_n qd_173_98 rfl ?_
    refine qS_iconst qd_173_99 ?_
    refine qS_iconst qd_173_100 ?_
    refine qS_cvV qd_173_101 (qml_8_224 w) rfl qtm_171 (hpc_25 _ _) (Nat.le_of_ble_eq_true rfl) rfl (Nat.le_of_ble_eq_true rfl) H (fun s7 H => ?_) (fun x s1 H => Or.inr ⟨x, rfl, H⟩)
    refine qS_aload_n qd_173_104 rfl ?_
    refine qS_cvI qd_173_105 (qml_8_88 w) rfl qtm_131 (hpc_25 _ _) (Nat.le_of_ble_eq_true rfl) rfl (Nat.le_of_ble_eq_true rfl) H (fun r8 s8 H => ?_) (fun x s1 H => Or.inr ⟨x, rfl, H⟩)
    refine qS_pop qd_173_108 rfl ?_
    exact qS_sub (zsub_c rfl (zsub_c rfl (zsub_c rfl (zsub_c rfl zsub_n)))) H
  · have H := H2 hc; clear H1 H2 hc
    refine qS_goto qd_173_88 rfl ?_
    exact qS_sub (zsub_c rfl (zsub_c rfl (zsub_c rfl (zsub_c rfl zsub_n)))) H
set_option maxRecDepth 100000 in
theorem k173_109 {w : qE} {s : qS} {v1 : Int} {v2 : Int} {v3 : Int} {f : qS → Prop} {g : Nat → qS → Prop}  (H : qR w 5 qm173 38 [(0, .ref 25), (1, qI v1), (2, qI v2), (3, qI (v3 + 1))] [] s (qPV f g)) : qR w 5 qm173 109 [(0, .ref 25), (1, qI v1), (2, qI v2), (3, qI v3)] [] s (qPV f g) := by
  refine qS_iinc (v := v3) (a := [(0, .ref 25), (1, qI v1), (2, qI v2)]) qd_173_109 (Nat.le_of_ble_eq_true rfl) rfl (zsub_c rfl (zsub_c rfl (zsub_c rfl zsub_n))) rfl ?_
  refine qS_goto qd_173_112 rfl ?_
  exact qS_sub (zsub_c rfl (zsub_c rfl (zsub_c rfl (zsub_c rfl zsub_n)))) H
set_option maxRecDepth 100000 in
theorem k173_115 {w : qE} {s : qS}  {f : qS → Prop} {g : Nat → qS → Prop}  (H : f s) : qR w 5 qm173 115 [] [] s (qPV f g) := by
  exact qS_vreturn qd_173_115 rfl (Or.inl ⟨rfl, H⟩)
set_option maxRecDepth 100000 in
theorem k174 {w : qE} {s : qS} {p0 : Int} {f : qS → Prop} {g : Nat → qS → Prop}  (H : (0 ≤ p0 ∧ p0 < 170 ∧ (qW w 4 171 [.ref 25, qI 15, qI 0] (qset s 38 p0 (s 25 5)) (qPV (fun s1 => qW w 3 131 [.ref 25] s1 (qPI (fun r2 s2 => qR w 4 qm174 24 [(0, .ref 25), (2, qI r2), (3, qI 0)] [] s2 (qPV f g)) g)) g)))) : qW w 5 174 [.ref 25, qI p0] s (qPV f g) := by
  refine qW.of (M := qm174) (l := [(0, .ref 25), (1, qI p0)]) qtm_174 rfl (Nat.le_of_ble_eq_true rfl) (zsub_c rfl (zsub_c rfl zsub_n)) ?_
  refine qS_aload_n qd_174_0 rfl ?_
  refine qS_getfield (v := .ref 38) qd_174_1 (qfl_8_50 w) (hpc_25 _ _) rfl ?_
  refine qS_iload_n qd_174_4 rfl ?_
  refine qS_aload_n qd_174_5 rfl ?_
  refine qS_getfield (v := qI (s 25 5)) qd_174_6 (qfl_8_70 w) (hpc_25 _ _) rfl ?_
  obtain ⟨hl, hu, H⟩ := H
  refine qS_iastore (a := 38) (i := p0) (v := s 25 5) qd_174_9 (Nat.le_of_ble_eq_true rfl) hl hu ?_
  refine qS_aload_n qd_174_10 rfl ?_
  refine qS_bipush qd_174_11 (by decide) ?_
  refine qS_iconst qd_174_13 ?_
  refine qS_cvV qd_174_14 (qml_8_224 w) rfl qtm_171 (hpc_25 _ _) (Nat.le_of_ble_eq_true rfl) rfl (Nat.le_of_ble_eq_true rfl) H (fun s1 H => ?_) (fun x s1 H => Or.inr ⟨x, rfl, H⟩)
  refine qS_aload_n qd_174_17 rfl ?_
  refine qS_cvI qd_174_18 (qml_8_88 w) rfl qtm_131 (hpc_25 _ _) (Nat.le_of_ble_eq_true rfl) rfl (Nat.le_of_ble_eq_true rfl) H (fun r2 s2 H => ?_) (fun x s1 H => Or.inr ⟨x, rfl, H⟩)
  refine qS_istore_n (a := [(0, .ref 25)]) qd_174_21 (Nat.le_of_ble_eq_true rfl) (zsub_c rfl zsub_n) rfl ?_
  refine qS_iconst qd_174_22 ?_
  refine qS_istore_n (a := [(2, qI r2), (0, .ref 25)]) qd_174_23 (Nat.le_of_ble_eq_true rfl) (zsub_c rfl (zsub_c rfl zsub_n)) rfl ?_
  exact qS_sub (zsub_c rfl (zsub_c rfl (zsub_c rfl zsub_n))) H
set_option maxRecDepth 100000 in
theorem k174_24 {w : qE} {s : qS} {v2 : Int} {v3 : Int} {f : qS → Prop} {g : Nat → qS → Prop}  (H : Rg v3 ∧ Rg v2 ∧ (v3 < v2 → qW w 1 134 [.ref 25] s (qPI (fun r3 s3 => Rg r3 ∧ (r3 = 0 → qR w 4 qm174 99 [] [] s3 (qPV f g)) ∧ (r3 ≠ 0 → qW w 3 131 [.ref 25] s3 (qPI (fun r4 s4 => qW w 2 139 [.ref 25, qI r4] s4 (qPI (fun r5 s5 => qW w 1 134 [.ref 25] s5 (qPI (fun r6 s6 => Rg r6 ∧ (r6 = 0 → qR w 4 qm174 93 [(0, .ref 25), (2, qI v2), (3, qI v3)] [] s6 (qPV f g)) ∧ (r6 ≠ 0 → qW w 1 125 [qI r5, qI 3, qI 8] s6 (qPI (fun r7 s7 => Rg r7 ∧ (r7 = 0 → qW w 1 125 [qI r5, qI 15, qI 17] s7 (qPI (fun r8 s8 => Rg r8 ∧ (r8 = 0 → qW w 1 133 [.ref 25, qI (s3 25 5)] s8 (qPI (fun r9 s9 => qR w 4 qm174 93 [(0, .ref 25), (2, qI v2), (3, qI v3)] [] s9 (qPV f g)) g)) ∧ (r8 ≠ 0 → qR w 4 qm174 93 [(0, .ref 25), (2, qI v2), (3, qI v3)] [] s8 (qPV f g))) g)) ∧ (r7 ≠ 0 → qR w 4 qm174 93 [(0, .ref 25), (2, qI v2), (3, qI v3)] [] s7 (qPV f g))) g))) g)) g)) g))) g)) ∧ (v2 ≤ v3 → qR w 4 qm174 99 [] [] s (qPV f g))) : qR w 4 qm174 24 [(0, .ref 25), (2, qI v2), (3, qI v3)] [] s (qPV f g) := by
  refine qS_iload_n qd_174_24 rfl ?_
  refine qS_iload_n qd_174_25 rfl ?_
  obtain ⟨h26a, h26b, H1, H2⟩ := H
  refine qS_icmp qd_174_26 rfl (zcnd_ge (a := v3) (b := v2) h26a h26b (fun t => qR w _ _ t _ _ _ _) (fun hc => ?_) (fun hc => ?_))
  · have H := H1 hc; clear H1 H2 hc
    refine qS_aload_n qd_174_29 rfl ?_
    refine qS_cvI qd_174_30 (qml_8_80 w) rfl qtm_134 (hpc_25 _ _) (Nat.le_of_ble_eq_true rfl) rfl (Nat.le_of_ble_eq_true rfl) H (fun r3 s3 H => ?_) (fun x s1 H => Or.inr ⟨x, rfl, H⟩)
    obtain ⟨h33a, H1, H2⟩ := H
    refine qS_if0 qd_174_33 rfl (zcnd_eq (a := r3) (b := 0) h33a ⟨by decide, by decide⟩ (fun t => qR w _ _ t _ _ _ _) (fun hc => ?_) (fun hc => ?_))
    · have H := H1 hc; clear H1 H2 hc
      exact qS_sub zsub_n H
    · have H := H2 hc; clear H1 H2 hc
      refine qS_aload_n qd_174_36 rfl ?_
      refine qS_getfield (v := qI (s3 25 5)) qd_174_37 (qfl_8_70 w) (hpc_25 _ _) rfl ?_
      refine qS_istore (a := [(0, .ref 25), (2, qI v2), (3, qI v3)]) qd_174_40 (Nat.le_of_ble_eq_true rfl) (zsub_c rfl (zsub_c rfl (zsub_c rfl zsub_n))) rfl ?_
      refine qS_aload_n qd_174_42 rfl ?_
      refine qS_cvI qd_174_43 (qml_8_88 w) rfl qtm_131 (hpc_25 _ _) (Nat.le_of_ble_eq_true rfl) rfl (Nat.le_of_ble_eq_true rfl) H (fun r4 s4 H => ?_) (fun x s1 H => Or.inr ⟨x, rfl, H⟩)
      refine qS_istore (a := [(4, qI (s3 25 5)), (0, .ref 25), (2, qI v2), (3, qI v3)]) qd_174_46 (Nat.le_of_ble_eq_true rfl) (zsub_c rfl (zsub_c rfl (zsub_c rfl (zsub_c rfl zsub_n)))) rfl ?_
      refine qS_aload_n qd_174_48 rfl ?_
      refine qS_iload qd_174_49 rfl ?_
      refine qS_cvI qd_174_51 (qml_8_137 w) rfl qtm_139 (hpc_25 _ _) (Nat.le_of_ble_eq_true rfl) rfl (Nat.le_of_ble_eq_true rfl) H (fun r5 s5 H => ?_) (fun x s1 H => Or.inr ⟨x, rfl, H⟩)
      refine qS_istore (a := [(4, qI (s3 25 5)), (0, .ref 25), (2, qI v2), (3, qI v3)]) qd_174_54 (Nat.le_of_ble_eq_true rfl) (zsub_c rfl (zsub_c rfl (zsub_c rfl (zsub_c rfl zsub_n)))) rfl ?_
      refine qS_aload_n qd_174_56 rfl ?_
      refine qS_cvI qd_174_57 (qml_8_80 w) rfl qtm_134 (hpc_25 _ _) (Nat.le_of_ble_eq_true rfl) rfl (Nat.le_of_ble_eq_true rfl) H (fun r6 s6 H => ?_) (fun x s1 H => Or.inr ⟨x, rfl, H⟩)
      obtain ⟨h60a, H1, H2⟩ := H
      refine qS_if0 qd_174_60 rfl (zcnd_eq (a := r6) (b := 0) h60a ⟨by decide, by decide⟩ (fun t => qR w _ _ t _ _ _ _) (fun hc => ?_) (fun hc => ?_))
      · have H := H1 hc; clear H1 H2 hc
        exact qS_sub (zsub_c rfl (zsub_c rfl (zsub_c rfl zsub_n))) H
      · have H := H2 hc; clear H1 H2 hc
        refine qS_iload qd_174_63 rfl ?_
        refine qS_iconst qd_174_65 ?_
        refine qS_bipush qd_174_66 (by decide) ?_
        refine qS_csI qd_174_68 (qml_8_63 w) rfl (Nat.le_of_ble_eq_true rfl) rfl (Nat.le_of_ble_eq_true rfl) H (fun r7 s7 H => ?_) (fun x s1 H => Or.inr ⟨x, rfl, H⟩)
        obtain ⟨h71a, H1, H2⟩ := H
        refine qS_if0 qd_174_71 rfl (zcnd_ne (a := r7) (b := 0) h71a ⟨by decide, by decide⟩ (fun t => qR w _ _ t _ _ _ _) (fun hc => ?_) (fun hc => ?_))
        · have H := H1 hc; clear H1 H2 hc
          refine qS_iload qd_174_74 rfl ?_
          refine qS_bipush qd_174_76 (by decide) ?_
          refine qS_bipush qd_174_78 (by decide) ?_
          refine qS_csI qd_174_80 (qml_8_63 w) rfl (Nat.le_of_ble_eq_true rfl) rfl (Nat.le_of_ble_eq_true rfl) H (fun r8 s8 H => ?_) (fun x s1 H => Or.inr ⟨x, rfl, H⟩)
          obtain ⟨h83a, H1, H2⟩ := H
          refine qS_if0 qd_174_83 rfl (zcnd_ne (a := r8) (b := 0) h83a ⟨by decide, by decide⟩ (fun t => qR w _ _ t _ _ _ _) (fun hc => ?_) (fun hc => ?_))
          · have H := H1 hc; clear H1 H2 hc
            refine qS_aload_n qd_174_86 rfl ?_
            refine qS_iload qd_174_87 rfl ?_
            refine qS_cvI qd_174_89 (qml_8_76 w) rfl qtm_133 (hpc_25 _ _) (Nat.le_of_ble_eq_true rfl) rfl (Nat.le_of_ble_eq_true rfl) H (fun r9 s9 H => ?_) (fun x s1 H => Or.inr ⟨x, rfl, H⟩)
            refine qS_pop qd_174_92 rfl ?_
            exact qS_sub (zsub_c rfl (zsub_c rfl (zsub_c rfl zsub_n))) H
          · have H := H2 hc; clear H1 H2 hc
            exact qS_sub (zsub_c rfl (zsub_c rfl (zsub_c rfl zsub_n))) H
        · have H := H2 hc; clear H1 H2 hc
          exact qS_sub (zsub_c rfl (zsub_c rfl (zsub_c rfl zsub_n))) H
  · have H := H2 hc; clear H1 H2 hc
    exact qS_sub zsub_n H
set_option maxRecDepth 100000 in
theorem k174_93 {w : qE} {s : qS} {v2 : Int} {v3 : Int} {f : qS → Prop} {g : Nat → qS → Prop}  (H : qR w 4 qm174 24 [(0, .ref 25), (2, qI v2), (3, qI (v3 + 1))] [] s (qPV f g)) : qR w 4 qm174 93 [(0, .ref 25), (2, qI v2), (3, qI v3)] [] s (qPV f g) := by
  refine qS_iinc (v := v3) (a := [(0, .ref 25), (2, qI v2)]) qd_174_93 (Nat.le_of_ble_eq_true rfl) rfl (zsub_c rfl (zsub_c rfl zsub_n)) rfl ?_
  refine qS_goto qd_174_96 rfl ?_
  exact qS_sub (zsub_c rfl (zsub_c rfl (zsub_c rfl zsub_n))) H
set_option maxRecDepth 100000 in
theorem k174_99 {w : qE} {s : qS}  {f : qS → Prop} {g : Nat → qS → Prop}  (H : f s) : qR w 4 qm174 99 [] [] s (qPV f g) := by
  exact qS_vreturn qd_174_99 rfl (Or.inl ⟨rfl, H⟩)
set_option maxRecDepth 100000 in
theorem k175 {w : qE} {s : qS}  {f : Int → qS → Prop} {g : Nat → qS → Prop}  (H : f (s 25 6) (qset s 25 7 0)) : qW w 1 175 [.ref 25] s (qPI f g) := by
  refine qW.of (M := qm175) (l := [(0, .ref 25)]) qtm_175 rfl (Nat.le_of_ble_eq_true rfl) (zsub_c rfl zsub_n) ?_
  refine qS_aload_n qd_175_0 rfl ?_
  refine qS_iconst qd_175_1 ?_
  refine qS_putfield (s1 := qset s 25 7 0) qd_175_2 (qfl_8_60 w) (hpc_25 _ _) (Nat.le_of_ble_eq_true rfl) rfl rfl rfl (hps_25_7 _ _ _) ?_
  refine qS_aload_n qd_175_5 rfl ?_
  refine qS_getfield (v := qI (s 25 6)) qd_175_6 (qfl_8_19 w) (hpc_25 _ _) rfl ?_
  exact qS_ireturn qd_175_9 rfl (Or.inl ⟨_, rfl, H⟩)
set_option maxRecDepth 100000 in
theorem k176 {w : qE} {s : qS} {p0 : Int} {p1 : Int} {f : Int → qS → Prop} {g : Nat → qS → Prop}  (H : qW w 1 177 [.ref 25] s (qPI (fun r1 s1 => Rg r1 ∧ (r1 = 0 → f 0 s1) ∧ (r1 ≠ 0 → qW w 1 125 [qI p1, qI 0, qI 3] s1 (qPI (fun r2 s2 => Rg r2 ∧ (r2 = 0 → f ((-1)) s2) ∧ (r2 ≠ 0 → qW w 2 139 [.ref 25, qI p0] s2 (qPI (fun r3 s3 => Rg r3 ∧ (r3 = 0 → f ((-2)) s3) ∧ (r3 ≠ 0 → qW w 1 125 [qI r3, qI 3, qI 6] s3 (qPI (fun r4 s4 => Rg p1 ∧ (p1 = 0 → qR w 2 qm176 51 [(0, .ref 25), (1, qI p0), (2, qI p1), (3, qI r3)] [] s4 (qPI f g)) ∧ (p1 ≠ 0 → (p1 = 3 → qR w 2 qm176 51 [(0, .ref 25), (1, qI p0), (2, qI p1), (3, qI r3)] [] s4 (qPI f g)) ∧ (p1 ≠ 3 → (p1 = 1 → (r3 = 1 → qW w 2 151 [.ref 25, qI p0] s4 (qPI (fun r5 s5 => qR w 2 qm176 109 [] [qI r5] s5 (qPI f g)) g)) ∧ (r3 ≠ 1 → Rg r4 ∧ (r4 = 0 → qW w 2 141 [.ref 25, qI p0] s4 (qPI (fun r6 s6 => qR w 2 qm176 109 [] [qI r6] s6 (qPI f g)) g)) ∧ (r4 ≠ 0 → (0 ≤ p0 ∧ p0 < 520 ∧ (qW w 2 178 [.ref 25, qI ((s4 29 p0) + 1)] s4 (qPI (fun r7 s7 => qR w 2 qm176 109 [] [qI r7] s7 (qPI f g)) g)))))) ∧ (p1 ≠ 1 → (r3 = 5 → qR w 2 qm176 121 [(0, .ref 25), (1, qI p0)] [] s4 (qPI f g)) ∧ (r3 ≠ 5 → (r3 = 6 → qR w 2 qm176 121 [(0, .ref 25), (1, qI p0)] [] s4 (qPI f g)) ∧ (r3 ≠ 6 → (r3 = 1 → qR w 2 qm176 146 [] [] s4 (qPI f g)) ∧ (r3 ≠ 1 → Rg r4 ∧ (r4 = 0 → qW w 2 143 [.ref 25, qI p0] s4 (qPI (fun r8 s8 => qR w 2 qm176 155 [] [qI r8] s8 (qPI f g)) g)) ∧ (r4 ≠ 0 → qR w 2 qm176 146 [] [] s4 (qPI f g))))))))) g))) g))) g))) g)) : qW w 3 176 [.ref 25, qI p0, qI p1] s (qPI f g) := by
  refine qW.of (M := qm176) (l := [(0, .ref 25), (1, qI p0), (2, qI p1)]) qtm_176 rfl (Nat.le_of_ble_eq_true rfl) (zsub_c rfl (zsub_c rfl (zsub_c rfl zsub_n))) ?_
  refine qS_aload_n qd_176_0 rfl ?_
  refine qS_cvI qd_176_1 (qml_8_262 w) rfl qtm_177 (hpc_25 _ _) (Nat.le_of_ble_eq_true rfl) rfl (Nat.le_of_ble_eq_true rfl) H (fun r1 s1 H => ?_) (fun x s1 H => Or.inr ⟨x, rfl, H⟩)
  obtain ⟨h4a, H1, H2⟩ := H
  refine qS_if0 qd_176_4 rfl (zcnd_ne (a := r1) (b := 0) h4a ⟨by decide, by decide⟩ (fun t => qR w _ _ t _ _ _ _) (fun hc => ?_) (fun hc => ?_))
  · have H := H1 hc; clear H1 H2 hc
    refine qS_iconst qd_176_7 ?_
    exact qS_ireturn qd_176_8 rfl (Or.inl ⟨_, rfl, H⟩)
  · have H := H2 hc; clear H1 H2 hc
    refine qS_iload_n qd_176_9 rfl ?_
    refine qS_iconst qd_176_10 ?_
    refine qS_iconst qd_176_11 ?_
    refine qS_csI qd_176_12 (qml_8_63 w) rfl (Nat.le_of_ble_eq_true rfl) rfl (Nat.le_of_ble_eq_true rfl) H (fun r2 s2 H => ?_) (fun x s1 H => Or.inr ⟨x, rfl, H⟩)
    obtain ⟨h15a, H1, H2⟩ := H
    refine qS_if0 qd_176_15 rfl (zcnd_ne (a := r2) (b := 0) h15a ⟨by decide, by decide⟩ (fun t => qR w _ _ t _ _ _ _) (fun hc => ?_) (fun hc => ?_))
    · have H := H1 hc; clear H1 H2 hc
      refine qS_iconst qd_176_18 ?_
      exact qS_ireturn qd_176_19 rfl (Or.inl ⟨_, rfl, H⟩)
    · have H := H2 hc; clear H1 H2 hc
      refine qS_aload_n qd_176_20 rfl ?_
      refine qS_iload_n qd_176_21 rfl ?_
      refine qS_cvI qd_176_22 (qml_8_137 w) rfl qtm_139 (hpc_25 _ _) (Nat.le_of_ble_eq_true rfl) rfl (Nat.le_of_ble_eq_true rfl) H (fun r3 s3 H => ?_) (fun x s1 H => Or.inr ⟨x, rfl, H⟩)
      refine qS_istore_n (a := [(0, .ref 25), (1, qI p0), (2, qI p1)]) qd_176_25 (Nat.le_of_ble_eq_true rfl) (zsub_c rfl (zsub_c rfl (zsub_c rfl zsub_n))) rfl ?_
      refine qS_iload_n qd_176_26 rfl ?_
      obtain ⟨h27a, H1, H2⟩ := H
      refine qS_if0 qd_176_27 rfl (zcnd_ne (a := r3) (b := 0) h27a ⟨by decide, by decide⟩ (fun t => qR w _ _ t _ _ _ _) (fun hc => ?_) (fun hc => ?_))
      · have H := H1 hc; clear H1 H2 hc
        refine qS_bipush qd_176_30 (by decide) ?_
        exact qS_ireturn qd_176_32 rfl (Or.inl ⟨_, rfl, H⟩)
      · have H := H2 hc; clear H1 H2 hc
        refine qS_iload_n qd_176_33 rfl ?_
        refine qS_iconst qd_176_34 ?_
        refine qS_bipush qd_176_35 (by decide) ?_
        refine qS_csI qd_176_37 (qml_8_63 w) rfl (Nat.le_of_ble_eq_true rfl) rfl (Nat.le_of_ble_eq_true rfl) H (fun r4 s4 H => ?_) (fun x s1 H => Or.inr ⟨x, rfl, H⟩)
        refine qS_istore (a := [(3, qI r3), (0, .ref 25), (1, qI p0), (2, qI p1)]) qd_176_40 (Nat.le_of_ble_eq_true rfl) (zsub_c rfl (zsub_c rfl (zsub_c rfl (zsub_c rfl zsub_n)))) rfl ?_
        refine qS_iload_n qd_176_42 rfl ?_
        obtain ⟨h43a, H1, H2⟩ := H
        refine qS_if0 qd_176_43 rfl (zcnd_eq (a := p1) (b := 0) h43a ⟨by decide, by decide⟩ (fun t => qR w _ _ t _ _ _ _) (fun hc => ?_) (fun hc => ?_))
        · have H := H1 hc; clear H1 H2 hc
          exact qS_sub (zsub_c rfl (zsub_c rfl (zsub_c rfl (zsub_c rfl zsub_n)))) H
        · have H := H2 hc; clear H1 H2 hc
          refine qS_iload_n qd_176_46 rfl ?_
          refine qS_iconst qd_176_47 ?_
          obtain ⟨H1, H2⟩ := H
          refine qS_icmp qd_176_48 rfl (zcnd_ne (a := p1) (b := 3) h43a ⟨by decide, by decide⟩ (fun t => qR w _ _ t _ _ _ _) (fun hc => ?_) (fun hc => ?_))
          · have H := H1 hc; clear H1 H2 hc
            exact qS_sub (zsub_c rfl (zsub_c rfl (zsub_c rfl (zsub_c rfl zsub_n)))) H
          · have H := H2 hc; clear H1 H2 hc
            refine qS_iload_n qd_176_66 rfl ?_
            refine qS_iconst qd_176_67 ?_
            obtain ⟨H1, H2⟩ := H
            refine qS_icmp qd_176_68 rfl (zcnd_ne (a := p1) (b := 1) h43a ⟨by decide, by decide⟩ (fun t => qR w _ _ t _ _ _ _) (fun hc => ?_) (fun hc => ?_))
            · have H := H1 hc; clear H1 H2 hc
              refine qS_iload_n qd_176_71 rfl ?_
              refine qS_iconst qd_176_72 ?_
              obtain ⟨H1, H2⟩ := H
              refine qS_icmp qd_176_73 rfl (zcnd_ne (a := r3) (b := 1) h27a ⟨by decide, by decide⟩ (fun t => qR w _ _ t _ _ _ _) (fun hc => ?_) (fun hc => ?_))
              · have H := H1 hc; clear H1 H2 hc
                refine qS_aload_n qd_176_76 rfl ?_
                refine qS_iload_n qd_176_77 rfl ?_
                refine qS_cvI qd_176_78 (qml_8_104 w) rfl qtm_151 (hpc_25 _ _) (Nat.le_of_ble_eq_true rfl) rfl (Nat.le_of_ble_eq_true rfl) H (fun r5 s5 H => ?_) (fun x s1 H => Or.inr ⟨x, rfl, H⟩)
                refine qS_goto qd_176_81 rfl ?_
                exact qS_sub zsub_n H
              · have H := H2 hc; clear H1 H2 hc
                refine qS_iload qd_176_84 rfl ?_
                obtain ⟨h86a, H1, H2⟩ := H
                refine qS_if0 qd_176_86 rfl (zcnd_eq (a := r4) (b := 0) h86a ⟨by decide, by decide⟩ (fun t => qR w _ _ t _ _ _ _) (fun hc => ?_) (fun hc => ?_))
                · have H := H1 hc; clear H1 H2 hc
                  refine qS_aload_n qd_176_104 rfl ?_
                  refine qS_iload_n qd_176_105 rfl ?_
                  refine qS_cvI qd_176_106 (qml_8_149 w) rfl qtm_141 (hpc_25 _ _) (Nat.le_of_ble_eq_true rfl) rfl (Nat.le_of_ble_eq_true rfl) H (fun r6 s6 H => ?_) (fun x s1 H => Or.inr ⟨x, rfl, H⟩)
                  exact qS_sub zsub_n H
                · have H := H2 hc; clear H1 H2 hc
                  refine qS_aload_n qd_176_89 rfl ?_
                  refine qS_aload_n qd_176_90 rfl ?_
                  refine qS_getfield (v := .ref 29) qd_176_91 (qfl_8_23 w) (hpc_25 _ _) rfl ?_
                  refine qS_iload_n qd_176_94 rfl ?_
                  obtain ⟨hl, hu, H⟩ := H
                  refine qS_iaload (a := 29) (i := p0) qd_176_95 (Nat.le_of_ble_eq_true rfl) hl hu ?_
                  refine qS_iconst qd_176_96 ?_
                  refine qS_iadd (a := s4 29 p0) (b := 1) qd_176_97 ?_
                  refine qS_cvI qd_176_98 (qml_8_265 w) rfl qtm_178 (hpc_25 _ _) (Nat.le_of_ble_eq_true rfl) rfl (Nat.le_of_ble_eq_true rfl) H (fun r7 s7 H => ?_) (fun x s1 H => Or.inr ⟨x, rfl, H⟩)
                  refine qS_goto qd_176_101 rfl ?_
                  exact qS_sub zsub_n H
            · have H := H2 hc; clear H1 H2 hc
              refine qS_iload_n qd_176_110 rfl ?_
              refine qS_iconst qd_176_111 ?_
              obtain ⟨H1, H2⟩ := H
              refine qS_icmp qd_176_112 rfl (zcnd_eq (a := r3) (b := 5) h27a ⟨by decide, by decide⟩ (fun t => qR w _ _ t _ _ _ _) (fun hc => ?_) (fun hc => ?_))
              · have H := H1 hc; clear H1 H2 hc
                exact qS_sub (zsub_c rfl (zsub_c rfl zsub_n)) H
              · have H := H2 hc; clear H1 H2 hc
                refine qS_iload_n qd_176_115 rfl ?_
                refine qS_bipush qd_176_116 (by decide) ?_
                obtain ⟨H1, H2⟩ := H
                refine qS_icmp qd_176_118 rfl (zcnd_ne (a := r3) (b := 6) h27a ⟨by decide, by decide⟩ (fun t => qR w _ _ t _ _ _ _) (fun hc => ?_) (fun hc => ?_))
                · have H := H1 hc; clear H1 H2 hc
                  exact qS_sub (zsub_c rfl (zsub_c rfl zsub_n)) H
                · have H := H2 hc; clear H1 H2 hc
                  refine qS_iload_n qd_176_136 rfl ?_
                  refine qS_iconst qd_176_137 ?_
                  obtain ⟨H1, H2⟩ := H
                  refine qS_icmp qd_176_138 rfl (zcnd_eq (a := r3) (b := 1) h27a ⟨by decide, by decide⟩ (fun t => qR w _ _ t _ _ _ _) (fun hc => ?_) (fun hc => ?_))
                  · have H := H1 hc; clear H1 H2 hc
                    exact qS_sub zsub_n H
                  · have H := H2 hc; clear H1 H2 hc
                    refine qS_iload qd_176_141 rfl ?_
                    obtain ⟨h143a, H1, H2⟩ := H
                    refine qS_if0 qd_176_143 rfl (zcnd_eq (a := r4) (b := 0) h143a ⟨by decide, by decide⟩ (fun t => qR w _ _ t _ _ _ _) (fun hc => ?_) (fun hc => ?_))
                    · have H := H1 hc; clear H1 H2 hc
                      refine qS_aload_n qd_176_150 rfl ?_
                      refine qS_iload_n qd_176_151 rfl ?_
                      refine qS_cvI qd_176_152 (qml_8_140 w) rfl qtm_143 (hpc_25 _ _) (Nat.le_of_ble_eq_true rfl) rfl (Nat.le_of_ble_eq_true rfl) H (fun r8 s8 H => ?_) (fun x s1 H => Or.inr ⟨x, rfl, H⟩)
                      exact qS_sub zsub_n H
                    · have H := H2 hc; clear H1 H2 hc
                      exact qS_sub zsub_n H
set_option maxRecDepth 100000 in
theorem k176_51 {w : qE} {s : qS} {v1 : Int} {v2 : Int} {v3 : Int} {f : Int → qS → Prop} {g : Nat → qS → Prop}  (H : Rg v2 ∧ (v2 = 0 → qR w 2 qm176 65 [] [qI v3] s (qPI f g)) ∧ (v2 ≠ 0 → (0 ≤ v1 ∧ v1 < 520 ∧ (qR w 2 qm176 65 [] [qI (s 29 v1)] s (qPI f g))))) : qR w 2 qm176 51 [(0, .ref 25), (1, qI v1), (2, qI v2), (3, qI v3)] [] s (qPI f g) := by
  refine qS_iload_n qd_176_51 rfl ?_
  obtain ⟨h52a, H1, H2⟩ := H
  refine qS_if0 qd_176_52 rfl (zcnd_ne (a := v2) (b := 0) h52a ⟨by decide, by decide⟩ (fun t => qR w _ _ t _ _ _ _) (fun hc => ?_) (fun hc => ?_))
  · have H := H1 hc; clear H1 H2 hc
    refine qS_iload_n qd_176_55 rfl ?_
    refine qS_goto qd_176_56 rfl ?_
    exact qS_sub zsub_n H
  · have H := H2 hc; clear H1 H2 hc
    refine qS_aload_n qd_176_59 rfl ?_
    refine qS_getfield (v := .ref 29) qd_176_60 (qfl_8_23 w) (hpc_25 _ _) rfl ?_
    refine qS_iload_n qd_176_63 rfl ?_
    obtain ⟨hl, hu, H⟩ := H
    refine qS_iaload (a := 29) (i := v1) qd_176_64 (Nat.le_of_ble_eq_true rfl) hl hu ?_
    exact qS_sub zsub_n H
set_option maxRecDepth 100000 in
theorem k176_109 {w : qE} {s : qS} {k0 : Int} {f : Int → qS → Prop} {g : Nat → qS → Prop}  (H : f k0 s) : qR w 2 qm176 109 [] [qI k0] s (qPI f g) := by
  exact qS_ireturn qd_176_109 rfl (Or.inl ⟨_, rfl, H⟩)
set_option maxRecDepth 100000 in
theorem k176_121 {w : qE} {s : qS} {v1 : Int} {f : Int → qS → Prop} {g : Nat → qS → Prop}  (H : (0 ≤ v1 ∧ v1 < 520 ∧ (qW w 2 178 [.ref 25, qI ((s 29 v1) + 5)] s (qPI (fun r9 s9 => qR w 2 qm176 155 [] [qI r9] s9 (qPI f g)) g)))) : qR w 2 qm176 121 [(0, .ref 25), (1, qI v1)] [] s (qPI f g) := by
  refine qS_aload_n qd_176_121 rfl ?_
  refine qS_aload_n qd_176_122 rfl ?_
  refine qS_getfield (v := .ref 29) qd_176_123 (qfl_8_23 w) (hpc_25 _ _) rfl ?_
  refine qS_iload_n qd_176_126 rfl ?_
  obtain ⟨hl, hu, H⟩ := H
  refine qS_iaload (a := 29) (i := v1) qd_176_127 (Nat.le_of_ble_eq_true rfl) hl hu ?_
  refine qS_iconst qd_176_128 ?_
  refine qS_iadd (a := s 29 v1) (b := 5) qd_176_129 ?_
  refine qS_cvI qd_176_130 (qml_8_265 w) rfl qtm_178 (hpc_25 _ _) (Nat.le_of_ble_eq_true rfl) rfl (Nat.le_of_ble_eq_true rfl) H (fun r9 s9 H => ?_) (fun x s1 H => Or.inr ⟨x, rfl, H⟩)
  refine qS_goto qd_176_133 rfl ?_
  exact qS_sub zsub_n H
set_option maxRecDepth 100000 in
theorem k176_146 {w : qE} {s : qS}  {f : Int → qS → Prop} {g : Nat → qS → Prop}  (H : qR w 2 qm176 155 [] [qI 0] s (qPI f g)) : qR w 2 qm176 146 [] [] s (qPI f g) := by
  refine qS_iconst qd_176_146 ?_
  refine qS_goto qd_176_147 rfl ?_
  exact qS_sub zsub_n H
set_option maxRecDepth 100000 in
theorem k176_155 {w : qE} {s : qS} {k0 : Int} {f : Int → qS → Prop} {g : Nat → qS → Prop}  (H : f k0 s) : qR w 2 qm176 155 [] [qI k0] s (qPI f g) := by
  exact qS_ireturn qd_176_155 rfl (Or.inl ⟨_, rfl, H⟩)
set_option maxRecDepth 100000 in
theorem k176_65 {w : qE} {s : qS} {k0 : Int} {f : Int → qS → Prop} {g : Nat → qS → Prop}  (H : f k0 s) : qR w 2 qm176 65 [] [qI k0] s (qPI f g) := by
  exact qS_ireturn qd_176_65 rfl (Or.inl ⟨_, rfl, H⟩)
set_option maxRecDepth 100000 in
theorem k177 {w : qE} {s : qS}  {f : Int → qS → Prop} {g : Nat → qS → Prop}  (H : Rg (s 25 9) ∧ (s 25 9 = 0 → qR w 0 qm177 13 [(0, .ref 25)] [qI 1, .ref 25] s (qPI f g)) ∧ (s 25 9 ≠ 0 → qR w 0 qm177 13 [(0, .ref 25)] [qI 0, .ref 25] s (qPI f g))) : qW w 1 177 [.ref 25] s (qPI f g) := by
  refine qW.of (M := qm177) (l := [(0, .ref 25)]) qtm_177 rfl (Nat.le_of_ble_eq_true rfl) (zsub_c rfl zsub_n) ?_
  refine qS_aload_n qd_177_0 rfl ?_
  refine qS_aload_n qd_177_1 rfl ?_
  refine qS_getfield (v := qI (s 25 9)) qd_177_2 (qfl_8_259 w) (hpc_25 _ _) rfl ?_
  obtain ⟨h5a, H1, H2⟩ := H
  refine qS_if0 qd_177_5 rfl (zcnd_eq (a := s 25 9) (b := 0) h5a ⟨by decide, by decide⟩ (fun t => qR w _ _ t _ _ _ _) (fun hc => ?_) (fun hc => ?_))
  · have H := H1 hc; clear H1 H2 hc
    refine qS_iconst qd_177_12 ?_
    exact qS_sub (zsub_c rfl zsub_n) H
  · have H := H2 hc; clear H1 H2 hc
    refine qS_iconst qd_177_8 ?_
    refine qS_goto qd_177_9 rfl ?_
    exact qS_sub (zsub_c rfl zsub_n) H
set_option maxRecDepth 100000 in
theorem k177_13 {w : qE} {s : qS} {k1 : Int} {f : Int → qS → Prop} {g : Nat → qS → Prop}  (H : ((s 25 9 = 0 ∨ s 25 9 = 1) ∧ f (s 25 9) (qset s 25 7 k1))) : qR w 0 qm177 13 [(0, .ref 25)] [qI k1, .ref 25] s (qPI f g) := by
  refine qS_putfield (s1 := qset s 25 7 k1) qd_177_13 (qfl_8_60 w) (hpc_25 _ _) (Nat.le_of_ble_eq_true rfl) rfl rfl rfl (hps_25_7 _ _ _) ?_
  refine qS_aload_n qd_177_16 rfl ?_
  refine qS_getfield (v := qI (s 25 9)) qd_177_17 (qfl_8_259 w) (hpc_25 _ _) rfl ?_
  exact qS_zreturn qd_177_20 rfl H.1 (Or.inl ⟨_, rfl, H.2⟩)
set_option maxRecDepth 100000 in
theorem k178 {w : qE} {s : qS} {p0 : Int} {f : Int → qS → Prop} {g : Nat → qS → Prop}  (H : qW w 1 142 [.ref 25, qI p0] s (qPI (fun r1 s1 => qW w 1 142 [.ref 25, qI (p0 + 2)] s1 (qPI (fun r2 s2 => f (qor (qshl r1 16) r2) s2) g)) g)) : qW w 2 178 [.ref 25, qI p0] s (qPI f g) := by
  refine qW.of (M := qm178) (l := [(0, .ref 25), (1, qI p0)]) qtm_178 rfl (Nat.le_of_ble_eq_true rfl) (zsub_c rfl (zsub_c rfl zsub_n)) ?_
  refine qS_aload_n qd_178_0 rfl ?_
  refine qS_iload_n qd_178_1 rfl ?_
  refine qS_cvI qd_178_2 (qml_8_91 w) rfl qtm_142 (hpc_25 _ _) (Nat.le_of_ble_eq_true rfl) rfl (Nat.le_of_ble_eq_true rfl) H (fun r1 s1 H => ?_) (fun x s1 H => Or.inr ⟨x, rfl, H⟩)
  refine qS_bipush qd_178_5 (by decide) ?_
  refine qS_ishl (a := r1) (b := 16) qd_178_7 ?_
  refine qS_aload_n qd_178_8 rfl ?_
  refine qS_iload_n qd_178_9 rfl ?_
  refine qS_iconst qd_178_10 ?_
  refine qS_iadd (a := p0) (b := 2) qd_178_11 ?_
  refine qS_cvI qd_178_12 (qml_8_91 w) rfl qtm_142 (hpc_25 _ _) (Nat.le_of_ble_eq_true rfl) rfl (Nat.le_of_ble_eq_true rfl) H (fun r2 s2 H => ?_) (fun x s1 H => Or.inr ⟨x, rfl, H⟩)
  refine qS_ior (a := qshl r1 16) (b := r2) qd_178_15 ?_
  exact qS_ireturn qd_178_16 rfl (Or.inl ⟨_, rfl, H⟩)
set_option maxRecDepth 100000 in
theorem k179 {w : qE} {s : qS} {p0 : Int} {f : UInt64 → qS → Prop} {g : Nat → qS → Prop}  (H : qW w 1 177 [.ref 25] s (qPI (fun r1 s1 => Rg r1 ∧ (r1 = 0 → f (FP.dconst0) s1) ∧ (r1 ≠ 0 → qW w 2 139 [.ref 25, qI p0] s1 (qPI (fun r2 s2 => qW w 1 125 [qI r2, qI 3, qI 6] s2 (qPI (fun r3 s3 => Rg r3 ∧ (r3 = 0 → f ((13830554455654793216 : UInt64)) s3) ∧ (r3 ≠ 0 → (0 ≤ p0 ∧ p0 < 520 ∧ (qW w 2 178 [.ref 25, qI ((s3 29 p0) + 1)] s3 (qPI (fun r4 s4 => Rg r2 ∧ (r2 = 3 → f (FP.i2d (Int32.ofInt r4)) s4) ∧ (r2 ≠ 3 → (r2 = 4 → Rg (qand (qshr r4 23) 255) ∧ (qand (qshr r4 23) 255 = 255 → qR w 2 qm179 85 [(3, qI r4), (4, qI (qand (qshr r4 23) 255)), (5, qI (qand r4 8388607))] [] (qset s4 25 7 2) (qPD f g)) ∧ (qand (qshr r4 23) 255 ≠ 255 → qR w 2 qm179 85 [(3, qI r4), (4, qI (qand (qshr r4 23) 255)), (5, qI (qand r4 8388607))] [] s4 (qPD f g))) ∧ (r2 ≠ 4 → (0 ≤ p0 ∧ p0 < 520 ∧ (qW w 2 178 [.ref 25, qI ((s4 29 p0) + 5)] s4 (qPI (fun r5 s5 => (r2 = 5 → f (FP.l2d ((((Int32.ofInt r4).toInt64) <<< ((Int32.ofInt 32).toInt64 &&& 63)) ||| (((Int32.ofInt r5).toInt64) &&& ((4294967295 : Int64))))) s5) ∧ (r2 ≠ 5 → Rg (qand (((Int64.toInt32 (((((Int32.ofInt r4).toInt64) <<< ((Int32.ofInt 32).toInt64 &&& 63)) ||| (((Int32.ofInt r5).toInt64) &&& ((4294967295 : Int64)))) >>> ((Int32.ofInt 52).toInt64 &&& 63)))).toInt) 2047) ∧ (qand (((Int64.toInt32 (((((Int32.ofInt r4).toInt64) <<< ((Int32.ofInt 32).toInt64 &&& 63)) ||| (((Int32.ofInt r5).toInt64) &&& ((4294967295 : Int64)))) >>> ((Int32.ofInt 52).toInt64 &&& 63)))).toInt) 2047 = 2047 → qR w 2 qm179 215 [(4, .long ((((Int32.ofInt r4).toInt64) <<< ((Int32.ofInt 32).toInt64 &&& 63)) ||| (((Int32.ofInt r5).toInt64) &&& ((4294967295 : Int64))))), (6, qI (qand (((Int64.toInt32 (((((Int32.ofInt r4).toInt64) <<< ((Int32.ofInt 32).toInt64 &&& 63)) ||| (((Int32.ofInt r5).toInt64) &&& ((4294967295 : Int64)))) >>> ((Int32.ofInt 52).toInt64 &&& 63)))).toInt) 2047)), (7, .long (((((Int32.ofInt r4).toInt64) <<< ((Int32.ofInt 32).toInt64 &&& 63)) ||| (((Int32.ofInt r5).toInt64) &&& ((4294967295 : Int64)))) &&& ((4503599627370495 : Int64))))] [] (qset s5 25 7 2) (qPD f g)) ∧ (qand (((Int64.toInt32 (((((Int32.ofInt r4).toInt64) <<< ((Int32.ofInt 32).toInt64 &&& 63)) ||| (((Int32.ofInt r5).toInt64) &&& ((4294967295 : Int64)))) >>> ((Int32.ofInt 52).toInt64 &&& 63)))).toInt) 2047 ≠ 2047 → qR w 2 qm179 215 [(4, .long ((((Int32.ofInt r4).toInt64) <<< ((Int32.ofInt 32).toInt64 &&& 63)) ||| (((Int32.ofInt r5).toInt64) &&& ((4294967295 : Int64))))), (6, qI (qand (((Int64.toInt32 (((((Int32.ofInt r4).toInt64) <<< ((Int32.ofInt 32).toInt64 &&& 63)) ||| (((Int32.ofInt r5).toInt64) &&& ((4294967295 : Int64)))) >>> ((Int32.ofInt 52).toInt64 &&& 63)))).toInt) 2047)), (7, .long (((((Int32.ofInt r4).toInt64) <<< ((Int32.ofInt 32).toInt64 &&& 63)) ||| (((Int32.ofInt r5).toInt64) &&& ((4294967295 : Int64)))) &&& ((4503599627370495 : Int64))))] [] s5 (qPD f g)))) g)))))) g))))) g)) g))) g)) : qW w 3 179 [.ref 25, qI p0] s (qPD f g) := by
  refine qW.of (M := qm179) (l := [(0, .ref 25), (1, qI p0)]) qtm_179 rfl (Nat.le_of_ble_eq_true rfl) (zsub_c rfl (zsub_c rfl zsub_n)) ?_
  refine qS_aload_n qd_179_0 rfl ?_
  refine qS_cvI qd_179_1 (qml_8_262 w) rfl qtm_177 (hpc_25 _ _) (Nat.le_of_ble_eq_true rfl) rfl (Nat.le_of_ble_eq_true rfl) H (fun r1 s1 H => ?_) (fun x s1 H => Or.inr ⟨x, rfl, H⟩)
  obtain ⟨h4a, H1, H2⟩ := H
  refine qS_if0 qd_179_4 rfl (zcnd_ne (a := r1) (b := 0) h4a ⟨by decide, by decide⟩ (fun t => qR w _ _ t _ _ _ _) (fun hc => ?_) (fun hc => ?_))
  · have H := H1 hc; clear H1 H2 hc
    refine qS_dconst qd_179_7 ?_
    exact qS_dreturn qd_179_8 rfl (Or.inl ⟨_, rfl, H⟩)
  · have H := H2 hc; clear H1 H2 hc
    refine qS_aload_n qd_179_9 rfl ?_
    refine qS_iload_n qd_179_10 rfl ?_
    refine qS_cvI qd_179_11 (qml_8_137 w) rfl qtm_139 (hpc_25 _ _) (Nat.le_of_ble_eq_true rfl) rfl (Nat.le_of_ble_eq_true rfl) H (fun r2 s2 H => ?_) (fun x s1 H => Or.inr ⟨x, rfl, H⟩)
    refine qS_istore_n (a := [(0, .ref 25), (1, qI p0)]) qd_179_14 (Nat.le_of_ble_eq_true rfl) (zsub_c rfl (zsub_c rfl zsub_n)) rfl ?_
    refine qS_iload_n qd_179_15 rfl ?_
    refine qS_iconst qd_179_16 ?_
    refine qS_bipush qd_179_17 (by decide) ?_
    refine qS_csI qd_179_19 (qml_8_63 w) rfl (Nat.le_of_ble_eq_true rfl) rfl (Nat.le_of_ble_eq_true rfl) H (fun r3 s3 H => ?_) (fun x s1 H => Or.inr ⟨x, rfl, H⟩)
    obtain ⟨h22a, H1, H2⟩ := H
    refine qS_if0 qd_179_22 rfl (zcnd_ne (a := r3) (b := 0) h22a ⟨by decide, by decide⟩ (fun t => qR w _ _ t _ _ _ _) (fun hc => ?_) (fun hc => ?_))
    · have H := H1 hc; clear H1 H2 hc
      refine qS_ldc (v := .double ((13830554455654793216 : UInt64))) qd_179_25 rfl rfl (fun _ => rfl) (fun _ => qS_k3 (qkl_8_270 w)) ?_
      exact qS_dreturn qd_179_28 rfl (Or.inl ⟨_, rfl, H⟩)
    · have H := H2 hc; clear H1 H2 hc
      refine qS_aload_n qd_179_29 rfl ?_
      refine qS_aload_n qd_179_30 rfl ?_
      refine qS_getfield (v := .ref 29) qd_179_31 (qfl_8_23 w) (hpc_25 _ _) rfl ?_
      refine qS_iload_n qd_179_34 rfl ?_
      obtain ⟨hl, hu, H⟩ := H
      refine qS_iaload (a := 29) (i := p0) qd_179_35 (Nat.le_of_ble_eq_true rfl) hl hu ?_
      refine qS_iconst qd_179_36 ?_
      refine qS_iadd (a := s3 29 p0) (b := 1) qd_179_37 ?_
      refine qS_cvI qd_179_38 (qml_8_265 w) rfl qtm_178 (hpc_25 _ _) (Nat.le_of_ble_eq_true rfl) rfl (Nat.le_of_ble_eq_true rfl) H (fun r4 s4 H => ?_) (fun x s1 H => Or.inr ⟨x, rfl, H⟩)
      refine qS_istore_n (a := [(2, qI r2), (0, .ref 25), (1, qI p0)]) qd_179_41 (Nat.le_of_ble_eq_true rfl) (zsub_c rfl (zsub_c rfl (zsub_c rfl zsub_n))) rfl ?_
      refine qS_iload_n qd_179_42 rfl ?_
      refine qS_iconst qd_179_43 ?_
      obtain ⟨h44a, H1, H2⟩ := H
      refine qS_icmp qd_179_44 rfl (zcnd_ne (a := r2) (b := 3) h44a ⟨by decide, by decide⟩ (fun t => qR w _ _ t _ _ _ _) (fun hc => ?_) (fun hc => ?_))
      · have H := H1 hc; clear H1 H2 hc
        refine qS_iload_n qd_179_47 rfl ?_
        refine qS_p1 (u := .double (FP.i2d (Int32.ofInt r4))) qd_179_48 rfl rfl (fun _ => rfl) ?_
        exact qS_dreturn qd_179_49 rfl (Or.inl ⟨_, rfl, H⟩)
      · have H := H2 hc; clear H1 H2 hc
        refine qS_iload_n qd_179_50 rfl ?_
        refine qS_iconst qd_179_51 ?_
        obtain ⟨H1, H2⟩ := H
        refine qS_icmp qd_179_52 rfl (zcnd_ne (a := r2) (b := 4) h44a ⟨by decide, by decide⟩ (fun t => qR w _ _ t _ _ _ _) (fun hc => ?_) (fun hc => ?_))
        · have H := H1 hc; clear H1 H2 hc
          refine qS_iload_n qd_179_55 rfl ?_
          refine qS_bipush qd_179_56 (by decide) ?_
          refine qS_ishr (a := r4) (b := 23) qd_179_58 ?_
          refine qS_sipush qd_179_59 (by decide) ?_
          refine qS_iand (a := qshr r4 23) (b := 255) qd_179_62 ?_
          refine qS_istore (a := [(3, qI r4), (0, .ref 25)]) qd_179_63 (Nat.le_of_ble_eq_true rfl) (zsub_c rfl (zsub_c rfl zsub_n)) rfl ?_
          refine qS_iload_n qd_179_65 rfl ?_
          refine qS_ldc (v := qI 8388607) qd_179_66 rfl rfl (fun _ => rfl) (fun _ => qS_k (qkl_8_272 w)) ?_
          refine qS_iand (a := r4) (b := 8388607) qd_179_69 ?_
          refine qS_istore (a := [(4, qI (qand (qshr r4 23) 255)), (3, qI r4), (0, .ref 25)]) qd_179_70 (Nat.le_of_ble_eq_true rfl) (zsub_c rfl (zsub_c rfl (zsub_c rfl zsub_n))) rfl ?_
          refine qS_iload qd_179_72 rfl ?_
          refine qS_sipush qd_179_74 (by decide) ?_
          obtain ⟨h77a, H1, H2⟩ := H
          refine qS_icmp qd_179_77 rfl (zcnd_ne (a := qand (qshr r4 23) 255) (b := 255) h77a ⟨by decide, by decide⟩ (fun t => qR w _ _ t _ _ _ _) (fun hc => ?_) (fun hc => ?_))
          · have H := H1 hc; clear H1 H2 hc
            refine qS_aload_n qd_179_80 rfl ?_
            refine qS_iconst qd_179_81 ?_
            refine qS_putfield (s1 := qset s4 25 7 2) qd_179_82 (qfl_8_60 w) (hpc_25 _ _) (Nat.le_of_ble_eq_true rfl) rfl rfl rfl (hps_25_7 _ _ _) ?_
            exact qS_sub (zsub_c rfl (zsub_c rfl (zsub_c rfl zsub_n))) H
          · have H := H2 hc; clear H1 H2 hc
            exact qS_sub (zsub_c rfl (zsub_c rfl (zsub_c rfl zsub_n))) H
        · have H := H2 hc; clear H1 H2 hc
          refine qS_iload_n qd_179_148 rfl ?_
          refine qS_p1 (u := .long ((Int32.ofInt r4).toInt64)) qd_179_149 rfl rfl (fun _ => rfl) ?_
          refine qS_bipush qd_179_150 (by decide) ?_
          refine qS_p2 (u := .long (((Int32.ofInt r4).toInt64) <<< ((Int32.ofInt 32).toInt64 &&& 63))) qd_179_152 rfl rfl (fun _ => rfl) ?_
          refine qS_aload_n qd_179_153 rfl ?_
          refine qS_aload_n qd_179_154 rfl ?_
          refine qS_getfield (v := .ref 29) qd_179_155 (qfl_8_23 w) (hpc_25 _ _) rfl ?_
          refine qS_iload_n qd_179_158 rfl ?_
          obtain ⟨hl, hu, H⟩ := H
          refine qS_iaload (a := 29) (i := p0) qd_179_159 (Nat.le_of_ble_eq_true rfl) hl hu ?_
          refine qS_iconst qd_179_160 ?_
          refine qS_iadd (a := s4 29 p0) (b := 5) qd_179_161 ?_
          refine qS_cvI qd_179_162 (qml_8_265 w) rfl qtm_178 (hpc_25 _ _) (Nat.le_of_ble_eq_true rfl) rfl (Nat.le_of_ble_eq_true rfl) H (fun r5 s5 H => ?_) (fun x s1 H => Or.inr ⟨x, rfl, H⟩)
          refine qS_p1 (u := .long ((Int32.ofInt r5).toInt64)) qd_179_165 rfl rfl (fun _ => rfl) ?_
          refine qS_ldc (v := .long ((4294967295 : Int64))) qd_179_166 rfl rfl (fun _ => rfl) (fun _ => qS_k2 (qkl_8_278 w)) ?_
          refine qS_p2 (u := .long (((Int32.ofInt r5).toInt64) &&& ((4294967295 : Int64)))) qd_179_169 rfl rfl (fun _ => rfl) ?_
          refine qS_p2 (u := .long ((((Int32.ofInt r4).toInt64) <<< ((Int32.ofInt 32).toInt64 &&& 63)) ||| (((Int32.ofInt r5).toInt64) &&& ((4294967295 : Int64))))) qd_179_170 rfl rfl (fun _ => rfl) ?_
          refine qS_lstore (a := [(2, qI r2), (0, .ref 25)]) qd_179_171 (Nat.le_of_ble_eq_true rfl) (zsub_c rfl (zsub_c rfl zsub_n)) rfl ?_
          refine qS_iload_n qd_179_173 rfl ?_
          refine qS_iconst qd_179_174 ?_
          obtain ⟨H1, H2⟩ := H
          refine qS_icmp qd_179_175 rfl (zcnd_ne (a := r2) (b := 5) h44a ⟨by decide, by decide⟩ (fun t => qR w _ _ t _ _ _ _) (fun hc => ?_) (fun hc => ?_))
          · have H := H1 hc; clear H1 H2 hc
            refine qS_lload qd_179_178 rfl ?_
            refine qS_p1 (u := .double (FP.l2d ((((Int32.ofInt r4).toInt64) <<< ((Int32.ofInt 32).toInt64 &&& 63)) ||| (((Int32.ofInt r5).toInt64) &&& ((4294967295 : Int64)))))) qd_179_180 rfl rfl (fun _ => rfl) ?_
            exact qS_dreturn qd_179_181 rfl (Or.inl ⟨_, rfl, H⟩)
          · have H := H2 hc; clear H1 H2 hc
            refine qS_lload qd_179_182 rfl ?_
            refine qS_bipush qd_179_184 (by decide) ?_
            refine qS_p2 (u := .long (((((Int32.ofInt r4).toInt64) <<< ((Int32.ofInt 32).toInt64 &&& 63)) ||| (((Int32.ofInt r5).toInt64) &&& ((4294967295 : Int64)))) >>> ((Int32.ofInt 52).toInt64 &&& 63))) qd_179_186 rfl rfl (fun _ => rfl) ?_
            refine qS_p1 (u := qI (((Int64.toInt32 (((((Int32.ofInt r4).toInt64) <<< ((Int32.ofInt 32).toInt64 &&& 63)) ||| (((Int32.ofInt r5).toInt64) &&& ((4294967295 : Int64)))) >>> ((Int32.ofInt 52).toInt64 &&& 63)))).toInt)) qd_179_187 rfl rfl (fun _ => by simp only [qI, qi_of]; rfl) ?_
            refine qS_sipush qd_179_188 (by decide) ?_
            refine qS_iand (a := ((Int64.toInt32 (((((Int32.ofInt r4).toInt64) <<< ((Int32.ofInt 32).toInt64 &&& 63)) ||| (((Int32.ofInt r5).toInt64) &&& ((4294967295 : Int64)))) >>> ((Int32.ofInt 52).toInt64 &&& 63)))).toInt) (b := 2047) qd_179_191 ?_
            refine qS_istore (a := [(4, .long ((((Int32.ofInt r4).toInt64) <<< ((Int32.ofInt 32).toInt64 &&& 63)) ||| (((Int32.ofInt r5).toInt64) &&& ((4294967295 : Int64))))), (0, .ref 25)]) qd_179_192 (Nat.le_of_ble_eq_true rfl) (zsub_c rfl (zsub_c rfl zsub_n)) rfl ?_
            refine qS_lload qd_179_194 rfl ?_
            refine qS_ldc (v := .long ((4503599627370495 : Int64))) qd_179_196 rfl rfl (fun _ => rfl) (fun _ => qS_k2 (qkl_8_280 w)) ?_
            refine qS_p2 (u := .long (((((Int32.ofInt r4).toInt64) <<< ((Int32.ofInt 32).toInt64 &&& 63)) ||| (((Int32.ofInt r5).toInt64) &&& ((4294967295 : Int64)))) &&& ((4503599627370495 : Int64)))) qd_179_199 rfl rfl (fun _ => rfl) ?_
            refine qS_lstore (a := [(6, qI (qand (((Int64.toInt32 (((((Int32.ofInt r4).toInt64) <<< ((Int32.ofInt 32).toInt64 &&& 63)) ||| (((Int32.ofInt r5).toInt64) &&& ((4294967295 : Int64)))) >>> ((Int32.ofInt 52).toInt64 &&& 63)))).toInt) 2047)), (4, .long ((((Int32.ofInt r4).toInt64) <<< ((Int32.ofInt 32).toInt64 &&& 63)) ||| (((Int32.ofInt r5).toInt64) &&& ((4294967295 : Int64))))), (0, .ref 25)]) qd_179_200 (Nat.le_of_ble_eq_true rfl) (zsub_c rfl (zsub_c rfl (zsub_c rfl zsub_n))) rfl ?_
            refine qS_iload qd_179_202 rfl ?_
            refine qS_sipush qd_179_204 (by decide) ?_
            obtain ⟨h207a, H1, H2⟩ := H
            refine qS_icmp qd_179_207 rfl (zcnd_ne (a := qand (((Int64.toInt32 (((((Int32.ofInt r4).toInt64) <<< ((Int32.ofInt 32).toInt64 &&& 63)) ||| (((Int32.ofInt r5).toInt64) &&& ((4294967295 : Int64)))) >>> ((Int32.ofInt 52).toInt64 &&& 63)))).toInt) 2047) (b := 2047) h207a ⟨by decide, by decide⟩ (fun t => qR w _ _ t _ _ _ _) (fun hc => ?_) (fun hc => ?_))
            · have H := H1 hc; clear H1 H2 hc
              refine qS_aload_n qd_179_210 rfl ?_
              refine qS_iconst qd_179_211 ?_
              refine qS_putfield (s1 := qset s5 25 7 2) qd_179_212 (qfl_8_60 w) (hpc_25 _ _) (Nat.le_of_ble_eq_true rfl) rfl rfl rfl (hps_25_7 _ _ _) ?_
              exact qS_sub (zsub_c rfl (zsub_c rfl (zsub_c rfl zsub_n))) H
            · have H := H2 hc; clear H1 H2 hc
              exact qS_sub (zsub_c rfl (zsub_c rfl (zsub_c rfl zsub_n))) H
set_option maxRecDepth 100000 in
theorem k179_85 {w : qE} {s : qS} {v3 : Int} {v4 : Int} {v5 : Int} {f : UInt64 → qS → Prop} {g : Nat → qS → Prop}  (H : Rg v4 ∧ (v4 = 255 → qR w 2 qm179 133 [(3, qI v3)] [.double (FP.dconst0)] s (qPD f g)) ∧ (v4 ≠ 255 → (v4 = 0 → qR w 2 qm179 115 [(3, qI v3), (4, qI v4)] [.long ((Int32.ofInt v5).toInt64)] s (qPD f g)) ∧ (v4 ≠ 0 → qR w 2 qm179 115 [(3, qI v3), (4, qI v4)] [.long ((Int32.ofInt (qor v5 8388608)).toInt64)] s (qPD f g)))) : qR w 2 qm179 85 [(3, qI v3), (4, qI v4), (5, qI v5)] [] s (qPD f g) := by
  refine qS_iload qd_179_85 rfl ?_
  refine qS_sipush qd_179_87 (by decide) ?_
  obtain ⟨h90a, H1, H2⟩ := H
  refine qS_icmp qd_179_90 rfl (zcnd_ne (a := v4) (b := 255) h90a ⟨by decide, by decide⟩ (fun t => qR w _ _ t _ _ _ _) (fun hc => ?_) (fun hc => ?_))
  · have H := H1 hc; clear H1 H2 hc
    refine qS_dconst qd_179_93 ?_
    refine qS_goto qd_179_94 rfl ?_
    exact qS_sub (zsub_c rfl zsub_n) H
  · have H := H2 hc; clear H1 H2 hc
    refine qS_iload qd_179_97 rfl ?_
    obtain ⟨H1, H2⟩ := H
    refine qS_if0 qd_179_99 rfl (zcnd_ne (a := v4) (b := 0) h90a ⟨by decide, by decide⟩ (fun t => qR w _ _ t _ _ _ _) (fun hc => ?_) (fun hc => ?_))
    · have H := H1 hc; clear H1 H2 hc
      refine qS_iload qd_179_102 rfl ?_
      refine qS_p1 (u := .long ((Int32.ofInt v5).toInt64)) qd_179_104 rfl rfl (fun _ => rfl) ?_
      refine qS_goto qd_179_105 rfl ?_
      exact qS_sub (zsub_c rfl (zsub_c rfl zsub_n)) H
    · have H := H2 hc; clear H1 H2 hc
      refine qS_iload qd_179_108 rfl ?_
      refine qS_ldc (v := qI 8388608) qd_179_110 rfl rfl (fun _ => rfl) (fun _ => qS_k (qkl_8_273 w)) ?_
      refine qS_ior (a := v5) (b := 8388608) qd_179_113 ?_
      refine qS_p1 (u := .long ((Int32.ofInt (qor v5 8388608)).toInt64)) qd_179_114 rfl rfl (fun _ => rfl) ?_
      exact qS_sub (zsub_c rfl (zsub_c rfl zsub_n)) H
set_option maxRecDepth 100000 in
theorem k179_215 {w : qE} {s : qS} {v4 : Int64} {v6 : Int} {v7 : Int64} {f : UInt64 → qS → Prop} {g : Nat → qS → Prop}  (H : Rg v6 ∧ (v6 = 2047 → qR w 2 qm179 261 [(4, .long v4)] [.double (FP.dconst0)] s (qPD f g)) ∧ (v6 ≠ 2047 → (v6 = 0 → qR w 2 qm179 243 [(4, .long v4), (6, qI v6)] [.long v7] s (qPD f g)) ∧ (v6 ≠ 0 → qR w 2 qm179 243 [(4, .long v4), (6, qI v6)] [.long (v7 ||| ((4503599627370496 : Int64)))] s (qPD f g)))) : qR w 2 qm179 215 [(4, .long v4), (6, qI v6), (7, .long v7)] [] s (qPD f g) := by
  refine qS_iload qd_179_215 rfl ?_
  refine qS_sipush qd_179_217 (by decide) ?_
  obtain ⟨h220a, H1, H2⟩ := H
  refine qS_icmp qd_179_220 rfl (zcnd_ne (a := v6) (b := 2047) h220a ⟨by decide, by decide⟩ (fun t => qR w _ _ t _ _ _ _) (fun hc => ?_) (fun hc => ?_))
  · have H := H1 hc; clear H1 H2 hc
    refine qS_dconst qd_179_223 ?_
    refine qS_goto qd_179_224 rfl ?_
    exact qS_sub (zsub_c rfl zsub_n) H
  · have H := H2 hc; clear H1 H2 hc
    refine qS_iload qd_179_227 rfl ?_
    obtain ⟨H1, H2⟩ := H
    refine qS_if0 qd_179_229 rfl (zcnd_ne (a := v6) (b := 0) h220a ⟨by decide, by decide⟩ (fun t => qR w _ _ t _ _ _ _) (fun hc => ?_) (fun hc => ?_))
    · have H := H1 hc; clear H1 H2 hc
      refine qS_lload qd_179_232 rfl ?_
      refine qS_goto qd_179_234 rfl ?_
      exact qS_sub (zsub_c rfl (zsub_c rfl zsub_n)) H
    · have H := H2 hc; clear H1 H2 hc
      refine qS_lload qd_179_237 rfl ?_
      refine qS_ldc (v := .long ((4503599627370496 : Int64))) qd_179_239 rfl rfl (fun _ => rfl) (fun _ => qS_k2 (qkl_8_282 w)) ?_
      refine qS_p2 (u := .long (v7 ||| ((4503599627370496 : Int64)))) qd_179_242 rfl rfl (fun _ => rfl) ?_
      exact qS_sub (zsub_c rfl (zsub_c rfl zsub_n)) H
set_option maxRecDepth 100000 in
theorem k179_115 {w : qE} {s : qS} {v3 : Int} {v4 : Int} {k0 : Int64} {f : UInt64 → qS → Prop} {g : Nat → qS → Prop}  (H : Rg v4 ∧ (v4 = 0 → qR w 2 qm179 126 [(3, qI v3)] [qI 1, .long k0] s (qPD f g)) ∧ (v4 ≠ 0 → qR w 2 qm179 126 [(3, qI v3)] [qI v4, .long k0] s (qPD f g))) : qR w 2 qm179 115 [(3, qI v3), (4, qI v4)] [.long k0] s (qPD f g) := by
  refine qS_iload qd_179_115 rfl ?_
  obtain ⟨h117a, H1, H2⟩ := H
  refine qS_if0 qd_179_117 rfl (zcnd_ne (a := v4) (b := 0) h117a ⟨by decide, by decide⟩ (fun t => qR w _ _ t _ _ _ _) (fun hc => ?_) (fun hc => ?_))
  · have H := H1 hc; clear H1 H2 hc
    refine qS_iconst qd_179_120 ?_
    refine qS_goto qd_179_121 rfl ?_
    exact qS_sub (zsub_c rfl zsub_n) H
  · have H := H2 hc; clear H1 H2 hc
    refine qS_iload qd_179_124 rfl ?_
    exact qS_sub (zsub_c rfl zsub_n) H
set_option maxRecDepth 100000 in
theorem k179_133 {w : qE} {s : qS} {v3 : Int} {k0 : UInt64} {f : UInt64 → qS → Prop} {g : Nat → qS → Prop}  (H : Rg v3 ∧ (v3 < 0 → qR w 2 qm179 147 [] [.double (FP.dneg k0)] s (qPD f g)) ∧ (0 ≤ v3 → qR w 2 qm179 147 [] [.double k0] s (qPD f g))) : qR w 2 qm179 133 [(3, qI v3)] [.double k0] s (qPD f g) := by
  refine qS_dstore (a := [(3, qI v3)]) qd_179_133 (Nat.le_of_ble_eq_true rfl) (zsub_c rfl zsub_n) rfl ?_
  refine qS_iload_n qd_179_135 rfl ?_
  obtain ⟨h136a, H1, H2⟩ := H
  refine qS_if0 qd_179_136 rfl (zcnd_ge (a := v3) (b := 0) h136a ⟨by decide, by decide⟩ (fun t => qR w _ _ t _ _ _ _) (fun hc => ?_) (fun hc => ?_))
  · have H := H1 hc; clear H1 H2 hc
    refine qS_dload qd_179_139 rfl ?_
    refine qS_p1 (u := .double (FP.dneg k0)) qd_179_141 rfl rfl (fun _ => rfl) ?_
    refine qS_goto qd_179_142 rfl ?_
    exact qS_sub zsub_n H
  · have H := H2 hc; clear H1 H2 hc
    refine qS_dload qd_179_145 rfl ?_
    exact qS_sub zsub_n H
set_option maxRecDepth 100000 in
theorem k179_243 {w : qE} {s : qS} {v4 : Int64} {v6 : Int} {k0 : Int64} {f : UInt64 → qS → Prop} {g : Nat → qS → Prop}  (H : Rg v6 ∧ (v6 = 0 → qR w 2 qm179 254 [(4, .long v4)] [qI 1, .long k0] s (qPD f g)) ∧ (v6 ≠ 0 → qR w 2 qm179 254 [(4, .long v4)] [qI v6, .long k0] s (qPD f g))) : qR w 2 qm179 243 [(4, .long v4), (6, qI v6)] [.long k0] s (qPD f g) := by
  refine qS_iload qd_179_243 rfl ?_
  obtain ⟨h245a, H1, H2⟩ := H
  refine qS_if0 qd_179_245 rfl (zcnd_ne (a := v6) (b := 0) h245a ⟨by decide, by decide⟩ (fun t => qR w _ _ t _ _ _ _) (fun hc => ?_) (fun hc => ?_))
  · have H := H1 hc; clear H1 H2 hc
    refine qS_iconst qd_179_248 ?_
    refine qS_goto qd_179_249 rfl ?_
    exact qS_sub (zsub_c rfl zsub_n) H
  · have H := H2 hc; clear H1 H2 hc
    refine qS_iload qd_179_252 rfl ?_
    exact qS_sub (zsub_c rfl zsub_n) H
set_option maxRecDepth 100000 in
theorem k179_261 {w : qE} {s : qS} {v4 : Int64} {k0 : UInt64} {f : UInt64 → qS → Prop} {g : Nat → qS → Prop}  (H : Rg (((lg_cmp v4 ((0 : Int64)))).toInt) ∧ (((lg_cmp v4 ((0 : Int64)))).toInt < 0 → qR w 2 qm179 278 [] [.double (FP.dneg k0)] s (qPD f g)) ∧ (0 ≤ ((lg_cmp v4 ((0 : Int64)))).toInt → qR w 2 qm179 278 [] [.double k0] s (qPD f g))) : qR w 2 qm179 261 [(4, .long v4)] [.double k0] s (qPD f g) := by
  refine qS_dstore (a := [(4, .long v4)]) qd_179_261 (Nat.le_of_ble_eq_true rfl) (zsub_c rfl zsub_n) rfl ?_
  refine qS_lload qd_179_263 rfl ?_
  refine qS_lconst (v := 0) qd_179_265 rfl ?_
  refine qS_p2 (u := qI (((lg_cmp v4 ((0 : Int64)))).toInt)) qd_179_266 rfl rfl (fun _ => by simp only [qI, qi_of]; rfl) ?_
  obtain ⟨h267a, H1, H2⟩ := H
  refine qS_if0 qd_179_267 rfl (zcnd_ge (a := ((lg_cmp v4 ((0 : Int64)))).toInt) (b := 0) h267a ⟨by decide, by decide⟩ (fun t => qR w _ _ t _ _ _ _) (fun hc => ?_) (fun hc => ?_))
  · have H := H1 hc; clear H1 H2 hc
    refine qS_dload qd_179_270 rfl ?_
    refine qS_p1 (u := .double (FP.dneg k0)) qd_179_272 rfl rfl (fun _ => rfl) ?_
    refine qS_goto qd_179_273 rfl ?_
    exact qS_sub zsub_n H
  · have H := H2 hc; clear H1 H2 hc
    refine qS_dload qd_179_276 rfl ?_
    exact qS_sub zsub_n H
set_option maxRecDepth 100000 in
theorem k179_126 {w : qE} {s : qS} {v3 : Int} {k1 : Int} {k0 : Int64} {f : UInt64 → qS → Prop} {g : Nat → qS → Prop}  (H : qW w 1 180 [.long k0, qI (k1 - 150)] s (qPD (fun r6 s6 => qR w 2 qm179 133 [(3, qI v3)] [.double r6] s6 (qPD f g)) g)) : qR w 2 qm179 126 [(3, qI v3)] [qI k1, .long k0] s (qPD f g) := by
  refine qS_sipush qd_179_126 (by decide) ?_
  refine qS_isub (a := k1) (b := 150) qd_179_129 ?_
  refine qS_csD qd_179_130 (qml_8_274 w) rfl (Nat.le_of_ble_eq_true rfl) rfl (Nat.le_of_ble_eq_true rfl) H (fun r6 s6 H => ?_) (fun x s1 H => Or.inr ⟨x, rfl, H⟩)
  exact qS_sub (zsub_c rfl zsub_n) H
set_option maxRecDepth 100000 in
theorem k179_147 {w : qE} {s : qS} {k0 : UInt64} {f : UInt64 → qS → Prop} {g : Nat → qS → Prop}  (H : f k0 s) : qR w 2 qm179 147 [] [.double k0] s (qPD f g) := by
  exact qS_dreturn qd_179_147 rfl (Or.inl ⟨_, rfl, H⟩)
set_option maxRecDepth 100000 in
theorem k179_254 {w : qE} {s : qS} {v4 : Int64} {k1 : Int} {k0 : Int64} {f : UInt64 → qS → Prop} {g : Nat → qS → Prop}  (H : qW w 1 180 [.long k0, qI (k1 - 1075)] s (qPD (fun r7 s7 => qR w 2 qm179 261 [(4, .long v4)] [.double r7] s7 (qPD f g)) g)) : qR w 2 qm179 254 [(4, .long v4)] [qI k1, .long k0] s (qPD f g) := by
  refine qS_sipush qd_179_254 (by decide) ?_
  refine qS_isub (a := k1) (b := 1075) qd_179_257 ?_
  refine qS_csD qd_179_258 (qml_8_274 w) rfl (Nat.le_of_ble_eq_true rfl) rfl (Nat.le_of_ble_eq_true rfl) H (fun r7 s7 H => ?_) (fun x s1 H => Or.inr ⟨x, rfl, H⟩)
  exact qS_sub (zsub_c rfl zsub_n) H
set_option maxRecDepth 100000 in
theorem k179_278 {w : qE} {s : qS} {k0 : UInt64} {f : UInt64 → qS → Prop} {g : Nat → qS → Prop}  (H : f k0 s) : qR w 2 qm179 278 [] [.double k0] s (qPD f g) := by
  exact qS_dreturn qd_179_278 rfl (Or.inl ⟨_, rfl, H⟩)
set_option maxRecDepth 100000 in
theorem k180 {w : qE} {s : qS} {p0 : Int64} {p1 : Int} {f : UInt64 → qS → Prop} {g : Nat → qS → Prop}  (H : qR w 0 qm180 6 [(2, qI p1), (3, .double (FP.l2d p0)), (5, qI 0)] [] s (qPD f g)) : qW w 1 180 [.long p0, qI p1] s (qPD f g) := by
  refine qW.of (M := qm180) (l := [(0, .long p0), (2, qI p1)]) qtm_180 rfl (Nat.le_of_ble_eq_true rfl) (zsub_c rfl (zsub_c rfl zsub_n)) ?_
  refine qS_lload_n qd_180_0 rfl ?_
  refine qS_p1 (u := .double (FP.l2d p0)) qd_180_1 rfl rfl (fun _ => rfl) ?_
  refine qS_dstore_n (a := [(2, qI p1)]) qd_180_2 (Nat.le_of_ble_eq_true rfl) (zsub_c rfl zsub_n) rfl ?_
  refine qS_iconst qd_180_3 ?_
  refine qS_istore (a := [(3, .double (FP.l2d p0)), (2, qI p1)]) qd_180_4 (Nat.le_of_ble_eq_true rfl) (zsub_c rfl (zsub_c rfl zsub_n)) rfl ?_
  exact qS_sub (zsub_c rfl (zsub_c rfl (zsub_c rfl zsub_n))) H
set_option maxRecDepth 100000 in
theorem k180_6 {w : qE} {s : qS} {v2 : Int} {v3 : UInt64} {v5 : Int} {f : UInt64 → qS → Prop} {g : Nat → qS → Prop}  (H : Rg v5 ∧ Rg v2 ∧ (v5 < v2 → (zfin (FP.dmul v3 ((4611686018427387904 : UInt64))) = some (.double (FP.dmul v3 ((4611686018427387904 : UInt64))))) ∧ (qR w 0 qm180 6 [(2, qI v2), (3, .double (FP.dmul v3 ((4611686018427387904 : UInt64)))), (5, qI (v5 + 1))] [] s (qPD f g))) ∧ (v2 ≤ v5 → qR w 0 qm180 27 [(2, qI v2), (3, .double v3), (5, qI 0)] [] s (qPD f g))) : qR w 0 qm180 6 [(2, qI v2), (3, .double v3), (5, qI v5)] [] s (qPD f g) := by
  refine qS_iload qd_180_6 rfl ?_
  refine qS_iload_n qd_180_8 rfl ?_
  obtain ⟨h9a, h9b, H1, H2⟩ := H
  refine qS_icmp qd_180_9 rfl (zcnd_ge (a := v5) (b := v2) h9a h9b (fun t => qR w _ _ t _ _ _ _) (fun hc => ?_) (fun hc => ?_))
  · have H := H1 hc; clear H1 H2 hc
    refine qS_dload_n qd_180_12 rfl ?_
    refine qS_ldc (v := .double ((4611686018427387904 : UInt64))) qd_180_13 rfl rfl (fun _ => rfl) (fun _ => qS_k3 (qkl_8_268 w)) ?_
    obtain ⟨hz, H⟩ := H
    refine qS_p2 (u := .double (FP.dmul v3 ((4611686018427387904 : UInt64)))) qd_180_16 rfl rfl (fun _ => by show (Option.map _ (Option.map _ (zfin _))) = _; rw [hz]; rfl) ?_
    refine qS_dstore_n (a := [(2, qI v2), (5, qI v5)]) qd_180_17 (Nat.le_of_ble_eq_true rfl) (zsub_c rfl (zsub_c rfl zsub_n)) rfl ?_
    refine qS_iinc (v := v5) (a := [(3, .double (FP.dmul v3 ((4611686018427387904 : UInt64)))), (2, qI v2)]) qd_180_18 (Nat.le_of_ble_eq_true rfl) rfl (zsub_c rfl (zsub_c rfl zsub_n)) rfl ?_
    refine qS_goto qd_180_21 rfl ?_
    exact qS_sub (zsub_c rfl (zsub_c rfl (zsub_c rfl zsub_n))) H
  · have H := H2 hc; clear H1 H2 hc
    refine qS_iconst qd_180_24 ?_
    refine qS_istore (a := [(2, qI v2), (3, .double v3)]) qd_180_25 (Nat.le_of_ble_eq_true rfl) (zsub_c rfl (zsub_c rfl zsub_n)) rfl ?_
    exact qS_sub (zsub_c rfl (zsub_c rfl (zsub_c rfl zsub_n))) H
set_option maxRecDepth 100000 in
theorem k180_27 {w : qE} {s : qS} {v2 : Int} {v3 : UInt64} {v5 : Int} {f : UInt64 → qS → Prop} {g : Nat → qS → Prop}  (H : Rg v5 ∧ Rg v2 ∧ (v2 < v5 → (zfin (FP.ddiv v3 ((4611686018427387904 : UInt64))) = some (.double (FP.ddiv v3 ((4611686018427387904 : UInt64))))) ∧ (qR w 0 qm180 27 [(2, qI v2), (3, .double (FP.ddiv v3 ((4611686018427387904 : UInt64)))), (5, qI (v5 + (-1)))] [] s (qPD f g))) ∧ (v5 ≤ v2 → f v3 s)) : qR w 0 qm180 27 [(2, qI v2), (3, .double v3), (5, qI v5)] [] s (qPD f g) := by
  refine qS_iload qd_180_27 rfl ?_
  refine qS_iload_n qd_180_29 rfl ?_
  obtain ⟨h30a, h30b, H1, H2⟩ := H
  refine qS_icmp qd_180_30 rfl (zcnd_le (a := v5) (b := v2) h30a h30b (fun t => qR w _ _ t _ _ _ _) (fun hc => ?_) (fun hc => ?_))
  · have H := H1 hc; clear H1 H2 hc
    refine qS_dload_n qd_180_33 rfl ?_
    refine qS_ldc (v := .double ((4611686018427387904 : UInt64))) qd_180_34 rfl rfl (fun _ => rfl) (fun _ => qS_k3 (qkl_8_268 w)) ?_
    obtain ⟨hz, H⟩ := H
    refine qS_p2 (u := .double (FP.ddiv v3 ((4611686018427387904 : UInt64)))) qd_180_37 rfl rfl (fun _ => by show (Option.map _ (Option.map _ (zfin _))) = _; rw [hz]; rfl) ?_
    refine qS_dstore_n (a := [(2, qI v2), (5, qI v5)]) qd_180_38 (Nat.le_of_ble_eq_true rfl) (zsub_c rfl (zsub_c rfl zsub_n)) rfl ?_
    refine qS_iinc (v := v5) (a := [(3, .double (FP.ddiv v3 ((4611686018427387904 : UInt64)))), (2, qI v2)]) qd_180_39 (Nat.le_of_ble_eq_true rfl) rfl (zsub_c rfl (zsub_c rfl zsub_n)) rfl ?_
    refine qS_goto qd_180_42 rfl ?_
    exact qS_sub (zsub_c rfl (zsub_c rfl (zsub_c rfl zsub_n))) H
  · have H := H2 hc; clear H1 H2 hc
    refine qS_dload_n qd_180_45 rfl ?_
    exact qS_dreturn qd_180_46 rfl (Or.inl ⟨_, rfl, H⟩)
set_option maxRecDepth 100000 in
theorem k181 {w : qE} {s : qS} {p0 : Int} {p1 : Int} {f : Int → qS → Prop} {g : Nat → qS → Prop}  (H : qW w 1 177 [.ref 25] s (qPI (fun r1 s1 => Rg r1 ∧ (r1 = 0 → f 0 s1) ∧ (r1 ≠ 0 → qW w 2 139 [.ref 25, qI p0] s1 (qPI (fun r2 s2 => Rg r2 ∧ (r2 = 7 → qR w 2 qm181 33 [(0, .ref 25), (1, qI p0), (2, qI p1), (3, qI r2)] [] s2 (qPI f g)) ∧ (r2 ≠ 7 → (r2 = 8 → qR w 2 qm181 33 [(0, .ref 25), (1, qI p0), (2, qI p1), (3, qI r2)] [] s2 (qPI f g)) ∧ (r2 ≠ 8 → (r2 = 16 → qR w 2 qm181 33 [(0, .ref 25), (1, qI p0), (2, qI p1), (3, qI r2)] [] s2 (qPI f g)) ∧ (r2 ≠ 16 → qR w 2 qm181 42 [(0, .ref 25), (1, qI p0), (2, qI p1), (3, qI r2)] [qI p0] s2 (qPI f g))))) g))) g)) : qW w 3 181 [.ref 25, qI p0, qI p1] s (qPI f g) := by
  refine qW.of (M := qm181) (l := [(0, .ref 25), (1, qI p0), (2, qI p1)]) qtm_181 rfl (Nat.le_of_ble_eq_true rfl) (zsub_c rfl (zsub_c rfl (zsub_c rfl zsub_n))) ?_
  refine qS_aload_n qd_181_0 rfl ?_
  refine qS_cvI qd_181_1 (qml_8_262 w) rfl qtm_177 (hpc_25 _ _) (Nat.le_of_ble_eq_true rfl) rfl (Nat.le_of_ble_eq_true rfl) H (fun r1 s1 H => ?_) (fun x s1 H => Or.inr ⟨x, rfl, H⟩)
  obtain ⟨h4a, H1, H2⟩ := H
  refine qS_if0 qd_181_4 rfl (zcnd_ne (a := r1) (b := 0) h4a ⟨by decide, by decide⟩ (fun t => qR w _ _ t _ _ _ _) (fun hc => ?_) (fun hc => ?_))
  · have H := H1 hc; clear H1 H2 hc
    refine qS_iconst qd_181_7 ?_
    exact qS_ireturn qd_181_8 rfl (Or.inl ⟨_, rfl, H⟩)
  · have H := H2 hc; clear H1 H2 hc
    refine qS_aload_n qd_181_9 rfl ?_
    refine qS_iload_n qd_181_10 rfl ?_
    refine qS_cvI qd_181_11 (qml_8_137 w) rfl qtm_139 (hpc_25 _ _) (Nat.le_of_ble_eq_true rfl) rfl (Nat.le_of_ble_eq_true rfl) H (fun r2 s2 H => ?_) (fun x s1 H => Or.inr ⟨x, rfl, H⟩)
    refine qS_istore_n (a := [(0, .ref 25), (1, qI p0), (2, qI p1)]) qd_181_14 (Nat.le_of_ble_eq_true rfl) (zsub_c rfl (zsub_c rfl (zsub_c rfl zsub_n))) rfl ?_
    refine qS_iload_n qd_181_15 rfl ?_
    refine qS_bipush qd_181_16 (by decide) ?_
    obtain ⟨h18a, H1, H2⟩ := H
    refine qS_icmp qd_181_18 rfl (zcnd_eq (a := r2) (b := 7) h18a ⟨by decide, by decide⟩ (fun t => qR w _ _ t _ _ _ _) (fun hc => ?_) (fun hc => ?_))
    · have H := H1 hc; clear H1 H2 hc
      exact qS_sub (zsub_c rfl (zsub_c rfl (zsub_c rfl (zsub_c rfl zsub_n)))) H
    · have H := H2 hc; clear H1 H2 hc
      refine qS_iload_n qd_181_21 rfl ?_
      refine qS_bipush qd_181_22 (by decide) ?_
      obtain ⟨H1, H2⟩ := H
      refine qS_icmp qd_181_24 rfl (zcnd_eq (a := r2) (b := 8) h18a ⟨by decide, by decide⟩ (fun t => qR w _ _ t _ _ _ _) (fun hc => ?_) (fun hc => ?_))
      · have H := H1 hc; clear H1 H2 hc
        exact qS_sub (zsub_c rfl (zsub_c rfl (zsub_c rfl (zsub_c rfl zsub_n)))) H
      · have H := H2 hc; clear H1 H2 hc
        refine qS_iload_n qd_181_27 rfl ?_
        refine qS_bipush qd_181_28 (by decide) ?_
        obtain ⟨H1, H2⟩ := H
        refine qS_icmp qd_181_30 rfl (zcnd_ne (a := r2) (b := 16) h18a ⟨by decide, by decide⟩ (fun t => qR w _ _ t _ _ _ _) (fun hc => ?_) (fun hc => ?_))
        · have H := H1 hc; clear H1 H2 hc
          exact qS_sub (zsub_c rfl (zsub_c rfl (zsub_c rfl (zsub_c rfl zsub_n)))) H
        · have H := H2 hc; clear H1 H2 hc
          refine qS_iload_n qd_181_41 rfl ?_
          exact qS_sub (zsub_c rfl (zsub_c rfl (zsub_c rfl (zsub_c rfl zsub_n)))) H
set_option maxRecDepth 100000 in
theorem k181_33 {w : qE} {s : qS} {v1 : Int} {v2 : Int} {v3 : Int} {f : Int → qS → Prop} {g : Nat → qS → Prop}  (H : qW w 2 141 [.ref 25, qI v1] s (qPI (fun r3 s3 => qR w 2 qm181 42 [(0, .ref 25), (1, qI v1), (2, qI v2), (3, qI v3)] [qI r3] s3 (qPI f g)) g)) : qR w 2 qm181 33 [(0, .ref 25), (1, qI v1), (2, qI v2), (3, qI v3)] [] s (qPI f g) := by
  refine qS_aload_n qd_181_33 rfl ?_
  refine qS_iload_n qd_181_34 rfl ?_
  refine qS_cvI qd_181_35 (qml_8_149 w) rfl qtm_141 (hpc_25 _ _) (Nat.le_of_ble_eq_true rfl) rfl (Nat.le_of_ble_eq_true rfl) H (fun r3 s3 H => ?_) (fun x s1 H => Or.inr ⟨x, rfl, H⟩)
  refine qS_goto qd_181_38 rfl ?_
  exact qS_sub (zsub_c rfl (zsub_c rfl (zsub_c rfl (zsub_c rfl zsub_n)))) H
set_option maxRecDepth 100000 in
theorem k181_42 {w : qE} {s : qS} {v1 : Int} {v2 : Int} {v3 : Int} {k0 : Int} {f : Int → qS → Prop} {g : Nat → qS → Prop}  (H : Rg v3 ∧ (v3 = 1 → qR w 2 qm181 76 [(0, .ref 25), (2, qI v2), (4, qI k0)] [] s (qPI f g)) ∧ (v3 ≠ 1 → Rg k0 ∧ Rg v1 ∧ (k0 = v1 → (v3 = 7 → qR w 2 qm181 76 [(0, .ref 25), (2, qI v2), (4, qI k0)] [] s (qPI f g)) ∧ (v3 ≠ 7 → (v3 = 8 → qR w 2 qm181 76 [(0, .ref 25), (2, qI v2), (4, qI k0)] [] s (qPI f g)) ∧ (v3 ≠ 8 → (v3 = 16 → qR w 2 qm181 76 [(0, .ref 25), (2, qI v2), (4, qI k0)] [] s (qPI f g)) ∧ (v3 ≠ 16 → f ((-2)) s)))) ∧ (k0 ≠ v1 → qR w 2 qm181 76 [(0, .ref 25), (2, qI v2), (4, qI k0)] [] s (qPI f g)))) : qR w 2 qm181 42 [(0, .ref 25), (1, qI v1), (2, qI v2), (3, qI v3)] [qI k0] s (qPI f g) := by
  refine qS_istore (a := [(0, .ref 25), (1, qI v1), (2, qI v2), (3, qI v3)]) qd_181_42 (Nat.le_of_ble_eq_true rfl) (zsub_c rfl (zsub_c rfl (zsub_c rfl (zsub_c rfl zsub_n)))) rfl ?_
  refine qS_iload_n qd_181_44 rfl ?_
  refine qS_iconst qd_181_45 ?_
  obtain ⟨h46a, H1, H2⟩ := H
  refine qS_icmp qd_181_46 rfl (zcnd_eq (a := v3) (b := 1) h46a ⟨by decide, by decide⟩ (fun t => qR w _ _ t _ _ _ _) (fun hc => ?_) (fun hc => ?_))
  · have H := H1 hc; clear H1 H2 hc
    exact qS_sub (zsub_c rfl (zsub_c rfl (zsub_c rfl zsub_n))) H
  · have H := H2 hc; clear H1 H2 hc
    refine qS_iload qd_181_49 rfl ?_
    refine qS_iload_n qd_181_51 rfl ?_
    obtain ⟨h52a, h52b, H1, H2⟩ := H
    refine qS_icmp qd_181_52 rfl (zcnd_ne (a := k0) (b := v1) h52a h52b (fun t => qR w _ _ t _ _ _ _) (fun hc => ?_) (fun hc => ?_))
    · have H := H1 hc; clear H1 H2 hc
      refine qS_iload_n qd_181_55 rfl ?_
      refine qS_bipush qd_181_56 (by decide) ?_
      obtain ⟨H1, H2⟩ := H
      refine qS_icmp qd_181_58 rfl (zcnd_eq (a := v3) (b := 7) h46a ⟨by decide, by decide⟩ (fun t => qR w _ _ t _ _ _ _) (fun hc => ?_) (fun hc => ?_))
      · have H := H1 hc; clear H1 H2 hc
        exact qS_sub (zsub_c rfl (zsub_c rfl (zsub_c rfl zsub_n))) H
      · have H := H2 hc; clear H1 H2 hc
        refine qS_iload_n qd_181_61 rfl ?_
        refine qS_bipush qd_181_62 (by decide) ?_
        obtain ⟨H1, H2⟩ := H
        refine qS_icmp qd_181_64 rfl (zcnd_eq (a := v3) (b := 8) h46a ⟨by decide, by decide⟩ (fun t => qR w _ _ t _ _ _ _) (fun hc => ?_) (fun hc => ?_))
        · have H := H1 hc; clear H1 H2 hc
          exact qS_sub (zsub_c rfl (zsub_c rfl (zsub_c rfl zsub_n))) H
        · have H := H2 hc; clear H1 H2 hc
          refine qS_iload_n qd_181_67 rfl ?_
          refine qS_bipush qd_181_68 (by decide) ?_
          obtain ⟨H1, H2⟩ := H
          refine qS_icmp qd_181_70 rfl (zcnd_eq (a := v3) (b := 16) h46a ⟨by decide, by decide⟩ (fun t => qR w _ _ t _ _ _ _) (fun hc => ?_) (fun hc => ?_))
          · have H := H1 hc; clear H1 H2 hc
            exact qS_sub (zsub_c rfl (zsub_c rfl (zsub_c rfl zsub_n))) H
          · have H := H2 hc; clear H1 H2 hc
            refine qS_bipush qd_181_73 (by decide) ?_
            exact qS_ireturn qd_181_75 rfl (Or.inl ⟨_, rfl, H⟩)
    · have H := H2 hc; clear H1 H2 hc
      exact qS_sub (zsub_c rfl (zsub_c rfl (zsub_c rfl zsub_n))) H
set_option maxRecDepth 100000 in
theorem k181_76 {w : qE} {s : qS} {v2 : Int} {v4 : Int} {f : Int → qS → Prop} {g : Nat → qS → Prop}  (H : qW w 2 151 [.ref 25, qI v4] s (qPI (fun r4 s4 => Rg v2 ∧ (v2 = (-1) → qR w 2 qm181 118 [] [qI r4] s4 (qPI f g)) ∧ (v2 ≠ (-1) → qW w 1 125 [qI v2, qI 0, qI (r4 - 1)] s4 (qPI (fun r5 s5 => Rg r5 ∧ (r5 = 0 → qR w 2 qm181 118 [] [qI ((-2))] s5 (qPI f g)) ∧ (r5 ≠ 0 → qW w 2 146 [.ref 25, qI v4, qI v2] s5 (qPI (fun r6 s6 => qR w 2 qm181 118 [] [qI r6] s6 (qPI f g)) g))) g))) g)) : qR w 2 qm181 76 [(0, .ref 25), (2, qI v2), (4, qI v4)] [] s (qPI f g) := by
  refine qS_aload_n qd_181_76 rfl ?_
  refine qS_iload qd_181_77 rfl ?_
  refine qS_cvI qd_181_79 (qml_8_104 w) rfl qtm_151 (hpc_25 _ _) (Nat.le_of_ble_eq_true rfl) rfl (Nat.le_of_ble_eq_true rfl) H (fun r4 s4 H => ?_) (fun x s1 H => Or.inr ⟨x, rfl, H⟩)
  refine qS_istore (a := [(0, .ref 25), (2, qI v2), (4, qI v4)]) qd_181_82 (Nat.le_of_ble_eq_true rfl) (zsub_c rfl (zsub_c rfl (zsub_c rfl zsub_n))) rfl ?_
  refine qS_iload_n qd_181_84 rfl ?_
  refine qS_iconst qd_181_85 ?_
  obtain ⟨h86a, H1, H2⟩ := H
  refine qS_icmp qd_181_86 rfl (zcnd_ne (a := v2) (b := (-1)) h86a ⟨by decide, by decide⟩ (fun t => qR w _ _ t _ _ _ _) (fun hc => ?_) (fun hc => ?_))
  · have H := H1 hc; clear H1 H2 hc
    refine qS_iload qd_181_89 rfl ?_
    refine qS_goto qd_181_91 rfl ?_
    exact qS_sub zsub_n H
  · have H := H2 hc; clear H1 H2 hc
    refine qS_iload_n qd_181_94 rfl ?_
    refine qS_iconst qd_181_95 ?_
    refine qS_iload qd_181_96 rfl ?_
    refine qS_iconst qd_181_98 ?_
    refine qS_isub (a := r4) (b := 1) qd_181_99 ?_
    refine qS_csI qd_181_100 (qml_8_63 w) rfl (Nat.le_of_ble_eq_true rfl) rfl (Nat.le_of_ble_eq_true rfl) H (fun r5 s5 H => ?_) (fun x s1 H => Or.inr ⟨x, rfl, H⟩)
    obtain ⟨h103a, H1, H2⟩ := H
    refine qS_if0 qd_181_103 rfl (zcnd_eq (a := r5) (b := 0) h103a ⟨by decide, by decide⟩ (fun t => qR w _ _ t _ _ _ _) (fun hc => ?_) (fun hc => ?_))
    · have H := H1 hc; clear H1 H2 hc
      refine qS_bipush qd_181_116 (by decide) ?_
      exact qS_sub zsub_n H
    · have H := H2 hc; clear H1 H2 hc
      refine qS_aload_n qd_181_106 rfl ?_
      refine qS_iload qd_181_107 rfl ?_
      refine qS_iload_n qd_181_109 rfl ?_
      refine qS_cvI qd_181_110 (qml_8_107 w) rfl qtm_146 (hpc_25 _ _) (Nat.le_of_ble_eq_true rfl) rfl (Nat.le_of_ble_eq_true rfl) H (fun r6 s6 H => ?_) (fun x s1 H => Or.inr ⟨x, rfl, H⟩)
      refine qS_goto qd_181_113 rfl ?_
      exact qS_sub zsub_n H
set_option maxRecDepth 100000 in
theorem k181_118 {w : qE} {s : qS} {k0 : Int} {f : Int → qS → Prop} {g : Nat → qS → Prop}  (H : f k0 s) : qR w 2 qm181 118 [] [qI k0] s (qPI f g) := by
  exact qS_ireturn qd_181_118 rfl (Or.inl ⟨_, rfl, H⟩)
set_option maxRecDepth 100000 in
theorem k182 {w : qE} {s : qS} {p0 : Int} {p1 : Int} {f : Int → qS → Prop} {g : Nat → qS → Prop}  (H : qW w 1 177 [.ref 25] s (qPI (fun r1 s1 => Rg r1 ∧ (r1 = 0 → f 0 s1) ∧ (r1 ≠ 0 → qW w 2 139 [.ref 25, qI p0] s1 (qPI (fun r2 s2 => Rg r2 ∧ (r2 = 0 → f ((-2)) s2) ∧ (r2 ≠ 0 → qW w 7 183 [.ref 25, qI p0] s2 (qPI (fun r3 s3 => Rg p1 ∧ (p1 = (-1) → qR w 7 qm182 57 [] [qI r3] s3 (qPI f g)) ∧ (p1 ≠ (-1) → qW w 1 125 [qI p1, qI 0, qI (r3 - 1)] s3 (qPI (fun r4 s4 => Rg r4 ∧ (r4 = 0 → qR w 7 qm182 57 [] [qI ((-2))] s4 (qPI f g)) ∧ (r4 ≠ 0 → (0 ≤ p1 ∧ p1 < 6000 ∧ (qR w 7 qm182 57 [] [qI (s4 40 p1)] s4 (qPI f g))))) g))) g))) g))) g)) : qW w 8 182 [.ref 25, qI p0, qI p1] s (qPI f g) := by
  refine qW.of (M := qm182) (l := [(0, .ref 25), (1, qI p0), (2, qI p1)]) qtm_182 rfl (Nat.le_of_ble_eq_true rfl) (zsub_c rfl (zsub_c rfl (zsub_c rfl zsub_n))) ?_
  refine qS_aload_n qd_182_0 rfl ?_
  refine qS_cvI qd_182_1 (qml_8_262 w) rfl qtm_177 (hpc_25 _ _) (Nat.le_of_ble_eq_true rfl) rfl (Nat.le_of_ble_eq_true rfl) H (fun r1 s1 H => ?_) (fun x s1 H => Or.inr ⟨x, rfl, H⟩)
  obtain ⟨h4a, H1, H2⟩ := H
  refine qS_if0 qd_182_4 rfl (zcnd_ne (a := r1) (b := 0) h4a ⟨by decide, by decide⟩ (fun t => qR w _ _ t _ _ _ _) (fun hc => ?_) (fun hc => ?_))
  · have H := H1 hc; clear H1 H2 hc
    refine qS_iconst qd_182_7 ?_
    exact qS_ireturn qd_182_8 rfl (Or.inl ⟨_, rfl, H⟩)
  · have H := H2 hc; clear H1 H2 hc
    refine qS_aload_n qd_182_9 rfl ?_
    refine qS_iload_n qd_182_10 rfl ?_
    refine qS_cvI qd_182_11 (qml_8_137 w) rfl qtm_139 (hpc_25 _ _) (Nat.le_of_ble_eq_true rfl) rfl (Nat.le_of_ble_eq_true rfl) H (fun r2 s2 H => ?_) (fun x s1 H => Or.inr ⟨x, rfl, H⟩)
    obtain ⟨h14a, H1, H2⟩ := H
    refine qS_if0 qd_182_14 rfl (zcnd_ne (a := r2) (b := 0) h14a ⟨by decide, by decide⟩ (fun t => qR w _ _ t _ _ _ _) (fun hc => ?_) (fun hc => ?_))
    · have H := H1 hc; clear H1 H2 hc
      refine qS_bipush qd_182_17 (by decide) ?_
      exact qS_ireturn qd_182_19 rfl (Or.inl ⟨_, rfl, H⟩)
    · have H := H2 hc; clear H1 H2 hc
      refine qS_aload_n qd_182_20 rfl ?_
      refine qS_iload_n qd_182_21 rfl ?_
      refine qS_cvI qd_182_22 (qml_8_306 w) rfl qtm_183 (hpc_25 _ _) (Nat.le_of_ble_eq_true rfl) rfl (Nat.le_of_ble_eq_true rfl) H (fun r3 s3 H => ?_) (fun x s1 H => Or.inr ⟨x, rfl, H⟩)
      refine qS_istore_n (a := [(0, .ref 25), (2, qI p1)]) qd_182_25 (Nat.le_of_ble_eq_true rfl) (zsub_c rfl (zsub_c rfl zsub_n)) rfl ?_
      refine qS_iload_n qd_182_26 rfl ?_
      refine qS_iconst qd_182_27 ?_
      obtain ⟨h28a, H1, H2⟩ := H
      refine qS_icmp qd_182_28 rfl (zcnd_ne (a := p1) (b := (-1)) h28a ⟨by decide, by decide⟩ (fun t => qR w _ _ t _ _ _ _) (fun hc => ?_) (fun hc => ?_))
      · have H := H1 hc; clear H1 H2 hc
        refine qS_iload_n qd_182_31 rfl ?_
        refine qS_goto qd_182_32 rfl ?_
        exact qS_sub zsub_n H
      · have H := H2 hc; clear H1 H2 hc
        refine qS_iload_n qd_182_35 rfl ?_
        refine qS_iconst qd_182_36 ?_
        refine qS_iload_n qd_182_37 rfl ?_
        refine qS_iconst qd_182_38 ?_
        refine qS_isub (a := r3) (b := 1) qd_182_39 ?_
        refine qS_csI qd_182_40 (qml_8_63 w) rfl (Nat.le_of_ble_eq_true rfl) rfl (Nat.le_of_ble_eq_true rfl) H (fun r4 s4 H => ?_) (fun x s1 H => Or.inr ⟨x, rfl, H⟩)
        obtain ⟨h43a, H1, H2⟩ := H
        refine qS_if0 qd_182_43 rfl (zcnd_eq (a := r4) (b := 0) h43a ⟨by decide, by decide⟩ (fun t => qR w _ _ t _ _ _ _) (fun hc => ?_) (fun hc => ?_))
        · have H := H1 hc; clear H1 H2 hc
          refine qS_bipush qd_182_55 (by decide) ?_
          exact qS_sub zsub_n H
        · have H := H2 hc; clear H1 H2 hc
          refine qS_aload_n qd_182_46 rfl ?_
          refine qS_getfield (v := .ref 40) qd_182_47 (qfl_8_57 w) (hpc_25 _ _) rfl ?_
          refine qS_iload_n qd_182_50 rfl ?_
          obtain ⟨hl, hu, H⟩ := H
          refine qS_iaload (a := 40) (i := p1) qd_182_51 (Nat.le_of_ble_eq_true rfl) hl hu ?_
          refine qS_goto qd_182_52 rfl ?_
          exact qS_sub zsub_n H
set_option maxRecDepth 100000 in
theorem k182_57 {w : qE} {s : qS} {k0 : Int} {f : Int → qS → Prop} {g : Nat → qS → Prop}  (H : f k0 s) : qR w 7 qm182 57 [] [qI k0] s (qPI f g) := by
  exact qS_ireturn qd_182_57 rfl (Or.inl ⟨_, rfl, H⟩)
set_option maxRecDepth 100000 in
theorem k183 {w : qE} {s : qS} {p0 : Int} {f : Int → qS → Prop} {g : Nat → qS → Prop}  (H : qW w 2 139 [.ref 25, qI p0] s (qPI (fun r1 s1 => Rg r1 ∧ (r1 = 7 → qW w 5 184 [.ref 25, qI 0, qI p0] s1 (qPI (fun r2 s2 => f r2 s2) g)) ∧ (r1 ≠ 7 → (r1 = 12 → qW w 6 189 [.ref 25, qI 0, qI p0, qI 0] s1 (qPI (fun r3 s3 => f r3 s3) g)) ∧ (r1 ≠ 12 → qW w 1 125 [qI r1, qI 9, qI 11] s1 (qPI (fun r4 s4 => Rg r4 ∧ (r4 = 0 → (r1 = 16 → qW w 2 141 [.ref 25, qI p0] s4 (qPI (fun r5 s5 => qW w 5 152 [.ref 25, qI r5] s5 (qPI (fun r6 s6 => Rg r6 ∧ (r6 = 0 → f 0 s6) ∧ (r6 ≠ 0 → qW w 4 185 [.ref 25, qI 0, qI r5, qI ((s6 25 28) + 1)] s6 (qPI (fun r7 s7 => qW w 5 190 [.ref 25, qI r7, qI r5] s7 (qPI (fun r8 s8 => f r8 s8) g)) g))) g)) g)) ∧ (r1 ≠ 16 → f 0 s4)) ∧ (r4 ≠ 0 → qW w 2 141 [.ref 25, qI p0] s4 (qPI (fun r9 s9 => qW w 2 143 [.ref 25, qI p0] s9 (qPI (fun r10 s10 => qW w 6 189 [.ref 25, qI 0, qI r10, qI r9] s10 (qPI (fun r11 s11 => f r11 s11) g)) g)) g))) g)))) g)) : qW w 7 183 [.ref 25, qI p0] s (qPI f g) := by
  refine qW.of (M := qm183) (l := [(0, .ref 25), (1, qI p0)]) qtm_183 rfl (Nat.le_of_ble_eq_true rfl) (zsub_c rfl (zsub_c rfl zsub_n)) ?_
  refine qS_aload_n qd_183_0 rfl ?_
  refine qS_iload_n qd_183_1 rfl ?_
  refine qS_cvI qd_183_2 (qml_8_137 w) rfl qtm_139 (hpc_25 _ _) (Nat.le_of_ble_eq_true rfl) rfl (Nat.le_of_ble_eq_true rfl) H (fun r1 s1 H => ?_) (fun x s1 H => Or.inr ⟨x, rfl, H⟩)
  refine qS_istore_n (a := [(0, .ref 25), (1, qI p0)]) qd_183_5 (Nat.le_of_ble_eq_true rfl) (zsub_c rfl (zsub_c rfl zsub_n)) rfl ?_
  refine qS_iload_n qd_183_6 rfl ?_
  refine qS_bipush qd_183_7 (by decide) ?_
  obtain ⟨h9a, H1, H2⟩ := H
  refine qS_icmp qd_183_9 rfl (zcnd_ne (a := r1) (b := 7) h9a ⟨by decide, by decide⟩ (fun t => qR w _ _ t _ _ _ _) (fun hc => ?_) (fun hc => ?_))
  · have H := H1 hc; clear H1 H2 hc
    refine qS_aload_n qd_183_12 rfl ?_
    refine qS_iconst qd_183_13 ?_
    refine qS_iload_n qd_183_14 rfl ?_
    refine qS_cvI qd_183_15 (qml_8_297 w) rfl qtm_184 (hpc_25 _ _) (Nat.le_of_ble_eq_true rfl) rfl (Nat.le_of_ble_eq_true rfl) H (fun r2 s2 H => ?_) (fun x s1 H => Or.inr ⟨x, rfl, H⟩)
    exact qS_ireturn qd_183_18 rfl (Or.inl ⟨_, rfl, H⟩)
  · have H := H2 hc; clear H1 H2 hc
    refine qS_iload_n qd_183_19 rfl ?_
    refine qS_bipush qd_183_20 (by decide) ?_
    obtain ⟨H1, H2⟩ := H
    refine qS_icmp qd_183_22 rfl (zcnd_ne (a := r1) (b := 12) h9a ⟨by decide, by decide⟩ (fun t => qR w _ _ t _ _ _ _) (fun hc => ?_) (fun hc => ?_))
    · have H := H1 hc; clear H1 H2 hc
      refine qS_aload_n qd_183_25 rfl ?_
      refine qS_iconst qd_183_26 ?_
      refine qS_iload_n qd_183_27 rfl ?_
      refine qS_iconst qd_183_28 ?_
      refine qS_cvI qd_183_29 (qml_8_303 w) rfl qtm_189 (hpc_25 _ _) (Nat.le_of_ble_eq_true rfl) rfl (Nat.le_of_ble_eq_true rfl) H (fun r3 s3 H => ?_) (fun x s1 H => Or.inr ⟨x, rfl, H⟩)
      exact qS_ireturn qd_183_32 rfl (Or.inl ⟨_, rfl, H⟩)
    · have H := H2 hc; clear H1 H2 hc
      refine qS_iload_n qd_183_33 rfl ?_
      refine qS_bipush qd_183_34 (by decide) ?_
      refine qS_bipush qd_183_36 (by decide) ?_
      refine qS_csI qd_183_38 (qml_8_63 w) rfl (Nat.le_of_ble_eq_true rfl) rfl (Nat.le_of_ble_eq_true rfl) H (fun r4 s4 H => ?_) (fun x s1 H => Or.inr ⟨x, rfl, H⟩)
      obtain ⟨h41a, H1, H2⟩ := H
      refine qS_if0 qd_183_41 rfl (zcnd_eq (a := r4) (b := 0) h41a ⟨by decide, by decide⟩ (fun t => qR w _ _ t _ _ _ _) (fun hc => ?_) (fun hc => ?_))
      · have H := H1 hc; clear H1 H2 hc
        refine qS_iload_n qd_183_62 rfl ?_
        refine qS_bipush qd_183_63 (by decide) ?_
        obtain ⟨H1, H2⟩ := H
        refine qS_icmp qd_183_65 rfl (zcnd_eq (a := r1) (b := 16) h9a ⟨by decide, by decide⟩ (fun t => qR w _ _ t _ _ _ _) (fun hc => ?_) (fun hc => ?_))
        · have H := H1 hc; clear H1 H2 hc
          refine qS_aload_n qd_183_70 rfl ?_
          refine qS_iload_n qd_183_71 rfl ?_
          refine qS_cvI qd_183_72 (qml_8_149 w) rfl qtm_141 (hpc_25 _ _) (Nat.le_of_ble_eq_true rfl) rfl (Nat.le_of_ble_eq_true rfl) H (fun r5 s5 H => ?_) (fun x s1 H => Or.inr ⟨x, rfl, H⟩)
          refine qS_istore (a := [(0, .ref 25)]) qd_183_75 (Nat.le_of_ble_eq_true rfl) (zsub_c rfl zsub_n) rfl ?_
          refine qS_aload_n qd_183_77 rfl ?_
          refine qS_iload qd_183_78 rfl ?_
          refine qS_cvI qd_183_80 (qml_8_146 w) rfl qtm_152 (hpc_25 _ _) (Nat.le_of_ble_eq_true rfl) rfl (Nat.le_of_ble_eq_true rfl) H (fun r6 s6 H => ?_) (fun x s1 H => Or.inr ⟨x, rfl, H⟩)
          obtain ⟨h83a, H1, H2⟩ := H
          refine qS_if0 qd_183_83 rfl (zcnd_ne (a := r6) (b := 0) h83a ⟨by decide, by decide⟩ (fun t => qR w _ _ t _ _ _ _) (fun hc => ?_) (fun hc => ?_))
          · have H := H1 hc; clear H1 H2 hc
            refine qS_iconst qd_183_86 ?_
            exact qS_ireturn qd_183_87 rfl (Or.inl ⟨_, rfl, H⟩)
          · have H := H2 hc; clear H1 H2 hc
            refine qS_aload_n qd_183_88 rfl ?_
            refine qS_iconst qd_183_89 ?_
            refine qS_iload qd_183_90 rfl ?_
            refine qS_aload_n qd_183_92 rfl ?_
            refine qS_getfield (v := qI (s6 25 28)) qd_183_93 (qfl_8_131 w) (hpc_25 _ _) rfl ?_
            refine qS_iconst qd_183_96 ?_
            refine qS_iadd (a := s6 25 28) (b := 1) qd_183_97 ?_
            refine qS_cvI qd_183_98 (qml_8_294 w) rfl qtm_185 (hpc_25 _ _) (Nat.le_of_ble_eq_true rfl) rfl (Nat.le_of_ble_eq_true rfl) H (fun r7 s7 H => ?_) (fun x s1 H => Or.inr ⟨x, rfl, H⟩)
            refine qS_istore_n (a := [(4, qI r5), (0, .ref 25)]) qd_183_101 (Nat.le_of_ble_eq_true rfl) (zsub_c rfl (zsub_c rfl zsub_n)) rfl ?_
            refine qS_aload_n qd_183_102 rfl ?_
            refine qS_iload_n qd_183_103 rfl ?_
            refine qS_iload qd_183_104 rfl ?_
            refine qS_cvI qd_183_106 (qml_8_300 w) rfl qtm_190 (hpc_25 _ _) (Nat.le_of_ble_eq_true rfl) rfl (Nat.le_of_ble_eq_true rfl) H (fun r8 s8 H => ?_) (fun x s1 H => Or.inr ⟨x, rfl, H⟩)
            exact qS_ireturn qd_183_109 rfl (Or.inl ⟨_, rfl, H⟩)
        · have H := H2 hc; clear H1 H2 hc
          refine qS_iconst qd_183_68 ?_
          exact qS_ireturn qd_183_69 rfl (Or.inl ⟨_, rfl, H⟩)
      · have H := H2 hc; clear H1 H2 hc
        refine qS_aload_n qd_183_44 rfl ?_
        refine qS_iload_n qd_183_45 rfl ?_
        refine qS_cvI qd_183_46 (qml_8_149 w) rfl qtm_141 (hpc_25 _ _) (Nat.le_of_ble_eq_true rfl) rfl (Nat.le_of_ble_eq_true rfl) H (fun r9 s9 H => ?_) (fun x s1 H => Or.inr ⟨x, rfl, H⟩)
        refine qS_istore_n (a := [(0, .ref 25), (1, qI p0)]) qd_183_49 (Nat.le_of_ble_eq_true rfl) (zsub_c rfl (zsub_c rfl zsub_n)) rfl ?_
        refine qS_aload_n qd_183_50 rfl ?_
        refine qS_iconst qd_183_51 ?_
        refine qS_aload_n qd_183_52 rfl ?_
        refine qS_iload_n qd_183_53 rfl ?_
        refine qS_cvI qd_183_54 (qml_8_140 w) rfl qtm_143 (hpc_25 _ _) (Nat.le_of_ble_eq_true rfl) rfl (Nat.le_of_ble_eq_true rfl) H (fun r10 s10 H => ?_) (fun x s1 H => Or.inr ⟨x, rfl, H⟩)
        refine qS_iload_n qd_183_57 rfl ?_
        refine qS_cvI qd_183_58 (qml_8_303 w) rfl qtm_189 (hpc_25 _ _) (Nat.le_of_ble_eq_true rfl) rfl (Nat.le_of_ble_eq_true rfl) H (fun r11 s11 H => ?_) (fun x s1 H => Or.inr ⟨x, rfl, H⟩)
        exact qS_ireturn qd_183_61 rfl (Or.inl ⟨_, rfl, H⟩)
set_option maxRecDepth 100000 in
theorem k184 {w : qE} {s : qS} {p0 : Int} {p1 : Int} {f : Int → qS → Prop} {g : Nat → qS → Prop}  (H : qW w 2 141 [.ref 25, qI p1] s (qPI (fun r1 s1 => qW w 2 146 [.ref 25, qI r1, qI 0] s1 (qPI (fun r2 s2 => Rg r2 ∧ (r2 = 91 → qW w 4 185 [.ref 25, qI p0, qI r1, qI 0] s2 (qPI (fun r3 s3 => qR w 4 qm184 35 [] [qI r3] s3 (qPI f g)) g)) ∧ (r2 ≠ 91 → qW w 3 186 [.ref 25, qI p0, qI r1, qI 0, qI ((-1))] s2 (qPI (fun r4 s4 => qR w 4 qm184 35 [] [qI r4] s4 (qPI f g)) g))) g)) g)) : qW w 5 184 [.ref 25, qI p0, qI p1] s (qPI f g) := by
  refine qW.of (M := qm184) (l := [(0, .ref 25), (1, qI p0), (2, qI p1)]) qtm_184 rfl (Nat.le_of_ble_eq_true rfl) (zsub_c rfl (zsub_c rfl (zsub_c rfl zsub_n))) ?_
  refine qS_aload_n qd_184_0 rfl ?_
  refine qS_iload_n qd_184_1 rfl ?_
  refine qS_cvI qd_184_2 (qml_8_149 w) rfl qtm_141 (hpc_25 _ _) (Nat.le_of_ble_eq_true rfl) rfl (Nat.le_of_ble_eq_true rfl) H (fun r1 s1 H => ?_) (fun x s1 H => Or.inr ⟨x, rfl, H⟩)
  refine qS_istore_n (a := [(0, .ref 25), (1, qI p0)]) qd_184_5 (Nat.le_of_ble_eq_true rfl) (zsub_c rfl (zsub_c rfl zsub_n)) rfl ?_
  refine qS_aload_n qd_184_6 rfl ?_
  refine qS_iload_n qd_184_7 rfl ?_
  refine qS_iconst qd_184_8 ?_
  refine qS_cvI qd_184_9 (qml_8_107 w) rfl qtm_146 (hpc_25 _ _) (Nat.le_of_ble_eq_true rfl) rfl (Nat.le_of_ble_eq_true rfl) H (fun r2 s2 H => ?_) (fun x s1 H => Or.inr ⟨x, rfl, H⟩)
  refine qS_bipush qd_184_12 (by decide) ?_
  obtain ⟨h14a, H1, H2⟩ := H
  refine qS_icmp qd_184_14 rfl (zcnd_ne (a := r2) (b := 91) h14a ⟨by decide, by decide⟩ (fun t => qR w _ _ t _ _ _ _) (fun hc => ?_) (fun hc => ?_))
  · have H := H1 hc; clear H1 H2 hc
    refine qS_aload_n qd_184_17 rfl ?_
    refine qS_iload_n qd_184_18 rfl ?_
    refine qS_iload_n qd_184_19 rfl ?_
    refine qS_iconst qd_184_20 ?_
    refine qS_cvI qd_184_21 (qml_8_294 w) rfl qtm_185 (hpc_25 _ _) (Nat.le_of_ble_eq_true rfl) rfl (Nat.le_of_ble_eq_true rfl) H (fun r3 s3 H => ?_) (fun x s1 H => Or.inr ⟨x, rfl, H⟩)
    refine qS_goto qd_184_24 rfl ?_
    exact qS_sub zsub_n H
  · have H := H2 hc; clear H1 H2 hc
    refine qS_aload_n qd_184_27 rfl ?_
    refine qS_iload_n qd_184_28 rfl ?_
    refine qS_iload_n qd_184_29 rfl ?_
    refine qS_iconst qd_184_30 ?_
    refine qS_iconst qd_184_31 ?_
    refine qS_cvI qd_184_32 (qml_8_287 w) rfl qtm_186 (hpc_25 _ _) (Nat.le_of_ble_eq_true rfl) rfl (Nat.le_of_ble_eq_true rfl) H (fun r4 s4 H => ?_) (fun x s1 H => Or.inr ⟨x, rfl, H⟩)
    exact qS_sub zsub_n H
set_option maxRecDepth 100000 in
theorem k184_35 {w : qE} {s : qS} {k0 : Int} {f : Int → qS → Prop} {g : Nat → qS → Prop}  (H : f k0 s) : qR w 4 qm184 35 [] [qI k0] s (qPI f g) := by
  exact qS_ireturn qd_184_35 rfl (Or.inl ⟨_, rfl, H⟩)
set_option maxRecDepth 100000 in
theorem k185 {w : qE} {s : qS} {p0 : Int} {p1 : Int} {p2 : Int} {f : Int → qS → Prop} {g : Nat → qS → Prop}  (H : qR w 3 qm185 3 [(0, .ref 25), (1, qI p0), (2, qI p1), (3, qI p2), (4, qI p2)] [] s (qPI f g)) : qW w 4 185 [.ref 25, qI p0, qI p1, qI p2] s (qPI f g) := by
  refine qW.of (M := qm185) (l := [(0, .ref 25), (1, qI p0), (2, qI p1), (3, qI p2)]) qtm_185 rfl (Nat.le_of_ble_eq_true rfl) (zsub_c rfl (zsub_c rfl (zsub_c rfl (zsub_c rfl zsub_n)))) ?_
  refine qS_iload_n qd_185_0 rfl ?_
  refine qS_istore (a := [(0, .ref 25), (1, qI p0), (2, qI p1), (3, qI p2)]) qd_185_1 (Nat.le_of_ble_eq_true rfl) (zsub_c rfl (zsub_c rfl (zsub_c rfl (zsub_c rfl zsub_n)))) rfl ?_
  exact qS_sub (zsub_c rfl (zsub_c rfl (zsub_c rfl (zsub_c rfl (zsub_c rfl zsub_n))))) H
set_option maxRecDepth 100000 in
theorem k185_3 {w : qE} {s : qS} {v1 : Int} {v2 : Int} {v3 : Int} {v4 : Int} {f : Int → qS → Prop} {g : Nat → qS → Prop}  (H : qW w 2 146 [.ref 25, qI v2, qI v4] s (qPI (fun r1 s1 => Rg r1 ∧ (r1 = 91 → qR w 3 qm185 3 [(0, .ref 25), (1, qI v1), (2, qI v2), (3, qI v3), (4, qI (v4 + 1))] [] s1 (qPI f g)) ∧ (r1 ≠ 91 → qW w 2 146 [.ref 25, qI v2, qI v4] s1 (qPI (fun r2 s2 => Rg r2 ∧ (r2 = 76 → qW w 3 186 [.ref 25, qI v1, qI v2, qI (v4 + 1), qI 59] s2 (qPI (fun r3 s3 => qR w 3 qm185 81 [(0, .ref 25), (3, qI v3), (4, qI v4), (5, qI r3)] [] s3 (qPI f g)) g)) ∧ (r2 ≠ 76 → (r2 = 86 → qR w 3 qm185 76 [(0, .ref 25), (3, qI v3), (4, qI v4)] [qI 20, qI v1, .ref 25] s2 (qPI f g)) ∧ (r2 ≠ 86 → qW w 1 149 [qI r2] s2 (qPI (fun r4 s4 => qR w 3 qm185 76 [(0, .ref 25), (3, qI v3), (4, qI v4)] [qI (12 + r4), qI v1, .ref 25] s4 (qPI f g)) g)))) g))) g)) : qR w 3 qm185 3 [(0, .ref 25), (1, qI v1), (2, qI v2), (3, qI v3), (4, qI v4)] [] s (qPI f g) := by
  refine qS_aload_n qd_185_3 rfl ?_
  refine qS_iload_n qd_185_4 rfl ?_
  refine qS_iload qd_185_5 rfl ?_
  refine qS_cvI qd_185_7 (qml_8_107 w) rfl qtm_146 (hpc_25 _ _) (Nat.le_of_ble_eq_true rfl) rfl (Nat.le_of_ble_eq_true rfl) H (fun r1 s1 H => ?_) (fun x s1 H => Or.inr ⟨x, rfl, H⟩)
  refine qS_bipush qd_185_10 (by decide) ?_
  obtain ⟨h12a, H1, H2⟩ := H
  refine qS_icmp qd_185_12 rfl (zcnd_ne (a := r1) (b := 91) h12a ⟨by decide, by decide⟩ (fun t => qR w _ _ t _ _ _ _) (fun hc => ?_) (fun hc => ?_))
  · have H := H1 hc; clear H1 H2 hc
    refine qS_iinc (v := v4) (a := [(0, .ref 25), (1, qI v1), (2, qI v2), (3, qI v3)]) qd_185_15 (Nat.le_of_ble_eq_true rfl) rfl (zsub_c rfl (zsub_c rfl (zsub_c rfl (zsub_c rfl zsub_n)))) rfl ?_
    refine qS_goto qd_185_18 rfl ?_
    exact qS_sub (zsub_c rfl (zsub_c rfl (zsub_c rfl (zsub_c rfl (zsub_c rfl zsub_n))))) H
  · have H := H2 hc; clear H1 H2 hc
    refine qS_aload_n qd_185_21 rfl ?_
    refine qS_iload_n qd_185_22 rfl ?_
    refine qS_iload qd_185_23 rfl ?_
    refine qS_cvI qd_185_25 (qml_8_107 w) rfl qtm_146 (hpc_25 _ _) (Nat.le_of_ble_eq_true rfl) rfl (Nat.le_of_ble_eq_true rfl) H (fun r2 s2 H => ?_) (fun x s1 H => Or.inr ⟨x, rfl, H⟩)
    refine qS_istore (a := [(0, .ref 25), (1, qI v1), (2, qI v2), (3, qI v3), (4, qI v4)]) qd_185_28 (Nat.le_of_ble_eq_true rfl) (zsub_c rfl (zsub_c rfl (zsub_c rfl (zsub_c rfl (zsub_c rfl zsub_n))))) rfl ?_
    refine qS_iload qd_185_30 rfl ?_
    refine qS_bipush qd_185_32 (by decide) ?_
    obtain ⟨h34a, H1, H2⟩ := H
    refine qS_icmp qd_185_34 rfl (zcnd_ne (a := r2) (b := 76) h34a ⟨by decide, by decide⟩ (fun t => qR w _ _ t _ _ _ _) (fun hc => ?_) (fun hc => ?_))
    · have H := H1 hc; clear H1 H2 hc
      refine qS_aload_n qd_185_37 rfl ?_
      refine qS_iload_n qd_185_38 rfl ?_
      refine qS_iload_n qd_185_39 rfl ?_
      refine qS_iload qd_185_40 rfl ?_
      refine qS_iconst qd_185_42 ?_
      refine qS_iadd (a := v4) (b := 1) qd_185_43 ?_
      refine qS_bipush qd_185_44 (by decide) ?_
      refine qS_cvI qd_185_46 (qml_8_287 w) rfl qtm_186 (hpc_25 _ _) (Nat.le_of_ble_eq_true rfl) rfl (Nat.le_of_ble_eq_true rfl) H (fun r3 s3 H => ?_) (fun x s1 H => Or.inr ⟨x, rfl, H⟩)
      refine qS_istore (a := [(0, .ref 25), (3, qI v3), (4, qI v4)]) qd_185_49 (Nat.le_of_ble_eq_true rfl) (zsub_c rfl (zsub_c rfl (zsub_c rfl zsub_n))) rfl ?_
      refine qS_goto qd_185_51 rfl ?_
      exact qS_sub (zsub_c rfl (zsub_c rfl (zsub_c rfl (zsub_c rfl zsub_n)))) H
    · have H := H2 hc; clear H1 H2 hc
      refine qS_aload_n qd_185_54 rfl ?_
      refine qS_iload_n qd_185_55 rfl ?_
      refine qS_iload qd_185_56 rfl ?_
      refine qS_bipush qd_185_58 (by decide) ?_
      obtain ⟨H1, H2⟩ := H
      refine qS_icmp qd_185_60 rfl (zcnd_ne (a := r2) (b := 86) h34a ⟨by decide, by decide⟩ (fun t => qR w _ _ t _ _ _ _) (fun hc => ?_) (fun hc => ?_))
      · have H := H1 hc; clear H1 H2 hc
        refine qS_bipush qd_185_63 (by decide) ?_
        refine qS_goto qd_185_65 rfl ?_
        exact qS_sub (zsub_c rfl (zsub_c rfl (zsub_c rfl zsub_n))) H
      · have H := H2 hc; clear H1 H2 hc
        refine qS_bipush qd_185_68 (by decide) ?_
        refine qS_iload qd_185_70 rfl ?_
        refine qS_csI qd_185_72 (qml_8_118 w) rfl (Nat.le_of_ble_eq_true rfl) rfl (Nat.le_of_ble_eq_true rfl) H (fun r4 s4 H => ?_) (fun x s1 H => Or.inr ⟨x, rfl, H⟩)
        refine qS_iadd (a := 12) (b := r4) qd_185_75 ?_
        exact qS_sub (zsub_c rfl (zsub_c rfl (zsub_c rfl zsub_n))) H
set_option maxRecDepth 100000 in
theorem k185_76 {w : qE} {s : qS} {v3 : Int} {v4 : Int} {k2 : Int} {k1 : Int} {f : Int → qS → Prop} {g : Nat → qS → Prop}  (H : qW w 2 188 [.ref 25, qI k1, qI k2] s (qPI (fun r5 s5 => qR w 3 qm185 81 [(0, .ref 25), (3, qI v3), (4, qI v4), (5, qI r5)] [] s5 (qPI f g)) g)) : qR w 3 qm185 76 [(0, .ref 25), (3, qI v3), (4, qI v4)] [qI k2, qI k1, .ref 25] s (qPI f g) := by
  refine qS_cvI qd_185_76 (qml_8_291 w) rfl qtm_188 (hpc_25 _ _) (Nat.le_of_ble_eq_true rfl) rfl (Nat.le_of_ble_eq_true rfl) H (fun r5 s5 H => ?_) (fun x s1 H => Or.inr ⟨x, rfl, H⟩)
  refine qS_istore (a := [(0, .ref 25), (3, qI v3), (4, qI v4)]) qd_185_79 (Nat.le_of_ble_eq_true rfl) (zsub_c rfl (zsub_c rfl (zsub_c rfl zsub_n))) rfl ?_
  exact qS_sub (zsub_c rfl (zsub_c rfl (zsub_c rfl (zsub_c rfl zsub_n)))) H
set_option maxRecDepth 100000 in
theorem k185_81 {w : qE} {s : qS} {v3 : Int} {v4 : Int} {v5 : Int} {f : Int → qS → Prop} {g : Nat → qS → Prop}  (H : qR w 3 qm185 84 [(0, .ref 25), (4, qI v4), (5, qI v5), (7, qI v3)] [] s (qPI f g)) : qR w 3 qm185 81 [(0, .ref 25), (3, qI v3), (4, qI v4), (5, qI v5)] [] s (qPI f g) := by
  refine qS_iload_n qd_185_81 rfl ?_
  refine qS_istore (a := [(0, .ref 25), (4, qI v4), (5, qI v5)]) qd_185_82 (Nat.le_of_ble_eq_true rfl) (zsub_c rfl (zsub_c rfl (zsub_c rfl zsub_n))) rfl ?_
  exact qS_sub (zsub_c rfl (zsub_c rfl (zsub_c rfl (zsub_c rfl zsub_n)))) H
set_option maxRecDepth 100000 in
theorem k185_84 {w : qE} {s : qS} {v4 : Int} {v5 : Int} {v7 : Int} {f : Int → qS → Prop} {g : Nat → qS → Prop}  (H : Rg v7 ∧ Rg v4 ∧ (v7 < v4 → qW w 1 187 [.ref 25, qI v5, qI 91] s (qPI (fun r6 s6 => qW w 1 187 [.ref 25, qI r6, qI 93] s6 (qPI (fun r7 s7 => qR w 3 qm185 84 [(0, .ref 25), (4, qI v4), (5, qI r7), (7, qI (v7 + 1))] [] s7 (qPI f g)) g)) g)) ∧ (v4 ≤ v7 → f v5 s)) : qR w 3 qm185 84 [(0, .ref 25), (4, qI v4), (5, qI v5), (7, qI v7)] [] s (qPI f g) := by
  refine qS_iload qd_185_84 rfl ?_
  refine qS_iload qd_185_86 rfl ?_
  obtain ⟨h88a, h88b, H1, H2⟩ := H
  refine qS_icmp qd_185_88 rfl (zcnd_ge (a := v7) (b := v4) h88a h88b (fun t => qR w _ _ t _ _ _ _) (fun hc => ?_) (fun hc => ?_))
  · have H := H1 hc; clear H1 H2 hc
    refine qS_aload_n qd_185_91 rfl ?_
    refine qS_iload qd_185_92 rfl ?_
    refine qS_bipush qd_185_94 (by decide) ?_
    refine qS_cvI qd_185_96 (qml_8_284 w) rfl qtm_187 (hpc_25 _ _) (Nat.le_of_ble_eq_true rfl) rfl (Nat.le_of_ble_eq_true rfl) H (fun r6 s6 H => ?_) (fun x s1 H => Or.inr ⟨x, rfl, H⟩)
    refine qS_istore (a := [(0, .ref 25), (4, qI v4), (7, qI v7)]) qd_185_99 (Nat.le_of_ble_eq_true rfl) (zsub_c rfl (zsub_c rfl (zsub_c rfl zsub_n))) rfl ?_
    refine qS_aload_n qd_185_101 rfl ?_
    refine qS_iload qd_185_102 rfl ?_
    refine qS_bipush qd_185_104 (by decide) ?_
    refine qS_cvI qd_185_106 (qml_8_284 w) rfl qtm_187 (hpc_25 _ _) (Nat.le_of_ble_eq_true rfl) rfl (Nat.le_of_ble_eq_true rfl) H (fun r7 s7 H => ?_) (fun x s1 H => Or.inr ⟨x, rfl, H⟩)
    refine qS_istore (a := [(0, .ref 25), (4, qI v4), (7, qI v7)]) qd_185_109 (Nat.le_of_ble_eq_true rfl) (zsub_c rfl (zsub_c rfl (zsub_c rfl zsub_n))) rfl ?_
    refine qS_iinc (v := v7) (a := [(5, qI r7), (0, .ref 25), (4, qI v4)]) qd_185_111 (Nat.le_of_ble_eq_true rfl) rfl (zsub_c rfl (zsub_c rfl (zsub_c rfl zsub_n))) rfl ?_
    refine qS_goto qd_185_114 rfl ?_
    exact qS_sub (zsub_c rfl (zsub_c rfl (zsub_c rfl (zsub_c rfl zsub_n)))) H
  · have H := H2 hc; clear H1 H2 hc
    refine qS_iload qd_185_117 rfl ?_
    exact qS_ireturn qd_185_119 rfl (Or.inl ⟨_, rfl, H⟩)
set_option maxRecDepth 100000 in
theorem k186 {w : qE} {s : qS} {p0 : Int} {p1 : Int} {p2 : Int} {p3 : Int} {f : Int → qS → Prop} {g : Nat → qS → Prop}  (H : qR w 2 qm186 6 [(0, .ref 25), (2, qI p1), (4, qI p3), (5, qI p0), (6, qI p2)] [] s (qPI f g)) : qW w 3 186 [.ref 25, qI p0, qI p1, qI p2, qI p3] s (qPI f g) := by
  refine qW.of (M := qm186) (l := [(0, .ref 25), (1, qI p0), (2, qI p1), (3, qI p2), (4, qI p3)]) qtm_186 rfl (Nat.le_of_ble_eq_true rfl) (zsub_c rfl (zsub_c rfl (zsub_c rfl (zsub_c rfl (zsub_c rfl zsub_n))))) ?_
  refine qS_iload_n qd_186_0 rfl ?_
  refine qS_istore (a := [(0, .ref 25), (2, qI p1), (3, qI p2), (4, qI p3)]) qd_186_1 (Nat.le_of_ble_eq_true rfl) (zsub_c rfl (zsub_c rfl (zsub_c rfl (zsub_c rfl zsub_n)))) rfl ?_
  refine qS_iload_n qd_186_3 rfl ?_
  refine qS_istore (a := [(5, qI p0), (0, .ref 25), (2, qI p1), (4, qI p3)]) qd_186_4 (Nat.le_of_ble_eq_true rfl) (zsub_c rfl (zsub_c rfl (zsub_c rfl (zsub_c rfl zsub_n)))) rfl ?_
  exact qS_sub (zsub_c rfl (zsub_c rfl (zsub_c rfl (zsub_c rfl (zsub_c rfl zsub_n))))) H
set_option maxRecDepth 100000 in
theorem k186_6 {w : qE} {s : qS} {v2 : Int} {v4 : Int} {v5 : Int} {v6 : Int} {f : Int → qS → Prop} {g : Nat → qS → Prop}  (H : qW w 2 146 [.ref 25, qI v2, qI v6] s (qPI (fun r1 s1 => Rg r1 ∧ Rg v4 ∧ (r1 = v4 → qR w 2 qm186 66 [(5, qI v5)] [] s1 (qPI f g)) ∧ (r1 ≠ v4 → qW w 2 146 [.ref 25, qI v2, qI v6] s1 (qPI (fun r2 s2 => Rg r2 ∧ (r2 < 0 → qR w 2 qm186 66 [(5, qI v5)] [] s2 (qPI f g)) ∧ (0 ≤ r2 → qW w 2 146 [.ref 25, qI v2, qI v6] s2 (qPI (fun r3 s3 => Rg r3 ∧ (r3 = 47 → qR w 2 qm186 55 [(0, .ref 25), (2, qI v2), (4, qI v4), (6, qI v6)] [qI 46, qI v5, .ref 25] s3 (qPI f g)) ∧ (r3 ≠ 47 → qW w 2 146 [.ref 25, qI v2, qI v6] s3 (qPI (fun r4 s4 => qR w 2 qm186 55 [(0, .ref 25), (2, qI v2), (4, qI v4), (6, qI v6)] [qI r4, qI v5, .ref 25] s4 (qPI f g)) g))) g))) g))) g)) : qR w 2 qm186 6 [(0, .ref 25), (2, qI v2), (4, qI v4), (5, qI v5), (6, qI v6)] [] s (qPI f g) := by
  refine qS_aload_n qd_186_6 rfl ?_
  refine qS_iload_n qd_186_7 rfl ?_
  refine qS_iload qd_186_8 rfl ?_
  refine qS_cvI qd_186_10 (qml_8_107 w) rfl qtm_146 (hpc_25 _ _) (Nat.le_of_ble_eq_true rfl) rfl (Nat.le_of_ble_eq_true rfl) H (fun r1 s1 H => ?_) (fun x s1 H => Or.inr ⟨x, rfl, H⟩)
  refine qS_iload qd_186_13 rfl ?_
  obtain ⟨h15a, h15b, H1, H2⟩ := H
  refine qS_icmp qd_186_15 rfl (zcnd_eq (a := r1) (b := v4) h15a h15b (fun t => qR w _ _ t _ _ _ _) (fun hc => ?_) (fun hc => ?_))
  · have H := H1 hc; clear H1 H2 hc
    exact qS_sub (zsub_c rfl zsub_n) H
  · have H := H2 hc; clear H1 H2 hc
    refine qS_aload_n qd_186_18 rfl ?_
    refine qS_iload_n qd_186_19 rfl ?_
    refine qS_iload qd_186_20 rfl ?_
    refine qS_cvI qd_186_22 (qml_8_107 w) rfl qtm_146 (hpc_25 _ _) (Nat.le_of_ble_eq_true rfl) rfl (Nat.le_of_ble_eq_true rfl) H (fun r2 s2 H => ?_) (fun x s1 H => Or.inr ⟨x, rfl, H⟩)
    obtain ⟨h25a, H1, H2⟩ := H
    refine qS_if0 qd_186_25 rfl (zcnd_lt (a := r2) (b := 0) h25a ⟨by decide, by decide⟩ (fun t => qR w _ _ t _ _ _ _) (fun hc => ?_) (fun hc => ?_))
    · have H := H1 hc; clear H1 H2 hc
      exact qS_sub (zsub_c rfl zsub_n) H
    · have H := H2 hc; clear H1 H2 hc
      refine qS_aload_n qd_186_28 rfl ?_
      refine qS_iload qd_186_29 rfl ?_
      refine qS_aload_n qd_186_31 rfl ?_
      refine qS_iload_n qd_186_32 rfl ?_
      refine qS_iload qd_186_33 rfl ?_
      refine qS_cvI qd_186_35 (qml_8_107 w) rfl qtm_146 (hpc_25 _ _) (Nat.le_of_ble_eq_true rfl) rfl (Nat.le_of_ble_eq_true rfl) H (fun r3 s3 H => ?_) (fun x s1 H => Or.inr ⟨x, rfl, H⟩)
      refine qS_bipush qd_186_38 (by decide) ?_
      obtain ⟨h40a, H1, H2⟩ := H
      refine qS_icmp qd_186_40 rfl (zcnd_ne (a := r3) (b := 47) h40a ⟨by decide, by decide⟩ (fun t => qR w _ _ t _ _ _ _) (fun hc => ?_) (fun hc => ?_))
      · have H := H1 hc; clear H1 H2 hc
        refine qS_bipush qd_186_43 (by decide) ?_
        refine qS_goto qd_186_45 rfl ?_
        exact qS_sub (zsub_c rfl (zsub_c rfl (zsub_c rfl (zsub_c rfl zsub_n)))) H
      · have H := H2 hc; clear H1 H2 hc
        refine qS_aload_n qd_186_48 rfl ?_
        refine qS_iload_n qd_186_49 rfl ?_
        refine qS_iload qd_186_50 rfl ?_
        refine qS_cvI qd_186_52 (qml_8_107 w) rfl qtm_146 (hpc_25 _ _) (Nat.le_of_ble_eq_true rfl) rfl (Nat.le_of_ble_eq_true rfl) H (fun r4 s4 H => ?_) (fun x s1 H => Or.inr ⟨x, rfl, H⟩)
        exact qS_sub (zsub_c rfl (zsub_c rfl (zsub_c rfl (zsub_c rfl zsub_n)))) H
set_option maxRecDepth 100000 in
theorem k186_55 {w : qE} {s : qS} {v2 : Int} {v4 : Int} {v6 : Int} {k2 : Int} {k1 : Int} {f : Int → qS → Prop} {g : Nat → qS → Prop}  (H : qW w 1 187 [.ref 25, qI k1, qI k2] s (qPI (fun r5 s5 => qR w 2 qm186 6 [(0, .ref 25), (2, qI v2), (4, qI v4), (5, qI r5), (6, qI (v6 + 1))] [] s5 (qPI f g)) g)) : qR w 2 qm186 55 [(0, .ref 25), (2, qI v2), (4, qI v4), (6, qI v6)] [qI k2, qI k1, .ref 25] s (qPI f g) := by
  refine qS_cvI qd_186_55 (qml_8_284 w) rfl qtm_187 (hpc_25 _ _) (Nat.le_of_ble_eq_true rfl) rfl (Nat.le_of_ble_eq_true rfl) H (fun r5 s5 H => ?_) (fun x s1 H => Or.inr ⟨x, rfl, H⟩)
  refine qS_istore (a := [(0, .ref 25), (2, qI v2), (4, qI v4), (6, qI v6)]) qd_186_58 (Nat.le_of_ble_eq_true rfl) (zsub_c rfl (zsub_c rfl (zsub_c rfl (zsub_c rfl zsub_n)))) rfl ?_
  refine qS_iinc (v := v6) (a := [(5, qI r5), (0, .ref 25), (2, qI v2), (4, qI v4)]) qd_186_60 (Nat.le_of_ble_eq_true rfl) rfl (zsub_c rfl (zsub_c rfl (zsub_c rfl (zsub_c rfl zsub_n)))) rfl ?_
  refine qS_goto qd_186_63 rfl ?_
  exact qS_sub (zsub_c rfl (zsub_c rfl (zsub_c rfl (zsub_c rfl (zsub_c rfl zsub_n))))) H
set_option maxRecDepth 100000 in
theorem k186_66 {w : qE} {s : qS} {v5 : Int} {f : Int → qS → Prop} {g : Nat → qS → Prop}  (H : f v5 s) : qR w 2 qm186 66 [(5, qI v5)] [] s (qPI f g) := by
  refine qS_iload qd_186_66 rfl ?_
  exact qS_ireturn qd_186_68 rfl (Or.inl ⟨_, rfl, H⟩)
set_option maxRecDepth 100000 in
theorem k187 {w : qE} {s : qS} {p0 : Int} {p1 : Int} {f : Int → qS → Prop} {g : Nat → qS → Prop}  (H : (0 ≤ p0 ∧ p0 < 6000 ∧ (f (p0 + 1) (qset s 40 p0 p1)))) : qW w 1 187 [.ref 25, qI p0, qI p1] s (qPI f g) := by
  refine qW.of (M := qm187) (l := [(0, .ref 25), (1, qI p0), (2, qI p1)]) qtm_187 rfl (Nat.le_of_ble_eq_true rfl) (zsub_c rfl (zsub_c rfl (zsub_c rfl zsub_n))) ?_
  refine qS_aload_n qd_187_0 rfl ?_
  refine qS_getfield (v := .ref 40) qd_187_1 (qfl_8_57 w) (hpc_25 _ _) rfl ?_
  refine qS_iload_n qd_187_4 rfl ?_
  refine qS_iload_n qd_187_5 rfl ?_
  obtain ⟨hl, hu, H⟩ := H
  refine qS_iastore (a := 40) (i := p0) (v := p1) qd_187_6 (Nat.le_of_ble_eq_true rfl) hl hu ?_
  refine qS_iload_n qd_187_7 rfl ?_
  refine qS_iconst qd_187_8 ?_
  refine qS_iadd (a := p0) (b := 1) qd_187_9 ?_
  exact qS_ireturn qd_187_10 rfl (Or.inl ⟨_, rfl, H⟩)
set_option maxRecDepth 100000 in
theorem k188 {w : qE} {s : qS} {p0 : Int} {p1 : Int} {f : Int → qS → Prop} {g : Nat → qS → Prop}  (H : qW w 1 156 [.ref 25, qI p1] s (qPI (fun r1 s1 => qR w 1 qm188 9 [(0, .ref 25), (3, qI p0), (4, qI r1)] [] s1 (qPI f g)) g)) : qW w 2 188 [.ref 25, qI p0, qI p1] s (qPI f g) := by
  refine qW.of (M := qm188) (l := [(0, .ref 25), (1, qI p0), (2, qI p1)]) qtm_188 rfl (Nat.le_of_ble_eq_true rfl) (zsub_c rfl (zsub_c rfl (zsub_c rfl zsub_n))) ?_
  refine qS_iload_n qd_188_0 rfl ?_
  refine qS_istore_n (a := [(0, .ref 25), (2, qI p1)]) qd_188_1 (Nat.le_of_ble_eq_true rfl) (zsub_c rfl (zsub_c rfl zsub_n)) rfl ?_
  refine qS_aload_n qd_188_2 rfl ?_
  refine qS_iload_n qd_188_3 rfl ?_
  refine qS_cvI qd_188_4 (qml_8_101 w) rfl qtm_156 (hpc_25 _ _) (Nat.le_of_ble_eq_true rfl) rfl (Nat.le_of_ble_eq_true rfl) H (fun r1 s1 H => ?_) (fun x s1 H => Or.inr ⟨x, rfl, H⟩)
  refine qS_istore (a := [(3, qI p0), (0, .ref 25)]) qd_188_7 (Nat.le_of_ble_eq_true rfl) (zsub_c rfl (zsub_c rfl zsub_n)) rfl ?_
  exact qS_sub (zsub_c rfl (zsub_c rfl (zsub_c rfl zsub_n))) H
set_option maxRecDepth 100000 in
theorem k188_9 {w : qE} {s : qS} {v3 : Int} {v4 : Int} {f : Int → qS → Prop} {g : Nat → qS → Prop}  (H : (0 ≤ v4 ∧ v4 < 203 ∧ (Rg (s 26 v4) ∧ (s 26 v4 = 0 → f v3 s) ∧ (s 26 v4 ≠ 0 → (0 ≤ v4 ∧ v4 < 203 ∧ (qW w 1 187 [.ref 25, qI v3, qI (s 26 v4)] s (qPI (fun r2 s2 => qR w 1 qm188 9 [(0, .ref 25), (3, qI r2), (4, qI (v4 + 1))] [] s2 (qPI f g)) g))))))) : qR w 1 qm188 9 [(0, .ref 25), (3, qI v3), (4, qI v4)] [] s (qPI f g) := by
  refine qS_aload_n qd_188_9 rfl ?_
  refine qS_getfield (v := .ref 26) qd_188_10 (qfl_8_7 w) (hpc_25 _ _) rfl ?_
  refine qS_iload qd_188_13 rfl ?_
  obtain ⟨hl, hu, H⟩ := H
  refine qS_iaload (a := 26) (i := v4) qd_188_15 (Nat.le_of_ble_eq_true rfl) hl hu ?_
  obtain ⟨h16a, H1, H2⟩ := H
  refine qS_if0 qd_188_16 rfl (zcnd_eq (a := s 26 v4) (b := 0) h16a ⟨by decide, by decide⟩ (fun t => qR w _ _ t _ _ _ _) (fun hc => ?_) (fun hc => ?_))
  · have H := H1 hc; clear H1 H2 hc
    refine qS_iload_n qd_188_38 rfl ?_
    exact qS_ireturn qd_188_39 rfl (Or.inl ⟨_, rfl, H⟩)
  · have H := H2 hc; clear H1 H2 hc
    refine qS_aload_n qd_188_19 rfl ?_
    refine qS_iload_n qd_188_20 rfl ?_
    refine qS_aload_n qd_188_21 rfl ?_
    refine qS_getfield (v := .ref 26) qd_188_22 (qfl_8_7 w) (hpc_25 _ _) rfl ?_
    refine qS_iload qd_188_25 rfl ?_
    obtain ⟨hl, hu, H⟩ := H
    refine qS_iaload (a := 26) (i := v4) qd_188_27 (Nat.le_of_ble_eq_true rfl) hl hu ?_
    refine qS_cvI qd_188_28 (qml_8_284 w) rfl qtm_187 (hpc_25 _ _) (Nat.le_of_ble_eq_true rfl) rfl (Nat.le_of_ble_eq_true rfl) H (fun r2 s2 H => ?_) (fun x s1 H => Or.inr ⟨x, rfl, H⟩)
    refine qS_istore_n (a := [(0, .ref 25), (4, qI v4)]) qd_188_31 (Nat.le_of_ble_eq_true rfl) (zsub_c rfl (zsub_c rfl zsub_n)) rfl ?_
    refine qS_iinc (v := v4) (a := [(3, qI r2), (0, .ref 25)]) qd_188_32 (Nat.le_of_ble_eq_true rfl) rfl (zsub_c rfl (zsub_c rfl zsub_n)) rfl ?_
    refine qS_goto qd_188_35 rfl ?_
    exact qS_sub (zsub_c rfl (zsub_c rfl (zsub_c rfl zsub_n))) H
set_option maxRecDepth 100000 in
theorem k189 {w : qE} {s : qS} {p0 : Int} {p1 : Int} {p2 : Int} {f : Int → qS → Prop} {g : Nat → qS → Prop}  (H : qW w 2 141 [.ref 25, qI p1] s (qPI (fun r1 s1 => qW w 2 143 [.ref 25, qI p1] s1 (qPI (fun r2 s2 => qW w 5 152 [.ref 25, qI r2] s2 (qPI (fun r3 s3 => Rg r3 ∧ (r3 = 0 → qR w 5 qm189 41 [(0, .ref 25), (3, qI p2), (4, qI r1), (5, qI r2), (7, qI r3)] [qI 0, qI r2, qI p0, .ref 25] s3 (qPI f g)) ∧ (r3 ≠ 0 → qR w 5 qm189 41 [(0, .ref 25), (3, qI p2), (4, qI r1), (5, qI r2), (7, qI r3)] [qI ((s3 25 28) + 1), qI r2, qI p0, .ref 25] s3 (qPI f g))) g)) g)) g)) : qW w 6 189 [.ref 25, qI p0, qI p1, qI p2] s (qPI f g) := by
  refine qW.of (M := qm189) (l := [(0, .ref 25), (1, qI p0), (2, qI p1), (3, qI p2)]) qtm_189 rfl (Nat.le_of_ble_eq_true rfl) (zsub_c rfl (zsub_c rfl (zsub_c rfl (zsub_c rfl zsub_n)))) ?_
  refine qS_aload_n qd_189_0 rfl ?_
  refine qS_iload_n qd_189_1 rfl ?_
  refine qS_cvI qd_189_2 (qml_8_149 w) rfl qtm_141 (hpc_25 _ _) (Nat.le_of_ble_eq_true rfl) rfl (Nat.le_of_ble_eq_true rfl) H (fun r1 s1 H => ?_) (fun x s1 H => Or.inr ⟨x, rfl, H⟩)
  refine qS_istore (a := [(0, .ref 25), (1, qI p0), (2, qI p1), (3, qI p2)]) qd_189_5 (Nat.le_of_ble_eq_true rfl) (zsub_c rfl (zsub_c rfl (zsub_c rfl (zsub_c rfl zsub_n)))) rfl ?_
  refine qS_aload_n qd_189_7 rfl ?_
  refine qS_iload_n qd_189_8 rfl ?_
  refine qS_cvI qd_189_9 (qml_8_140 w) rfl qtm_143 (hpc_25 _ _) (Nat.le_of_ble_eq_true rfl) rfl (Nat.le_of_ble_eq_true rfl) H (fun r2 s2 H => ?_) (fun x s1 H => Or.inr ⟨x, rfl, H⟩)
  refine qS_istore (a := [(4, qI r1), (0, .ref 25), (1, qI p0), (3, qI p2)]) qd_189_12 (Nat.le_of_ble_eq_true rfl) (zsub_c rfl (zsub_c rfl (zsub_c rfl (zsub_c rfl zsub_n)))) rfl ?_
  refine qS_aload_n qd_189_14 rfl ?_
  refine qS_iload qd_189_15 rfl ?_
  refine qS_cvI qd_189_17 (qml_8_146 w) rfl qtm_152 (hpc_25 _ _) (Nat.le_of_ble_eq_true rfl) rfl (Nat.le_of_ble_eq_true rfl) H (fun r3 s3 H => ?_) (fun x s1 H => Or.inr ⟨x, rfl, H⟩)
  refine qS_istore (a := [(5, qI r2), (4, qI r1), (0, .ref 25), (1, qI p0), (3, qI p2)]) qd_189_20 (Nat.le_of_ble_eq_true rfl) (zsub_c rfl (zsub_c rfl (zsub_c rfl (zsub_c rfl (zsub_c rfl zsub_n))))) rfl ?_
  refine qS_aload_n qd_189_22 rfl ?_
  refine qS_iload_n qd_189_23 rfl ?_
  refine qS_iload qd_189_24 rfl ?_
  refine qS_iload qd_189_26 rfl ?_
  obtain ⟨h28a, H1, H2⟩ := H
  refine qS_if0 qd_189_28 rfl (zcnd_eq (a := r3) (b := 0) h28a ⟨by decide, by decide⟩ (fun t => qR w _ _ t _ _ _ _) (fun hc => ?_) (fun hc => ?_))
  · have H := H1 hc; clear H1 H2 hc
    refine qS_iconst qd_189_40 ?_
    exact qS_sub (zsub_c rfl (zsub_c rfl (zsub_c rfl (zsub_c rfl (zsub_c rfl zsub_n))))) H
  · have H := H2 hc; clear H1 H2 hc
    refine qS_aload_n qd_189_31 rfl ?_
    refine qS_getfield (v := qI (s3 25 28)) qd_189_32 (qfl_8_131 w) (hpc_25 _ _) rfl ?_
    refine qS_iconst qd_189_35 ?_
    refine qS_iadd (a := s3 25 28) (b := 1) qd_189_36 ?_
    refine qS_goto qd_189_37 rfl ?_
    exact qS_sub (zsub_c rfl (zsub_c rfl (zsub_c rfl (zsub_c rfl (zsub_c rfl zsub_n))))) H
set_option maxRecDepth 100000 in
theorem k189_41 {w : qE} {s : qS} {v3 : Int} {v4 : Int} {v5 : Int} {v7 : Int} {k3 : Int} {k2 : Int} {k1 : Int} {f : Int → qS → Prop} {g : Nat → qS → Prop}  (H : qW w 4 185 [.ref 25, qI k1, qI k2, qI k3] s (qPI (fun r4 s4 => qW w 1 187 [.ref 25, qI r4, qI 32] s4 (qPI (fun r5 s5 => Rg v3 ∧ (0 < v3 → qW w 5 184 [.ref 25, qI r5, qI v3] s5 (qPI (fun r6 s6 => qW w 1 187 [.ref 25, qI r6, qI 46] s6 (qPI (fun r7 s7 => qR w 5 qm189 79 [(0, .ref 25), (4, qI v4), (5, qI v5), (6, qI r7), (7, qI v7)] [] s7 (qPI f g)) g)) g)) ∧ (v3 ≤ 0 → qR w 5 qm189 79 [(0, .ref 25), (4, qI v4), (5, qI v5), (6, qI r5), (7, qI v7)] [] s5 (qPI f g))) g)) g)) : qR w 5 qm189 41 [(0, .ref 25), (3, qI v3), (4, qI v4), (5, qI v5), (7, qI v7)] [qI k3, qI k2, qI k1, .ref 25] s (qPI f g) := by
  refine qS_cvI qd_189_41 (qml_8_294 w) rfl qtm_185 (hpc_25 _ _) (Nat.le_of_ble_eq_true rfl) rfl (Nat.le_of_ble_eq_true rfl) H (fun r4 s4 H => ?_) (fun x s1 H => Or.inr ⟨x, rfl, H⟩)
  refine qS_istore (a := [(0, .ref 25), (3, qI v3), (4, qI v4), (5, qI v5), (7, qI v7)]) qd_189_44 (Nat.le_of_ble_eq_true rfl) (zsub_c rfl (zsub_c rfl (zsub_c rfl (zsub_c rfl (zsub_c rfl zsub_n))))) rfl ?_
  refine qS_aload_n qd_189_46 rfl ?_
  refine qS_iload qd_189_47 rfl ?_
  refine qS_bipush qd_189_49 (by decide) ?_
  refine qS_cvI qd_189_51 (qml_8_284 w) rfl qtm_187 (hpc_25 _ _) (Nat.le_of_ble_eq_true rfl) rfl (Nat.le_of_ble_eq_true rfl) H (fun r5 s5 H => ?_) (fun x s1 H => Or.inr ⟨x, rfl, H⟩)
  refine qS_istore (a := [(0, .ref 25), (3, qI v3), (4, qI v4), (5, qI v5), (7, qI v7)]) qd_189_54 (Nat.le_of_ble_eq_true rfl) (zsub_c rfl (zsub_c rfl (zsub_c rfl (zsub_c rfl (zsub_c rfl zsub_n))))) rfl ?_
  refine qS_iload_n qd_189_56 rfl ?_
  obtain ⟨h57a, H1, H2⟩ := H
  refine qS_if0 qd_189_57 rfl (zcnd_le (a := v3) (b := 0) h57a ⟨by decide, by decide⟩ (fun t => qR w _ _ t _ _ _ _) (fun hc => ?_) (fun hc => ?_))
  · have H := H1 hc; clear H1 H2 hc
    refine qS_aload_n qd_189_60 rfl ?_
    refine qS_iload qd_189_61 rfl ?_
    refine qS_iload_n qd_189_63 rfl ?_
    refine qS_cvI qd_189_64 (qml_8_297 w) rfl qtm_184 (hpc_25 _ _) (Nat.le_of_ble_eq_true rfl) rfl (Nat.le_of_ble_eq_true rfl) H (fun r6 s6 H => ?_) (fun x s1 H => Or.inr ⟨x, rfl, H⟩)
    refine qS_istore (a := [(0, .ref 25), (4, qI v4), (5, qI v5), (7, qI v7)]) qd_189_67 (Nat.le_of_ble_eq_true rfl) (zsub_c rfl (zsub_c rfl (zsub_c rfl (zsub_c rfl zsub_n)))) rfl ?_
    refine qS_aload_n qd_189_69 rfl ?_
    refine qS_iload qd_189_70 rfl ?_
    refine qS_bipush qd_189_72 (by decide) ?_
    refine qS_cvI qd_189_74 (qml_8_284 w) rfl qtm_187 (hpc_25 _ _) (Nat.le_of_ble_eq_true rfl) rfl (Nat.le_of_ble_eq_true rfl) H (fun r7 s7 H => ?_) (fun x s1 H => Or.inr ⟨x, rfl, H⟩)
    refine qS_istore (a := [(0, .ref 25), (4, qI v4), (5, qI v5), (7, qI v7)]) qd_189_77 (Nat.le_of_ble_eq_true rfl) (zsub_c rfl (zsub_c rfl (zsub_c rfl (zsub_c rfl zsub_n)))) rfl ?_
    exact qS_sub (zsub_c rfl (zsub_c rfl (zsub_c rfl (zsub_c rfl (zsub_c rfl zsub_n))))) H
  · have H := H2 hc; clear H1 H2 hc
    exact qS_sub (zsub_c rfl (zsub_c rfl (zsub_c rfl (zsub_c rfl (zsub_c rfl zsub_n))))) H
set_option maxRecDepth 100000 in
theorem k189_79 {w : qE} {s : qS} {v4 : Int} {v5 : Int} {v6 : Int} {v7 : Int} {f : Int → qS → Prop} {g : Nat → qS → Prop}  (H : qR w 5 qm189 82 [(0, .ref 25), (4, qI v4), (5, qI v5), (6, qI v6), (7, qI v7), (8, qI 0)] [] s (qPI f g)) : qR w 5 qm189 79 [(0, .ref 25), (4, qI v4), (5, qI v5), (6, qI v6), (7, qI v7)] [] s (qPI f g) := by
  refine qS_iconst qd_189_79 ?_
  refine qS_istore (a := [(0, .ref 25), (4, qI v4), (5, qI v5), (6, qI v6), (7, qI v7)]) qd_189_80 (Nat.le_of_ble_eq_true rfl) (zsub_c rfl (zsub_c rfl (zsub_c rfl (zsub_c rfl (zsub_c rfl zsub_n))))) rfl ?_
  exact qS_sub (zsub_c rfl (zsub_c rfl (zsub_c rfl (zsub_c rfl (zsub_c rfl (zsub_c rfl zsub_n)))))) H
set_option maxRecDepth 100000 in
theorem k189_82 {w : qE} {s : qS} {v4 : Int} {v5 : Int} {v6 : Int} {v7 : Int} {v8 : Int} {f : Int → qS → Prop} {g : Nat → qS → Prop}  (H : qW w 2 146 [.ref 25, qI v4, qI v8] s (qPI (fun r8 s8 => Rg r8 ∧ (r8 < 0 → Rg v7 ∧ (v7 = 0 → qR w 5 qm189 133 [] [qI v6] s8 (qPI f g)) ∧ (v7 ≠ 0 → qW w 5 190 [.ref 25, qI v6, qI v5] s8 (qPI (fun r9 s9 => qR w 5 qm189 133 [] [qI r9] s9 (qPI f g)) g))) ∧ (0 ≤ r8 → qW w 2 146 [.ref 25, qI v4, qI v8] s8 (qPI (fun r10 s10 => qW w 1 187 [.ref 25, qI v6, qI r10] s10 (qPI (fun r11 s11 => qR w 5 qm189 82 [(0, .ref 25), (4, qI v4), (5, qI v5), (6, qI r11), (7, qI v7), (8, qI (v8 + 1))] [] s11 (qPI f g)) g)) g))) g)) : qR w 5 qm189 82 [(0, .ref 25), (4, qI v4), (5, qI v5), (6, qI v6), (7, qI v7), (8, qI v8)] [] s (qPI f g) := by
  refine qS_aload_n qd_189_82 rfl ?_
  refine qS_iload qd_189_83 rfl ?_
  refine qS_iload qd_189_85 rfl ?_
  refine qS_cvI qd_189_87 (qml_8_107 w) rfl qtm_146 (hpc_25 _ _) (Nat.le_of_ble_eq_true rfl) rfl (Nat.le_of_ble_eq_true rfl) H (fun r8 s8 H => ?_) (fun x s1 H => Or.inr ⟨x, rfl, H⟩)
  obtain ⟨h90a, H1, H2⟩ := H
  refine qS_if0 qd_189_90 rfl (zcnd_lt (a := r8) (b := 0) h90a ⟨by decide, by decide⟩ (fun t => qR w _ _ t _ _ _ _) (fun hc => ?_) (fun hc => ?_))
  · have H := H1 hc; clear H1 H2 hc
    refine qS_iload qd_189_115 rfl ?_
    obtain ⟨h117a, H1, H2⟩ := H
    refine qS_if0 qd_189_117 rfl (zcnd_eq (a := v7) (b := 0) h117a ⟨by decide, by decide⟩ (fun t => qR w _ _ t _ _ _ _) (fun hc => ?_) (fun hc => ?_))
    · have H := H1 hc; clear H1 H2 hc
      refine qS_iload qd_189_131 rfl ?_
      exact qS_sub zsub_n H
    · have H := H2 hc; clear H1 H2 hc
      refine qS_aload_n qd_189_120 rfl ?_
      refine qS_iload qd_189_121 rfl ?_
      refine qS_iload qd_189_123 rfl ?_
      refine qS_cvI qd_189_125 (qml_8_300 w) rfl qtm_190 (hpc_25 _ _) (Nat.le_of_ble_eq_true rfl) rfl (Nat.le_of_ble_eq_true rfl) H (fun r9 s9 H => ?_) (fun x s1 H => Or.inr ⟨x, rfl, H⟩)
      refine qS_goto qd_189_128 rfl ?_
      exact qS_sub zsub_n H
  · have H := H2 hc; clear H1 H2 hc
    refine qS_aload_n qd_189_93 rfl ?_
    refine qS_iload qd_189_94 rfl ?_
    refine qS_aload_n qd_189_96 rfl ?_
    refine qS_iload qd_189_97 rfl ?_
    refine qS_iload qd_189_99 rfl ?_
    refine qS_cvI qd_189_101 (qml_8_107 w) rfl qtm_146 (hpc_25 _ _) (Nat.le_of_ble_eq_true rfl) rfl (Nat.le_of_ble_eq_true rfl) H (fun r10 s10 H => ?_) (fun x s1 H => Or.inr ⟨x, rfl, H⟩)
    refine qS_cvI qd_189_104 (qml_8_284 w) rfl qtm_187 (hpc_25 _ _) (Nat.le_of_ble_eq_true rfl) rfl (Nat.le_of_ble_eq_true rfl) H (fun r11 s11 H => ?_) (fun x s1 H => Or.inr ⟨x, rfl, H⟩)
    refine qS_istore (a := [(0, .ref 25), (4, qI v4), (5, qI v5), (7, qI v7), (8, qI v8)]) qd_189_107 (Nat.le_of_ble_eq_true rfl) (zsub_c rfl (zsub_c rfl (zsub_c rfl (zsub_c rfl (zsub_c rfl zsub_n))))) rfl ?_
    refine qS_iinc (v := v8) (a := [(6, qI r11), (0, .ref 25), (4, qI v4), (5, qI v5), (7, qI v7)]) qd_189_109 (Nat.le_of_ble_eq_true rfl) rfl (zsub_c rfl (zsub_c rfl (zsub_c rfl (zsub_c rfl (zsub_c rfl zsub_n))))) rfl ?_
    refine qS_goto qd_189_112 rfl ?_
    exact qS_sub (zsub_c rfl (zsub_c rfl (zsub_c rfl (zsub_c rfl (zsub_c rfl (zsub_c rfl zsub_n)))))) H
set_option maxRecDepth 100000 in
theorem k189_133 {w : qE} {s : qS} {k0 : Int} {f : Int → qS → Prop} {g : Nat → qS → Prop}  (H : f k0 s) : qR w 5 qm189 133 [] [qI k0] s (qPI f g) := by
  exact qS_ireturn qd_189_133 rfl (Or.inl ⟨_, rfl, H⟩)
set_option maxRecDepth 100000 in
theorem k190 {w : qE} {s : qS} {p0 : Int} {p1 : Int} {f : Int → qS → Prop} {g : Nat → qS → Prop}  (H : qW w 1 187 [.ref 25, qI p0, qI 40] s (qPI (fun r1 s1 => qR w 4 qm190 11 [(0, .ref 25), (2, qI p1), (3, qI r1), (4, qI 1)] [] s1 (qPI f g)) g)) : qW w 5 190 [.ref 25, qI p0, qI p1] s (qPI f g) := by
  refine qW.of (M := qm190) (l := [(0, .ref 25), (1, qI p0), (2, qI p1)]) qtm_190 rfl (Nat.le_of_ble_eq_true rfl) (zsub_c rfl (zsub_c rfl (zsub_c rfl zsub_n))) ?_
  refine qS_aload_n qd_190_0 rfl ?_
  refine qS_iload_n qd_190_1 rfl ?_
  refine qS_bipush qd_190_2 (by decide) ?_
  refine qS_cvI qd_190_4 (qml_8_284 w) rfl qtm_187 (hpc_25 _ _) (Nat.le_of_ble_eq_true rfl) rfl (Nat.le_of_ble_eq_true rfl) H (fun r1 s1 H => ?_) (fun x s1 H => Or.inr ⟨x, rfl, H⟩)
  refine qS_istore_n (a := [(0, .ref 25), (2, qI p1)]) qd_190_7 (Nat.le_of_ble_eq_true rfl) (zsub_c rfl (zsub_c rfl zsub_n)) rfl ?_
  refine qS_iconst qd_190_8 ?_
  refine qS_istore (a := [(3, qI r1), (0, .ref 25), (2, qI p1)]) qd_190_9 (Nat.le_of_ble_eq_true rfl) (zsub_c rfl (zsub_c rfl (zsub_c rfl zsub_n))) rfl ?_
  exact qS_sub (zsub_c rfl (zsub_c rfl (zsub_c rfl (zsub_c rfl zsub_n)))) H
set_option maxRecDepth 100000 in
theorem k190_11 {w : qE} {s : qS} {v2 : Int} {v3 : Int} {v4 : Int} {f : Int → qS → Prop} {g : Nat → qS → Prop}  (H : qW w 2 146 [.ref 25, qI v2, qI v4] s (qPI (fun r2 s2 => Rg r2 ∧ (r2 = 41 → qW w 1 187 [.ref 25, qI v3, qI 41] s2 (qPI (fun r3 s3 => f r3 s3) g)) ∧ (r2 ≠ 41 → Rg v4 ∧ (1 < v4 → qW w 1 187 [.ref 25, qI v3, qI 44] s2 (qPI (fun r4 s4 => qW w 1 187 [.ref 25, qI r4, qI 32] s4 (qPI (fun r5 s5 => qR w 4 qm190 45 [(0, .ref 25), (2, qI v2), (3, qI r5), (4, qI v4)] [] s5 (qPI f g)) g)) g)) ∧ (v4 ≤ 1 → qR w 4 qm190 45 [(0, .ref 25), (2, qI v2), (3, qI v3), (4, qI v4)] [] s2 (qPI f g)))) g)) : qR w 4 qm190 11 [(0, .ref 25), (2, qI v2), (3, qI v3), (4, qI v4)] [] s (qPI f g) := by
  refine qS_aload_n qd_190_11 rfl ?_
  refine qS_iload_n qd_190_12 rfl ?_
  refine qS_iload qd_190_13 rfl ?_
  refine qS_cvI qd_190_15 (qml_8_107 w) rfl qtm_146 (hpc_25 _ _) (Nat.le_of_ble_eq_true rfl) rfl (Nat.le_of_ble_eq_true rfl) H (fun r2 s2 H => ?_) (fun x s1 H => Or.inr ⟨x, rfl, H⟩)
  refine qS_bipush qd_190_18 (by decide) ?_
  obtain ⟨h20a, H1, H2⟩ := H
  refine qS_icmp qd_190_20 rfl (zcnd_eq (a := r2) (b := 41) h20a ⟨by decide, by decide⟩ (fun t => qR w _ _ t _ _ _ _) (fun hc => ?_) (fun hc => ?_))
  · have H := H1 hc; clear H1 H2 hc
    refine qS_aload_n qd_190_66 rfl ?_
    refine qS_iload_n qd_190_67 rfl ?_
    refine qS_bipush qd_190_68 (by decide) ?_
    refine qS_cvI qd_190_70 (qml_8_284 w) rfl qtm_187 (hpc_25 _ _) (Nat.le_of_ble_eq_true rfl) rfl (Nat.le_of_ble_eq_true rfl) H (fun r3 s3 H => ?_) (fun x s1 H => Or.inr ⟨x, rfl, H⟩)
    exact qS_ireturn qd_190_73 rfl (Or.inl ⟨_, rfl, H⟩)
  · have H := H2 hc; clear H1 H2 hc
    refine qS_iload qd_190_23 rfl ?_
    refine qS_iconst qd_190_25 ?_
    obtain ⟨h26a, H1, H2⟩ := H
    refine qS_icmp qd_190_26 rfl (zcnd_le (a := v4) (b := 1) h26a ⟨by decide, by decide⟩ (fun t => qR w _ _ t _ _ _ _) (fun hc => ?_) (fun hc => ?_))
    · have H := H1 hc; clear H1 H2 hc
      refine qS_aload_n qd_190_29 rfl ?_
      refine qS_iload_n qd_190_30 rfl ?_
      refine qS_bipush qd_190_31 (by decide) ?_
      refine qS_cvI qd_190_33 (qml_8_284 w) rfl qtm_187 (hpc_25 _ _) (Nat.le_of_ble_eq_true rfl) rfl (Nat.le_of_ble_eq_true rfl) H (fun r4 s4 H => ?_) (fun x s1 H => Or.inr ⟨x, rfl, H⟩)
      refine qS_istore_n (a := [(0, .ref 25), (2, qI v2), (4, qI v4)]) qd_190_36 (Nat.le_of_ble_eq_true rfl) (zsub_c rfl (zsub_c rfl (zsub_c rfl zsub_n))) rfl ?_
      refine qS_aload_n qd_190_37 rfl ?_
      refine qS_iload_n qd_190_38 rfl ?_
      refine qS_bipush qd_190_39 (by decide) ?_
      refine qS_cvI qd_190_41 (qml_8_284 w) rfl qtm_187 (hpc_25 _ _) (Nat.le_of_ble_eq_true rfl) rfl (Nat.le_of_ble_eq_true rfl) H (fun r5 s5 H => ?_) (fun x s1 H => Or.inr ⟨x, rfl, H⟩)
      refine qS_istore_n (a := [(0, .ref 25), (2, qI v2), (4, qI v4)]) qd_190_44 (Nat.le_of_ble_eq_true rfl) (zsub_c rfl (zsub_c rfl (zsub_c rfl zsub_n))) rfl ?_
      exact qS_sub (zsub_c rfl (zsub_c rfl (zsub_c rfl (zsub_c rfl zsub_n)))) H
    · have H := H2 hc; clear H1 H2 hc
      exact qS_sub (zsub_c rfl (zsub_c rfl (zsub_c rfl (zsub_c rfl zsub_n)))) H
set_option maxRecDepth 100000 in
theorem k190_45 {w : qE} {s : qS} {v2 : Int} {v3 : Int} {v4 : Int} {f : Int → qS → Prop} {g : Nat → qS → Prop}  (H : qW w 4 185 [.ref 25, qI v3, qI v2, qI v4] s (qPI (fun r6 s6 => qW w 4 148 [.ref 25, qI v2, qI v4] s6 (qPI (fun r7 s7 => qR w 4 qm190 11 [(0, .ref 25), (2, qI v2), (3, qI r6), (4, qI r7)] [] s7 (qPI f g)) g)) g)) : qR w 4 qm190 45 [(0, .ref 25), (2, qI v2), (3, qI v3), (4, qI v4)] [] s (qPI f g) := by
  refine qS_aload_n qd_190_45 rfl ?_
  refine qS_iload_n qd_190_46 rfl ?_
  refine qS_iload_n qd_190_47 rfl ?_
  refine qS_iload qd_190_48 rfl ?_
  refine qS_cvI qd_190_50 (qml_8_294 w) rfl qtm_185 (hpc_25 _ _) (Nat.le_of_ble_eq_true rfl) rfl (Nat.le_of_ble_eq_true rfl) H (fun r6 s6 H => ?_) (fun x s1 H => Or.inr ⟨x, rfl, H⟩)
  refine qS_istore_n (a := [(0, .ref 25), (2, qI v2), (4, qI v4)]) qd_190_53 (Nat.le_of_ble_eq_true rfl) (zsub_c rfl (zsub_c rfl (zsub_c rfl zsub_n))) rfl ?_
  refine qS_aload_n qd_190_54 rfl ?_
  refine qS_iload_n qd_190_55 rfl ?_
  refine qS_iload qd_190_56 rfl ?_
  refine qS_cvI qd_190_58 (qml_8_125 w) rfl qtm_148 (hpc_25 _ _) (Nat.le_of_ble_eq_true rfl) rfl (Nat.le_of_ble_eq_true rfl) H (fun r7 s7 H => ?_) (fun x s1 H => Or.inr ⟨x, rfl, H⟩)
  refine qS_istore (a := [(3, qI r6), (0, .ref 25), (2, qI v2)]) qd_190_61 (Nat.le_of_ble_eq_true rfl) (zsub_c rfl (zsub_c rfl (zsub_c rfl zsub_n))) rfl ?_
  refine qS_goto qd_190_63 rfl ?_
  exact qS_sub (zsub_c rfl (zsub_c rfl (zsub_c rfl (zsub_c rfl zsub_n)))) H
