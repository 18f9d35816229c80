/-! what the code does, in numbers: printed by a program of mine (wip/whole/gen_blocks.py, emit.py) -/
set_option maxRecDepth 100000 in
theorem k90 {w : qE} {s : qS} {p1 : Int} {p2 : Int} {f : Int → qS → Prop} {g : Nat → qS → Prop}  (H : qR w 2 qm90 10 [(0, .ref 6), (2, qI p2), (3, qI 0), (4, qI (p1 + 1)), (5, qI 0)] [] s (qPI f g)) : qW w 3 90 [.ref 6, qI p1, qI p2] s (qPI f g) := by
  refine qW.of (M := qm90) (l := [(0, .ref 6), (1, qI p1), (2, qI p2)]) qtm_90 rfl (Nat.le_of_ble_eq_true rfl) (zsub_c rfl (zsub_c rfl (zsub_c rfl zsub_n))) ?_
  refine qS_iconst qd_90_0 ?_
  refine qS_istore_n (a := [(0, .ref 6), (1, qI p1), (2, qI p2)]) qd_90_1 (Nat.le_of_ble_eq_true rfl) (zsub_c rfl (zsub_c rfl (zsub_c rfl zsub_n))) rfl ?_
  refine qS_iload_n qd_90_2 rfl ?_
  refine qS_iconst qd_90_3 ?_
  refine qS_iadd (a := p1) (b := 1) qd_90_4 ?_
  refine qS_istore (a := [(3, qI 0), (0, .ref 6), (2, qI p2)]) qd_90_5 (Nat.le_of_ble_eq_true rfl) (zsub_c rfl (zsub_c rfl (zsub_c rfl zsub_n))) rfl ?_
  refine qS_iconst qd_90_7 ?_
  refine qS_istore (a := [(4, qI (p1 + 1)), (3, qI 0), (0, .ref 6), (2, qI p2)]) qd_90_8 (Nat.le_of_ble_eq_true rfl) (zsub_c rfl (zsub_c rfl (zsub_c rfl (zsub_c rfl zsub_n)))) rfl ?_
  exact qS_sub (zsub_c rfl (zsub_c rfl (zsub_c rfl (zsub_c rfl (zsub_c rfl zsub_n))))) H
set_option maxRecDepth 100000 in
theorem k90_10 {w : qE} {s : qS} {v2 : Int} {v3 : Int} {v4 : Int} {v5 : Int} {f : Int → qS → Prop} {g : Nat → qS → Prop}  (H : Rg v5 ∧ (v5 < 500 → Rg v4 ∧ (v4 < 0 → qR w 2 qm90 71 [(3, qI v3)] [] s (qPI f g)) ∧ (0 ≤ v4 → Rg v2 ∧ (v4 < v2 → (0 ≤ v4 ∧ v4 < 500 ∧ (Rg (s 6 v4) ∧ (s 6 v4 = 41 → qR w 2 qm90 71 [(3, qI v3)] [] s (qPI f g)) ∧ (s 6 v4 ≠ 41 → (0 ≤ v4 ∧ v4 < 500 ∧ (qW w 1 66 [qI (s 6 v4)] s (qPI (fun r1 s1 => Rg r1 ∧ (r1 = 0 → qR w 2 qm90 54 [(0, .ref 6), (2, qI v2), (4, qI v4), (5, qI v5)] [qI 1, qI v3] s1 (qPI f g)) ∧ (r1 ≠ 0 → qR w 2 qm90 54 [(0, .ref 6), (2, qI v2), (4, qI v4), (5, qI v5)] [qI 2, qI v3] s1 (qPI f g))) g))))))) ∧ (v2 ≤ v4 → qR w 2 qm90 71 [(3, qI v3)] [] s (qPI f g)))) ∧ (500 ≤ v5 → qR w 2 qm90 71 [(3, qI v3)] [] s (qPI f g))) : qR w 2 qm90 10 [(0, .ref 6), (2, qI v2), (3, qI v3), (4, qI v4), (5, qI v5)] [] s (qPI f g) := by
  refine qS_iload qd_90_10 rfl ?_
  refine qS_sipush qd_90_12 (by decide) ?_
  obtain ⟨h15a, H1, H2⟩ := H
  refine qS_icmp qd_90_15 rfl (zcnd_ge (a := v5) (b := 500) h15a ⟨by decide, by decide⟩ (fun t => qR w _ _ t _ _ _ _) (fun hc => ?_) (fun hc => ?_))
  · have H := H1 hc; clear H1 H2 hc
    refine qS_iload qd_90_18 rfl ?_
    obtain ⟨h20a, H1, H2⟩ := H
    refine qS_if0 qd_90_20 rfl (zcnd_lt (a := v4) (b := 0) h20a ⟨by decide, by decide⟩ (fun t => qR w _ _ t _ _ _ _) (fun hc => ?_) (fun hc => ?_))
    · have H := H1 hc; clear H1 H2 hc
      exact qS_sub (zsub_c rfl zsub_n) H
    · have H := H2 hc; clear H1 H2 hc
      refine qS_iload qd_90_23 rfl ?_
      refine qS_iload_n qd_90_25 rfl ?_
      obtain ⟨h26b, H1, H2⟩ := H
      refine qS_icmp qd_90_26 rfl (zcnd_ge (a := v4) (b := v2) h20a h26b (fun t => qR w _ _ t _ _ _ _) (fun hc => ?_) (fun hc => ?_))
      · have H := H1 hc; clear H1 H2 hc
        refine qS_aload_n qd_90_29 rfl ?_
        refine qS_iload qd_90_30 rfl ?_
        obtain ⟨hl, hu, H⟩ := H
        refine qS_iaload (a := 6) (i := v4) qd_90_32 (Nat.le_of_ble_eq_true rfl) hl hu ?_
        refine qS_bipush qd_90_33 (by decide) ?_
        obtain ⟨h35a, H1, H2⟩ := H
        refine qS_icmp qd_90_35 rfl (zcnd_eq (a := s 6 v4) (b := 41) h35a ⟨by decide, by decide⟩ (fun t => qR w _ _ t _ _ _ _) (fun hc => ?_) (fun hc => ?_))
        · have H := H1 hc; clear H1 H2 hc
          exact qS_sub (zsub_c rfl zsub_n) H
        · have H := H2 hc; clear H1 H2 hc
          refine qS_iload_n qd_90_38 rfl ?_
          refine qS_aload_n qd_90_39 rfl ?_
          refine qS_iload qd_90_40 rfl ?_
          obtain ⟨hl, hu, H⟩ := H
          refine qS_iaload (a := 6) (i := v4) qd_90_42 (Nat.le_of_ble_eq_true rfl) hl hu ?_
          refine qS_csI qd_90_43 (qml_9_41 w) rfl (Nat.le_of_ble_eq_true rfl) rfl (Nat.le_of_ble_eq_true rfl) H (fun r1 s1 H => ?_) (fun x s1 H => Or.inr ⟨x, rfl, H⟩)
          obtain ⟨h46a, H1, H2⟩ := H
          refine qS_if0 qd_90_46 rfl (zcnd_eq (a := r1) (b := 0) h46a ⟨by decide, by decide⟩ (fun t => qR w _ _ t _ _ _ _) (fun hc => ?_) (fun hc => ?_))
          · have H := H1 hc; clear H1 H2 hc
            refine qS_iconst qd_90_53 ?_
            exact qS_sub (zsub_c rfl (zsub_c rfl (zsub_c rfl (zsub_c rfl zsub_n)))) H
          · have H := H2 hc; clear H1 H2 hc
            refine qS_iconst qd_90_49 ?_
            refine qS_goto qd_90_50 rfl ?_
            exact qS_sub (zsub_c rfl (zsub_c rfl (zsub_c rfl (zsub_c rfl zsub_n)))) H
      · have H := H2 hc; clear H1 H2 hc
        exact qS_sub (zsub_c rfl zsub_n) H
  · have H := H2 hc; clear H1 H2 hc
    exact qS_sub (zsub_c rfl zsub_n) H
set_option maxRecDepth 100000 in
theorem k90_54 {w : qE} {s : qS} {v2 : Int} {v4 : Int} {v5 : Int} {k1 : Int} {k0 : Int} {f : Int → qS → Prop} {g : Nat → qS → Prop}  (H : qW w 2 43 [.ref 6, qI v4, qI v2] s (qPI (fun r2 s2 => qR w 2 qm90 10 [(0, .ref 6), (2, qI v2), (3, qI (k0 + k1)), (4, qI r2), (5, qI (v5 + 1))] [] s2 (qPI f g)) g)) : qR w 2 qm90 54 [(0, .ref 6), (2, qI v2), (4, qI v4), (5, qI v5)] [qI k1, qI k0] s (qPI f g) := by
  refine qS_iadd (a := k0) (b := k1) qd_90_54 ?_
  refine qS_istore_n (a := [(0, .ref 6), (2, qI v2), (4, qI v4), (5, qI v5)]) qd_90_55 (Nat.le_of_ble_eq_true rfl) (zsub_c rfl (zsub_c rfl (zsub_c rfl (zsub_c rfl zsub_n)))) rfl ?_
  refine qS_aload_n qd_90_56 rfl ?_
  refine qS_iload qd_90_57 rfl ?_
  refine qS_iload_n qd_90_59 rfl ?_
  refine qS_csI qd_90_60 (qml_9_19 w) rfl (Nat.le_of_ble_eq_true rfl) rfl (Nat.le_of_ble_eq_true rfl) H (fun r2 s2 H => ?_) (fun x s1 H => Or.inr ⟨x, rfl, H⟩)
  refine qS_istore (a := [(3, qI (k0 + k1)), (0, .ref 6), (2, qI v2), (5, qI v5)]) qd_90_63 (Nat.le_of_ble_eq_true rfl) (zsub_c rfl (zsub_c rfl (zsub_c rfl (zsub_c rfl zsub_n)))) rfl ?_
  refine qS_iinc (v := v5) (a := [(4, qI r2), (3, qI (k0 + k1)), (0, .ref 6), (2, qI v2)]) qd_90_65 (Nat.le_of_ble_eq_true rfl) rfl (zsub_c rfl (zsub_c rfl (zsub_c rfl (zsub_c rfl zsub_n)))) rfl ?_
  refine qS_goto qd_90_68 rfl ?_
  exact qS_sub (zsub_c rfl (zsub_c rfl (zsub_c rfl (zsub_c rfl (zsub_c rfl zsub_n))))) H
set_option maxRecDepth 100000 in
theorem k90_71 {w : qE} {s : qS} {v3 : Int} {f : Int → qS → Prop} {g : Nat → qS → Prop}  (H : f v3 s) : qR w 2 qm90 71 [(3, qI v3)] [] s (qPI f g) := by
  refine qS_iload_n qd_90_71 rfl ?_
  exact qS_ireturn qd_90_72 rfl (Or.inl ⟨_, rfl, H⟩)
set_option maxRecDepth 100000 in
theorem k91 {w : qE} {s : qS}  {f : qS → Prop} {g : Nat → qS → Prop}  (H : qW w 1 24 [.ref 9] (qset (qset (qset s 8 5 ((-2))) 8 6 ((-2))) 8 7 ((-2))) (qPV (fun s1 => qW w 1 24 [.ref 11] s1 (qPV (fun s2 => qW w 1 24 [.ref 13] s2 (qPV (fun s3 => qW w 1 24 [.ref 15] s3 (qPV (fun s4 => qW w 8 69 [.ref 8, qI 3, qI ((-2))] s4 (qPI (fun r5 s5 => f s5) g)) g)) g)) g)) g)) : qW w 9 91 [.ref 8] s (qPV f g) := by
  refine qW.of (M := qm91) (l := [(0, .ref 8)]) qtm_91 rfl (Nat.le_of_ble_eq_true rfl) (zsub_c rfl zsub_n) ?_
  refine qS_aload_n qd_91_0 rfl ?_
  refine qS_bipush qd_91_1 (by decide) ?_
  refine qS_putfield (s1 := qset s 8 5 ((-2))) qd_91_3 (qfl_5_37 w) (hpc_8 _ _) (Nat.le_of_ble_eq_true rfl) rfl rfl rfl (hps_8_5 _ _ _) ?_
  refine qS_aload_n qd_91_6 rfl ?_
  refine qS_bipush qd_91_7 (by decide) ?_
  refine qS_putfield (s1 := qset (qset s 8 5 ((-2))) 8 6 ((-2))) qd_91_9 (qfl_5_41 w) (hpc_8 _ _) (Nat.le_of_ble_eq_true rfl) rfl rfl rfl (hps_8_6 _ _ _) ?_
  refine qS_aload_n qd_91_12 rfl ?_
  refine qS_bipush qd_91_13 (by decide) ?_
  refine qS_putfield (s1 := qset (qset (qset s 8 5 ((-2))) 8 6 ((-2))) 8 7 ((-2))) qd_91_15 (qfl_5_44 w) (hpc_8 _ _) (Nat.le_of_ble_eq_true rfl) rfl rfl rfl (hps_8_7 _ _ _) ?_
  refine qS_aload_n qd_91_18 rfl ?_
  refine qS_getfield (v := .ref 9) qd_91_19 (qfl_5_24 w) (hpc_8 _ _) rfl ?_
  refine qS_cvV qd_91_22 (qml_5_47 w) rfl qtm_24 (hpc_9 _ _) (Nat.le_of_ble_eq_true rfl) rfl (Nat.le_of_ble_eq_true rfl) H (fun s1 H => ?_) (fun x s1 H => Or.inr ⟨x, rfl, H⟩)
  refine qS_aload_n qd_91_25 rfl ?_
  refine qS_getfield (v := .ref 11) qd_91_26 (qfl_5_28 w) (hpc_8 _ _) rfl ?_
  refine qS_cvV qd_91_29 (qml_5_47 w) rfl qtm_24 (hpc_11 _ _) (Nat.le_of_ble_eq_true rfl) rfl (Nat.le_of_ble_eq_true rfl) H (fun s2 H => ?_) (fun x s1 H => Or.inr ⟨x, rfl, H⟩)
  refine qS_aload_n qd_91_32 rfl ?_
  refine qS_getfield (v := .ref 13) qd_91_33 (qfl_5_31 w) (hpc_8 _ _) rfl ?_
  refine qS_cvV qd_91_36 (qml_5_47 w) rfl qtm_24 (hpc_13 _ _) (Nat.le_of_ble_eq_true rfl) rfl (Nat.le_of_ble_eq_true rfl) H (fun s3 H => ?_) (fun x s1 H => Or.inr ⟨x, rfl, H⟩)
  refine qS_aload_n qd_91_39 rfl ?_
  refine qS_getfield (v := .ref 15) qd_91_40 (qfl_5_34 w) (hpc_8 _ _) rfl ?_
  refine qS_cvV qd_91_43 (qml_5_47 w) rfl qtm_24 (hpc_15 _ _) (Nat.le_of_ble_eq_true rfl) rfl (Nat.le_of_ble_eq_true rfl) H (fun s4 H => ?_) (fun x s1 H => Or.inr ⟨x, rfl, H⟩)
  refine qS_aload_n qd_91_46 rfl ?_
  refine qS_iconst qd_91_47 ?_
  refine qS_bipush qd_91_48 (by decide) ?_
  refine qS_cvI qd_91_50 (qml_5_52 w) rfl qtm_69 (hpc_8 _ _) (Nat.le_of_ble_eq_true rfl) rfl (Nat.le_of_ble_eq_true rfl) H (fun r5 s5 H => ?_) (fun x s1 H => Or.inr ⟨x, rfl, H⟩)
  refine qS_pop qd_91_53 rfl ?_
  exact qS_vreturn qd_91_54 rfl (Or.inl ⟨rfl, H⟩)
set_option maxRecDepth 100000 in
theorem k92 {w : qE} {s : qS}  {f : qS → Prop} {g : Nat → qS → Prop}  (H : Rg (s 1 2) ∧ Rg (s 1 1) ∧ (s 1 2 = s 1 1 → qR w 1 qm92 17 [(0, .ref 1)] [qI 1, .ref 1] s (qPV f g)) ∧ (s 1 2 ≠ s 1 1 → qR w 1 qm92 17 [(0, .ref 1)] [qI 0, .ref 1] s (qPV f g))) : qW w 2 92 [.ref 1] s (qPV f g) := by
  refine qW.of (M := qm92) (l := [(0, .ref 1)]) qtm_92 rfl (Nat.le_of_ble_eq_true rfl) (zsub_c rfl zsub_n) ?_
  refine qS_aload_n qd_92_0 rfl ?_
  refine qS_aload_n qd_92_1 rfl ?_
  refine qS_getfield (v := qI (s 1 2)) qd_92_2 (qfl_1_19 w) (hpc_1 _ _) rfl ?_
  refine qS_aload_n qd_92_5 rfl ?_
  refine qS_getfield (v := qI (s 1 1)) qd_92_6 (qfl_1_15 w) (hpc_1 _ _) rfl ?_
  obtain ⟨h9a, h9b, H1, H2⟩ := H
  refine qS_icmp qd_92_9 rfl (zcnd_ne (a := s 1 2) (b := s 1 1) h9a h9b (fun t => qR w _ _ t _ _ _ _) (fun hc => ?_) (fun hc => ?_))
  · have H := H1 hc; clear H1 H2 hc
    refine qS_iconst qd_92_12 ?_
    refine qS_goto qd_92_13 rfl ?_
    exact qS_sub (zsub_c rfl zsub_n) H
  · have H := H2 hc; clear H1 H2 hc
    refine qS_iconst qd_92_16 ?_
    exact qS_sub (zsub_c rfl zsub_n) H
set_option maxRecDepth 100000 in
theorem k92_17 {w : qE} {s : qS} {k1 : Int} {f : qS → Prop} {g : Nat → qS → Prop}  (H : qW w 1 20 [.ref 1, qI k1, qI (s 1 2)] s (qPV (fun s1 => f s1) g)) : qR w 1 qm92 17 [(0, .ref 1)] [qI k1, .ref 1] s (qPV f g) := by
  refine qS_aload_n qd_92_17 rfl ?_
  refine qS_getfield (v := qI (s 1 2)) qd_92_18 (qfl_1_19 w) (hpc_1 _ _) rfl ?_
  refine qS_cvV qd_92_21 (qml_1_31 w) rfl qtm_20 (hpc_1 _ _) (Nat.le_of_ble_eq_true rfl) rfl (Nat.le_of_ble_eq_true rfl) H (fun s1 H => ?_) (fun x s1 H => Or.inr ⟨x, rfl, H⟩)
  exact qS_vreturn qd_92_24 rfl (Or.inl ⟨rfl, H⟩)
set_option maxRecDepth 100000 in
theorem k93 {w : qE} {s : qS} {p0 : Int} {f : qS → Prop} {g : Nat → qS → Prop}  (H : qR w 2 qm93 2 [(0, .ref 7), (1, qI p0), (2, qI 1)] [] s (qPV f g)) : qW w 3 93 [.ref 7, qI p0] s (qPV f g) := by
  refine qW.of (M := qm93) (l := [(0, .ref 7), (1, qI p0)]) qtm_93 rfl (Nat.le_of_ble_eq_true rfl) (zsub_c rfl (zsub_c rfl zsub_n)) ?_
  refine qS_iconst qd_93_0 ?_
  refine qS_istore_n (a := [(0, .ref 7), (1, qI p0)]) qd_93_1 (Nat.le_of_ble_eq_true rfl) (zsub_c rfl (zsub_c rfl zsub_n)) rfl ?_
  exact qS_sub (zsub_c rfl (zsub_c rfl (zsub_c rfl zsub_n))) H
set_option maxRecDepth 100000 in
theorem k93_2 {w : qE} {s : qS} {v1 : Int} {v2 : Int} {f : qS → Prop} {g : Nat → qS → Prop}  (H : qW w 1 34 [.ref 4] s (qPI (fun r1 s1 => Rg v2 ∧ Rg r1 ∧ (v2 < r1 → qW w 2 35 [.ref 3, qI v2] s1 (qPI (fun r2 s2 => Rg r2 ∧ (r2 = 17 → qR w 2 qm93 42 [(0, .ref 7), (1, qI v1), (2, qI v2)] [] s2 (qPV f g)) ∧ (r2 ≠ 17 → qW w 2 35 [.ref 3, qI v2] s2 (qPI (fun r3 s3 => Rg r3 ∧ (r3 = 18 → qR w 2 qm93 42 [(0, .ref 7), (1, qI v1), (2, qI v2)] [] s3 (qPV f g)) ∧ (r3 ≠ 18 → qR w 2 qm93 47 [(0, .ref 7), (1, qI v1), (2, qI v2)] [qI 0] s3 (qPV f g))) g))) g)) ∧ (r1 ≤ v2 → f s1)) g)) : qR w 2 qm93 2 [(0, .ref 7), (1, qI v1), (2, qI v2)] [] s (qPV f g) := by
  refine qS_iload_n qd_93_2 rfl ?_
  refine qS_aload_n qd_93_3 rfl ?_
  refine qS_getfield (v := .ref 3) qd_93_4 (qfl_4_15 w) (hpc_7 _ _) rfl ?_
  refine qS_getfield (v := .ref 4) qd_93_7 (qfl_4_19 w) (hpc_3 _ _) rfl ?_
  refine qS_cvI qd_93_10 (qml_4_25 w) rfl qtm_34 (hpc_4 _ _) (Nat.le_of_ble_eq_true rfl) rfl (Nat.le_of_ble_eq_true rfl) H (fun r1 s1 H => ?_) (fun x s1 H => Or.inr ⟨x, rfl, H⟩)
  obtain ⟨h13a, h13b, H1, H2⟩ := H
  refine qS_icmp qd_93_13 rfl (zcnd_ge (a := v2) (b := r1) h13a h13b (fun t => qR w _ _ t _ _ _ _) (fun hc => ?_) (fun hc => ?_))
  · have H := H1 hc; clear H1 H2 hc
    refine qS_aload_n qd_93_16 rfl ?_
    refine qS_getfield (v := .ref 3) qd_93_17 (qfl_4_15 w) (hpc_7 _ _) rfl ?_
    refine qS_iload_n qd_93_20 rfl ?_
    refine qS_cvI qd_93_21 (qml_4_45 w) rfl qtm_35 (hpc_3 _ _) (Nat.le_of_ble_eq_true rfl) rfl (Nat.le_of_ble_eq_true rfl) H (fun r2 s2 H => ?_) (fun x s1 H => Or.inr ⟨x, rfl, H⟩)
    refine qS_bipush qd_93_24 (by decide) ?_
    obtain ⟨h26a, H1, H2⟩ := H
    refine qS_icmp qd_93_26 rfl (zcnd_eq (a := r2) (b := 17) h26a ⟨by decide, by decide⟩ (fun t => qR w _ _ t _ _ _ _) (fun hc => ?_) (fun hc => ?_))
    · have H := H1 hc; clear H1 H2 hc
      exact qS_sub (zsub_c rfl (zsub_c rfl (zsub_c rfl zsub_n))) H
    · have H := H2 hc; clear H1 H2 hc
      refine qS_aload_n qd_93_29 rfl ?_
      refine qS_getfield (v := .ref 3) qd_93_30 (qfl_4_15 w) (hpc_7 _ _) rfl ?_
      refine qS_iload_n qd_93_33 rfl ?_
      refine qS_cvI qd_93_34 (qml_4_45 w) rfl qtm_35 (hpc_3 _ _) (Nat.le_of_ble_eq_true rfl) rfl (Nat.le_of_ble_eq_true rfl) H (fun r3 s3 H => ?_) (fun x s1 H => Or.inr ⟨x, rfl, H⟩)
      refine qS_bipush qd_93_37 (by decide) ?_
      obtain ⟨h39a, H1, H2⟩ := H
      refine qS_icmp qd_93_39 rfl (zcnd_ne (a := r3) (b := 18) h39a ⟨by decide, by decide⟩ (fun t => qR w _ _ t _ _ _ _) (fun hc => ?_) (fun hc => ?_))
      · have H := H1 hc; clear H1 H2 hc
        exact qS_sub (zsub_c rfl (zsub_c rfl (zsub_c rfl zsub_n))) H
      · have H := H2 hc; clear H1 H2 hc
        refine qS_iconst qd_93_46 ?_
        exact qS_sub (zsub_c rfl (zsub_c rfl (zsub_c rfl zsub_n))) H
  · have H := H2 hc; clear H1 H2 hc
    exact qS_vreturn qd_93_94 rfl (Or.inl ⟨rfl, H⟩)
set_option maxRecDepth 100000 in
theorem k93_42 {w : qE} {s : qS} {v1 : Int} {v2 : Int} {f : qS → Prop} {g : Nat → qS → Prop}  (H : qR w 2 qm93 47 [(0, .ref 7), (1, qI v1), (2, qI v2)] [qI 1] s (qPV f g)) : qR w 2 qm93 42 [(0, .ref 7), (1, qI v1), (2, qI v2)] [] s (qPV f g) := by
  refine qS_iconst qd_93_42 ?_
  refine qS_goto qd_93_43 rfl ?_
  exact qS_sub (zsub_c rfl (zsub_c rfl (zsub_c rfl zsub_n))) H
set_option maxRecDepth 100000 in
theorem k93_47 {w : qE} {s : qS} {v1 : Int} {v2 : Int} {k0 : Int} {f : qS → Prop} {g : Nat → qS → Prop}  (H : Rg k0 ∧ (k0 = 0 → qR w 2 qm93 68 [(0, .ref 7), (1, qI v1), (2, qI v2)] [.ref 1] s (qPV f g)) ∧ (k0 ≠ 0 → qW w 2 49 [.ref 3, qI v2] s (qPI (fun r4 s4 => Rg r4 ∧ Rg v1 ∧ (r4 < v1 → qR w 2 qm93 68 [(0, .ref 7), (1, qI v1), (2, qI v2)] [.ref 1] s4 (qPV f g)) ∧ (v1 ≤ r4 → qR w 2 qm93 73 [(0, .ref 7), (1, qI v1), (2, qI v2)] [qI 0, .ref 1] s4 (qPV f g))) g))) : qR w 2 qm93 47 [(0, .ref 7), (1, qI v1), (2, qI v2)] [qI k0] s (qPV f g) := by
  refine qS_istore_n (a := [(0, .ref 7), (1, qI v1), (2, qI v2)]) qd_93_47 (Nat.le_of_ble_eq_true rfl) (zsub_c rfl (zsub_c rfl (zsub_c rfl zsub_n))) rfl ?_
  refine qS_aload_n qd_93_48 rfl ?_
  refine qS_getfield (v := .ref 1) qd_93_49 (qfl_4_9 w) (hpc_7 _ _) rfl ?_
  refine qS_iload_n qd_93_52 rfl ?_
  obtain ⟨h53a, H1, H2⟩ := H
  refine qS_if0 qd_93_53 rfl (zcnd_eq (a := k0) (b := 0) h53a ⟨by decide, by decide⟩ (fun t => qR w _ _ t _ _ _ _) (fun hc => ?_) (fun hc => ?_))
  · have H := H1 hc; clear H1 H2 hc
    exact qS_sub (zsub_c rfl (zsub_c rfl (zsub_c rfl zsub_n))) H
  · have H := H2 hc; clear H1 H2 hc
    refine qS_aload_n qd_93_56 rfl ?_
    refine qS_getfield (v := .ref 3) qd_93_57 (qfl_4_15 w) (hpc_7 _ _) rfl ?_
    refine qS_iload_n qd_93_60 rfl ?_
    refine qS_cvI qd_93_61 (qml_4_49 w) rfl qtm_49 (hpc_3 _ _) (Nat.le_of_ble_eq_true rfl) rfl (Nat.le_of_ble_eq_true rfl) H (fun r4 s4 H => ?_) (fun x s1 H => Or.inr ⟨x, rfl, H⟩)
    refine qS_iload_n qd_93_64 rfl ?_
    obtain ⟨h65a, h65b, H1, H2⟩ := H
    refine qS_icmp qd_93_65 rfl (zcnd_ge (a := r4) (b := v1) h65a h65b (fun t => qR w _ _ t _ _ _ _) (fun hc => ?_) (fun hc => ?_))
    · have H := H1 hc; clear H1 H2 hc
      exact qS_sub (zsub_c rfl (zsub_c rfl (zsub_c rfl zsub_n))) H
    · have H := H2 hc; clear H1 H2 hc
      refine qS_iconst qd_93_72 ?_
      exact qS_sub (zsub_c rfl (zsub_c rfl (zsub_c rfl zsub_n))) H
set_option maxRecDepth 100000 in
theorem k93_68 {w : qE} {s : qS} {v1 : Int} {v2 : Int} {f : qS → Prop} {g : Nat → qS → Prop}  (H : qR w 2 qm93 73 [(0, .ref 7), (1, qI v1), (2, qI v2)] [qI 1, .ref 1] s (qPV f g)) : qR w 2 qm93 68 [(0, .ref 7), (1, qI v1), (2, qI v2)] [.ref 1] s (qPV f g) := by
  refine qS_iconst qd_93_68 ?_
  refine qS_goto qd_93_69 rfl ?_
  exact qS_sub (zsub_c rfl (zsub_c rfl (zsub_c rfl zsub_n))) H
set_option maxRecDepth 100000 in
theorem k93_73 {w : qE} {s : qS} {v1 : Int} {v2 : Int} {k1 : Int} {f : qS → Prop} {g : Nat → qS → Prop}  (H : qW w 1 36 [.ref 4, qI v2, qI 3] s (qPI (fun r5 s5 => qW w 1 20 [.ref 1, qI k1, qI r5] s5 (qPV (fun s6 => qR w 2 qm93 2 [(0, .ref 7), (1, qI v1), (2, qI (v2 + 1))] [] s6 (qPV f g)) g)) g)) : qR w 2 qm93 73 [(0, .ref 7), (1, qI v1), (2, qI v2)] [qI k1, .ref 1] s (qPV f g) := by
  refine qS_aload_n qd_93_73 rfl ?_
  refine qS_getfield (v := .ref 3) qd_93_74 (qfl_4_15 w) (hpc_7 _ _) rfl ?_
  refine qS_getfield (v := .ref 4) qd_93_77 (qfl_4_19 w) (hpc_3 _ _) rfl ?_
  refine qS_iload_n qd_93_80 rfl ?_
  refine qS_iconst qd_93_81 ?_
  refine qS_cvI qd_93_82 (qml_4_35 w) rfl qtm_36 (hpc_4 _ _) (Nat.le_of_ble_eq_true rfl) rfl (Nat.le_of_ble_eq_true rfl) H (fun r5 s5 H => ?_) (fun x s1 H => Or.inr ⟨x, rfl, H⟩)
  refine qS_cvV qd_93_85 (qml_4_39 w) rfl qtm_20 (hpc_1 _ _) (Nat.le_of_ble_eq_true rfl) rfl (Nat.le_of_ble_eq_true rfl) H (fun s6 H => ?_) (fun x s1 H => Or.inr ⟨x, rfl, H⟩)
  refine qS_iinc (v := v2) (a := [(0, .ref 7), (1, qI v1)]) qd_93_88 (Nat.le_of_ble_eq_true rfl) rfl (zsub_c rfl (zsub_c rfl zsub_n)) rfl ?_
  refine qS_goto qd_93_91 rfl ?_
  exact qS_sub (zsub_c rfl (zsub_c rfl (zsub_c rfl zsub_n))) H
set_option maxRecDepth 100000 in
theorem k94 {w : qE} {s : qS} {p0 : Int} {p1 : Int} {f : Int → qS → Prop} {g : Nat → qS → Prop}  (H : qW w 1 95 [.ref 0] s (qPV (fun s1 => Rg p1 ∧ (p1 < 0 → qR w 2 qm94 13 [] [] s1 (qPI f g)) ∧ (0 ≤ p1 → (3 < p1 → qR w 2 qm94 13 [] [] s1 (qPI f g)) ∧ (p1 ≤ 3 → qW w 2 96 [.ref 3, qI p0] s1 (qPI (fun r2 s2 => Rg r2 ∧ (r2 = 0 → qR w 2 qm94 43 [] [qI ((-2))] s2 (qPI f g)) ∧ (r2 ≠ 0 → qW w 1 36 [.ref 4, qI p0, qI p1] s2 (qPI (fun r3 s3 => qR w 2 qm94 43 [] [qI r3] s3 (qPI f g)) g))) g)))) g)) : qW w 3 94 [.ref 0, qI p0, qI p1] s (qPI f g) := by
  refine qW.of (M := qm94) (l := [(0, .ref 0), (1, qI p0), (2, qI p1)]) qtm_94 rfl (Nat.le_of_ble_eq_true rfl) (zsub_c rfl (zsub_c rfl (zsub_c rfl zsub_n))) ?_
  refine qS_aload_n qd_94_0 rfl ?_
  refine qS_cvV qd_94_1 (qml_0_125 w) rfl qtm_95 (hpc_0 _ _) (Nat.le_of_ble_eq_true rfl) rfl (Nat.le_of_ble_eq_true rfl) H (fun s1 H => ?_) (fun x s1 H => Or.inr ⟨x, rfl, H⟩)
  refine qS_iload_n qd_94_4 rfl ?_
  obtain ⟨h5a, H1, H2⟩ := H
  refine qS_if0 qd_94_5 rfl (zcnd_lt (a := p1) (b := 0) h5a ⟨by decide, by decide⟩ (fun t => qR w _ _ t _ _ _ _) (fun hc => ?_) (fun hc => ?_))
  · have H := H1 hc; clear H1 H2 hc
    exact qS_sub zsub_n H
  · have H := H2 hc; clear H1 H2 hc
    refine qS_iload_n qd_94_8 rfl ?_
    refine qS_iconst qd_94_9 ?_
    obtain ⟨H1, H2⟩ := H
    refine qS_icmp qd_94_10 rfl (zcnd_le (a := p1) (b := 3) h5a ⟨by decide, by decide⟩ (fun t => qR w _ _ t _ _ _ _) (fun hc => ?_) (fun hc => ?_))
    · have H := H1 hc; clear H1 H2 hc
      exact qS_sub zsub_n H
    · have H := H2 hc; clear H1 H2 hc
      refine qS_aload_n qd_94_15 rfl ?_
      refine qS_getfield (v := .ref 3) qd_94_16 (qfl_0_21 w) (hpc_0 _ _) rfl ?_
      refine qS_iload_n qd_94_19 rfl ?_
      refine qS_cvI qd_94_20 (qml_0_128 w) rfl qtm_96 (hpc_3 _ _) (Nat.le_of_ble_eq_true rfl) rfl (Nat.le_of_ble_eq_true rfl) H (fun r2 s2 H => ?_) (fun x s1 H => Or.inr ⟨x, rfl, H⟩)
      obtain ⟨h23a, H1, H2⟩ := H
      refine qS_if0 qd_94_23 rfl (zcnd_eq (a := r2) (b := 0) h23a ⟨by decide, by decide⟩ (fun t => qR w _ _ t _ _ _ _) (fun hc => ?_) (fun hc => ?_))
      · have H := H1 hc; clear H1 H2 hc
        refine qS_bipush qd_94_41 (by decide) ?_
        exact qS_sub zsub_n H
      · have H := H2 hc; clear H1 H2 hc
        refine qS_aload_n qd_94_26 rfl ?_
        refine qS_getfield (v := .ref 3) qd_94_27 (qfl_0_21 w) (hpc_0 _ _) rfl ?_
        refine qS_getfield (v := .ref 4) qd_94_30 (qfl_0_119 w) (hpc_3 _ _) rfl ?_
        refine qS_iload_n qd_94_33 rfl ?_
        refine qS_iload_n qd_94_34 rfl ?_
        refine qS_cvI qd_94_35 (qml_0_132 w) rfl qtm_36 (hpc_4 _ _) (Nat.le_of_ble_eq_true rfl) rfl (Nat.le_of_ble_eq_true rfl) H (fun r3 s3 H => ?_) (fun x s1 H => Or.inr ⟨x, rfl, H⟩)
        refine qS_goto qd_94_38 rfl ?_
        exact qS_sub zsub_n H
set_option maxRecDepth 100000 in
theorem k94_13 {w : qE} {s : qS}  {f : Int → qS → Prop} {g : Nat → qS → Prop}  (H : f ((-1)) s) : qR w 2 qm94 13 [] [] s (qPI f g) := by
  refine qS_iconst qd_94_13 ?_
  exact qS_ireturn qd_94_14 rfl (Or.inl ⟨_, rfl, H⟩)
set_option maxRecDepth 100000 in
theorem k94_43 {w : qE} {s : qS} {k0 : Int} {f : Int → qS → Prop} {g : Nat → qS → Prop}  (H : f k0 s) : qR w 2 qm94 43 [] [qI k0] s (qPI f g) := by
  exact qS_ireturn qd_94_43 rfl (Or.inl ⟨_, rfl, H⟩)
set_option maxRecDepth 100000 in
theorem k95 {w : qE} {s : qS}  {f : qS → Prop} {g : Nat → qS → Prop}  (H : Rg (s 0 6) ∧ (s 0 6 = 0 → g 2 s) ∧ (s 0 6 ≠ 0 → f s)) : qW w 1 95 [.ref 0] s (qPV f g) := by
  refine qW.of (M := qm95) (l := [(0, .ref 0)]) qtm_95 rfl (Nat.le_of_ble_eq_true rfl) (zsub_c rfl zsub_n) ?_
  refine qS_aload_n qd_95_0 rfl ?_
  refine qS_getfield (v := qI (s 0 6)) qd_95_1 (qfl_0_59 w) (hpc_0 _ _) rfl ?_
  obtain ⟨h4a, H1, H2⟩ := H
  refine qS_if0 qd_95_4 rfl (zcnd_ne (a := s 0 6) (b := 0) h4a ⟨by decide, by decide⟩ (fun t => qR w _ _ t _ _ _ _) (fun hc => ?_) (fun hc => ?_))
  · have H := H1 hc; clear H1 H2 hc
    exact qS_throw qd_95_7 rfl (Or.inr ⟨_, rfl, H⟩)
  · have H := H2 hc; clear H1 H2 hc
    exact qS_vreturn qd_95_15 rfl (Or.inl ⟨rfl, H⟩)
set_option maxRecDepth 100000 in
theorem k96 {w : qE} {s : qS} {p0 : Int} {f : Int → qS → Prop} {g : Nat → qS → Prop}  (H : qW w 1 36 [.ref 4, qI p0, qI 0] s (qPI (fun r1 s1 => Rg r1 ∧ (0 < r1 → qR w 1 qm96 17 [] [qI 1] s1 (qPI f g)) ∧ (r1 ≤ 0 → qR w 1 qm96 17 [] [qI 0] s1 (qPI f g))) g)) : qW w 2 96 [.ref 3, qI p0] s (qPI f g) := by
  refine qW.of (M := qm96) (l := [(0, .ref 3), (1, qI p0)]) qtm_96 rfl (Nat.le_of_ble_eq_true rfl) (zsub_c rfl (zsub_c rfl zsub_n)) ?_
  refine qS_aload_n qd_96_0 rfl ?_
  refine qS_getfield (v := .ref 4) qd_96_1 (qfl_2_20 w) (hpc_3 _ _) rfl ?_
  refine qS_iload_n qd_96_4 rfl ?_
  refine qS_iconst qd_96_5 ?_
  refine qS_cvI qd_96_6 (qml_2_93 w) rfl qtm_36 (hpc_4 _ _) (Nat.le_of_ble_eq_true rfl) rfl (Nat.le_of_ble_eq_true rfl) H (fun r1 s1 H => ?_) (fun x s1 H => Or.inr ⟨x, rfl, H⟩)
  obtain ⟨h9a, H1, H2⟩ := H
  refine qS_if0 qd_96_9 rfl (zcnd_le (a := r1) (b := 0) h9a ⟨by decide, by decide⟩ (fun t => qR w _ _ t _ _ _ _) (fun hc => ?_) (fun hc => ?_))
  · have H := H1 hc; clear H1 H2 hc
    refine qS_iconst qd_96_12 ?_
    refine qS_goto qd_96_13 rfl ?_
    exact qS_sub zsub_n H
  · have H := H2 hc; clear H1 H2 hc
    refine qS_iconst qd_96_16 ?_
    exact qS_sub zsub_n H
set_option maxRecDepth 100000 in
theorem k96_17 {w : qE} {s : qS} {k0 : Int} {f : Int → qS → Prop} {g : Nat → qS → Prop}  (H : ((k0 = 0 ∨ k0 = 1) ∧ f k0 s)) : qR w 1 qm96 17 [] [qI k0] s (qPI f g) := by
  exact qS_zreturn qd_96_17 rfl H.1 (Or.inl ⟨_, rfl, H.2⟩)
set_option maxRecDepth 100000 in
theorem k97 {w : qE} {s : qS} {p0 : Int} {f : UInt64 → qS → Prop} {g : Nat → qS → Prop}  (H : qW w 1 95 [.ref 0] s (qPV (fun s1 => qW w 2 35 [.ref 3, qI p0] s1 (qPI (fun r2 s2 => Rg r2 ∧ (r2 = 3 → qW w 2 49 [.ref 3, qI p0] s2 (qPI (fun r3 s3 => f (FP.i2d (Int32.ofInt r3)) s3) g)) ∧ (r2 = 4 → qW w 2 49 [.ref 3, qI p0] s2 (qPI (fun r4 s4 => qW w 2 99 [qI r4] s4 (qPD (fun r5 s5 => f r5 s5) g)) g)) ∧ (r2 = 5 → qW w 3 98 [.ref 3, qI p0] s2 (qPJ (fun r6 s6 => f (FP.l2d r6) s6) g)) ∧ (r2 = 6 → qW w 3 98 [.ref 3, qI p0] s2 (qPJ (fun r7 s7 => qW w 2 102 [.long r7] s7 (qPD (fun r8 s8 => f r8 s8) g)) g)) ∧ (r2 ≠ 3 → r2 ≠ 4 → r2 ≠ 5 → r2 ≠ 6 → f ((13830554455654793216 : UInt64)) s2)) g)) g)) : qW w 4 97 [.ref 0, qI p0] s (qPD f g) := by
  refine qW.of (M := qm97) (l := [(0, .ref 0), (1, qI p0)]) qtm_97 rfl (Nat.le_of_ble_eq_true rfl) (zsub_c rfl (zsub_c rfl zsub_n)) ?_
  refine qS_aload_n qd_97_0 rfl ?_
  refine qS_cvV qd_97_1 (qml_0_125 w) rfl qtm_95 (hpc_0 _ _) (Nat.le_of_ble_eq_true rfl) rfl (Nat.le_of_ble_eq_true rfl) H (fun s1 H => ?_) (fun x s1 H => Or.inr ⟨x, rfl, H⟩)
  refine qS_aload_n qd_97_4 rfl ?_
  refine qS_getfield (v := .ref 3) qd_97_5 (qfl_0_21 w) (hpc_0 _ _) rfl ?_
  refine qS_iload_n qd_97_8 rfl ?_
  refine qS_cvI qd_97_9 (qml_0_136 w) rfl qtm_35 (hpc_3 _ _) (Nat.le_of_ble_eq_true rfl) rfl (Nat.le_of_ble_eq_true rfl) H (fun r2 s2 H => ?_) (fun x s1 H => Or.inr ⟨x, rfl, H⟩)
  obtain ⟨h12a, H1, H2, H3, H4, Hd⟩ := H
  by_cases hc0 : r2 = 3
  · refine qS_tsw qd_97_12 (t := 44) h12a (by rw [hc0]; rfl) ?_
    have H := H1 hc0
    refine qS_aload_n qd_97_44 rfl ?_
    refine qS_getfield (v := .ref 3) qd_97_45 (qfl_0_21 w) (hpc_0 _ _) rfl ?_
    refine qS_iload_n qd_97_48 rfl ?_
    refine qS_cvI qd_97_49 (qml_0_139 w) rfl qtm_49 (hpc_3 _ _) (Nat.le_of_ble_eq_true rfl) rfl (Nat.le_of_ble_eq_true rfl) H (fun r3 s3 H => ?_) (fun x s1 H => Or.inr ⟨x, rfl, H⟩)
    refine qS_p1 (u := .double (FP.i2d (Int32.ofInt r3))) qd_97_52 rfl rfl (fun _ => rfl) ?_
    exact qS_dreturn qd_97_53 rfl (Or.inl ⟨_, rfl, H⟩)
  by_cases hc1 : r2 = 4
  · refine qS_tsw qd_97_12 (t := 64) h12a (by rw [hc1]; rfl) ?_
    have H := H2 hc1
    refine qS_aload_n qd_97_64 rfl ?_
    refine qS_getfield (v := .ref 3) qd_97_65 (qfl_0_21 w) (hpc_0 _ _) rfl ?_
    refine qS_iload_n qd_97_68 rfl ?_
    refine qS_cvI qd_97_69 (qml_0_139 w) rfl qtm_49 (hpc_3 _ _) (Nat.le_of_ble_eq_true rfl) rfl (Nat.le_of_ble_eq_true rfl) H (fun r4 s4 H => ?_) (fun x s1 H => Or.inr ⟨x, rfl, H⟩)
    refine qS_csD qd_97_72 (qml_0_146 w) rfl (Nat.le_of_ble_eq_true rfl) rfl (Nat.le_of_ble_eq_true rfl) H (fun r5 s5 H => ?_) (fun x s1 H => Or.inr ⟨x, rfl, H⟩)
    exact qS_dreturn qd_97_75 rfl (Or.inl ⟨_, rfl, H⟩)
  by_cases hc2 : r2 = 5
  · refine qS_tsw qd_97_12 (t := 54) h12a (by rw [hc2]; rfl) ?_
    have H := H3 hc2
    refine qS_aload_n qd_97_54 rfl ?_
    refine qS_getfield (v := .ref 3) qd_97_55 (qfl_0_21 w) (hpc_0 _ _) rfl ?_
    refine qS_iload_n qd_97_58 rfl ?_
    refine qS_cvJ qd_97_59 (qml_0_142 w) rfl qtm_98 (hpc_3 _ _) (Nat.le_of_ble_eq_true rfl) rfl (Nat.le_of_ble_eq_true rfl) H (fun r6 s6 H => ?_) (fun x s1 H => Or.inr ⟨x, rfl, H⟩)
    refine qS_p1 (u := .double (FP.l2d r6)) qd_97_62 rfl rfl (fun _ => rfl) ?_
    exact qS_dreturn qd_97_63 rfl (Or.inl ⟨_, rfl, H⟩)
  by_cases hc3 : r2 = 6
  · refine qS_tsw qd_97_12 (t := 76) h12a (by rw [hc3]; rfl) ?_
    have H := H4 hc3
    refine qS_aload_n qd_97_76 rfl ?_
    refine qS_getfield (v := .ref 3) qd_97_77 (qfl_0_21 w) (hpc_0 _ _) rfl ?_
    refine qS_iload_n qd_97_80 rfl ?_
    refine qS_cvJ qd_97_81 (qml_0_142 w) rfl qtm_98 (hpc_3 _ _) (Nat.le_of_ble_eq_true rfl) rfl (Nat.le_of_ble_eq_true rfl) H (fun r7 s7 H => ?_) (fun x s1 H => Or.inr ⟨x, rfl, H⟩)
    refine qS_csD qd_97_84 (qml_0_152 w) rfl (Nat.le_of_ble_eq_true rfl) rfl (Nat.le_of_ble_eq_true rfl) H (fun r8 s8 H => ?_) (fun x s1 H => Or.inr ⟨x, rfl, H⟩)
    exact qS_dreturn qd_97_87 rfl (Or.inl ⟨_, rfl, H⟩)
  refine qS_tsw qd_97_12 (t := 88) h12a (by unfold ztsw; rw [if_pos (by omega)]; rfl) ?_
  have H := Hd (by omega) (by omega) (by omega) (by omega)
  refine qS_ldc (v := .double ((13830554455654793216 : UInt64))) qd_97_88 rfl rfl (fun _ => rfl) (fun _ => qS_k3 (qkl_0_156 w)) ?_
  exact qS_dreturn qd_97_91 rfl (Or.inl ⟨_, rfl, H⟩)
set_option maxRecDepth 100000 in
theorem k98 {w : qE} {s : qS} {p0 : Int} {f : Int64 → qS → Prop} {g : Nat → qS → Prop}  (H : qW w 2 49 [.ref 3, qI p0] s (qPI (fun r1 s1 => qW w 2 50 [.ref 3, qI p0] s1 (qPI (fun r2 s2 => f ((((Int32.ofInt r1).toInt64) <<< ((Int32.ofInt 32).toInt64 &&& 63)) ||| (((Int32.ofInt r2).toInt64) &&& ((4294967295 : Int64)))) s2) g)) g)) : qW w 3 98 [.ref 3, qI p0] s (qPJ f g) := by
  refine qW.of (M := qm98) (l := [(0, .ref 3), (1, qI p0)]) qtm_98 rfl (Nat.le_of_ble_eq_true rfl) (zsub_c rfl (zsub_c rfl zsub_n)) ?_
  refine qS_aload_n qd_98_0 rfl ?_
  refine qS_iload_n qd_98_1 rfl ?_
  refine qS_cvI qd_98_2 (qml_2_101 w) rfl qtm_49 (hpc_3 _ _) (Nat.le_of_ble_eq_true rfl) rfl (Nat.le_of_ble_eq_true rfl) H (fun r1 s1 H => ?_) (fun x s1 H => Or.inr ⟨x, rfl, H⟩)
  refine qS_p1 (u := .long ((Int32.ofInt r1).toInt64)) qd_98_5 rfl rfl (fun _ => rfl) ?_
  refine qS_bipush qd_98_6 (by decide) ?_
  refine qS_p2 (u := .long (((Int32.ofInt r1).toInt64) <<< ((Int32.ofInt 32).toInt64 &&& 63))) qd_98_8 rfl rfl (fun _ => rfl) ?_
  refine qS_aload_n qd_98_9 rfl ?_
  refine qS_iload_n qd_98_10 rfl ?_
  refine qS_cvI qd_98_11 (qml_2_104 w) rfl qtm_50 (hpc_3 _ _) (Nat.le_of_ble_eq_true rfl) rfl (Nat.le_of_ble_eq_true rfl) H (fun r2 s2 H => ?_) (fun x s1 H => Or.inr ⟨x, rfl, H⟩)
  refine qS_p1 (u := .long ((Int32.ofInt r2).toInt64)) qd_98_14 rfl rfl (fun _ => rfl) ?_
  refine qS_ldc (v := .long ((4294967295 : Int64))) qd_98_15 rfl rfl (fun _ => rfl) (fun _ => qS_k2 (qkl_2_107 w)) ?_
  refine qS_p2 (u := .long (((Int32.ofInt r2).toInt64) &&& ((4294967295 : Int64)))) qd_98_18 rfl rfl (fun _ => rfl) ?_
  refine qS_p2 (u := .long ((((Int32.ofInt r1).toInt64) <<< ((Int32.ofInt 32).toInt64 &&& 63)) ||| (((Int32.ofInt r2).toInt64) &&& ((4294967295 : Int64))))) qd_98_19 rfl rfl (fun _ => rfl) ?_
  exact qS_lreturn qd_98_20 rfl (Or.inl ⟨_, rfl, H⟩)
set_option maxRecDepth 100000 in
theorem k99 {w : qE} {s : qS} {p0 : Int} {f : UInt64 → qS → Prop} {g : Nat → qS → Prop}  (H : Rg (qand (qushr p0 23) 255) ∧ (qand (qushr p0 23) 255 < 255 → qR w 1 qm99 21 [(0, qI p0), (1, qI (qand (qushr p0 23) 255))] [qI 1] s (qPD f g)) ∧ (255 ≤ qand (qushr p0 23) 255 → qR w 1 qm99 21 [(0, qI p0), (1, qI (qand (qushr p0 23) 255))] [qI 0] s (qPD f g))) : qW w 2 99 [qI p0] s (qPD f g) := by
  refine qW.of (M := qm99) (l := [(0, qI p0)]) qtm_99 rfl (Nat.le_of_ble_eq_true rfl) (zsub_c rfl zsub_n) ?_
  refine qS_iload_n qd_99_0 rfl ?_
  refine qS_bipush qd_99_1 (by decide) ?_
  refine qS_iushr (a := p0) (b := 23) qd_99_3 ?_
  refine qS_sipush qd_99_4 (by decide) ?_
  refine qS_iand (a := qushr p0 23) (b := 255) qd_99_7 ?_
  refine qS_istore_n (a := [(0, qI p0)]) qd_99_8 (Nat.le_of_ble_eq_true rfl) (zsub_c rfl zsub_n) rfl ?_
  refine qS_iload_n qd_99_9 rfl ?_
  refine qS_sipush qd_99_10 (by decide) ?_
  obtain ⟨h13a, H1, H2⟩ := H
  refine qS_icmp qd_99_13 rfl (zcnd_ge (a := qand (qushr p0 23) 255) (b := 255) h13a ⟨by decide, by decide⟩ (fun t => qR w _ _ t _ _ _ _) (fun hc => ?_) (fun hc => ?_))
  · have H := H1 hc; clear H1 H2 hc
    refine qS_iconst qd_99_16 ?_
    refine qS_goto qd_99_17 rfl ?_
    exact qS_sub (zsub_c rfl (zsub_c rfl zsub_n)) H
  · have H := H2 hc; clear H1 H2 hc
    refine qS_iconst qd_99_20 ?_
    exact qS_sub (zsub_c rfl (zsub_c rfl zsub_n)) H
set_option maxRecDepth 100000 in
theorem k99_21 {w : qE} {s : qS} {v0 : Int} {v1 : Int} {k0 : Int} {f : UInt64 → qS → Prop} {g : Nat → qS → Prop}  (H : qW w 1 100 [qI k0] s (qPV (fun s1 => Rg v1 ∧ (v1 = 0 → qW w 1 101 [.long ((Int32.ofInt (qand v0 8388607)).toInt64), qI ((-149))] s1 (qPD (fun r2 s2 => qR w 1 qm99 57 [(0, qI v0)] [.double r2] s2 (qPD f g)) g)) ∧ (v1 ≠ 0 → qW w 1 101 [.long (((Int32.ofInt (qand v0 8388607)).toInt64) ||| ((8388608 : Int64))), qI (v1 - 150)] s1 (qPD (fun r3 s3 => qR w 1 qm99 57 [(0, qI v0)] [.double r3] s3 (qPD f g)) g))) g)) : qR w 1 qm99 21 [(0, qI v0), (1, qI v1)] [qI k0] s (qPD f g) := by
  refine qS_csV qd_99_21 (qml_10_7 w) rfl (Nat.le_of_ble_eq_true rfl) rfl (Nat.le_of_ble_eq_true rfl) H (fun s1 H => ?_) (fun x s1 H => Or.inr ⟨x, rfl, H⟩)
  refine qS_iload_n qd_99_24 rfl ?_
  refine qS_ldc (v := qI 8388607) qd_99_25 rfl rfl (fun _ => rfl) (fun _ => qS_k (qkl_10_13 w)) ?_
  refine qS_iand (a := v0) (b := 8388607) qd_99_27 ?_
  refine qS_p1 (u := .long ((Int32.ofInt (qand v0 8388607)).toInt64)) qd_99_28 rfl rfl (fun _ => rfl) ?_
  refine qS_lstore_n (a := [(0, qI v0), (1, qI v1)]) qd_99_29 (Nat.le_of_ble_eq_true rfl) (zsub_c rfl (zsub_c rfl zsub_n)) rfl ?_
  refine qS_iload_n qd_99_30 rfl ?_
  obtain ⟨h31a, H1, H2⟩ := H
  refine qS_if0 qd_99_31 rfl (zcnd_ne (a := v1) (b := 0) h31a ⟨by decide, by decide⟩ (fun t => qR w _ _ t _ _ _ _) (fun hc => ?_) (fun hc => ?_))
  · have H := H1 hc; clear H1 H2 hc
    refine qS_lload_n qd_99_34 rfl ?_
    refine qS_sipush qd_99_35 (by decide) ?_
    refine qS_csD qd_99_38 (qml_10_14 w) rfl (Nat.le_of_ble_eq_true rfl) rfl (Nat.le_of_ble_eq_true rfl) H (fun r2 s2 H => ?_) (fun x s1 H => Or.inr ⟨x, rfl, H⟩)
    refine qS_goto qd_99_41 rfl ?_
    exact qS_sub (zsub_c rfl zsub_n) H
  · have H := H2 hc; clear H1 H2 hc
    refine qS_lload_n qd_99_44 rfl ?_
    refine qS_ldc (v := .long ((8388608 : Int64))) qd_99_45 rfl rfl (fun _ => rfl) (fun _ => qS_k2 (qkl_10_18 w)) ?_
    refine qS_p2 (u := .long (((Int32.ofInt (qand v0 8388607)).toInt64) ||| ((8388608 : Int64)))) qd_99_48 rfl rfl (fun _ => rfl) ?_
    refine qS_iload_n qd_99_49 rfl ?_
    refine qS_sipush qd_99_50 (by decide) ?_
    refine qS_isub (a := v1) (b := 150) qd_99_53 ?_
    refine qS_csD qd_99_54 (qml_10_14 w) rfl (Nat.le_of_ble_eq_true rfl) rfl (Nat.le_of_ble_eq_true rfl) H (fun r3 s3 H => ?_) (fun x s1 H => Or.inr ⟨x, rfl, H⟩)
    exact qS_sub (zsub_c rfl zsub_n) H
set_option maxRecDepth 100000 in
theorem k99_57 {w : qE} {s : qS} {v0 : Int} {k0 : UInt64} {f : UInt64 → qS → Prop} {g : Nat → qS → Prop}  (H : Rg v0 ∧ (v0 < 0 → qR w 1 qm99 71 [] [.double (FP.dneg k0)] s (qPD f g)) ∧ (0 ≤ v0 → qR w 1 qm99 71 [] [.double k0] s (qPD f g))) : qR w 1 qm99 57 [(0, qI v0)] [.double k0] s (qPD f g) := by
  refine qS_dstore (a := [(0, qI v0)]) qd_99_57 (Nat.le_of_ble_eq_true rfl) (zsub_c rfl zsub_n) rfl ?_
  refine qS_iload_n qd_99_59 rfl ?_
  obtain ⟨h60a, H1, H2⟩ := H
  refine qS_if0 qd_99_60 rfl (zcnd_ge (a := v0) (b := 0) h60a ⟨by decide, by decide⟩ (fun t => qR w _ _ t _ _ _ _) (fun hc => ?_) (fun hc => ?_))
  · have H := H1 hc; clear H1 H2 hc
    refine qS_dload qd_99_63 rfl ?_
    refine qS_p1 (u := .double (FP.dneg k0)) qd_99_65 rfl rfl (fun _ => rfl) ?_
    refine qS_goto qd_99_66 rfl ?_
    exact qS_sub zsub_n H
  · have H := H2 hc; clear H1 H2 hc
    refine qS_dload qd_99_69 rfl ?_
    exact qS_sub zsub_n H
set_option maxRecDepth 100000 in
theorem k99_71 {w : qE} {s : qS} {k0 : UInt64} {f : UInt64 → qS → Prop} {g : Nat → qS → Prop}  (H : f k0 s) : qR w 1 qm99 71 [] [.double k0] s (qPD f g) := by
  exact qS_dreturn qd_99_71 rfl (Or.inl ⟨_, rfl, H⟩)
set_option maxRecDepth 100000 in
theorem k100 {w : qE} {s : qS} {p0 : Int} {f : qS → Prop} {g : Nat → qS → Prop}  (H : Rg p0 ∧ (p0 = 0 → g 3 s) ∧ (p0 ≠ 0 → f s)) : qW w 1 100 [qI p0] s (qPV f g) := by
  refine qW.of (M := qm100) (l := [(0, qI p0)]) qtm_100 rfl (Nat.le_of_ble_eq_true rfl) (zsub_c rfl zsub_n) ?_
  refine qS_iload_n qd_100_0 rfl ?_
  obtain ⟨h1a, H1, H2⟩ := H
  refine qS_if0 qd_100_1 rfl (zcnd_ne (a := p0) (b := 0) h1a ⟨by decide, by decide⟩ (fun t => qR w _ _ t _ _ _ _) (fun hc => ?_) (fun hc => ?_))
  · have H := H1 hc; clear H1 H2 hc
    exact qS_throw qd_100_4 rfl (Or.inr ⟨_, rfl, H⟩)
  · have H := H2 hc; clear H1 H2 hc
    exact qS_vreturn qd_100_12 rfl (Or.inl ⟨rfl, H⟩)
set_option maxRecDepth 100000 in
theorem k101 {w : qE} {s : qS} {p0 : Int64} {p1 : Int} {f : UInt64 → qS → Prop} {g : Nat → qS → Prop}  (H : Rg p1 ∧ (p1 < 0 → qR w 0 qm101 13 [(2, qI p1), (3, .double (FP.l2d p0))] [qI (-p1)] s (qPD f g)) ∧ (0 ≤ p1 → qR w 0 qm101 13 [(2, qI p1), (3, .double (FP.l2d p0))] [qI p1] s (qPD f g))) : qW w 1 101 [.long p0, qI p1] s (qPD f g) := by
  refine qW.of (M := qm101) (l := [(0, .long p0), (2, qI p1)]) qtm_101 rfl (Nat.le_of_ble_eq_true rfl) (zsub_c rfl (zsub_c rfl zsub_n)) ?_
  refine qS_lload_n qd_101_0 rfl ?_
  refine qS_p1 (u := .double (FP.l2d p0)) qd_101_1 rfl rfl (fun _ => rfl) ?_
  refine qS_dstore_n (a := [(2, qI p1)]) qd_101_2 (Nat.le_of_ble_eq_true rfl) (zsub_c rfl zsub_n) rfl ?_
  refine qS_iload_n qd_101_3 rfl ?_
  obtain ⟨h4a, H1, H2⟩ := H
  refine qS_if0 qd_101_4 rfl (zcnd_ge (a := p1) (b := 0) h4a ⟨by decide, by decide⟩ (fun t => qR w _ _ t _ _ _ _) (fun hc => ?_) (fun hc => ?_))
  · have H := H1 hc; clear H1 H2 hc
    refine qS_iload_n qd_101_7 rfl ?_
    refine qS_ineg (a := p1) qd_101_8 ?_
    refine qS_goto qd_101_9 rfl ?_
    exact qS_sub (zsub_c rfl (zsub_c rfl zsub_n)) H
  · have H := H2 hc; clear H1 H2 hc
    refine qS_iload_n qd_101_12 rfl ?_
    exact qS_sub (zsub_c rfl (zsub_c rfl zsub_n)) H
set_option maxRecDepth 100000 in
theorem k101_13 {w : qE} {s : qS} {v2 : Int} {v3 : UInt64} {k0 : Int} {f : UInt64 → qS → Prop} {g : Nat → qS → Prop}  (H : qR w 0 qm101 15 [(2, qI v2), (3, .double v3), (5, qI k0)] [] s (qPD f g)) : qR w 0 qm101 13 [(2, qI v2), (3, .double v3)] [qI k0] s (qPD f g) := by
  refine qS_istore (a := [(2, qI v2), (3, .double v3)]) qd_101_13 (Nat.le_of_ble_eq_true rfl) (zsub_c rfl (zsub_c rfl zsub_n)) rfl ?_
  exact qS_sub (zsub_c rfl (zsub_c rfl (zsub_c rfl zsub_n))) H
set_option maxRecDepth 100000 in
theorem k101_15 {w : qE} {s : qS} {v2 : Int} {v3 : UInt64} {v5 : Int} {f : UInt64 → qS → Prop} {g : Nat → qS → Prop}  (H : Rg v5 ∧ (0 < v5 → (v5 < 30 → qR w 0 qm101 35 [(2, qI v2), (3, .double v3), (5, qI v5)] [qI v5, .long ((1 : Int64))] s (qPD f g)) ∧ (30 ≤ v5 → qR w 0 qm101 35 [(2, qI v2), (3, .double v3), (5, qI v5)] [qI 30, .long ((1 : Int64))] s (qPD f g))) ∧ (v5 ≤ 0 → f v3 s)) : qR w 0 qm101 15 [(2, qI v2), (3, .double v3), (5, qI v5)] [] s (qPD f g) := by
  refine qS_iload qd_101_15 rfl ?_
  obtain ⟨h17a, H1, H2⟩ := H
  refine qS_if0 qd_101_17 rfl (zcnd_le (a := v5) (b := 0) h17a ⟨by decide, by decide⟩ (fun t => qR w _ _ t _ _ _ _) (fun hc => ?_) (fun hc => ?_))
  · have H := H1 hc; clear H1 H2 hc
    refine qS_lconst (v := 1) qd_101_20 rfl ?_
    refine qS_iload qd_101_21 rfl ?_
    refine qS_bipush qd_101_23 (by decide) ?_
    obtain ⟨H1, H2⟩ := H
    refine qS_icmp qd_101_25 rfl (zcnd_ge (a := v5) (b := 30) h17a ⟨by decide, by decide⟩ (fun t => qR w _ _ t _ _ _ _) (fun hc => ?_) (fun hc => ?_))
    · have H := H1 hc; clear H1 H2 hc
      refine qS_iload qd_101_28 rfl ?_
      refine qS_goto qd_101_30 rfl ?_
      exact qS_sub (zsub_c rfl (zsub_c rfl (zsub_c rfl zsub_n))) H
    · have H := H2 hc; clear H1 H2 hc
      refine qS_bipush qd_101_33 (by decide) ?_
      exact qS_sub (zsub_c rfl (zsub_c rfl (zsub_c rfl zsub_n))) H
  · have H := H2 hc; clear H1 H2 hc
    refine qS_dload_n qd_101_61 rfl ?_
    exact qS_dreturn qd_101_62 rfl (Or.inl ⟨_, rfl, H⟩)
set_option maxRecDepth 100000 in
theorem k101_35 {w : qE} {s : qS} {v2 : Int} {v3 : UInt64} {v5 : Int} {k1 : Int} {k0 : Int64} {f : UInt64 → qS → Prop} {g : Nat → qS → Prop}  (H : Rg v2 ∧ (v2 < 0 → (zfin (FP.ddiv v3 (FP.l2d (k0 <<< ((Int32.ofInt k1).toInt64 &&& 63)))) = some (.double (FP.ddiv v3 (FP.l2d (k0 <<< ((Int32.ofInt k1).toInt64 &&& 63)))))) ∧ (qR w 0 qm101 54 [(2, qI v2), (5, qI v5)] [.double (FP.ddiv v3 (FP.l2d (k0 <<< ((Int32.ofInt k1).toInt64 &&& 63))))] s (qPD f g))) ∧ (0 ≤ v2 → (zfin (FP.dmul v3 (FP.l2d (k0 <<< ((Int32.ofInt k1).toInt64 &&& 63)))) = some (.double (FP.dmul v3 (FP.l2d (k0 <<< ((Int32.ofInt k1).toInt64 &&& 63)))))) ∧ (qR w 0 qm101 54 [(2, qI v2), (5, qI v5)] [.double (FP.dmul v3 (FP.l2d (k0 <<< ((Int32.ofInt k1).toInt64 &&& 63))))] s (qPD f g)))) : qR w 0 qm101 35 [(2, qI v2), (3, .double v3), (5, qI v5)] [qI k1, .long k0] s (qPD f g) := by
  refine qS_p2 (u := .long (k0 <<< ((Int32.ofInt k1).toInt64 &&& 63))) qd_101_35 rfl rfl (fun _ => rfl) ?_
  refine qS_p1 (u := .double (FP.l2d (k0 <<< ((Int32.ofInt k1).toInt64 &&& 63)))) qd_101_36 rfl rfl (fun _ => rfl) ?_
  refine qS_dstore (a := [(2, qI v2), (3, .double v3), (5, qI v5)]) qd_101_37 (Nat.le_of_ble_eq_true rfl) (zsub_c rfl (zsub_c rfl (zsub_c rfl zsub_n))) rfl ?_
  refine qS_iload_n qd_101_39 rfl ?_
  obtain ⟨h40a, H1, H2⟩ := H
  refine qS_if0 qd_101_40 rfl (zcnd_ge (a := v2) (b := 0) h40a ⟨by decide, by decide⟩ (fun t => qR w _ _ t _ _ _ _) (fun hc => ?_) (fun hc => ?_))
  · have H := H1 hc; clear H1 H2 hc
    refine qS_dload_n qd_101_43 rfl ?_
    refine qS_dload qd_101_44 rfl ?_
    obtain ⟨hz, H⟩ := H
    refine qS_p2 (u := .double (FP.ddiv v3 (FP.l2d (k0 <<< ((Int32.ofInt k1).toInt64 &&& 63))))) qd_101_46 rfl rfl (fun _ => by show (Option.map _ (Option.map _ (zfin _))) = _; rw [hz]; rfl) ?_
    refine qS_goto qd_101_47 rfl ?_
    exact qS_sub (zsub_c rfl (zsub_c rfl zsub_n)) H
  · have H := H2 hc; clear H1 H2 hc
    refine qS_dload_n qd_101_50 rfl ?_
    refine qS_dload qd_101_51 rfl ?_
    obtain ⟨hz, H⟩ := H
    refine qS_p2 (u := .double (FP.dmul v3 (FP.l2d (k0 <<< ((Int32.ofInt k1).toInt64 &&& 63))))) qd_101_53 rfl rfl (fun _ => by show (Option.map _ (Option.map _ (zfin _))) = _; rw [hz]; rfl) ?_
    exact qS_sub (zsub_c rfl (zsub_c rfl zsub_n)) H
set_option maxRecDepth 100000 in
theorem k101_54 {w : qE} {s : qS} {v2 : Int} {v5 : Int} {k0 : UInt64} {f : UInt64 → qS → Prop} {g : Nat → qS → Prop}  (H : qR w 0 qm101 15 [(2, qI v2), (3, .double k0), (5, qI (v5 + (-30)))] [] s (qPD f g)) : qR w 0 qm101 54 [(2, qI v2), (5, qI v5)] [.double k0] s (qPD f g) := by
  refine qS_dstore_n (a := [(2, qI v2), (5, qI v5)]) qd_101_54 (Nat.le_of_ble_eq_true rfl) (zsub_c rfl (zsub_c rfl zsub_n)) rfl ?_
  refine qS_iinc (v := v5) (a := [(3, .double k0), (2, qI v2)]) qd_101_55 (Nat.le_of_ble_eq_true rfl) rfl (zsub_c rfl (zsub_c rfl zsub_n)) rfl ?_
  refine qS_goto qd_101_58 rfl ?_
  exact qS_sub (zsub_c rfl (zsub_c rfl (zsub_c rfl zsub_n))) H
set_option maxRecDepth 100000 in
theorem k102 {w : qE} {s : qS} {p0 : Int64} {f : UInt64 → qS → Prop} {g : Nat → qS → Prop}  (H : Rg (qand (((Int64.toInt32 (((p0).toUInt64 >>> ((Int32.ofInt 52).toInt64.toUInt64 &&& Int64.toUInt64 63)).toInt64))).toInt) 2047) ∧ (qand (((Int64.toInt32 (((p0).toUInt64 >>> ((Int32.ofInt 52).toInt64.toUInt64 &&& Int64.toUInt64 63)).toInt64))).toInt) 2047 < 2047 → qR w 1 qm102 22 [(0, .long p0), (2, qI (qand (((Int64.toInt32 (((p0).toUInt64 >>> ((Int32.ofInt 52).toInt64.toUInt64 &&& Int64.toUInt64 63)).toInt64))).toInt) 2047))] [qI 1] s (qPD f g)) ∧ (2047 ≤ qand (((Int64.toInt32 (((p0).toUInt64 >>> ((Int32.ofInt 52).toInt64.toUInt64 &&& Int64.toUInt64 63)).toInt64))).toInt) 2047 → qR w 1 qm102 22 [(0, .long p0), (2, qI (qand (((Int64.toInt32 (((p0).toUInt64 >>> ((Int32.ofInt 52).toInt64.toUInt64 &&& Int64.toUInt64 63)).toInt64))).toInt) 2047))] [qI 0] s (qPD f g))) : qW w 2 102 [.long p0] s (qPD f g) := by
  refine qW.of (M := qm102) (l := [(0, .long p0)]) qtm_102 rfl (Nat.le_of_ble_eq_true rfl) (zsub_c rfl zsub_n) ?_
  refine qS_lload_n qd_102_0 rfl ?_
  refine qS_bipush qd_102_1 (by decide) ?_
  refine qS_p2 (u := .long (((p0).toUInt64 >>> ((Int32.ofInt 52).toInt64.toUInt64 &&& Int64.toUInt64 63)).toInt64)) qd_102_3 rfl rfl (fun _ => rfl) ?_
  refine qS_p1 (u := qI (((Int64.toInt32 (((p0).toUInt64 >>> ((Int32.ofInt 52).toInt64.toUInt64 &&& Int64.toUInt64 63)).toInt64))).toInt)) qd_102_4 rfl rfl (fun _ => by simp only [qI, qi_of]; rfl) ?_
  refine qS_sipush qd_102_5 (by decide) ?_
  refine qS_iand (a := ((Int64.toInt32 (((p0).toUInt64 >>> ((Int32.ofInt 52).toInt64.toUInt64 &&& Int64.toUInt64 63)).toInt64))).toInt) (b := 2047) qd_102_8 ?_
  refine qS_istore_n (a := [(0, .long p0)]) qd_102_9 (Nat.le_of_ble_eq_true rfl) (zsub_c rfl zsub_n) rfl ?_
  refine qS_iload_n qd_102_10 rfl ?_
  refine qS_sipush qd_102_11 (by decide) ?_
  obtain ⟨h14a, H1, H2⟩ := H
  refine qS_icmp qd_102_14 rfl (zcnd_ge (a := qand (((Int64.toInt32 (((p0).toUInt64 >>> ((Int32.ofInt 52).toInt64.toUInt64 &&& Int64.toUInt64 63)).toInt64))).toInt) 2047) (b := 2047) h14a ⟨by decide, by decide⟩ (fun t => qR w _ _ t _ _ _ _) (fun hc => ?_) (fun hc => ?_))
  · have H := H1 hc; clear H1 H2 hc
    refine qS_iconst qd_102_17 ?_
    refine qS_goto qd_102_18 rfl ?_
    exact qS_sub (zsub_c rfl (zsub_c rfl zsub_n)) H
  · have H := H2 hc; clear H1 H2 hc
    refine qS_iconst qd_102_21 ?_
    exact qS_sub (zsub_c rfl (zsub_c rfl zsub_n)) H
set_option maxRecDepth 100000 in
theorem k102_22 {w : qE} {s : qS} {v0 : Int64} {v2 : Int} {k0 : Int} {f : UInt64 → qS → Prop} {g : Nat → qS → Prop}  (H : qW w 1 100 [qI k0] s (qPV (fun s1 => Rg v2 ∧ (v2 = 0 → qW w 1 101 [.long (v0 &&& ((4503599627370495 : Int64))), qI ((-1074))] s1 (qPD (fun r2 s2 => qR w 1 qm102 58 [(0, .long v0)] [.double r2] s2 (qPD f g)) g)) ∧ (v2 ≠ 0 → qW w 1 101 [.long ((v0 &&& ((4503599627370495 : Int64))) ||| ((4503599627370496 : Int64))), qI (v2 - 1075)] s1 (qPD (fun r3 s3 => qR w 1 qm102 58 [(0, .long v0)] [.double r3] s3 (qPD f g)) g))) g)) : qR w 1 qm102 22 [(0, .long v0), (2, qI v2)] [qI k0] s (qPD f g) := by
  refine qS_csV qd_102_22 (qml_10_7 w) rfl (Nat.le_of_ble_eq_true rfl) rfl (Nat.le_of_ble_eq_true rfl) H (fun s1 H => ?_) (fun x s1 H => Or.inr ⟨x, rfl, H⟩)
  refine qS_lload_n qd_102_25 rfl ?_
  refine qS_ldc (v := .long ((4503599627370495 : Int64))) qd_102_26 rfl rfl (fun _ => rfl) (fun _ => qS_k2 (qkl_10_20 w)) ?_
  refine qS_p2 (u := .long (v0 &&& ((4503599627370495 : Int64)))) qd_102_29 rfl rfl (fun _ => rfl) ?_
  refine qS_lstore_n (a := [(0, .long v0), (2, qI v2)]) qd_102_30 (Nat.le_of_ble_eq_true rfl) (zsub_c rfl (zsub_c rfl zsub_n)) rfl ?_
  refine qS_iload_n qd_102_31 rfl ?_
  obtain ⟨h32a, H1, H2⟩ := H
  refine qS_if0 qd_102_32 rfl (zcnd_ne (a := v2) (b := 0) h32a ⟨by decide, by decide⟩ (fun t => qR w _ _ t _ _ _ _) (fun hc => ?_) (fun hc => ?_))
  · have H := H1 hc; clear H1 H2 hc
    refine qS_lload_n qd_102_35 rfl ?_
    refine qS_sipush qd_102_36 (by decide) ?_
    refine qS_csD qd_102_39 (qml_10_14 w) rfl (Nat.le_of_ble_eq_true rfl) rfl (Nat.le_of_ble_eq_true rfl) H (fun r2 s2 H => ?_) (fun x s1 H => Or.inr ⟨x, rfl, H⟩)
    refine qS_goto qd_102_42 rfl ?_
    exact qS_sub (zsub_c rfl zsub_n) H
  · have H := H2 hc; clear H1 H2 hc
    refine qS_lload_n qd_102_45 rfl ?_
    refine qS_ldc (v := .long ((4503599627370496 : Int64))) qd_102_46 rfl rfl (fun _ => rfl) (fun _ => qS_k2 (qkl_10_22 w)) ?_
    refine qS_p2 (u := .long ((v0 &&& ((4503599627370495 : Int64))) ||| ((4503599627370496 : Int64)))) qd_102_49 rfl rfl (fun _ => rfl) ?_
    refine qS_iload_n qd_102_50 rfl ?_
    refine qS_sipush qd_102_51 (by decide) ?_
    refine qS_isub (a := v2) (b := 1075) qd_102_54 ?_
    refine qS_csD qd_102_55 (qml_10_14 w) rfl (Nat.le_of_ble_eq_true rfl) rfl (Nat.le_of_ble_eq_true rfl) H (fun r3 s3 H => ?_) (fun x s1 H => Or.inr ⟨x, rfl, H⟩)
    exact qS_sub (zsub_c rfl zsub_n) H
set_option maxRecDepth 100000 in
theorem k102_58 {w : qE} {s : qS} {v0 : Int64} {k0 : UInt64} {f : UInt64 → qS → Prop} {g : Nat → qS → Prop}  (H : Rg (((lg_cmp v0 ((0 : Int64)))).toInt) ∧ (((lg_cmp v0 ((0 : Int64)))).toInt < 0 → qR w 1 qm102 74 [] [.double (FP.dneg k0)] s (qPD f g)) ∧ (0 ≤ ((lg_cmp v0 ((0 : Int64)))).toInt → qR w 1 qm102 74 [] [.double k0] s (qPD f g))) : qR w 1 qm102 58 [(0, .long v0)] [.double k0] s (qPD f g) := by
  refine qS_dstore (a := [(0, .long v0)]) qd_102_58 (Nat.le_of_ble_eq_true rfl) (zsub_c rfl zsub_n) rfl ?_
  refine qS_lload_n qd_102_60 rfl ?_
  refine qS_lconst (v := 0) qd_102_61 rfl ?_
  refine qS_p2 (u := qI (((lg_cmp v0 ((0 : Int64)))).toInt)) qd_102_62 rfl rfl (fun _ => by simp only [qI, qi_of]; rfl) ?_
  obtain ⟨h63a, H1, H2⟩ := H
  refine qS_if0 qd_102_63 rfl (zcnd_ge (a := ((lg_cmp v0 ((0 : Int64)))).toInt) (b := 0) h63a ⟨by decide, by decide⟩ (fun t => qR w _ _ t _ _ _ _) (fun hc => ?_) (fun hc => ?_))
  · have H := H1 hc; clear H1 H2 hc
    refine qS_dload qd_102_66 rfl ?_
    refine qS_p1 (u := .double (FP.dneg k0)) qd_102_68 rfl rfl (fun _ => rfl) ?_
    refine qS_goto qd_102_69 rfl ?_
    exact qS_sub zsub_n H
  · have H := H2 hc; clear H1 H2 hc
    refine qS_dload qd_102_72 rfl ?_
    exact qS_sub zsub_n H
set_option maxRecDepth 100000 in
theorem k102_74 {w : qE} {s : qS} {k0 : UInt64} {f : UInt64 → qS → Prop} {g : Nat → qS → Prop}  (H : f k0 s) : qR w 1 qm102 74 [] [.double k0] s (qPD f g) := by
  exact qS_dreturn qd_102_74 rfl (Or.inl ⟨_, rfl, H⟩)
set_option maxRecDepth 100000 in
theorem k103 {w : qE} {s : qS} {p0 : Int} {p1 : Int} {f : Int → qS → Prop} {g : Nat → qS → Prop}  (H : qW w 1 95 [.ref 0] s (qPV (fun s1 => qW w 3 104 [.ref 3, qI p0] s1 (qPI (fun r2 s2 => qW w 3 65 [.ref 3, qI r2, qI p1] s2 (qPI (fun r3 s3 => f r3 s3) g)) g)) g)) : qW w 4 103 [.ref 0, qI p0, qI p1] s (qPI f g) := by
  refine qW.of (M := qm103) (l := [(0, .ref 0), (1, qI p0), (2, qI p1)]) qtm_103 rfl (Nat.le_of_ble_eq_true rfl) (zsub_c rfl (zsub_c rfl (zsub_c rfl zsub_n))) ?_
  refine qS_aload_n qd_103_0 rfl ?_
  refine qS_cvV qd_103_1 (qml_0_125 w) rfl qtm_95 (hpc_0 _ _) (Nat.le_of_ble_eq_true rfl) rfl (Nat.le_of_ble_eq_true rfl) H (fun s1 H => ?_) (fun x s1 H => Or.inr ⟨x, rfl, H⟩)
  refine qS_aload_n qd_103_4 rfl ?_
  refine qS_getfield (v := .ref 3) qd_103_5 (qfl_0_21 w) (hpc_0 _ _) rfl ?_
  refine qS_aload_n qd_103_8 rfl ?_
  refine qS_getfield (v := .ref 3) qd_103_9 (qfl_0_21 w) (hpc_0 _ _) rfl ?_
  refine qS_iload_n qd_103_12 rfl ?_
  refine qS_cvI qd_103_13 (qml_0_158 w) rfl qtm_104 (hpc_3 _ _) (Nat.le_of_ble_eq_true rfl) rfl (Nat.le_of_ble_eq_true rfl) H (fun r2 s2 H => ?_) (fun x s1 H => Or.inr ⟨x, rfl, H⟩)
  refine qS_iload_n qd_103_16 rfl ?_
  refine qS_cvI qd_103_17 (qml_0_161 w) rfl qtm_65 (hpc_3 _ _) (Nat.le_of_ble_eq_true rfl) rfl (Nat.le_of_ble_eq_true rfl) H (fun r3 s3 H => ?_) (fun x s1 H => Or.inr ⟨x, rfl, H⟩)
  exact qS_ireturn qd_103_20 rfl (Or.inl ⟨_, rfl, H⟩)
set_option maxRecDepth 100000 in
theorem k104 {w : qE} {s : qS} {p0 : Int} {f : Int → qS → Prop} {g : Nat → qS → Prop}  (H : qW w 2 35 [.ref 3, qI p0] s (qPI (fun r1 s1 => Rg r1 ∧ (r1 = 1 → f p0 s1) ∧ ((r1 = 7 ∨ r1 = 8 ∨ r1 = 16) → qW w 2 49 [.ref 3, qI p0] s1 (qPI (fun r2 s2 => f r2 s2) g)) ∧ (r1 ≠ 1 → r1 ≠ 7 → r1 ≠ 8 → r1 ≠ 16 → f ((-2)) s1)) g)) : qW w 3 104 [.ref 3, qI p0] s (qPI f g) := by
  refine qW.of (M := qm104) (l := [(0, .ref 3), (1, qI p0)]) qtm_104 rfl (Nat.le_of_ble_eq_true rfl) (zsub_c rfl (zsub_c rfl zsub_n)) ?_
  refine qS_aload_n qd_104_0 rfl ?_
  refine qS_iload_n qd_104_1 rfl ?_
  refine qS_cvI qd_104_2 (qml_2_78 w) rfl qtm_35 (hpc_3 _ _) (Nat.le_of_ble_eq_true rfl) rfl (Nat.le_of_ble_eq_true rfl) H (fun r1 s1 H => ?_) (fun x s1 H => Or.inr ⟨x, rfl, H⟩)
  obtain ⟨h5a, H1, H2, Hd⟩ := H
  by_cases hc0 : r1 = 1
  · refine qS_lsw qd_104_5 (by decide) (t := 48) h5a (by rw [hc0]; rfl) ?_
    have H := H1 hc0
    refine qS_iload_n qd_104_48 rfl ?_
    exact qS_ireturn qd_104_49 rfl (Or.inl ⟨_, rfl, H⟩)
  by_cases hc1 : r1 = 7 ∨ r1 = 8 ∨ r1 = 16
  · refine qS_lsw qd_104_5 (by decide) (t := 50) h5a (by rcases hc1 with hq | hq | hq <;> (rw [hq]; rfl)) ?_
    have H := H2 hc1
    refine qS_aload_n qd_104_50 rfl ?_
    refine qS_iload_n qd_104_51 rfl ?_
    refine qS_cvI qd_104_52 (qml_2_101 w) rfl qtm_49 (hpc_3 _ _) (Nat.le_of_ble_eq_true rfl) rfl (Nat.le_of_ble_eq_true rfl) H (fun r2 s2 H => ?_) (fun x s1 H => Or.inr ⟨x, rfl, H⟩)
    exact qS_ireturn qd_104_55 rfl (Or.inl ⟨_, rfl, H⟩)
  refine qS_lsw qd_104_5 (by decide) (t := 56) h5a (zlsw_d (fun q hq => by simp only [List.mem_cons, List.not_mem_nil, or_false] at hq; rcases hq with rfl | rfl | rfl | rfl <;> (show (_ : Int) ≠ _; omega)) rfl) ?_
  have H := Hd (by omega) (by omega) (by omega) (by omega)
  refine qS_bipush qd_104_56 (by decide) ?_
  exact qS_ireturn qd_104_58 rfl (Or.inl ⟨_, rfl, H⟩)
set_option maxRecDepth 100000 in
theorem k105 {w : qE} {s : qS} {p0 : Int} {p1 : Int} {f : Int → qS → Prop} {g : Nat → qS → Prop}  (H : qW w 1 95 [.ref 0] s (qPV (fun s1 => qW w 2 96 [.ref 3, qI p0] s1 (qPI (fun r2 s2 => Rg r2 ∧ (r2 = 0 → qR w 9 qm105 29 [] [qI ((-2))] s2 (qPI f g)) ∧ (r2 ≠ 0 → qW w 9 106 [.ref 24, qI p0, qI p1] s2 (qPI (fun r3 s3 => qR w 9 qm105 29 [] [qI r3] s3 (qPI f g)) g))) g)) g)) : qW w 10 105 [.ref 0, qI p0, qI p1] s (qPI f g) := by
  refine qW.of (M := qm105) (l := [(0, .ref 0), (1, qI p0), (2, qI p1)]) qtm_105 rfl (Nat.le_of_ble_eq_true rfl) (zsub_c rfl (zsub_c rfl (zsub_c rfl zsub_n))) ?_
  refine qS_aload_n qd_105_0 rfl ?_
  refine qS_cvV qd_105_1 (qml_0_125 w) rfl qtm_95 (hpc_0 _ _) (Nat.le_of_ble_eq_true rfl) rfl (Nat.le_of_ble_eq_true rfl) H (fun s1 H => ?_) (fun x s1 H => Or.inr ⟨x, rfl, H⟩)
  refine qS_aload_n qd_105_4 rfl ?_
  refine qS_getfield (v := .ref 3) qd_105_5 (qfl_0_21 w) (hpc_0 _ _) rfl ?_
  refine qS_iload_n qd_105_8 rfl ?_
  refine qS_cvI qd_105_9 (qml_0_128 w) rfl qtm_96 (hpc_3 _ _) (Nat.le_of_ble_eq_true rfl) rfl (Nat.le_of_ble_eq_true rfl) H (fun r2 s2 H => ?_) (fun x s1 H => Or.inr ⟨x, rfl, H⟩)
  obtain ⟨h12a, H1, H2⟩ := H
  refine qS_if0 qd_105_12 rfl (zcnd_eq (a := r2) (b := 0) h12a ⟨by decide, by decide⟩ (fun t => qR w _ _ t _ _ _ _) (fun hc => ?_) (fun hc => ?_))
  · have H := H1 hc; clear H1 H2 hc
    refine qS_bipush qd_105_27 (by decide) ?_
    exact qS_sub zsub_n H
  · have H := H2 hc; clear H1 H2 hc
    refine qS_aload_n qd_105_15 rfl ?_
    refine qS_getfield (v := .ref 24) qd_105_16 (qfl_0_55 w) (hpc_0 _ _) rfl ?_
    refine qS_iload_n qd_105_19 rfl ?_
    refine qS_iload_n qd_105_20 rfl ?_
    refine qS_cvI qd_105_21 (qml_0_164 w) rfl qtm_106 (hpc_24 _ _) (Nat.le_of_ble_eq_true rfl) rfl (Nat.le_of_ble_eq_true rfl) H (fun r3 s3 H => ?_) (fun x s1 H => Or.inr ⟨x, rfl, H⟩)
    refine qS_goto qd_105_24 rfl ?_
    exact qS_sub zsub_n H
set_option maxRecDepth 100000 in
theorem k105_29 {w : qE} {s : qS} {k0 : Int} {f : Int → qS → Prop} {g : Nat → qS → Prop}  (H : f k0 s) : qR w 9 qm105 29 [] [qI k0] s (qPI f g) := by
  exact qS_ireturn qd_105_29 rfl (Or.inl ⟨_, rfl, H⟩)
set_option maxRecDepth 100000 in
theorem k106 {w : qE} {s : qS} {p0 : Int} {p1 : Int} {f : Int → qS → Prop} {g : Nat → qS → Prop}  (H : qW w 2 35 [.ref 3, qI p0] (qset (qset (qset s 24 1 p1) 24 2 0) 24 3 ((-2))) (qPI (fun r1 s1 => Rg r1 ∧ (r1 = 7 → qW w 7 107 [.ref 24, qI p0] s1 (qPV (fun s2 => qR w 8 qm106 147 [(0, .ref 24), (2, qI p1)] [] s2 (qPI f g)) g)) ∧ ((r1 = 9 ∨ r1 = 10 ∨ r1 = 11) → qW w 2 50 [.ref 3, qI p0] s1 (qPI (fun r3 s3 => qW w 2 49 [.ref 3, qI p0] s3 (qPI (fun r4 s4 => qW w 8 115 [.ref 24, qI r3, qI r4] s4 (qPV (fun s5 => qR w 8 qm106 147 [(0, .ref 24), (2, qI p1)] [] s5 (qPI f g)) g)) g)) g)) ∧ (r1 = 12 → qW w 8 115 [.ref 24, qI p0, qI 0] s1 (qPV (fun s6 => qR w 8 qm106 147 [(0, .ref 24), (2, qI p1)] [] s6 (qPI f g)) g)) ∧ (r1 = 16 → qW w 2 49 [.ref 3, qI p0] s1 (qPI (fun r7 s7 => qW w 7 113 [.ref 24, qI r7] s7 (qPV (fun s8 => qW w 2 49 [.ref 3, qI p0] s8 (qPI (fun r9 s9 => qW w 7 114 [.ref 24, qI r9] s9 (qPV (fun s10 => qR w 8 qm106 147 [(0, .ref 24), (2, qI p1)] [] s10 (qPI f g)) g)) g)) g)) g)) ∧ (r1 ≠ 7 → r1 ≠ 9 → r1 ≠ 10 → r1 ≠ 11 → r1 ≠ 12 → r1 ≠ 16 → qR w 8 qm106 147 [(0, .ref 24), (2, qI p1)] [] s1 (qPI f g))) g)) : qW w 9 106 [.ref 24, qI p0, qI p1] s (qPI f g) := by
  refine qW.of (M := qm106) (l := [(0, .ref 24), (1, qI p0), (2, qI p1)]) qtm_106 rfl (Nat.le_of_ble_eq_true rfl) (zsub_c rfl (zsub_c rfl (zsub_c rfl zsub_n))) ?_
  refine qS_aload_n qd_106_0 rfl ?_
  refine qS_iload_n qd_106_1 rfl ?_
  refine qS_putfield (s1 := qset s 24 1 p1) qd_106_2 (qfl_7_15 w) (hpc_24 _ _) (Nat.le_of_ble_eq_true rfl) rfl rfl rfl (hps_24_1 _ _ _) ?_
  refine qS_aload_n qd_106_5 rfl ?_
  refine qS_iconst qd_106_6 ?_
  refine qS_putfield (s1 := qset (qset s 24 1 p1) 24 2 0) qd_106_7 (qfl_7_19 w) (hpc_24 _ _) (Nat.le_of_ble_eq_true rfl) rfl rfl rfl (hps_24_2 _ _ _) ?_
  refine qS_aload_n qd_106_10 rfl ?_
  refine qS_bipush qd_106_11 (by decide) ?_
  refine qS_putfield (s1 := qset (qset (qset s 24 1 p1) 24 2 0) 24 3 ((-2))) qd_106_13 (qfl_7_22 w) (hpc_24 _ _) (Nat.le_of_ble_eq_true rfl) rfl rfl rfl (hps_24_3 _ _ _) ?_
  refine qS_aload_n qd_106_16 rfl ?_
  refine qS_getfield (v := .ref 3) qd_106_17 (qfl_7_9 w) (hpc_24 _ _) rfl ?_
  refine qS_iload_n qd_106_20 rfl ?_
  refine qS_cvI qd_106_21 (qml_7_25 w) rfl qtm_35 (hpc_3 _ _) (Nat.le_of_ble_eq_true rfl) rfl (Nat.le_of_ble_eq_true rfl) H (fun r1 s1 H => ?_) (fun x s1 H => Or.inr ⟨x, rfl, H⟩)
  obtain ⟨h24a, H1, H2, H3, H4, Hd⟩ := H
  by_cases hc0 : r1 = 7
  · refine qS_tsw qd_106_24 (t := 80) h24a (by rw [hc0]; rfl) ?_
    have H := H1 hc0
    refine qS_aload_n qd_106_80 rfl ?_
    refine qS_iload_n qd_106_81 rfl ?_
    refine qS_cvV qd_106_82 (qml_7_31 w) rfl qtm_107 (hpc_24 _ _) (Nat.le_of_ble_eq_true rfl) rfl (Nat.le_of_ble_eq_true rfl) H (fun s2 H => ?_) (fun x s1 H => Or.inr ⟨x, rfl, H⟩)
    refine qS_goto qd_106_85 rfl ?_
    exact qS_sub (zsub_c rfl (zsub_c rfl zsub_n)) H
  by_cases hc1 : r1 = 9 ∨ r1 = 10 ∨ r1 = 11
  · refine qS_tsw qd_106_24 (t := 124) h24a (by rcases hc1 with hq | hq | hq <;> (rw [hq]; rfl)) ?_
    have H := H2 hc1
    refine qS_aload_n qd_106_124 rfl ?_
    refine qS_aload_n qd_106_125 rfl ?_
    refine qS_getfield (v := .ref 3) qd_106_126 (qfl_7_9 w) (hpc_24 _ _) rfl ?_
    refine qS_iload_n qd_106_129 rfl ?_
    refine qS_cvI qd_106_130 (qml_7_48 w) rfl qtm_50 (hpc_3 _ _) (Nat.le_of_ble_eq_true rfl) rfl (Nat.le_of_ble_eq_true rfl) H (fun r3 s3 H => ?_) (fun x s1 H => Or.inr ⟨x, rfl, H⟩)
    refine qS_aload_n qd_106_133 rfl ?_
    refine qS_getfield (v := .ref 3) qd_106_134 (qfl_7_9 w) (hpc_24 _ _) rfl ?_
    refine qS_iload_n qd_106_137 rfl ?_
    refine qS_cvI qd_106_138 (qml_7_35 w) rfl qtm_49 (hpc_3 _ _) (Nat.le_of_ble_eq_true rfl) rfl (Nat.le_of_ble_eq_true rfl) H (fun r4 s4 H => ?_) (fun x s1 H => Or.inr ⟨x, rfl, H⟩)
    refine qS_cvV qd_106_141 (qml_7_44 w) rfl qtm_115 (hpc_24 _ _) (Nat.le_of_ble_eq_true rfl) rfl (Nat.le_of_ble_eq_true rfl) H (fun s5 H => ?_) (fun x s1 H => Or.inr ⟨x, rfl, H⟩)
    refine qS_goto qd_106_144 rfl ?_
    exact qS_sub (zsub_c rfl (zsub_c rfl zsub_n)) H
  by_cases hc2 : r1 = 12
  · refine qS_tsw qd_106_24 (t := 115) h24a (by rw [hc2]; rfl) ?_
    have H := H3 hc2
    refine qS_aload_n qd_106_115 rfl ?_
    refine qS_iload_n qd_106_116 rfl ?_
    refine qS_iconst qd_106_117 ?_
    refine qS_cvV qd_106_118 (qml_7_44 w) rfl qtm_115 (hpc_24 _ _) (Nat.le_of_ble_eq_true rfl) rfl (Nat.le_of_ble_eq_true rfl) H (fun s6 H => ?_) (fun x s1 H => Or.inr ⟨x, rfl, H⟩)
    refine qS_goto qd_106_121 rfl ?_
    exact qS_sub (zsub_c rfl (zsub_c rfl zsub_n)) H
  by_cases hc3 : r1 = 16
  · refine qS_tsw qd_106_24 (t := 88) h24a (by rw [hc3]; rfl) ?_
    have H := H4 hc3
    refine qS_aload_n qd_106_88 rfl ?_
    refine qS_aload_n qd_106_89 rfl ?_
    refine qS_getfield (v := .ref 3) qd_106_90 (qfl_7_9 w) (hpc_24 _ _) rfl ?_
    refine qS_iload_n qd_106_93 rfl ?_
    refine qS_cvI qd_106_94 (qml_7_35 w) rfl qtm_49 (hpc_3 _ _) (Nat.le_of_ble_eq_true rfl) rfl (Nat.le_of_ble_eq_true rfl) H (fun r7 s7 H => ?_) (fun x s1 H => Or.inr ⟨x, rfl, H⟩)
    refine qS_cvV qd_106_97 (qml_7_38 w) rfl qtm_113 (hpc_24 _ _) (Nat.le_of_ble_eq_true rfl) rfl (Nat.le_of_ble_eq_true rfl) H (fun s8 H => ?_) (fun x s1 H => Or.inr ⟨x, rfl, H⟩)
    refine qS_aload_n qd_106_100 rfl ?_
    refine qS_aload_n qd_106_101 rfl ?_
    refine qS_getfield (v := .ref 3) qd_106_102 (qfl_7_9 w) (hpc_24 _ _) rfl ?_
    refine qS_iload_n qd_106_105 rfl ?_
    refine qS_cvI qd_106_106 (qml_7_35 w) rfl qtm_49 (hpc_3 _ _) (Nat.le_of_ble_eq_true rfl) rfl (Nat.le_of_ble_eq_true rfl) H (fun r9 s9 H => ?_) (fun x s1 H => Or.inr ⟨x, rfl, H⟩)
    refine qS_cvV qd_106_109 (qml_7_41 w) rfl qtm_114 (hpc_24 _ _) (Nat.le_of_ble_eq_true rfl) rfl (Nat.le_of_ble_eq_true rfl) H (fun s10 H => ?_) (fun x s1 H => Or.inr ⟨x, rfl, H⟩)
    refine qS_goto qd_106_112 rfl ?_
    exact qS_sub (zsub_c rfl (zsub_c rfl zsub_n)) H
  refine qS_tsw qd_106_24 (t := 147) h24a (by
    by_cases hz : r1 < 7 ∨ 16 < r1
    · unfold ztsw; rw [if_pos hz]; rfl
    · have hz2 : r1 = 8 ∨ r1 = 13 ∨ r1 = 14 ∨ r1 = 15 := by omega
      rcases hz2 with hq | hq | hq | hq <;> (rw [hq]; rfl)) ?_
  have H := Hd (by omega) (by omega) (by omega) (by omega) (by omega) (by omega)
  exact qS_sub (zsub_c rfl (zsub_c rfl zsub_n)) H
set_option maxRecDepth 100000 in
theorem k106_147 {w : qE} {s : qS} {v2 : Int} {f : Int → qS → Prop} {g : Nat → qS → Prop}  (H : Rg v2 ∧ (v2 = (-1) → qR w 8 qm106 163 [] [qI (s 24 2)] s (qPI f g)) ∧ (v2 ≠ (-1) → qR w 8 qm106 163 [] [qI (s 24 3)] s (qPI f g))) : qR w 8 qm106 147 [(0, .ref 24), (2, qI v2)] [] s (qPI f g) := by
  refine qS_iload_n qd_106_147 rfl ?_
  refine qS_iconst qd_106_148 ?_
  obtain ⟨h149a, H1, H2⟩ := H
  refine qS_icmp qd_106_149 rfl (zcnd_ne (a := v2) (b := (-1)) h149a ⟨by decide, by decide⟩ (fun t => qR w _ _ t _ _ _ _) (fun hc => ?_) (fun hc => ?_))
  · have H := H1 hc; clear H1 H2 hc
    refine qS_aload_n qd_106_152 rfl ?_
    refine qS_getfield (v := qI (s 24 2)) qd_106_153 (qfl_7_19 w) (hpc_24 _ _) rfl ?_
    refine qS_goto qd_106_156 rfl ?_
    exact qS_sub zsub_n H
  · have H := H2 hc; clear H1 H2 hc
    refine qS_aload_n qd_106_159 rfl ?_
    refine qS_getfield (v := qI (s 24 3)) qd_106_160 (qfl_7_22 w) (hpc_24 _ _) rfl ?_
    exact qS_sub zsub_n H
set_option maxRecDepth 100000 in
theorem k106_163 {w : qE} {s : qS} {k0 : Int} {f : Int → qS → Prop} {g : Nat → qS → Prop}  (H : f k0 s) : qR w 8 qm106 163 [] [qI k0] s (qPI f g) := by
  exact qS_ireturn qd_106_163 rfl (Or.inl ⟨_, rfl, H⟩)
set_option maxRecDepth 100000 in
theorem k107 {w : qE} {s : qS} {p0 : Int} {f : qS → Prop} {g : Nat → qS → Prop}  (H : qW w 2 49 [.ref 3, qI p0] s (qPI (fun r1 s1 => qW w 2 51 [.ref 3, qI r1, qI 4] s1 (qPI (fun r2 s2 => Rg r2 ∧ (r2 = 0 → qW w 2 37 [.ref 3, qI r1] s2 (qPI (fun r3 s3 => qW w 2 38 [.ref 3, qI r1] s3 (qPI (fun r4 s4 => qW w 6 110 [.ref 24, qI r3, qI r4] s4 (qPI (fun r5 s5 => qR w 6 qm107 65 [] [] s5 (qPV f g)) g)) g)) g)) ∧ (r2 ≠ 0 → qW w 2 37 [.ref 3, qI r1] s2 (qPI (fun r6 s6 => qW w 2 38 [.ref 3, qI r1] s6 (qPI (fun r7 s7 => qW w 2 108 [.ref 24, qI r6, qI r7] s7 (qPV (fun s8 => qR w 6 qm107 65 [] [] s8 (qPV f g)) g)) g)) g))) g)) g)) : qW w 7 107 [.ref 24, qI p0] s (qPV f g) := by
  refine qW.of (M := qm107) (l := [(0, .ref 24), (1, qI p0)]) qtm_107 rfl (Nat.le_of_ble_eq_true rfl) (zsub_c rfl (zsub_c rfl zsub_n)) ?_
  refine qS_aload_n qd_107_0 rfl ?_
  refine qS_getfield (v := .ref 3) qd_107_1 (qfl_7_9 w) (hpc_24 _ _) rfl ?_
  refine qS_iload_n qd_107_4 rfl ?_
  refine qS_cvI qd_107_5 (qml_7_35 w) rfl qtm_49 (hpc_3 _ _) (Nat.le_of_ble_eq_true rfl) rfl (Nat.le_of_ble_eq_true rfl) H (fun r1 s1 H => ?_) (fun x s1 H => Or.inr ⟨x, rfl, H⟩)
  refine qS_istore_n (a := [(0, .ref 24)]) qd_107_8 (Nat.le_of_ble_eq_true rfl) (zsub_c rfl zsub_n) rfl ?_
  refine qS_aload_n qd_107_9 rfl ?_
  refine qS_getfield (v := .ref 3) qd_107_10 (qfl_7_9 w) (hpc_24 _ _) rfl ?_
  refine qS_iload_n qd_107_13 rfl ?_
  refine qS_iconst qd_107_14 ?_
  refine qS_cvI qd_107_15 (qml_7_53 w) rfl qtm_51 (hpc_3 _ _) (Nat.le_of_ble_eq_true rfl) rfl (Nat.le_of_ble_eq_true rfl) H (fun r2 s2 H => ?_) (fun x s1 H => Or.inr ⟨x, rfl, H⟩)
  obtain ⟨h18a, H1, H2⟩ := H
  refine qS_if0 qd_107_18 rfl (zcnd_eq (a := r2) (b := 0) h18a ⟨by decide, by decide⟩ (fun t => qR w _ _ t _ _ _ _) (fun hc => ?_) (fun hc => ?_))
  · have H := H1 hc; clear H1 H2 hc
    refine qS_aload_n qd_107_44 rfl ?_
    refine qS_aload_n qd_107_45 rfl ?_
    refine qS_getfield (v := .ref 3) qd_107_46 (qfl_7_9 w) (hpc_24 _ _) rfl ?_
    refine qS_iload_n qd_107_49 rfl ?_
    refine qS_cvI qd_107_50 (qml_7_57 w) rfl qtm_37 (hpc_3 _ _) (Nat.le_of_ble_eq_true rfl) rfl (Nat.le_of_ble_eq_true rfl) H (fun r3 s3 H => ?_) (fun x s1 H => Or.inr ⟨x, rfl, H⟩)
    refine qS_aload_n qd_107_53 rfl ?_
    refine qS_getfield (v := .ref 3) qd_107_54 (qfl_7_9 w) (hpc_24 _ _) rfl ?_
    refine qS_iload_n qd_107_57 rfl ?_
    refine qS_cvI qd_107_58 (qml_7_60 w) rfl qtm_38 (hpc_3 _ _) (Nat.le_of_ble_eq_true rfl) rfl (Nat.le_of_ble_eq_true rfl) H (fun r4 s4 H => ?_) (fun x s1 H => Or.inr ⟨x, rfl, H⟩)
    refine qS_cvI qd_107_61 (qml_7_63 w) rfl qtm_110 (hpc_24 _ _) (Nat.le_of_ble_eq_true rfl) rfl (Nat.le_of_ble_eq_true rfl) H (fun r5 s5 H => ?_) (fun x s1 H => Or.inr ⟨x, rfl, H⟩)
    refine qS_pop qd_107_64 rfl ?_
    exact qS_sub zsub_n H
  · have H := H2 hc; clear H1 H2 hc
    refine qS_aload_n qd_107_21 rfl ?_
    refine qS_aload_n qd_107_22 rfl ?_
    refine qS_getfield (v := .ref 3) qd_107_23 (qfl_7_9 w) (hpc_24 _ _) rfl ?_
    refine qS_iload_n qd_107_26 rfl ?_
    refine qS_cvI qd_107_27 (qml_7_57 w) rfl qtm_37 (hpc_3 _ _) (Nat.le_of_ble_eq_true rfl) rfl (Nat.le_of_ble_eq_true rfl) H (fun r6 s6 H => ?_) (fun x s1 H => Or.inr ⟨x, rfl, H⟩)
    refine qS_aload_n qd_107_30 rfl ?_
    refine qS_getfield (v := .ref 3) qd_107_31 (qfl_7_9 w) (hpc_24 _ _) rfl ?_
    refine qS_iload_n qd_107_34 rfl ?_
    refine qS_cvI qd_107_35 (qml_7_60 w) rfl qtm_38 (hpc_3 _ _) (Nat.le_of_ble_eq_true rfl) rfl (Nat.le_of_ble_eq_true rfl) H (fun r7 s7 H => ?_) (fun x s1 H => Or.inr ⟨x, rfl, H⟩)
    refine qS_cvV qd_107_38 (qml_7_73 w) rfl qtm_108 (hpc_24 _ _) (Nat.le_of_ble_eq_true rfl) rfl (Nat.le_of_ble_eq_true rfl) H (fun s8 H => ?_) (fun x s1 H => Or.inr ⟨x, rfl, H⟩)
    refine qS_goto qd_107_41 rfl ?_
    exact qS_sub zsub_n H
set_option maxRecDepth 100000 in
theorem k107_65 {w : qE} {s : qS}  {f : qS → Prop} {g : Nat → qS → Prop}  (H : f s) : qR w 6 qm107 65 [] [] s (qPV f g) := by
  exact qS_vreturn qd_107_65 rfl (Or.inl ⟨rfl, H⟩)
set_option maxRecDepth 100000 in
theorem k108 {w : qE} {s : qS} {p0 : Int} {p1 : Int} {f : qS → Prop} {g : Nat → qS → Prop}  (H : qR w 1 qm108 2 [(0, .ref 24), (2, qI p1), (3, qI p0)] [] s (qPV f g)) : qW w 2 108 [.ref 24, qI p0, qI p1] s (qPV f g) := by
  refine qW.of (M := qm108) (l := [(0, .ref 24), (1, qI p0), (2, qI p1)]) qtm_108 rfl (Nat.le_of_ble_eq_true rfl) (zsub_c rfl (zsub_c rfl (zsub_c rfl zsub_n))) ?_
  refine qS_iload_n qd_108_0 rfl ?_
  refine qS_istore_n (a := [(0, .ref 24), (2, qI p1)]) qd_108_1 (Nat.le_of_ble_eq_true rfl) (zsub_c rfl (zsub_c rfl zsub_n)) rfl ?_
  exact qS_sub (zsub_c rfl (zsub_c rfl (zsub_c rfl zsub_n))) H
set_option maxRecDepth 100000 in
theorem k108_2 {w : qE} {s : qS} {v2 : Int} {v3 : Int} {f : qS → Prop} {g : Nat → qS → Prop}  (H : Rg v3 ∧ Rg v2 ∧ (v3 < v2 → (0 ≤ v3 ∧ v3 < 500 ∧ (Rg (s 6 v3) ∧ (s 6 v3 = 47 → qR w 1 qm108 36 [(0, .ref 24), (2, qI v2), (3, qI v3)] [qI 46, .ref 24] s (qPV f g)) ∧ (s 6 v3 ≠ 47 → (0 ≤ v3 ∧ v3 < 500 ∧ (qR w 1 qm108 36 [(0, .ref 24), (2, qI v2), (3, qI v3)] [qI (s 6 v3), .ref 24] s (qPV f g))))))) ∧ (v2 ≤ v3 → f s)) : qR w 1 qm108 2 [(0, .ref 24), (2, qI v2), (3, qI v3)] [] s (qPV f g) := by
  refine qS_iload_n qd_108_2 rfl ?_
  refine qS_iload_n qd_108_3 rfl ?_
  obtain ⟨h4a, h4b, H1, H2⟩ := H
  refine qS_icmp qd_108_4 rfl (zcnd_ge (a := v3) (b := v2) h4a h4b (fun t => qR w _ _ t _ _ _ _) (fun hc => ?_) (fun hc => ?_))
  · have H := H1 hc; clear H1 H2 hc
    refine qS_aload_n qd_108_7 rfl ?_
    refine qS_aload_n qd_108_8 rfl ?_
    refine qS_getfield (v := .ref 3) qd_108_9 (qfl_7_9 w) (hpc_24 _ _) rfl ?_
    refine qS_getfield (v := .ref 6) qd_108_12 (qfl_7_76 w) (hpc_3 _ _) rfl ?_
    refine qS_iload_n qd_108_15 rfl ?_
    obtain ⟨hl, hu, H⟩ := H
    refine qS_iaload (a := 6) (i := v3) qd_108_16 (Nat.le_of_ble_eq_true rfl) hl hu ?_
    refine qS_bipush qd_108_17 (by decide) ?_
    obtain ⟨h19a, H1, H2⟩ := H
    refine qS_icmp qd_108_19 rfl (zcnd_ne (a := s 6 v3) (b := 47) h19a ⟨by decide, by decide⟩ (fun t => qR w _ _ t _ _ _ _) (fun hc => ?_) (fun hc => ?_))
    · have H := H1 hc; clear H1 H2 hc
      refine qS_bipush qd_108_22 (by decide) ?_
      refine qS_goto qd_108_24 rfl ?_
      exact qS_sub (zsub_c rfl (zsub_c rfl (zsub_c rfl zsub_n))) H
    · have H := H2 hc; clear H1 H2 hc
      refine qS_aload_n qd_108_27 rfl ?_
      refine qS_getfield (v := .ref 3) qd_108_28 (qfl_7_9 w) (hpc_24 _ _) rfl ?_
      refine qS_getfield (v := .ref 6) qd_108_31 (qfl_7_76 w) (hpc_3 _ _) rfl ?_
      refine qS_iload_n qd_108_34 rfl ?_
      obtain ⟨hl, hu, H⟩ := H
      refine qS_iaload (a := 6) (i := v3) qd_108_35 (Nat.le_of_ble_eq_true rfl) hl hu ?_
      exact qS_sub (zsub_c rfl (zsub_c rfl (zsub_c rfl zsub_n))) H
  · have H := H2 hc; clear H1 H2 hc
    exact qS_vreturn qd_108_45 rfl (Or.inl ⟨rfl, H⟩)
set_option maxRecDepth 100000 in
theorem k108_36 {w : qE} {s : qS} {v2 : Int} {v3 : Int} {k1 : Int} {f : qS → Prop} {g : Nat → qS → Prop}  (H : qW w 1 109 [.ref 24, qI k1] s (qPV (fun s1 => qR w 1 qm108 2 [(0, .ref 24), (2, qI v2), (3, qI (v3 + 1))] [] s1 (qPV f g)) g)) : qR w 1 qm108 36 [(0, .ref 24), (2, qI v2), (3, qI v3)] [qI k1, .ref 24] s (qPV f g) := by
  refine qS_cvV qd_108_36 (qml_7_67 w) rfl qtm_109 (hpc_24 _ _) (Nat.le_of_ble_eq_true rfl) rfl (Nat.le_of_ble_eq_true rfl) H (fun s1 H => ?_) (fun x s1 H => Or.inr ⟨x, rfl, H⟩)
  refine qS_iinc (v := v3) (a := [(0, .ref 24), (2, qI v2)]) qd_108_39 (Nat.le_of_ble_eq_true rfl) rfl (zsub_c rfl (zsub_c rfl zsub_n)) rfl ?_
  refine qS_goto qd_108_42 rfl ?_
  exact qS_sub (zsub_c rfl (zsub_c rfl (zsub_c rfl zsub_n))) H
set_option maxRecDepth 100000 in
theorem k109 {w : qE} {s : qS} {p0 : Int} {f : qS → Prop} {g : Nat → qS → Prop}  (H : Rg (s 24 2) ∧ Rg (s 24 1) ∧ (s 24 2 = s 24 1 → qR w 0 qm109 16 [(0, .ref 24)] [] (qset s 24 3 p0) (qPV f g)) ∧ (s 24 2 ≠ s 24 1 → qR w 0 qm109 16 [(0, .ref 24)] [] s (qPV f g))) : qW w 1 109 [.ref 24, qI p0] s (qPV f g) := by
  refine qW.of (M := qm109) (l := [(0, .ref 24), (1, qI p0)]) qtm_109 rfl (Nat.le_of_ble_eq_true rfl) (zsub_c rfl (zsub_c rfl zsub_n)) ?_
  refine qS_aload_n qd_109_0 rfl ?_
  refine qS_getfield (v := qI (s 24 2)) qd_109_1 (qfl_7_19 w) (hpc_24 _ _) rfl ?_
  refine qS_aload_n qd_109_4 rfl ?_
  refine qS_getfield (v := qI (s 24 1)) qd_109_5 (qfl_7_15 w) (hpc_24 _ _) rfl ?_
  obtain ⟨h8a, h8b, H1, H2⟩ := H
  refine qS_icmp qd_109_8 rfl (zcnd_ne (a := s 24 2) (b := s 24 1) h8a h8b (fun t => qR w _ _ t _ _ _ _) (fun hc => ?_) (fun hc => ?_))
  · have H := H1 hc; clear H1 H2 hc
    refine qS_aload_n qd_109_11 rfl ?_
    refine qS_iload_n qd_109_12 rfl ?_
    refine qS_putfield (s1 := qset s 24 3 p0) qd_109_13 (qfl_7_22 w) (hpc_24 _ _) (Nat.le_of_ble_eq_true rfl) rfl rfl rfl (hps_24_3 _ _ _) ?_
    exact qS_sub (zsub_c rfl zsub_n) H
  · have H := H2 hc; clear H1 H2 hc
    exact qS_sub (zsub_c rfl zsub_n) H
set_option maxRecDepth 100000 in
theorem k109_16 {w : qE} {s : qS}  {f : qS → Prop} {g : Nat → qS → Prop}  (H : f (qset s 24 2 ((s 24 2) + 1))) : qR w 0 qm109 16 [(0, .ref 24)] [] s (qPV f g) := by
  refine qS_aload_n qd_109_16 rfl ?_
  refine qS_dup qd_109_17 rfl ?_
  refine qS_getfield (v := qI (s 24 2)) qd_109_18 (qfl_7_19 w) (hpc_24 _ _) rfl ?_
  refine qS_iconst qd_109_21 ?_
  refine qS_iadd (a := s 24 2) (b := 1) qd_109_22 ?_
  refine qS_putfield (s1 := qset s 24 2 ((s 24 2) + 1)) qd_109_23 (qfl_7_19 w) (hpc_24 _ _) (Nat.le_of_ble_eq_true rfl) rfl rfl rfl (hps_24_2 _ _ _) ?_
  exact qS_vreturn qd_109_26 rfl (Or.inl ⟨rfl, H⟩)
set_option maxRecDepth 100000 in
theorem k110 {w : qE} {s : qS} {p0 : Int} {p1 : Int} {f : Int → qS → Prop} {g : Nat → qS → Prop}  (H : qR w 5 qm110 2 [(0, .ref 24), (1, qI p0), (2, qI p1), (3, qI p0)] [] s (qPI f g)) : qW w 6 110 [.ref 24, qI p0, qI p1] s (qPI f g) := by
  refine qW.of (M := qm110) (l := [(0, .ref 24), (1, qI p0), (2, qI p1)]) qtm_110 rfl (Nat.le_of_ble_eq_true rfl) (zsub_c rfl (zsub_c rfl (zsub_c rfl zsub_n))) ?_
  refine qS_iload_n qd_110_0 rfl ?_
  refine qS_istore_n (a := [(0, .ref 24), (1, qI p0), (2, qI p1)]) qd_110_1 (Nat.le_of_ble_eq_true rfl) (zsub_c rfl (zsub_c rfl (zsub_c rfl zsub_n))) rfl ?_
  exact qS_sub (zsub_c rfl (zsub_c rfl (zsub_c rfl (zsub_c rfl zsub_n)))) H
set_option maxRecDepth 100000 in
theorem k110_2 {w : qE} {s : qS} {v1 : Int} {v2 : Int} {v3 : Int} {f : Int → qS → Prop} {g : Nat → qS → Prop}  (H : Rg v3 ∧ Rg v2 ∧ (v3 < v2 → (0 ≤ v3 ∧ v3 < 500 ∧ (Rg (s 6 v3) ∧ (s 6 v3 = 91 → qR w 5 qm110 2 [(0, .ref 24), (1, qI v1), (2, qI v2), (3, qI (v3 + 1))] [] s (qPI f g)) ∧ (s 6 v3 ≠ 91 → qR w 5 qm110 27 [(0, .ref 24), (1, qI v1), (2, qI v2), (3, qI v3)] [] s (qPI f g))))) ∧ (v2 ≤ v3 → qR w 5 qm110 27 [(0, .ref 24), (1, qI v1), (2, qI v2), (3, qI v3)] [] s (qPI f g))) : qR w 5 qm110 2 [(0, .ref 24), (1, qI v1), (2, qI v2), (3, qI v3)] [] s (qPI f g) := by
  refine qS_iload_n qd_110_2 rfl ?_
  refine qS_iload_n qd_110_3 rfl ?_
  obtain ⟨h4a, h4b, H1, H2⟩ := H
  refine qS_icmp qd_110_4 rfl (zcnd_ge (a := v3) (b := v2) h4a h4b (fun t => qR w _ _ t _ _ _ _) (fun hc => ?_) (fun hc => ?_))
  · have H := H1 hc; clear H1 H2 hc
    refine qS_aload_n qd_110_7 rfl ?_
    refine qS_getfield (v := .ref 3) qd_110_8 (qfl_7_9 w) (hpc_24 _ _) rfl ?_
    refine qS_getfield (v := .ref 6) qd_110_11 (qfl_7_76 w) (hpc_3 _ _) rfl ?_
    refine qS_iload_n qd_110_14 rfl ?_
    obtain ⟨hl, hu, H⟩ := H
    refine qS_iaload (a := 6) (i := v3) qd_110_15 (Nat.le_of_ble_eq_true rfl) hl hu ?_
    refine qS_bipush qd_110_16 (by decide) ?_
    obtain ⟨h18a, H1, H2⟩ := H
    refine qS_icmp qd_110_18 rfl (zcnd_ne (a := s 6 v3) (b := 91) h18a ⟨by decide, by decide⟩ (fun t => qR w _ _ t _ _ _ _) (fun hc => ?_) (fun hc => ?_))
    · have H := H1 hc; clear H1 H2 hc
      refine qS_iinc (v := v3) (a := [(0, .ref 24), (1, qI v1), (2, qI v2)]) qd_110_21 (Nat.le_of_ble_eq_true rfl) rfl (zsub_c rfl (zsub_c rfl (zsub_c rfl zsub_n))) rfl ?_
      refine qS_goto qd_110_24 rfl ?_
      exact qS_sub (zsub_c rfl (zsub_c rfl (zsub_c rfl (zsub_c rfl zsub_n)))) H
    · have H := H2 hc; clear H1 H2 hc
      exact qS_sub (zsub_c rfl (zsub_c rfl (zsub_c rfl (zsub_c rfl zsub_n)))) H
  · have H := H2 hc; clear H1 H2 hc
    exact qS_sub (zsub_c rfl (zsub_c rfl (zsub_c rfl (zsub_c rfl zsub_n)))) H
set_option maxRecDepth 100000 in
theorem k110_27 {w : qE} {s : qS} {v1 : Int} {v2 : Int} {v3 : Int} {f : Int → qS → Prop} {g : Nat → qS → Prop}  (H : Rg v3 ∧ Rg v2 ∧ (v3 < v2 → (0 ≤ v3 ∧ v3 < 500 ∧ (Rg (s 6 v3) ∧ (s 6 v3 = 76 → qW w 2 43 [.ref 6, qI v3, qI v2] s (qPI (fun r1 s1 => qW w 2 108 [.ref 24, qI (v3 + 1), qI (r1 - 1)] s1 (qPV (fun s2 => qR w 5 qm110 105 [(0, .ref 24), (4, qI (v3 - v1)), (5, qI r1)] [] s2 (qPI f g)) g)) g)) ∧ (s 6 v3 ≠ 76 → qR w 5 qm110 84 [(0, .ref 24), (2, qI v2), (3, qI v3), (4, qI (v3 - v1)), (5, qI (v3 + 1))] [] s (qPI f g))))) ∧ (v2 ≤ v3 → qR w 5 qm110 84 [(0, .ref 24), (2, qI v2), (3, qI v3), (4, qI (v3 - v1)), (5, qI (v3 + 1))] [] s (qPI f g))) : qR w 5 qm110 27 [(0, .ref 24), (1, qI v1), (2, qI v2), (3, qI v3)] [] s (qPI f g) := by
  refine qS_iload_n qd_110_27 rfl ?_
  refine qS_iload_n qd_110_28 rfl ?_
  refine qS_isub (a := v3) (b := v1) qd_110_29 ?_
  refine qS_istore (a := [(0, .ref 24), (2, qI v2), (3, qI v3)]) qd_110_30 (Nat.le_of_ble_eq_true rfl) (zsub_c rfl (zsub_c rfl (zsub_c rfl zsub_n))) rfl ?_
  refine qS_iload_n qd_110_32 rfl ?_
  refine qS_iconst qd_110_33 ?_
  refine qS_iadd (a := v3) (b := 1) qd_110_34 ?_
  refine qS_istore (a := [(4, qI (v3 - v1)), (0, .ref 24), (2, qI v2), (3, qI v3)]) qd_110_35 (Nat.le_of_ble_eq_true rfl) (zsub_c rfl (zsub_c rfl (zsub_c rfl (zsub_c rfl zsub_n)))) rfl ?_
  refine qS_iload_n qd_110_37 rfl ?_
  refine qS_iload_n qd_110_38 rfl ?_
  obtain ⟨h39a, h39b, H1, H2⟩ := H
  refine qS_icmp qd_110_39 rfl (zcnd_ge (a := v3) (b := v2) h39a h39b (fun t => qR w _ _ t _ _ _ _) (fun hc => ?_) (fun hc => ?_))
  · have H := H1 hc; clear H1 H2 hc
    refine qS_aload_n qd_110_42 rfl ?_
    refine qS_getfield (v := .ref 3) qd_110_43 (qfl_7_9 w) (hpc_24 _ _) rfl ?_
    refine qS_getfield (v := .ref 6) qd_110_46 (qfl_7_76 w) (hpc_3 _ _) rfl ?_
    refine qS_iload_n qd_110_49 rfl ?_
    obtain ⟨hl, hu, H⟩ := H
    refine qS_iaload (a := 6) (i := v3) qd_110_50 (Nat.le_of_ble_eq_true rfl) hl hu ?_
    refine qS_bipush qd_110_51 (by decide) ?_
    obtain ⟨h53a, H1, H2⟩ := H
    refine qS_icmp qd_110_53 rfl (zcnd_ne (a := s 6 v3) (b := 76) h53a ⟨by decide, by decide⟩ (fun t => qR w _ _ t _ _ _ _) (fun hc => ?_) (fun hc => ?_))
    · have H := H1 hc; clear H1 H2 hc
      refine qS_aload_n qd_110_56 rfl ?_
      refine qS_getfield (v := .ref 3) qd_110_57 (qfl_7_9 w) (hpc_24 _ _) rfl ?_
      refine qS_getfield (v := .ref 6) qd_110_60 (qfl_7_76 w) (hpc_3 _ _) rfl ?_
      refine qS_iload_n qd_110_63 rfl ?_
      refine qS_iload_n qd_110_64 rfl ?_
      refine qS_csI qd_110_65 (qml_7_84 w) rfl (Nat.le_of_ble_eq_true rfl) rfl (Nat.le_of_ble_eq_true rfl) H (fun r1 s1 H => ?_) (fun x s1 H => Or.inr ⟨x, rfl, H⟩)
      refine qS_istore (a := [(4, qI (v3 - v1)), (0, .ref 24), (3, qI v3)]) qd_110_68 (Nat.le_of_ble_eq_true rfl) (zsub_c rfl (zsub_c rfl (zsub_c rfl zsub_n))) rfl ?_
      refine qS_aload_n qd_110_70 rfl ?_
      refine qS_iload_n qd_110_71 rfl ?_
      refine qS_iconst qd_110_72 ?_
      refine qS_iadd (a := v3) (b := 1) qd_110_73 ?_
      refine qS_iload qd_110_74 rfl ?_
      refine qS_iconst qd_110_76 ?_
      refine qS_isub (a := r1) (b := 1) qd_110_77 ?_
      refine qS_cvV qd_110_78 (qml_7_73 w) rfl qtm_108 (hpc_24 _ _) (Nat.le_of_ble_eq_true rfl) rfl (Nat.le_of_ble_eq_true rfl) H (fun s2 H => ?_) (fun x s1 H => Or.inr ⟨x, rfl, H⟩)
      refine qS_goto qd_110_81 rfl ?_
      exact qS_sub (zsub_c rfl (zsub_c rfl (zsub_c rfl zsub_n))) H
    · have H := H2 hc; clear H1 H2 hc
      exact qS_sub (zsub_c rfl (zsub_c rfl (zsub_c rfl (zsub_c rfl (zsub_c rfl zsub_n))))) H
  · have H := H2 hc; clear H1 H2 hc
    exact qS_sub (zsub_c rfl (zsub_c rfl (zsub_c rfl (zsub_c rfl (zsub_c rfl zsub_n))))) H
set_option maxRecDepth 100000 in
theorem k110_84 {w : qE} {s : qS} {v2 : Int} {v3 : Int} {v4 : Int} {v5 : Int} {f : Int → qS → Prop} {g : Nat → qS → Prop}  (H : Rg v3 ∧ Rg v2 ∧ (v3 < v2 → (0 ≤ v3 ∧ v3 < 500 ∧ (qW w 1 111 [qI (s 6 v3)] s (qPA (fun r3 s3 => qW w 5 112 [.ref 24, .retAddr r3] s3 (qPV (fun s4 => qR w 5 qm110 105 [(0, .ref 24), (4, qI v4), (5, qI v5)] [] s4 (qPI f g)) g)) g)))) ∧ (v2 ≤ v3 → qR w 5 qm110 105 [(0, .ref 24), (4, qI v4), (5, qI v5)] [] s (qPI f g))) : qR w 5 qm110 84 [(0, .ref 24), (2, qI v2), (3, qI v3), (4, qI v4), (5, qI v5)] [] s (qPI f g) := by
  refine qS_iload_n qd_110_84 rfl ?_
  refine qS_iload_n qd_110_85 rfl ?_
  obtain ⟨h86a, h86b, H1, H2⟩ := H
  refine qS_icmp qd_110_86 rfl (zcnd_ge (a := v3) (b := v2) h86a h86b (fun t => qR w _ _ t _ _ _ _) (fun hc => ?_) (fun hc => ?_))
  · have H := H1 hc; clear H1 H2 hc
    refine qS_aload_n qd_110_89 rfl ?_
    refine qS_aload_n qd_110_90 rfl ?_
    refine qS_getfield (v := .ref 3) qd_110_91 (qfl_7_9 w) (hpc_24 _ _) rfl ?_
    refine qS_getfield (v := .ref 6) qd_110_94 (qfl_7_76 w) (hpc_3 _ _) rfl ?_
    refine qS_iload_n qd_110_97 rfl ?_
    obtain ⟨hl, hu, H⟩ := H
    refine qS_iaload (a := 6) (i := v3) qd_110_98 (Nat.le_of_ble_eq_true rfl) hl hu ?_
    refine qS_csA qd_110_99 (qml_7_87 w) rfl (Nat.le_of_ble_eq_true rfl) rfl (Nat.le_of_ble_eq_true rfl) H (fun r3 s3 H => ?_) (fun x s1 H => Or.inr ⟨x, rfl, H⟩)
    refine qS_cvV qd_110_102 (qml_7_91 w) rfl qtm_112 (hpc_24 _ _) (Nat.le_of_ble_eq_true rfl) rfl (Nat.le_of_ble_eq_true rfl) H (fun s4 H => ?_) (fun x s1 H => Or.inr ⟨x, rfl, H⟩)
    exact qS_sub (zsub_c rfl (zsub_c rfl (zsub_c rfl zsub_n))) H
  · have H := H2 hc; clear H1 H2 hc
    exact qS_sub (zsub_c rfl (zsub_c rfl (zsub_c rfl zsub_n))) H
set_option maxRecDepth 100000 in
theorem k110_105 {w : qE} {s : qS} {v4 : Int} {v5 : Int} {f : Int → qS → Prop} {g : Nat → qS → Prop}  (H : qR w 5 qm110 108 [(0, .ref 24), (4, qI v4), (5, qI v5), (6, qI 0)] [] s (qPI f g)) : qR w 5 qm110 105 [(0, .ref 24), (4, qI v4), (5, qI v5)] [] s (qPI f g) := by
  refine qS_iconst qd_110_105 ?_
  refine qS_istore (a := [(0, .ref 24), (4, qI v4), (5, qI v5)]) qd_110_106 (Nat.le_of_ble_eq_true rfl) (zsub_c rfl (zsub_c rfl (zsub_c rfl zsub_n))) rfl ?_
  exact qS_sub (zsub_c rfl (zsub_c rfl (zsub_c rfl (zsub_c rfl zsub_n)))) H
set_option maxRecDepth 100000 in
theorem k110_108 {w : qE} {s : qS} {v4 : Int} {v5 : Int} {v6 : Int} {f : Int → qS → Prop} {g : Nat → qS → Prop}  (H : Rg v6 ∧ Rg v4 ∧ (v6 < v4 → qW w 5 112 [.ref 24, .retAddr 128] s (qPV (fun s5 => qR w 5 qm110 108 [(0, .ref 24), (4, qI v4), (5, qI v5), (6, qI (v6 + 1))] [] s5 (qPI f g)) g)) ∧ (v4 ≤ v6 → f v5 s)) : qR w 5 qm110 108 [(0, .ref 24), (4, qI v4), (5, qI v5), (6, qI v6)] [] s (qPI f g) := by
  refine qS_iload qd_110_108 rfl ?_
  refine qS_iload qd_110_110 rfl ?_
  obtain ⟨h112a, h112b, H1, H2⟩ := H
  refine qS_icmp qd_110_112 rfl (zcnd_ge (a := v6) (b := v4) h112a h112b (fun t => qR w _ _ t _ _ _ _) (fun hc => ?_) (fun hc => ?_))
  · have H := H1 hc; clear H1 H2 hc
    refine qS_aload_n qd_110_115 rfl ?_
    refine qS_ex (st' := [.retAddr 128, .ref 24]) qd_110_116 rfl rfl (fun _ => rfl) (fun _ => rfl) (fun _ => rfl) rfl (fun _ => rfl) rfl (fun _ => rfl) rfl rfl ?_
    refine qS_cvV qd_110_118 (qml_7_91 w) rfl qtm_112 (hpc_24 _ _) (Nat.le_of_ble_eq_true rfl) rfl (Nat.le_of_ble_eq_true rfl) H (fun s5 H => ?_) (fun x s1 H => Or.inr ⟨x, rfl, H⟩)
    refine qS_iinc (v := v6) (a := [(0, .ref 24), (4, qI v4), (5, qI v5)]) qd_110_121 (Nat.le_of_ble_eq_true rfl) rfl (zsub_c rfl (zsub_c rfl (zsub_c rfl zsub_n))) rfl ?_
    refine qS_goto qd_110_124 rfl ?_
    exact qS_sub (zsub_c rfl (zsub_c rfl (zsub_c rfl (zsub_c rfl zsub_n)))) H
  · have H := H2 hc; clear H1 H2 hc
    refine qS_iload qd_110_127 rfl ?_
    exact qS_ireturn qd_110_129 rfl (Or.inl ⟨_, rfl, H⟩)
set_option maxRecDepth 100000 in
theorem k111 {w : qE} {s : qS} {p0 : Int} {f : Nat → qS → Prop} {g : Nat → qS → Prop}  (H : Rg p0 ∧ (p0 = 66 → f 110 s) ∧ (p0 = 67 → f 112 s) ∧ (p0 = 68 → f 114 s) ∧ (p0 = 70 → f 116 s) ∧ (p0 = 73 → f 118 s) ∧ (p0 = 74 → f 120 s) ∧ (p0 = 83 → f 122 s) ∧ (p0 = 90 → f 124 s) ∧ (p0 ≠ 66 → p0 ≠ 67 → p0 ≠ 68 → p0 ≠ 70 → p0 ≠ 73 → p0 ≠ 74 → p0 ≠ 83 → p0 ≠ 90 → f 126 s)) : qW w 1 111 [qI p0] s (qPA f g) := by
  refine qW.of (M := qm111) (l := [(0, qI p0)]) qtm_111 rfl (Nat.le_of_ble_eq_true rfl) (zsub_c rfl zsub_n) ?_
  refine qS_iload_n qd_111_0 rfl ?_
  obtain ⟨h1a, H1, H2, H3, H4, H5, H6, H7, H8, Hd⟩ := H
  by_cases hc0 : p0 = 66
  · refine qS_tsw qd_111_1 (t := 116) h1a (by rw [hc0]; rfl) ?_
    have H := H1 hc0
    refine qS_ex (st' := [.retAddr 110]) qd_111_116 rfl rfl (fun _ => rfl) (fun _ => rfl) (fun _ => rfl) rfl (fun _ => rfl) rfl (fun _ => rfl) rfl rfl ?_
    exact qS_oreturn qd_111_118 rfl (Or.inl ⟨_, rfl, H⟩)
  by_cases hc1 : p0 = 67
  · refine qS_tsw qd_111_1 (t := 119) h1a (by rw [hc1]; rfl) ?_
    have H := H2 hc1
    refine qS_ex (st' := [.retAddr 112]) qd_111_119 rfl rfl (fun _ => rfl) (fun _ => rfl) (fun _ => rfl) rfl (fun _ => rfl) rfl (fun _ => rfl) rfl rfl ?_
    exact qS_oreturn qd_111_121 rfl (Or.inl ⟨_, rfl, H⟩)
  by_cases hc2 : p0 = 68
  · refine qS_tsw qd_111_1 (t := 122) h1a (by rw [hc2]; rfl) ?_
    have H := H3 hc2
    refine qS_ex (st' := [.retAddr 114]) qd_111_122 rfl rfl (fun _ => rfl) (fun _ => rfl) (fun _ => rfl) rfl (fun _ => rfl) rfl (fun _ => rfl) rfl rfl ?_
    exact qS_oreturn qd_111_124 rfl (Or.inl ⟨_, rfl, H⟩)
  by_cases hc3 : p0 = 70
  · refine qS_tsw qd_111_1 (t := 125) h1a (by rw [hc3]; rfl) ?_
    have H := H4 hc3
    refine qS_ex (st' := [.retAddr 116]) qd_111_125 rfl rfl (fun _ => rfl) (fun _ => rfl) (fun _ => rfl) rfl (fun _ => rfl) rfl (fun _ => rfl) rfl rfl ?_
    exact qS_oreturn qd_111_127 rfl (Or.inl ⟨_, rfl, H⟩)
  by_cases hc4 : p0 = 73
  · refine qS_tsw qd_111_1 (t := 128) h1a (by rw [hc4]; rfl) ?_
    have H := H5 hc4
    refine qS_ex (st' := [.retAddr 118]) qd_111_128 rfl rfl (fun _ => rfl) (fun _ => rfl) (fun _ => rfl) rfl (fun _ => rfl) rfl (fun _ => rfl) rfl rfl ?_
    exact qS_oreturn qd_111_130 rfl (Or.inl ⟨_, rfl, H⟩)
  by_cases hc5 : p0 = 74
  · refine qS_tsw qd_111_1 (t := 131) h1a (by rw [hc5]; rfl) ?_
    have H := H6 hc5
    refine qS_ex (st' := [.retAddr 120]) qd_111_131 rfl rfl (fun _ => rfl) (fun _ => rfl) (fun _ => rfl) rfl (fun _ => rfl) rfl (fun _ => rfl) rfl rfl ?_
    exact qS_oreturn qd_111_133 rfl (Or.inl ⟨_, rfl, H⟩)
  by_cases hc6 : p0 = 83
  · refine qS_tsw qd_111_1 (t := 134) h1a (by rw [hc6]; rfl) ?_
    have H := H7 hc6
    refine qS_ex (st' := [.retAddr 122]) qd_111_134 rfl rfl (fun _ => rfl) (fun _ => rfl) (fun _ => rfl) rfl (fun _ => rfl) rfl (fun _ => rfl) rfl rfl ?_
    exact qS_oreturn qd_111_136 rfl (Or.inl ⟨_, rfl, H⟩)
  by_cases hc7 : p0 = 90
  · refine qS_tsw qd_111_1 (t := 137) h1a (by rw [hc7]; rfl) ?_
    have H := H8 hc7
    refine qS_ex (st' := [.retAddr 124]) qd_111_137 rfl rfl (fun _ => rfl) (fun _ => rfl) (fun _ => rfl) rfl (fun _ => rfl) rfl (fun _ => rfl) rfl rfl ?_
    exact qS_oreturn qd_111_139 rfl (Or.inl ⟨_, rfl, H⟩)
  refine qS_tsw qd_111_1 (t := 140) h1a (by
    by_cases hz : p0 < 66 ∨ 90 < p0
    · unfold ztsw; rw [if_pos hz]; rfl
    · have hz2 : p0 = 69 ∨ p0 = 71 ∨ p0 = 72 ∨ p0 = 75 ∨ p0 = 76 ∨ p0 = 77 ∨ p0 = 78 ∨ p0 = 79 ∨ p0 = 80 ∨ p0 = 81 ∨ p0 = 82 ∨ p0 = 84 ∨ p0 = 85 ∨ p0 = 86 ∨ p0 = 87 ∨ p0 = 88 ∨ p0 = 89 := by omega
      rcases hz2 with hq | hq | hq | hq | hq | hq | hq | hq | hq | hq | hq | hq | hq | hq | hq | hq | hq <;> (rw [hq]; rfl)) ?_
  have H := Hd (by omega) (by omega) (by omega) (by omega) (by omega) (by omega) (by omega) (by omega)
  refine qS_ex (st' := [.retAddr 126]) qd_111_140 rfl rfl (fun _ => rfl) (fun _ => rfl) (fun _ => rfl) rfl (fun _ => rfl) rfl (fun _ => rfl) rfl rfl ?_
  exact qS_oreturn qd_111_142 rfl (Or.inl ⟨_, rfl, H⟩)
set_option maxRecDepth 100000 in
theorem k112 {w : qE} {s : qS} {p0 : Nat} {f : qS → Prop} {g : Nat → qS → Prop}  (H : qR w 4 qm112 2 [(0, .ref 24), (1, .retAddr p0), (2, qI 0)] [] s (qPV f g)) : qW w 5 112 [.ref 24, .retAddr p0] s (qPV f g) := by
  refine qW.of (M := qm112) (l := [(0, .ref 24), (1, .retAddr p0)]) qtm_112 rfl (Nat.le_of_ble_eq_true rfl) (zsub_c rfl (zsub_c rfl zsub_n)) ?_
  refine qS_iconst qd_112_0 ?_
  refine qS_istore_n (a := [(0, .ref 24), (1, .retAddr p0)]) qd_112_1 (Nat.le_of_ble_eq_true rfl) (zsub_c rfl (zsub_c rfl zsub_n)) rfl ?_
  exact qS_sub (zsub_c rfl (zsub_c rfl (zsub_c rfl zsub_n))) H
set_option maxRecDepth 100000 in
theorem k112_2 {w : qE} {s : qS} {v1 : Nat} {v2 : Int} {f : qS → Prop} {g : Nat → qS → Prop}  (H : (qsk v1 = some 14 ∧ qW w 2 206 [.retAddr v1] s (qPI (fun r1 s1 => Rg v2 ∧ Rg r1 ∧ (v2 < r1 → (qsk v1 = some 14 ∧ qW w 4 208 [.retAddr v1, qI v2] s1 (qPI (fun r2 s2 => qW w 1 109 [.ref 24, qI r2] s2 (qPV (fun s3 => qR w 4 qm112 2 [(0, .ref 24), (1, .retAddr v1), (2, qI (v2 + 1))] [] s3 (qPV f g)) g)) g))) ∧ (r1 ≤ v2 → f s1)) g))) : qR w 4 qm112 2 [(0, .ref 24), (1, .retAddr v1), (2, qI v2)] [] s (qPV f g) := by
  refine qS_iload_n qd_112_2 rfl ?_
  refine qS_oload_n qd_112_3 rfl ?_
  obtain ⟨hk1, H⟩ := H
  refine qS_coI qd_112_4 (qml_7_115 w) rfl qtm_206 hk1 (Nat.le_of_ble_eq_true rfl) rfl (Nat.le_of_ble_eq_true rfl) H (fun r1 s1 H => ?_) (fun x s1 H => Or.inr ⟨x, rfl, H⟩)
  obtain ⟨h7a, h7b, H1, H2⟩ := H
  refine qS_icmp qd_112_7 rfl (zcnd_ge (a := v2) (b := r1) h7a h7b (fun t => qR w _ _ t _ _ _ _) (fun hc => ?_) (fun hc => ?_))
  · have H := H1 hc; clear H1 H2 hc
    refine qS_aload_n qd_112_10 rfl ?_
    refine qS_oload_n qd_112_11 rfl ?_
    refine qS_iload_n qd_112_12 rfl ?_
    obtain ⟨hk2, H⟩ := H
    refine qS_coI qd_112_13 (qml_7_121 w) rfl qtm_208 hk2 (Nat.le_of_ble_eq_true rfl) rfl (Nat.le_of_ble_eq_true rfl) H (fun r2 s2 H => ?_) (fun x s1 H => Or.inr ⟨x, rfl, H⟩)
    refine qS_cvV qd_112_16 (qml_7_67 w) rfl qtm_109 (hpc_24 _ _) (Nat.le_of_ble_eq_true rfl) rfl (Nat.le_of_ble_eq_true rfl) H (fun s3 H => ?_) (fun x s1 H => Or.inr ⟨x, rfl, H⟩)
    refine qS_iinc (v := v2) (a := [(0, .ref 24), (1, .retAddr v1)]) qd_112_19 (Nat.le_of_ble_eq_true rfl) rfl (zsub_c rfl (zsub_c rfl zsub_n)) rfl ?_
    refine qS_goto qd_112_22 rfl ?_
    exact qS_sub (zsub_c rfl (zsub_c rfl (zsub_c rfl zsub_n))) H
  · have H := H2 hc; clear H1 H2 hc
    exact qS_vreturn qd_112_25 rfl (Or.inl ⟨rfl, H⟩)
set_option maxRecDepth 100000 in
theorem k113 {w : qE} {s : qS} {p0 : Int} {f : qS → Prop} {g : Nat → qS → Prop}  (H : qW w 2 38 [.ref 3, qI p0] s (qPI (fun r1 s1 => qW w 2 37 [.ref 3, qI p0] s1 (qPI (fun r2 s2 => qW w 3 46 [.ref 6, qI r2, qI r1] s2 (qPI (fun r3 s3 => qW w 6 110 [.ref 24, qI (r3 + 1), qI r1] s3 (qPI (fun r4 s4 => f s4) g)) g)) g)) g)) : qW w 7 113 [.ref 24, qI p0] s (qPV f g) := by
  refine qW.of (M := qm113) (l := [(0, .ref 24), (1, qI p0)]) qtm_113 rfl (Nat.le_of_ble_eq_true rfl) (zsub_c rfl (zsub_c rfl zsub_n)) ?_
  refine qS_aload_n qd_113_0 rfl ?_
  refine qS_getfield (v := .ref 3) qd_113_1 (qfl_7_9 w) (hpc_24 _ _) rfl ?_
  refine qS_iload_n qd_113_4 rfl ?_
  refine qS_cvI qd_113_5 (qml_7_60 w) rfl qtm_38 (hpc_3 _ _) (Nat.le_of_ble_eq_true rfl) rfl (Nat.le_of_ble_eq_true rfl) H (fun r1 s1 H => ?_) (fun x s1 H => Or.inr ⟨x, rfl, H⟩)
  refine qS_istore_n (a := [(0, .ref 24), (1, qI p0)]) qd_113_8 (Nat.le_of_ble_eq_true rfl) (zsub_c rfl (zsub_c rfl zsub_n)) rfl ?_
  refine qS_aload_n qd_113_9 rfl ?_
  refine qS_aload_n qd_113_10 rfl ?_
  refine qS_getfield (v := .ref 3) qd_113_11 (qfl_7_9 w) (hpc_24 _ _) rfl ?_
  refine qS_getfield (v := .ref 6) qd_113_14 (qfl_7_76 w) (hpc_3 _ _) rfl ?_
  refine qS_aload_n qd_113_17 rfl ?_
  refine qS_getfield (v := .ref 3) qd_113_18 (qfl_7_9 w) (hpc_24 _ _) rfl ?_
  refine qS_iload_n qd_113_21 rfl ?_
  refine qS_cvI qd_113_22 (qml_7_57 w) rfl qtm_37 (hpc_3 _ _) (Nat.le_of_ble_eq_true rfl) rfl (Nat.le_of_ble_eq_true rfl) H (fun r2 s2 H => ?_) (fun x s1 H => Or.inr ⟨x, rfl, H⟩)
  refine qS_iload_n qd_113_25 rfl ?_
  refine qS_csI qd_113_26 (qml_7_80 w) rfl (Nat.le_of_ble_eq_true rfl) rfl (Nat.le_of_ble_eq_true rfl) H (fun r3 s3 H => ?_) (fun x s1 H => Or.inr ⟨x, rfl, H⟩)
  refine qS_iconst qd_113_29 ?_
  refine qS_iadd (a := r3) (b := 1) qd_113_30 ?_
  refine qS_iload_n qd_113_31 rfl ?_
  refine qS_cvI qd_113_32 (qml_7_63 w) rfl qtm_110 (hpc_24 _ _) (Nat.le_of_ble_eq_true rfl) rfl (Nat.le_of_ble_eq_true rfl) H (fun r4 s4 H => ?_) (fun x s1 H => Or.inr ⟨x, rfl, H⟩)
  refine qS_pop qd_113_35 rfl ?_
  exact qS_vreturn qd_113_36 rfl (Or.inl ⟨rfl, H⟩)
set_option maxRecDepth 100000 in
theorem k114 {w : qE} {s : qS} {p0 : Int} {f : qS → Prop} {g : Nat → qS → Prop}  (H : qW w 2 37 [.ref 3, qI p0] s (qPI (fun r1 s1 => qW w 2 38 [.ref 3, qI p0] s1 (qPI (fun r2 s2 => qW w 3 46 [.ref 6, qI ((r1 + 1) - 1), qI r2] s2 (qPI (fun r3 s3 => qW w 1 109 [.ref 24, qI 40] s3 (qPV (fun s4 => qR w 6 qm114 42 [(0, .ref 24), (2, qI (r1 + 1)), (3, qI r3), (4, qI 0)] [] s4 (qPV f g)) g)) g)) g)) g)) : qW w 7 114 [.ref 24, qI p0] s (qPV f g) := by
  refine qW.of (M := qm114) (l := [(0, .ref 24), (1, qI p0)]) qtm_114 rfl (Nat.le_of_ble_eq_true rfl) (zsub_c rfl (zsub_c rfl zsub_n)) ?_
  refine qS_aload_n qd_114_0 rfl ?_
  refine qS_getfield (v := .ref 3) qd_114_1 (qfl_7_9 w) (hpc_24 _ _) rfl ?_
  refine qS_iload_n qd_114_4 rfl ?_
  refine qS_cvI qd_114_5 (qml_7_57 w) rfl qtm_37 (hpc_3 _ _) (Nat.le_of_ble_eq_true rfl) rfl (Nat.le_of_ble_eq_true rfl) H (fun r1 s1 H => ?_) (fun x s1 H => Or.inr ⟨x, rfl, H⟩)
  refine qS_iconst qd_114_8 ?_
  refine qS_iadd (a := r1) (b := 1) qd_114_9 ?_
  refine qS_istore_n (a := [(0, .ref 24), (1, qI p0)]) qd_114_10 (Nat.le_of_ble_eq_true rfl) (zsub_c rfl (zsub_c rfl zsub_n)) rfl ?_
  refine qS_aload_n qd_114_11 rfl ?_
  refine qS_getfield (v := .ref 3) qd_114_12 (qfl_7_9 w) (hpc_24 _ _) rfl ?_
  refine qS_getfield (v := .ref 6) qd_114_15 (qfl_7_76 w) (hpc_3 _ _) rfl ?_
  refine qS_iload_n qd_114_18 rfl ?_
  refine qS_iconst qd_114_19 ?_
  refine qS_isub (a := r1 + 1) (b := 1) qd_114_20 ?_
  refine qS_aload_n qd_114_21 rfl ?_
  refine qS_getfield (v := .ref 3) qd_114_22 (qfl_7_9 w) (hpc_24 _ _) rfl ?_
  refine qS_iload_n qd_114_25 rfl ?_
  refine qS_cvI qd_114_26 (qml_7_60 w) rfl qtm_38 (hpc_3 _ _) (Nat.le_of_ble_eq_true rfl) rfl (Nat.le_of_ble_eq_true rfl) H (fun r2 s2 H => ?_) (fun x s1 H => Or.inr ⟨x, rfl, H⟩)
  refine qS_csI qd_114_29 (qml_7_80 w) rfl (Nat.le_of_ble_eq_true rfl) rfl (Nat.le_of_ble_eq_true rfl) H (fun r3 s3 H => ?_) (fun x s1 H => Or.inr ⟨x, rfl, H⟩)
  refine qS_istore_n (a := [(2, qI (r1 + 1)), (0, .ref 24)]) qd_114_32 (Nat.le_of_ble_eq_true rfl) (zsub_c rfl (zsub_c rfl zsub_n)) rfl ?_
  refine qS_aload_n qd_114_33 rfl ?_
  refine qS_bipush qd_114_34 (by decide) ?_
  refine qS_cvV qd_114_36 (qml_7_67 w) rfl qtm_109 (hpc_24 _ _) (Nat.le_of_ble_eq_true rfl) rfl (Nat.le_of_ble_eq_true rfl) H (fun s4 H => ?_) (fun x s1 H => Or.inr ⟨x, rfl, H⟩)
  refine qS_iconst qd_114_39 ?_
  refine qS_istore (a := [(3, qI r3), (2, qI (r1 + 1)), (0, .ref 24)]) qd_114_40 (Nat.le_of_ble_eq_true rfl) (zsub_c rfl (zsub_c rfl (zsub_c rfl zsub_n))) rfl ?_
  exact qS_sub (zsub_c rfl (zsub_c rfl (zsub_c rfl (zsub_c rfl zsub_n)))) H
set_option maxRecDepth 100000 in
theorem k114_42 {w : qE} {s : qS} {v2 : Int} {v3 : Int} {v4 : Int} {f : qS → Prop} {g : Nat → qS → Prop}  (H : Rg v4 ∧ (v4 < 500 → Rg v2 ∧ (v2 < 0 → qR w 6 qm114 89 [(0, .ref 24)] [] s (qPV f g)) ∧ (0 ≤ v2 → Rg v3 ∧ (v2 < v3 → (0 < v4 → qW w 1 109 [.ref 24, qI 44] s (qPV (fun s5 => qW w 1 109 [.ref 24, qI 32] s5 (qPV (fun s6 => qR w 6 qm114 76 [(0, .ref 24), (2, qI v2), (3, qI v3), (4, qI v4)] [] s6 (qPV f g)) g)) g)) ∧ (v4 ≤ 0 → qR w 6 qm114 76 [(0, .ref 24), (2, qI v2), (3, qI v3), (4, qI v4)] [] s (qPV f g))) ∧ (v3 ≤ v2 → qR w 6 qm114 89 [(0, .ref 24)] [] s (qPV f g)))) ∧ (500 ≤ v4 → qR w 6 qm114 89 [(0, .ref 24)] [] s (qPV f g))) : qR w 6 qm114 42 [(0, .ref 24), (2, qI v2), (3, qI v3), (4, qI v4)] [] s (qPV f g) := by
  refine qS_iload qd_114_42 rfl ?_
  refine qS_sipush qd_114_44 (by decide) ?_
  obtain ⟨h47a, H1, H2⟩ := H
  refine qS_icmp qd_114_47 rfl (zcnd_ge (a := v4) (b := 500) h47a ⟨by decide, by decide⟩ (fun t => qR w _ _ t _ _ _ _) (fun hc => ?_) (fun hc => ?_))
  · have H := H1 hc; clear H1 H2 hc
    refine qS_iload_n qd_114_50 rfl ?_
    obtain ⟨h51a, H1, H2⟩ := H
    refine qS_if0 qd_114_51 rfl (zcnd_lt (a := v2) (b := 0) h51a ⟨by decide, by decide⟩ (fun t => qR w _ _ t _ _ _ _) (fun hc => ?_) (fun hc => ?_))
    · have H := H1 hc; clear H1 H2 hc
      exact qS_sub (zsub_c rfl zsub_n) H
    · have H := H2 hc; clear H1 H2 hc
      refine qS_iload_n qd_114_54 rfl ?_
      refine qS_iload_n qd_114_55 rfl ?_
      obtain ⟨h56b, H1, H2⟩ := H
      refine qS_icmp qd_114_56 rfl (zcnd_ge (a := v2) (b := v3) h51a h56b (fun t => qR w _ _ t _ _ _ _) (fun hc => ?_) (fun hc => ?_))
      · have H := H1 hc; clear H1 H2 hc
        refine qS_iload qd_114_59 rfl ?_
        obtain ⟨H1, H2⟩ := H
        refine qS_if0 qd_114_61 rfl (zcnd_le (a := v4) (b := 0) h47a ⟨by decide, by decide⟩ (fun t => qR w _ _ t _ _ _ _) (fun hc => ?_) (fun hc => ?_))
        · have H := H1 hc; clear H1 H2 hc
          refine qS_aload_n qd_114_64 rfl ?_
          refine qS_bipush qd_114_65 (by decide) ?_
          refine qS_cvV qd_114_67 (qml_7_67 w) rfl qtm_109 (hpc_24 _ _) (Nat.le_of_ble_eq_true rfl) rfl (Nat.le_of_ble_eq_true rfl) H (fun s5 H => ?_) (fun x s1 H => Or.inr ⟨x, rfl, H⟩)
          refine qS_aload_n qd_114_70 rfl ?_
          refine qS_bipush qd_114_71 (by decide) ?_
          refine qS_cvV qd_114_73 (qml_7_67 w) rfl qtm_109 (hpc_24 _ _) (Nat.le_of_ble_eq_true rfl) rfl (Nat.le_of_ble_eq_true rfl) H (fun s6 H => ?_) (fun x s1 H => Or.inr ⟨x, rfl, H⟩)
          exact qS_sub (zsub_c rfl (zsub_c rfl (zsub_c rfl (zsub_c rfl zsub_n)))) H
        · have H := H2 hc; clear H1 H2 hc
          exact qS_sub (zsub_c rfl (zsub_c rfl (zsub_c rfl (zsub_c rfl zsub_n)))) H
      · have H := H2 hc; clear H1 H2 hc
        exact qS_sub (zsub_c rfl zsub_n) H
  · have H := H2 hc; clear H1 H2 hc
    exact qS_sub (zsub_c rfl zsub_n) H
set_option maxRecDepth 100000 in
theorem k114_76 {w : qE} {s : qS} {v2 : Int} {v3 : Int} {v4 : Int} {f : qS → Prop} {g : Nat → qS → Prop}  (H : qW w 6 110 [.ref 24, qI v2, qI v3] s (qPI (fun r7 s7 => qR w 6 qm114 42 [(0, .ref 24), (2, qI r7), (3, qI v3), (4, qI (v4 + 1))] [] s7 (qPV f g)) g)) : qR w 6 qm114 76 [(0, .ref 24), (2, qI v2), (3, qI v3), (4, qI v4)] [] s (qPV f g) := by
  refine qS_aload_n qd_114_76 rfl ?_
  refine qS_iload_n qd_114_77 rfl ?_
  refine qS_iload_n qd_114_78 rfl ?_
  refine qS_cvI qd_114_79 (qml_7_63 w) rfl qtm_110 (hpc_24 _ _) (Nat.le_of_ble_eq_true rfl) rfl (Nat.le_of_ble_eq_true rfl) H (fun r7 s7 H => ?_) (fun x s1 H => Or.inr ⟨x, rfl, H⟩)
  refine qS_istore_n (a := [(0, .ref 24), (3, qI v3), (4, qI v4)]) qd_114_82 (Nat.le_of_ble_eq_true rfl) (zsub_c rfl (zsub_c rfl (zsub_c rfl zsub_n))) rfl ?_
  refine qS_iinc (v := v4) (a := [(2, qI r7), (0, .ref 24), (3, qI v3)]) qd_114_83 (Nat.le_of_ble_eq_true rfl) rfl (zsub_c rfl (zsub_c rfl (zsub_c rfl zsub_n))) rfl ?_
  refine qS_goto qd_114_86 rfl ?_
  exact qS_sub (zsub_c rfl (zsub_c rfl (zsub_c rfl (zsub_c rfl zsub_n)))) H
set_option maxRecDepth 100000 in
theorem k114_89 {w : qE} {s : qS}  {f : qS → Prop} {g : Nat → qS → Prop}  (H : qW w 1 109 [.ref 24, qI 41] s (qPV (fun s8 => f s8) g)) : qR w 6 qm114 89 [(0, .ref 24)] [] s (qPV f g) := by
  refine qS_aload_n qd_114_89 rfl ?_
  refine qS_bipush qd_114_90 (by decide) ?_
  refine qS_cvV qd_114_92 (qml_7_67 w) rfl qtm_109 (hpc_24 _ _) (Nat.le_of_ble_eq_true rfl) rfl (Nat.le_of_ble_eq_true rfl) H (fun s8 H => ?_) (fun x s1 H => Or.inr ⟨x, rfl, H⟩)
  exact qS_vreturn qd_114_95 rfl (Or.inl ⟨rfl, H⟩)
set_option maxRecDepth 100000 in
theorem k115 {w : qE} {s : qS} {p0 : Int} {p1 : Int} {f : qS → Prop} {g : Nat → qS → Prop}  (H : qW w 2 49 [.ref 3, qI p0] s (qPI (fun r1 s1 => qW w 2 50 [.ref 3, qI p0] s1 (qPI (fun r2 s2 => qW w 2 51 [.ref 3, qI r2, qI 32] s2 (qPI (fun r3 s3 => Rg r3 ∧ (r3 = 0 → qW w 2 37 [.ref 3, qI r2] s3 (qPI (fun r4 s4 => qW w 2 38 [.ref 3, qI r2] s4 (qPI (fun r5 s5 => qW w 6 110 [.ref 24, qI r4, qI r5] s5 (qPI (fun r6 s6 => qR w 7 qm115 69 [(0, .ref 24), (2, qI p1), (3, qI r1), (4, qI r2), (5, qI r3)] [] s6 (qPV f g)) g)) g)) g)) ∧ (r3 ≠ 0 → qW w 7 113 [.ref 24, qI r2] s3 (qPV (fun s7 => qR w 7 qm115 69 [(0, .ref 24), (2, qI p1), (3, qI r1), (4, qI r2), (5, qI r3)] [] s7 (qPV f g)) g))) g)) g)) g)) : qW w 8 115 [.ref 24, qI p0, qI p1] s (qPV f g) := by
  refine qW.of (M := qm115) (l := [(0, .ref 24), (1, qI p0), (2, qI p1)]) qtm_115 rfl (Nat.le_of_ble_eq_true rfl) (zsub_c rfl (zsub_c rfl (zsub_c rfl zsub_n))) ?_
  refine qS_aload_n qd_115_0 rfl ?_
  refine qS_getfield (v := .ref 3) qd_115_1 (qfl_7_9 w) (hpc_24 _ _) rfl ?_
  refine qS_iload_n qd_115_4 rfl ?_
  refine qS_cvI qd_115_5 (qml_7_35 w) rfl qtm_49 (hpc_3 _ _) (Nat.le_of_ble_eq_true rfl) rfl (Nat.le_of_ble_eq_true rfl) H (fun r1 s1 H => ?_) (fun x s1 H => Or.inr ⟨x, rfl, H⟩)
  refine qS_istore_n (a := [(0, .ref 24), (1, qI p0), (2, qI p1)]) qd_115_8 (Nat.le_of_ble_eq_true rfl) (zsub_c rfl (zsub_c rfl (zsub_c rfl zsub_n))) rfl ?_
  refine qS_aload_n qd_115_9 rfl ?_
  refine qS_getfield (v := .ref 3) qd_115_10 (qfl_7_9 w) (hpc_24 _ _) rfl ?_
  refine qS_iload_n qd_115_13 rfl ?_
  refine qS_cvI qd_115_14 (qml_7_48 w) rfl qtm_50 (hpc_3 _ _) (Nat.le_of_ble_eq_true rfl) rfl (Nat.le_of_ble_eq_true rfl) H (fun r2 s2 H => ?_) (fun x s1 H => Or.inr ⟨x, rfl, H⟩)
  refine qS_istore (a := [(3, qI r1), (0, .ref 24), (2, qI p1)]) qd_115_17 (Nat.le_of_ble_eq_true rfl) (zsub_c rfl (zsub_c rfl (zsub_c rfl zsub_n))) rfl ?_
  refine qS_aload_n qd_115_19 rfl ?_
  refine qS_getfield (v := .ref 3) qd_115_20 (qfl_7_9 w) (hpc_24 _ _) rfl ?_
  refine qS_iload qd_115_23 rfl ?_
  refine qS_bipush qd_115_25 (by decide) ?_
  refine qS_cvI qd_115_27 (qml_7_53 w) rfl qtm_51 (hpc_3 _ _) (Nat.le_of_ble_eq_true rfl) rfl (Nat.le_of_ble_eq_true rfl) H (fun r3 s3 H => ?_) (fun x s1 H => Or.inr ⟨x, rfl, H⟩)
  refine qS_istore (a := [(4, qI r2), (3, qI r1), (0, .ref 24), (2, qI p1)]) qd_115_30 (Nat.le_of_ble_eq_true rfl) (zsub_c rfl (zsub_c rfl (zsub_c rfl (zsub_c rfl zsub_n)))) rfl ?_
  refine qS_iload qd_115_32 rfl ?_
  obtain ⟨h34a, H1, H2⟩ := H
  refine qS_if0 qd_115_34 rfl (zcnd_eq (a := r3) (b := 0) h34a ⟨by decide, by decide⟩ (fun t => qR w _ _ t _ _ _ _) (fun hc => ?_) (fun hc => ?_))
  · have H := H1 hc; clear H1 H2 hc
    refine qS_aload_n qd_115_46 rfl ?_
    refine qS_aload_n qd_115_47 rfl ?_
    refine qS_getfield (v := .ref 3) qd_115_48 (qfl_7_9 w) (hpc_24 _ _) rfl ?_
    refine qS_iload qd_115_51 rfl ?_
    refine qS_cvI qd_115_53 (qml_7_57 w) rfl qtm_37 (hpc_3 _ _) (Nat.le_of_ble_eq_true rfl) rfl (Nat.le_of_ble_eq_true rfl) H (fun r4 s4 H => ?_) (fun x s1 H => Or.inr ⟨x, rfl, H⟩)
    refine qS_aload_n qd_115_56 rfl ?_
    refine qS_getfield (v := .ref 3) qd_115_57 (qfl_7_9 w) (hpc_24 _ _) rfl ?_
    refine qS_iload qd_115_60 rfl ?_
    refine qS_cvI qd_115_62 (qml_7_60 w) rfl qtm_38 (hpc_3 _ _) (Nat.le_of_ble_eq_true rfl) rfl (Nat.le_of_ble_eq_true rfl) H (fun r5 s5 H => ?_) (fun x s1 H => Or.inr ⟨x, rfl, H⟩)
    refine qS_cvI qd_115_65 (qml_7_63 w) rfl qtm_110 (hpc_24 _ _) (Nat.le_of_ble_eq_true rfl) rfl (Nat.le_of_ble_eq_true rfl) H (fun r6 s6 H => ?_) (fun x s1 H => Or.inr ⟨x, rfl, H⟩)
    refine qS_pop qd_115_68 rfl ?_
    exact qS_sub (zsub_c rfl (zsub_c rfl (zsub_c rfl (zsub_c rfl (zsub_c rfl zsub_n))))) H
  · have H := H2 hc; clear H1 H2 hc
    refine qS_aload_n qd_115_37 rfl ?_
    refine qS_iload qd_115_38 rfl ?_
    refine qS_cvV qd_115_40 (qml_7_38 w) rfl qtm_113 (hpc_24 _ _) (Nat.le_of_ble_eq_true rfl) rfl (Nat.le_of_ble_eq_true rfl) H (fun s7 H => ?_) (fun x s1 H => Or.inr ⟨x, rfl, H⟩)
    refine qS_goto qd_115_43 rfl ?_
    exact qS_sub (zsub_c rfl (zsub_c rfl (zsub_c rfl (zsub_c rfl (zsub_c rfl zsub_n))))) H
set_option maxRecDepth 100000 in
theorem k115_69 {w : qE} {s : qS} {v2 : Int} {v3 : Int} {v4 : Int} {v5 : Int} {f : qS → Prop} {g : Nat → qS → Prop}  (H : qW w 1 109 [.ref 24, qI 32] s (qPV (fun s8 => Rg v2 ∧ (v2 = 0 → qR w 7 qm115 90 [(0, .ref 24), (3, qI v3), (4, qI v4), (5, qI v5)] [] s8 (qPV f g)) ∧ (v2 ≠ 0 → qW w 7 107 [.ref 24, qI v2] s8 (qPV (fun s9 => qW w 1 109 [.ref 24, qI 46] s9 (qPV (fun s10 => qR w 7 qm115 90 [(0, .ref 24), (3, qI v3), (4, qI v4), (5, qI v5)] [] s10 (qPV f g)) g)) g))) g)) : qR w 7 qm115 69 [(0, .ref 24), (2, qI v2), (3, qI v3), (4, qI v4), (5, qI v5)] [] s (qPV f g) := by
  refine qS_aload_n qd_115_69 rfl ?_
  refine qS_bipush qd_115_70 (by decide) ?_
  refine qS_cvV qd_115_72 (qml_7_67 w) rfl qtm_109 (hpc_24 _ _) (Nat.le_of_ble_eq_true rfl) rfl (Nat.le_of_ble_eq_true rfl) H (fun s8 H => ?_) (fun x s1 H => Or.inr ⟨x, rfl, H⟩)
  refine qS_iload_n qd_115_75 rfl ?_
  obtain ⟨h76a, H1, H2⟩ := H
  refine qS_if0 qd_115_76 rfl (zcnd_eq (a := v2) (b := 0) h76a ⟨by decide, by decide⟩ (fun t => qR w _ _ t _ _ _ _) (fun hc => ?_) (fun hc => ?_))
  · have H := H1 hc; clear H1 H2 hc
    exact qS_sub (zsub_c rfl (zsub_c rfl (zsub_c rfl (zsub_c rfl zsub_n)))) H
  · have H := H2 hc; clear H1 H2 hc
    refine qS_aload_n qd_115_79 rfl ?_
    refine qS_iload_n qd_115_80 rfl ?_
    refine qS_cvV qd_115_81 (qml_7_31 w) rfl qtm_107 (hpc_24 _ _) (Nat.le_of_ble_eq_true rfl) rfl (Nat.le_of_ble_eq_true rfl) H (fun s9 H => ?_) (fun x s1 H => Or.inr ⟨x, rfl, H⟩)
    refine qS_aload_n qd_115_84 rfl ?_
    refine qS_bipush qd_115_85 (by decide) ?_
    refine qS_cvV qd_115_87 (qml_7_67 w) rfl qtm_109 (hpc_24 _ _) (Nat.le_of_ble_eq_true rfl) rfl (Nat.le_of_ble_eq_true rfl) H (fun s10 H => ?_) (fun x s1 H => Or.inr ⟨x, rfl, H⟩)
    exact qS_sub (zsub_c rfl (zsub_c rfl (zsub_c rfl (zsub_c rfl zsub_n)))) H
set_option maxRecDepth 100000 in
theorem k115_90 {w : qE} {s : qS} {v3 : Int} {v4 : Int} {v5 : Int} {f : qS → Prop} {g : Nat → qS → Prop}  (H : qW w 2 37 [.ref 3, qI v3] s (qPI (fun r11 s11 => qW w 2 38 [.ref 3, qI v3] s11 (qPI (fun r12 s12 => qW w 2 116 [.ref 24, qI r11, qI r12] s12 (qPV (fun s13 => Rg v5 ∧ (v5 = 0 → qR w 7 qm115 121 [] [] s13 (qPV f g)) ∧ (v5 ≠ 0 → qW w 7 114 [.ref 24, qI v4] s13 (qPV (fun s14 => qR w 7 qm115 121 [] [] s14 (qPV f g)) g))) g)) g)) g)) : qR w 7 qm115 90 [(0, .ref 24), (3, qI v3), (4, qI v4), (5, qI v5)] [] s (qPV f g) := by
  refine qS_aload_n qd_115_90 rfl ?_
  refine qS_aload_n qd_115_91 rfl ?_
  refine qS_getfield (v := .ref 3) qd_115_92 (qfl_7_9 w) (hpc_24 _ _) rfl ?_
  refine qS_iload_n qd_115_95 rfl ?_
  refine qS_cvI qd_115_96 (qml_7_57 w) rfl qtm_37 (hpc_3 _ _) (Nat.le_of_ble_eq_true rfl) rfl (Nat.le_of_ble_eq_true rfl) H (fun r11 s11 H => ?_) (fun x s1 H => Or.inr ⟨x, rfl, H⟩)
  refine qS_aload_n qd_115_99 rfl ?_
  refine qS_getfield (v := .ref 3) qd_115_100 (qfl_7_9 w) (hpc_24 _ _) rfl ?_
  refine qS_iload_n qd_115_103 rfl ?_
  refine qS_cvI qd_115_104 (qml_7_60 w) rfl qtm_38 (hpc_3 _ _) (Nat.le_of_ble_eq_true rfl) rfl (Nat.le_of_ble_eq_true rfl) H (fun r12 s12 H => ?_) (fun x s1 H => Or.inr ⟨x, rfl, H⟩)
  refine qS_cvV qd_115_107 (qml_7_70 w) rfl qtm_116 (hpc_24 _ _) (Nat.le_of_ble_eq_true rfl) rfl (Nat.le_of_ble_eq_true rfl) H (fun s13 H => ?_) (fun x s1 H => Or.inr ⟨x, rfl, H⟩)
  refine qS_iload qd_115_110 rfl ?_
  obtain ⟨h112a, H1, H2⟩ := H
  refine qS_if0 qd_115_112 rfl (zcnd_eq (a := v5) (b := 0) h112a ⟨by decide, by decide⟩ (fun t => qR w _ _ t _ _ _ _) (fun hc => ?_) (fun hc => ?_))
  · have H := H1 hc; clear H1 H2 hc
    exact qS_sub zsub_n H
  · have H := H2 hc; clear H1 H2 hc
    refine qS_aload_n qd_115_115 rfl ?_
    refine qS_iload qd_115_116 rfl ?_
    refine qS_cvV qd_115_118 (qml_7_41 w) rfl qtm_114 (hpc_24 _ _) (Nat.le_of_ble_eq_true rfl) rfl (Nat.le_of_ble_eq_true rfl) H (fun s14 H => ?_) (fun x s1 H => Or.inr ⟨x, rfl, H⟩)
    exact qS_sub zsub_n H
set_option maxRecDepth 100000 in
theorem k115_121 {w : qE} {s : qS}  {f : qS → Prop} {g : Nat → qS → Prop}  (H : f s) : qR w 7 qm115 121 [] [] s (qPV f g) := by
  exact qS_vreturn qd_115_121 rfl (Or.inl ⟨rfl, H⟩)
set_option maxRecDepth 100000 in
theorem k116 {w : qE} {s : qS} {p0 : Int} {p1 : Int} {f : qS → Prop} {g : Nat → qS → Prop}  (H : qR w 1 qm116 2 [(0, .ref 24), (2, qI p1), (3, qI p0)] [] s (qPV f g)) : qW w 2 116 [.ref 24, qI p0, qI p1] s (qPV f g) := by
  refine qW.of (M := qm116) (l := [(0, .ref 24), (1, qI p0), (2, qI p1)]) qtm_116 rfl (Nat.le_of_ble_eq_true rfl) (zsub_c rfl (zsub_c rfl (zsub_c rfl zsub_n))) ?_
  refine qS_iload_n qd_116_0 rfl ?_
  refine qS_istore_n (a := [(0, .ref 24), (2, qI p1)]) qd_116_1 (Nat.le_of_ble_eq_true rfl) (zsub_c rfl (zsub_c rfl zsub_n)) rfl ?_
  exact qS_sub (zsub_c rfl (zsub_c rfl (zsub_c rfl zsub_n))) H
set_option maxRecDepth 100000 in
theorem k116_2 {w : qE} {s : qS} {v2 : Int} {v3 : Int} {f : qS → Prop} {g : Nat → qS → Prop}  (H : Rg v3 ∧ Rg v2 ∧ (v3 < v2 → (0 ≤ v3 ∧ v3 < 500 ∧ (qW w 1 109 [.ref 24, qI (s 6 v3)] s (qPV (fun s1 => qR w 1 qm116 2 [(0, .ref 24), (2, qI v2), (3, qI (v3 + 1))] [] s1 (qPV f g)) g)))) ∧ (v2 ≤ v3 → f s)) : qR w 1 qm116 2 [(0, .ref 24), (2, qI v2), (3, qI v3)] [] s (qPV f g) := by
  refine qS_iload_n qd_116_2 rfl ?_
  refine qS_iload_n qd_116_3 rfl ?_
  obtain ⟨h4a, h4b, H1, H2⟩ := H
  refine qS_icmp qd_116_4 rfl (zcnd_ge (a := v3) (b := v2) h4a h4b (fun t => qR w _ _ t _ _ _ _) (fun hc => ?_) (fun hc => ?_))
  · have H := H1 hc; clear H1 H2 hc
    refine qS_aload_n qd_116_7 rfl ?_
    refine qS_aload_n qd_116_8 rfl ?_
    refine qS_getfield (v := .ref 3) qd_116_9 (qfl_7_9 w) (hpc_24 _ _) rfl ?_
    refine qS_getfield (v := .ref 6) qd_116_12 (qfl_7_76 w) (hpc_3 _ _) rfl ?_
    refine qS_iload_n qd_116_15 rfl ?_
    obtain ⟨hl, hu, H⟩ := H
    refine qS_iaload (a := 6) (i := v3) qd_116_16 (Nat.le_of_ble_eq_true rfl) hl hu ?_
    refine qS_cvV qd_116_17 (qml_7_67 w) rfl qtm_109 (hpc_24 _ _) (Nat.le_of_ble_eq_true rfl) rfl (Nat.le_of_ble_eq_true rfl) H (fun s1 H => ?_) (fun x s1 H => Or.inr ⟨x, rfl, H⟩)
    refine qS_iinc (v := v3) (a := [(0, .ref 24), (2, qI v2)]) qd_116_20 (Nat.le_of_ble_eq_true rfl) rfl (zsub_c rfl (zsub_c rfl zsub_n)) rfl ?_
    refine qS_goto qd_116_23 rfl ?_
    exact qS_sub (zsub_c rfl (zsub_c rfl (zsub_c rfl zsub_n))) H
  · have H := H2 hc; clear H1 H2 hc
    exact qS_vreturn qd_116_26 rfl (Or.inl ⟨rfl, H⟩)
set_option maxRecDepth 100000 in
theorem k117 {w : qE} {s : qS} {p0 : Int} {f : Int → qS → Prop} {g : Nat → qS → Prop}  (H : qW w 1 95 [.ref 0] s (qPV (fun s1 => Rg p0 ∧ (p0 = 0 → f (s1 17 8) s1) ∧ (p0 = 1 → f (s1 17 9) s1) ∧ (p0 = 2 → f (s1 17 10) s1) ∧ (p0 = 3 → qW w 1 34 [.ref 18] s1 (qPI (fun r2 s2 => f r2 s2) g)) ∧ (p0 = 4 → qW w 1 34 [.ref 20] s1 (qPI (fun r3 s3 => f r3 s3) g)) ∧ (p0 = 5 → qW w 1 34 [.ref 22] s1 (qPI (fun r4 s4 => f r4 s4) g)) ∧ (p0 = 6 → f (s1 17 7) s1) ∧ (p0 = 7 → f (s1 17 6) s1) ∧ (p0 = 8 → qW w 3 118 [.ref 3] s1 (qPI (fun r5 s5 => f r5 s5) g)) ∧ (p0 ≠ 0 → p0 ≠ 1 → p0 ≠ 2 → p0 ≠ 3 → p0 ≠ 4 → p0 ≠ 5 → p0 ≠ 6 → p0 ≠ 7 → p0 ≠ 8 → (p0 < 20 → qR w 3 qm117 167 [] [] s1 (qPI f g)) ∧ (20 ≤ p0 → (119 < p0 → qR w 3 qm117 167 [] [] s1 (qPI f g)) ∧ (p0 ≤ 119 → qW w 1 36 [.ref 18, qI (p0 - 20), qI 0] s1 (qPI (fun r6 s6 => qR w 3 qm117 168 [] [qI r6] s6 (qPI f g)) g))))) g)) : qW w 4 117 [.ref 0, qI p0] s (qPI f g) := by
  refine qW.of (M := qm117) (l := [(0, .ref 0), (1, qI p0)]) qtm_117 rfl (Nat.le_of_ble_eq_true rfl) (zsub_c rfl (zsub_c rfl zsub_n)) ?_
  refine qS_aload_n qd_117_0 rfl ?_
  refine qS_cvV qd_117_1 (qml_0_125 w) rfl qtm_95 (hpc_0 _ _) (Nat.le_of_ble_eq_true rfl) rfl (Nat.le_of_ble_eq_true rfl) H (fun s1 H => ?_) (fun x s1 H => Or.inr ⟨x, rfl, H⟩)
  refine qS_iload_n qd_117_4 rfl ?_
  obtain ⟨h5a, H1, H2, H3, H4, H5, H6, H7, H8, H9, Hd⟩ := H
  by_cases hc0 : p0 = 0
  · refine qS_tsw qd_117_5 (t := 56) h5a (by rw [hc0]; rfl) ?_
    have H := H1 hc0
    refine qS_aload_n qd_117_56 rfl ?_
    refine qS_getfield (v := .ref 17) qd_117_57 (qfl_0_46 w) (hpc_0 _ _) rfl ?_
    refine qS_getfield (v := qI (s1 17 8)) qd_117_60 (qfl_0_167 w) (hpc_17 _ _) rfl ?_
    exact qS_ireturn qd_117_63 rfl (Or.inl ⟨_, rfl, H⟩)
  by_cases hc1 : p0 = 1
  · refine qS_tsw qd_117_5 (t := 64) h5a (by rw [hc1]; rfl) ?_
    have H := H2 hc1
    refine qS_aload_n qd_117_64 rfl ?_
    refine qS_getfield (v := .ref 17) qd_117_65 (qfl_0_46 w) (hpc_0 _ _) rfl ?_
    refine qS_getfield (v := qI (s1 17 9)) qd_117_68 (qfl_0_171 w) (hpc_17 _ _) rfl ?_
    exact qS_ireturn qd_117_71 rfl (Or.inl ⟨_, rfl, H⟩)
  by_cases hc2 : p0 = 2
  · refine qS_tsw qd_117_5 (t := 72) h5a (by rw [hc2]; rfl) ?_
    have H := H3 hc2
    refine qS_aload_n qd_117_72 rfl ?_
    refine qS_getfield (v := .ref 17) qd_117_73 (qfl_0_46 w) (hpc_0 _ _) rfl ?_
    refine qS_getfield (v := qI (s1 17 10)) qd_117_76 (qfl_0_174 w) (hpc_17 _ _) rfl ?_
    exact qS_ireturn qd_117_79 rfl (Or.inl ⟨_, rfl, H⟩)
  by_cases hc3 : p0 = 3
  · refine qS_tsw qd_117_5 (t := 80) h5a (by rw [hc3]; rfl) ?_
    have H := H4 hc3
    refine qS_aload_n qd_117_80 rfl ?_
    refine qS_getfield (v := .ref 17) qd_117_81 (qfl_0_46 w) (hpc_0 _ _) rfl ?_
    refine qS_getfield (v := .ref 18) qd_117_84 (qfl_0_177 w) (hpc_17 _ _) rfl ?_
    refine qS_cvI qd_117_87 (qml_0_109 w) rfl qtm_34 (hpc_18 _ _) (Nat.le_of_ble_eq_true rfl) rfl (Nat.le_of_ble_eq_true rfl) H (fun r2 s2 H => ?_) (fun x s1 H => Or.inr ⟨x, rfl, H⟩)
    exact qS_ireturn qd_117_90 rfl (Or.inl ⟨_, rfl, H⟩)
  by_cases hc4 : p0 = 4
  · refine qS_tsw qd_117_5 (t := 91) h5a (by rw [hc4]; rfl) ?_
    have H := H5 hc4
    refine qS_aload_n qd_117_91 rfl ?_
    refine qS_getfield (v := .ref 17) qd_117_92 (qfl_0_46 w) (hpc_0 _ _) rfl ?_
    refine qS_getfield (v := .ref 20) qd_117_95 (qfl_0_180 w) (hpc_17 _ _) rfl ?_
    refine qS_cvI qd_117_98 (qml_0_109 w) rfl qtm_34 (hpc_20 _ _) (Nat.le_of_ble_eq_true rfl) rfl (Nat.le_of_ble_eq_true rfl) H (fun r3 s3 H => ?_) (fun x s1 H => Or.inr ⟨x, rfl, H⟩)
    exact qS_ireturn qd_117_101 rfl (Or.inl ⟨_, rfl, H⟩)
  by_cases hc5 : p0 = 5
  · refine qS_tsw qd_117_5 (t := 102) h5a (by rw [hc5]; rfl) ?_
    have H := H6 hc5
    refine qS_aload_n qd_117_102 rfl ?_
    refine qS_getfield (v := .ref 17) qd_117_103 (qfl_0_46 w) (hpc_0 _ _) rfl ?_
    refine qS_getfield (v := .ref 22) qd_117_106 (qfl_0_183 w) (hpc_17 _ _) rfl ?_
    refine qS_cvI qd_117_109 (qml_0_109 w) rfl qtm_34 (hpc_22 _ _) (Nat.le_of_ble_eq_true rfl) rfl (Nat.le_of_ble_eq_true rfl) H (fun r4 s4 H => ?_) (fun x s1 H => Or.inr ⟨x, rfl, H⟩)
    exact qS_ireturn qd_117_112 rfl (Or.inl ⟨_, rfl, H⟩)
  by_cases hc6 : p0 = 6
  · refine qS_tsw qd_117_5 (t := 113) h5a (by rw [hc6]; rfl) ?_
    have H := H7 hc6
    refine qS_aload_n qd_117_113 rfl ?_
    refine qS_getfield (v := .ref 17) qd_117_114 (qfl_0_46 w) (hpc_0 _ _) rfl ?_
    refine qS_getfield (v := qI (s1 17 7)) qd_117_117 (qfl_0_186 w) (hpc_17 _ _) rfl ?_
    exact qS_ireturn qd_117_120 rfl (Or.inl ⟨_, rfl, H⟩)
  by_cases hc7 : p0 = 7
  · refine qS_tsw qd_117_5 (t := 121) h5a (by rw [hc7]; rfl) ?_
    have H := H8 hc7
    refine qS_aload_n qd_117_121 rfl ?_
    refine qS_getfield (v := .ref 17) qd_117_122 (qfl_0_46 w) (hpc_0 _ _) rfl ?_
    refine qS_getfield (v := qI (s1 17 6)) qd_117_125 (qfl_0_189 w) (hpc_17 _ _) rfl ?_
    exact qS_ireturn qd_117_128 rfl (Or.inl ⟨_, rfl, H⟩)
  by_cases hc8 : p0 = 8
  · refine qS_tsw qd_117_5 (t := 129) h5a (by rw [hc8]; rfl) ?_
    have H := H9 hc8
    refine qS_aload_n qd_117_129 rfl ?_
    refine qS_getfield (v := .ref 3) qd_117_130 (qfl_0_21 w) (hpc_0 _ _) rfl ?_
    refine qS_cvI qd_117_133 (qml_0_192 w) rfl qtm_118 (hpc_3 _ _) (Nat.le_of_ble_eq_true rfl) rfl (Nat.le_of_ble_eq_true rfl) H (fun r5 s5 H => ?_) (fun x s1 H => Or.inr ⟨x, rfl, H⟩)
    exact qS_ireturn qd_117_136 rfl (Or.inl ⟨_, rfl, H⟩)
  refine qS_tsw qd_117_5 (t := 137) h5a (by unfold ztsw; rw [if_pos (by omega)]; rfl) ?_
  have H := Hd (by omega) (by omega) (by omega) (by omega) (by omega) (by omega) (by omega) (by omega) (by omega)
  refine qS_iload_n qd_117_137 rfl ?_
  refine qS_bipush qd_117_138 (by decide) ?_
  obtain ⟨H1, H2⟩ := H
  refine qS_icmp qd_117_140 rfl (zcnd_lt (a := p0) (b := 20) h5a ⟨by decide, by decide⟩ (fun t => qR w _ _ t _ _ _ _) (fun hc => ?_) (fun hc => ?_))
  · have H := H1 hc; clear H1 H2 hc
    exact qS_sub zsub_n H
  · have H := H2 hc; clear H1 H2 hc
    refine qS_iload_n qd_117_143 rfl ?_
    refine qS_bipush qd_117_144 (by decide) ?_
    obtain ⟨H1, H2⟩ := H
    refine qS_icmp qd_117_146 rfl (zcnd_gt (a := p0) (b := 119) h5a ⟨by decide, by decide⟩ (fun t => qR w _ _ t _ _ _ _) (fun hc => ?_) (fun hc => ?_))
    · have H := H1 hc; clear H1 H2 hc
      exact qS_sub zsub_n H
    · have H := H2 hc; clear H1 H2 hc
      refine qS_aload_n qd_117_149 rfl ?_
      refine qS_getfield (v := .ref 17) qd_117_150 (qfl_0_46 w) (hpc_0 _ _) rfl ?_
      refine qS_getfield (v := .ref 18) qd_117_153 (qfl_0_177 w) (hpc_17 _ _) rfl ?_
      refine qS_iload_n qd_117_156 rfl ?_
      refine qS_bipush qd_117_157 (by decide) ?_
      refine qS_isub (a := p0) (b := 20) qd_117_159 ?_
      refine qS_iconst qd_117_160 ?_
      refine qS_cvI qd_117_161 (qml_0_132 w) rfl qtm_36 (hpc_18 _ _) (Nat.le_of_ble_eq_true rfl) rfl (Nat.le_of_ble_eq_true rfl) H (fun r6 s6 H => ?_) (fun x s1 H => Or.inr ⟨x, rfl, H⟩)
      refine qS_goto qd_117_164 rfl ?_
      exact qS_sub zsub_n H
set_option maxRecDepth 100000 in
theorem k117_167 {w : qE} {s : qS}  {f : Int → qS → Prop} {g : Nat → qS → Prop}  (H : qR w 3 qm117 168 [] [qI ((-1))] s (qPI f g)) : qR w 3 qm117 167 [] [] s (qPI f g) := by
  refine qS_iconst qd_117_167 ?_
  exact qS_sub zsub_n H
set_option maxRecDepth 100000 in
theorem k117_168 {w : qE} {s : qS} {k0 : Int} {f : Int → qS → Prop} {g : Nat → qS → Prop}  (H : f k0 s) : qR w 3 qm117 168 [] [qI k0] s (qPI f g) := by
  exact qS_ireturn qd_117_168 rfl (Or.inl ⟨_, rfl, H⟩)
set_option maxRecDepth 100000 in
theorem k118 {w : qE} {s : qS}  {f : Int → qS → Prop} {g : Nat → qS → Prop}  (H : qR w 2 qm118 4 [(0, .ref 3), (1, qI 0), (2, qI 1)] [] s (qPI f g)) : qW w 3 118 [.ref 3] s (qPI f g) := by
  refine qW.of (M := qm118) (l := [(0, .ref 3)]) qtm_118 rfl (Nat.le_of_ble_eq_true rfl) (zsub_c rfl zsub_n) ?_
  refine qS_iconst qd_118_0 ?_
  refine qS_istore_n (a := [(0, .ref 3)]) qd_118_1 (Nat.le_of_ble_eq_true rfl) (zsub_c rfl zsub_n) rfl ?_
  refine qS_iconst qd_118_2 ?_
  refine qS_istore_n (a := [(1, qI 0), (0, .ref 3)]) qd_118_3 (Nat.le_of_ble_eq_true rfl) (zsub_c rfl (zsub_c rfl zsub_n)) rfl ?_
  exact qS_sub (zsub_c rfl (zsub_c rfl (zsub_c rfl zsub_n))) H
set_option maxRecDepth 100000 in
theorem k118_4 {w : qE} {s : qS} {v1 : Int} {v2 : Int} {f : Int → qS → Prop} {g : Nat → qS → Prop}  (H : qW w 1 34 [.ref 4] s (qPI (fun r1 s1 => Rg v2 ∧ Rg r1 ∧ (v2 < r1 → qW w 2 96 [.ref 3, qI v2] s1 (qPI (fun r2 s2 => Rg r2 ∧ (r2 = 0 → qR w 2 qm118 26 [(0, .ref 3), (1, qI v1), (2, qI v2)] [] s2 (qPI f g)) ∧ (r2 ≠ 0 → qR w 2 qm118 26 [(0, .ref 3), (1, qI (v1 + 1)), (2, qI v2)] [] s2 (qPI f g))) g)) ∧ (r1 ≤ v2 → f v1 s1)) g)) : qR w 2 qm118 4 [(0, .ref 3), (1, qI v1), (2, qI v2)] [] s (qPI f g) := by
  refine qS_iload_n qd_118_4 rfl ?_
  refine qS_aload_n qd_118_5 rfl ?_
  refine qS_getfield (v := .ref 4) qd_118_6 (qfl_2_20 w) (hpc_3 _ _) rfl ?_
  refine qS_cvI qd_118_9 (qml_2_75 w) rfl qtm_34 (hpc_4 _ _) (Nat.le_of_ble_eq_true rfl) rfl (Nat.le_of_ble_eq_true rfl) H (fun r1 s1 H => ?_) (fun x s1 H => Or.inr ⟨x, rfl, H⟩)
  obtain ⟨h12a, h12b, H1, H2⟩ := H
  refine qS_icmp qd_118_12 rfl (zcnd_ge (a := v2) (b := r1) h12a h12b (fun t => qR w _ _ t _ _ _ _) (fun hc => ?_) (fun hc => ?_))
  · have H := H1 hc; clear H1 H2 hc
    refine qS_aload_n qd_118_15 rfl ?_
    refine qS_iload_n qd_118_16 rfl ?_
    refine qS_cvI qd_118_17 (qml_2_109 w) rfl qtm_96 (hpc_3 _ _) (Nat.le_of_ble_eq_true rfl) rfl (Nat.le_of_ble_eq_true rfl) H (fun r2 s2 H => ?_) (fun x s1 H => Or.inr ⟨x, rfl, H⟩)
    obtain ⟨h20a, H1, H2⟩ := H
    refine qS_if0 qd_118_20 rfl (zcnd_eq (a := r2) (b := 0) h20a ⟨by decide, by decide⟩ (fun t => qR w _ _ t _ _ _ _) (fun hc => ?_) (fun hc => ?_))
    · have H := H1 hc; clear H1 H2 hc
      exact qS_sub (zsub_c rfl (zsub_c rfl (zsub_c rfl zsub_n))) H
    · have H := H2 hc; clear H1 H2 hc
      refine qS_iinc (v := v1) (a := [(0, .ref 3), (2, qI v2)]) qd_118_23 (Nat.le_of_ble_eq_true rfl) rfl (zsub_c rfl (zsub_c rfl zsub_n)) rfl ?_
      exact qS_sub (zsub_c rfl (zsub_c rfl (zsub_c rfl zsub_n))) H
  · have H := H2 hc; clear H1 H2 hc
    refine qS_iload_n qd_118_32 rfl ?_
    exact qS_ireturn qd_118_33 rfl (Or.inl ⟨_, rfl, H⟩)
set_option maxRecDepth 100000 in
theorem k118_26 {w : qE} {s : qS} {v1 : Int} {v2 : Int} {f : Int → qS → Prop} {g : Nat → qS → Prop}  (H : qR w 2 qm118 4 [(0, .ref 3), (1, qI v1), (2, qI (v2 + 1))] [] s (qPI f g)) : qR w 2 qm118 26 [(0, .ref 3), (1, qI v1), (2, qI v2)] [] s (qPI f g) := by
  refine qS_iinc (v := v2) (a := [(0, .ref 3), (1, qI v1)]) qd_118_26 (Nat.le_of_ble_eq_true rfl) rfl (zsub_c rfl (zsub_c rfl zsub_n)) rfl ?_
  refine qS_goto qd_118_29 rfl ?_
  exact qS_sub (zsub_c rfl (zsub_c rfl (zsub_c rfl zsub_n))) H
set_option maxRecDepth 100000 in
theorem k119 {w : qE} {s : qS} {p0 : Int} {p1 : Int} {p2 : Int} {f : Int → qS → Prop} {g : Nat → qS → Prop}  (H : qW w 1 95 [.ref 0] s (qPV (fun s1 => Rg p2 ∧ (p2 < 0 → qR w 1 qm119 14 [] [] s1 (qPI f g)) ∧ (0 ≤ p2 → (p2 < 8 → Rg p0 ∧ (p0 = 0 → qW w 1 36 [.ref 20, qI p1, qI p2] s1 (qPI (fun r2 s2 => qR w 1 qm119 47 [] [qI r2] s2 (qPI f g)) g)) ∧ (p0 ≠ 0 → qW w 1 36 [.ref 22, qI p1, qI p2] s1 (qPI (fun r3 s3 => qR w 1 qm119 47 [] [qI r3] s3 (qPI f g)) g))) ∧ (8 ≤ p2 → qR w 1 qm119 14 [] [] s1 (qPI f g)))) g)) : qW w 2 119 [.ref 0, qI p0, qI p1, qI p2] s (qPI f g) := by
  refine qW.of (M := qm119) (l := [(0, .ref 0), (1, qI p0), (2, qI p1), (3, qI p2)]) qtm_119 rfl (Nat.le_of_ble_eq_true rfl) (zsub_c rfl (zsub_c rfl (zsub_c rfl (zsub_c rfl zsub_n)))) ?_
  refine qS_aload_n qd_119_0 rfl ?_
  refine qS_cvV qd_119_1 (qml_0_125 w) rfl qtm_95 (hpc_0 _ _) (Nat.le_of_ble_eq_true rfl) rfl (Nat.le_of_ble_eq_true rfl) H (fun s1 H => ?_) (fun x s1 H => Or.inr ⟨x, rfl, H⟩)
  refine qS_iload_n qd_119_4 rfl ?_
  obtain ⟨h5a, H1, H2⟩ := H
  refine qS_if0 qd_119_5 rfl (zcnd_lt (a := p2) (b := 0) h5a ⟨by decide, by decide⟩ (fun t => qR w _ _ t _ _ _ _) (fun hc => ?_) (fun hc => ?_))
  · have H := H1 hc; clear H1 H2 hc
    exact qS_sub zsub_n H
  · have H := H2 hc; clear H1 H2 hc
    refine qS_iload_n qd_119_8 rfl ?_
    refine qS_bipush qd_119_9 (by decide) ?_
    obtain ⟨H1, H2⟩ := H
    refine qS_icmp qd_119_11 rfl (zcnd_lt (a := p2) (b := 8) h5a ⟨by decide, by decide⟩ (fun t => qR w _ _ t _ _ _ _) (fun hc => ?_) (fun hc => ?_))
    · have H := H1 hc; clear H1 H2 hc
      refine qS_iload_n qd_119_16 rfl ?_
      obtain ⟨h17a, H1, H2⟩ := H
      refine qS_if0 qd_119_17 rfl (zcnd_eq (a := p0) (b := 0) h17a ⟨by decide, by decide⟩ (fun t => qR w _ _ t _ _ _ _) (fun hc => ?_) (fun hc => ?_))
      · have H := H1 hc; clear H1 H2 hc
        refine qS_aload_n qd_119_35 rfl ?_
        refine qS_getfield (v := .ref 17) qd_119_36 (qfl_0_46 w) (hpc_0 _ _) rfl ?_
        refine qS_getfield (v := .ref 20) qd_119_39 (qfl_0_180 w) (hpc_17 _ _) rfl ?_
        refine qS_iload_n qd_119_42 rfl ?_
        refine qS_iload_n qd_119_43 rfl ?_
        refine qS_cvI qd_119_44 (qml_0_132 w) rfl qtm_36 (hpc_20 _ _) (Nat.le_of_ble_eq_true rfl) rfl (Nat.le_of_ble_eq_true rfl) H (fun r2 s2 H => ?_) (fun x s1 H => Or.inr ⟨x, rfl, H⟩)
        exact qS_sub zsub_n H
      · have H := H2 hc; clear H1 H2 hc
        refine qS_aload_n qd_119_20 rfl ?_
        refine qS_getfield (v := .ref 17) qd_119_21 (qfl_0_46 w) (hpc_0 _ _) rfl ?_
        refine qS_getfield (v := .ref 22) qd_119_24 (qfl_0_183 w) (hpc_17 _ _) rfl ?_
        refine qS_iload_n qd_119_27 rfl ?_
        refine qS_iload_n qd_119_28 rfl ?_
        refine qS_cvI qd_119_29 (qml_0_132 w) rfl qtm_36 (hpc_22 _ _) (Nat.le_of_ble_eq_true rfl) rfl (Nat.le_of_ble_eq_true rfl) H (fun r3 s3 H => ?_) (fun x s1 H => Or.inr ⟨x, rfl, H⟩)
        refine qS_goto qd_119_32 rfl ?_
        exact qS_sub zsub_n H
    · have H := H2 hc; clear H1 H2 hc
      exact qS_sub zsub_n H
set_option maxRecDepth 100000 in
theorem k119_14 {w : qE} {s : qS}  {f : Int → qS → Prop} {g : Nat → qS → Prop}  (H : f ((-1)) s) : qR w 1 qm119 14 [] [] s (qPI f g) := by
  refine qS_iconst qd_119_14 ?_
  exact qS_ireturn qd_119_15 rfl (Or.inl ⟨_, rfl, H⟩)
set_option maxRecDepth 100000 in
theorem k119_47 {w : qE} {s : qS} {k0 : Int} {f : Int → qS → Prop} {g : Nat → qS → Prop}  (H : f k0 s) : qR w 1 qm119 47 [] [qI k0] s (qPI f g) := by
  exact qS_ireturn qd_119_47 rfl (Or.inl ⟨_, rfl, H⟩)
