/-! what the code does, in numbers: printed by a program of mine (wip/whole/gen_blocks.py, emit.py) -/
set_option maxRecDepth 100000 in
theorem k8 {w : qE} {s : qS} {p0 : Int64} {p1 : Int} {f : Int → qS → Prop} {g : Nat → qS → Prop}  (H : qW w 1 9 [.ref 1, .long p0, qI p1] s (qPI (fun r1 s1 => f r1 s1) g)) : qW w 2 8 [.ref 0, .long p0, qI p1] s (qPI f g) := by
  refine qW.of (M := qm8) (l := [(0, .ref 0), (1, .long p0), (3, qI p1)]) qtm_8 rfl (Nat.le_of_ble_eq_true rfl) (zsub_c rfl (zsub_c rfl (zsub_c rfl zsub_n))) ?_
  refine qS_aload_n qd_8_0 rfl ?_
  refine qS_getfield (v := .ref 1) qd_8_1 (qfl_0_10 w) (hpc_0 _ _) rfl ?_
  refine qS_lload_n qd_8_4 rfl ?_
  refine qS_iload_n qd_8_5 rfl ?_
  refine qS_cvI qd_8_6 (qml_0_63 w) rfl qtm_9 (hpc_1 _ _) (Nat.le_of_ble_eq_true rfl) rfl (Nat.le_of_ble_eq_true rfl) H (fun r1 s1 H => ?_) (fun x s1 H => Or.inr ⟨x, rfl, H⟩)
  exact qS_ireturn qd_8_9 rfl (Or.inl ⟨_, rfl, H⟩)
set_option maxRecDepth 100000 in
theorem k9 {w : qE} {s : qS} {p0 : Int64} {p1 : Int} {f : Int → qS → Prop} {g : Nat → qS → Prop}  (H : Rg p1 ∧ (p1 < 1 → qR w 0 qm9 11 [] [] s (qPI f g)) ∧ (1 ≤ p1 → (8 < p1 → qR w 0 qm9 11 [] [] s (qPI f g)) ∧ (p1 ≤ 8 → Rg ((s 1 1) + p1) ∧ (500 < (s 1 1) + p1 → f ((-3)) s) ∧ ((s 1 1) + p1 ≤ 500 → qR w 0 qm9 33 [(0, .ref 1), (1, .long p0), (4, qI (p1 - 1))] [] s (qPI f g))))) : qW w 1 9 [.ref 1, .long p0, qI p1] s (qPI f g) := by
  refine qW.of (M := qm9) (l := [(0, .ref 1), (1, .long p0), (3, qI p1)]) qtm_9 rfl (Nat.le_of_ble_eq_true rfl) (zsub_c rfl (zsub_c rfl (zsub_c rfl zsub_n))) ?_
  refine qS_iload_n qd_9_0 rfl ?_
  refine qS_iconst qd_9_1 ?_
  obtain ⟨h2a, H1, H2⟩ := H
  refine qS_icmp qd_9_2 rfl (zcnd_lt (a := p1) (b := 1) h2a ⟨by decide, by decide⟩ (fun t => qR w _ _ t _ _ _ _) (fun hc => ?_) (fun hc => ?_))
  · have H := H1 hc; clear H1 H2 hc
    exact qS_sub zsub_n H
  · have H := H2 hc; clear H1 H2 hc
    refine qS_iload_n qd_9_5 rfl ?_
    refine qS_bipush qd_9_6 (by decide) ?_
    obtain ⟨H1, H2⟩ := H
    refine qS_icmp qd_9_8 rfl (zcnd_le (a := p1) (b := 8) h2a ⟨by decide, by decide⟩ (fun t => qR w _ _ t _ _ _ _) (fun hc => ?_) (fun hc => ?_))
    · have H := H1 hc; clear H1 H2 hc
      exact qS_sub zsub_n H
    · have H := H2 hc; clear H1 H2 hc
      refine qS_aload_n qd_9_13 rfl ?_
      refine qS_getfield (v := qI (s 1 1)) qd_9_14 (qfl_1_15 w) (hpc_1 _ _) rfl ?_
      refine qS_iload_n qd_9_17 rfl ?_
      refine qS_iadd (a := s 1 1) (b := p1) qd_9_18 ?_
      refine qS_sipush qd_9_19 (by decide) ?_
      obtain ⟨h22a, H1, H2⟩ := H
      refine qS_icmp qd_9_22 rfl (zcnd_le (a := (s 1 1) + p1) (b := 500) h22a ⟨by decide, by decide⟩ (fun t => qR w _ _ t _ _ _ _) (fun hc => ?_) (fun hc => ?_))
      · have H := H1 hc; clear H1 H2 hc
        refine qS_bipush qd_9_25 (by decide) ?_
        exact qS_ireturn qd_9_27 rfl (Or.inl ⟨_, rfl, H⟩)
      · have H := H2 hc; clear H1 H2 hc
        refine qS_iload_n qd_9_28 rfl ?_
        refine qS_iconst qd_9_29 ?_
        refine qS_isub (a := p1) (b := 1) qd_9_30 ?_
        refine qS_istore (a := [(0, .ref 1), (1, .long p0)]) qd_9_31 (Nat.le_of_ble_eq_true rfl) (zsub_c rfl (zsub_c rfl zsub_n)) rfl ?_
        exact qS_sub (zsub_c rfl (zsub_c rfl (zsub_c rfl zsub_n))) H
set_option maxRecDepth 100000 in
theorem k9_11 {w : qE} {s : qS}  {f : Int → qS → Prop} {g : Nat → qS → Prop}  (H : f ((-1)) s) : qR w 0 qm9 11 [] [] s (qPI f g) := by
  refine qS_iconst qd_9_11 ?_
  exact qS_ireturn qd_9_12 rfl (Or.inl ⟨_, rfl, H⟩)
set_option maxRecDepth 100000 in
theorem k9_33 {w : qE} {s : qS} {v1 : Int64} {v4 : Int} {f : Int → qS → Prop} {g : Nat → qS → Prop}  (H : Rg v4 ∧ (v4 < 0 → f (s 1 1) s) ∧ (0 ≤ v4 → (0 ≤ s 1 1 ∧ s 1 1 < 500 ∧ (qR w 0 qm9 33 [(0, .ref 1), (1, .long v1), (4, qI (v4 + (-1)))] [] (qset (qset s 2 (s 1 1) (qand (((Int64.toInt32 (((v1).toUInt64 >>> ((Int32.ofInt (8 * v4)).toInt64.toUInt64 &&& Int64.toUInt64 63)).toInt64))).toInt) 255)) 1 1 ((s 1 1) + 1)) (qPI f g))))) : qR w 0 qm9 33 [(0, .ref 1), (1, .long v1), (4, qI v4)] [] s (qPI f g) := by
  refine qS_iload qd_9_33 rfl ?_
  obtain ⟨h35a, H1, H2⟩ := H
  refine qS_if0 qd_9_35 rfl (zcnd_lt (a := v4) (b := 0) h35a ⟨by decide, by decide⟩ (fun t => qR w _ _ t _ _ _ _) (fun hc => ?_) (fun hc => ?_))
  · have H := H1 hc; clear H1 H2 hc
    refine qS_aload_n qd_9_75 rfl ?_
    refine qS_getfield (v := qI (s 1 1)) qd_9_76 (qfl_1_15 w) (hpc_1 _ _) rfl ?_
    exact qS_ireturn qd_9_79 rfl (Or.inl ⟨_, rfl, H⟩)
  · have H := H2 hc; clear H1 H2 hc
    refine qS_aload_n qd_9_38 rfl ?_
    refine qS_getfield (v := .ref 2) qd_9_39 (qfl_1_9 w) (hpc_1 _ _) rfl ?_
    refine qS_aload_n qd_9_42 rfl ?_
    refine qS_getfield (v := qI (s 1 1)) qd_9_43 (qfl_1_15 w) (hpc_1 _ _) rfl ?_
    refine qS_lload_n qd_9_46 rfl ?_
    refine qS_bipush qd_9_47 (by decide) ?_
    refine qS_iload qd_9_49 rfl ?_
    refine qS_imul (a := 8) (b := v4) qd_9_51 ?_
    refine qS_p2 (u := .long (((v1).toUInt64 >>> ((Int32.ofInt (8 * v4)).toInt64.toUInt64 &&& Int64.toUInt64 63)).toInt64)) qd_9_52 rfl rfl (fun _ => rfl) ?_
    refine qS_p1 (u := qI (((Int64.toInt32 (((v1).toUInt64 >>> ((Int32.ofInt (8 * v4)).toInt64.toUInt64 &&& Int64.toUInt64 63)).toInt64))).toInt)) qd_9_53 rfl rfl (fun _ => by simp only [qI, qi_of]; rfl) ?_
    refine qS_sipush qd_9_54 (by decide) ?_
    refine qS_iand (a := ((Int64.toInt32 (((v1).toUInt64 >>> ((Int32.ofInt (8 * v4)).toInt64.toUInt64 &&& Int64.toUInt64 63)).toInt64))).toInt) (b := 255) qd_9_57 ?_
    obtain ⟨hl, hu, H⟩ := H
    refine qS_iastore (a := 2) (i := s 1 1) (v := qand (((Int64.toInt32 (((v1).toUInt64 >>> ((Int32.ofInt (8 * v4)).toInt64.toUInt64 &&& Int64.toUInt64 63)).toInt64))).toInt) 255) qd_9_58 (Nat.le_of_ble_eq_true rfl) hl hu ?_
    refine qS_aload_n qd_9_59 rfl ?_
    refine qS_dup qd_9_60 rfl ?_
    refine qS_getfield (v := qI (s 1 1)) qd_9_61 (qfl_1_15 w) (hpc_1 _ _) rfl ?_
    refine qS_iconst qd_9_64 ?_
    refine qS_iadd (a := s 1 1) (b := 1) qd_9_65 ?_
    refine qS_putfield (s1 := qset (qset s 2 (s 1 1) (qand (((Int64.toInt32 (((v1).toUInt64 >>> ((Int32.ofInt (8 * v4)).toInt64.toUInt64 &&& Int64.toUInt64 63)).toInt64))).toInt) 255)) 1 1 ((s 1 1) + 1)) qd_9_66 (qfl_1_15 w) (hpc_1 _ _) (Nat.le_of_ble_eq_true rfl) rfl rfl rfl (hps_1_1 _ _ _) ?_
    refine qS_iinc (v := v4) (a := [(0, .ref 1), (1, .long v1)]) qd_9_69 (Nat.le_of_ble_eq_true rfl) rfl (zsub_c rfl (zsub_c rfl zsub_n)) rfl ?_
    refine qS_goto qd_9_72 rfl ?_
    exact qS_sub (zsub_c rfl (zsub_c rfl (zsub_c rfl zsub_n))) H
set_option maxRecDepth 100000 in
theorem k10 {w : qE} {s : qS} {p0 : Int} {p1 : Int} {f : Int → qS → Prop} {g : Nat → qS → Prop}  (H : qW w 1 11 [.ref 1, qI p0, qI p1] s (qPI (fun r1 s1 => ((r1 = 0 ∨ r1 = 1) ∧ f r1 s1)) g)) : qW w 2 10 [.ref 0, qI p0, qI p1] s (qPI f g) := by
  refine qW.of (M := qm10) (l := [(0, .ref 0), (1, qI p0), (2, qI p1)]) qtm_10 rfl (Nat.le_of_ble_eq_true rfl) (zsub_c rfl (zsub_c rfl (zsub_c rfl zsub_n))) ?_
  refine qS_aload_n qd_10_0 rfl ?_
  refine qS_getfield (v := .ref 1) qd_10_1 (qfl_0_10 w) (hpc_0 _ _) rfl ?_
  refine qS_iload_n qd_10_4 rfl ?_
  refine qS_iload_n qd_10_5 rfl ?_
  refine qS_cvI qd_10_6 (qml_0_67 w) rfl qtm_11 (hpc_1 _ _) (Nat.le_of_ble_eq_true rfl) rfl (Nat.le_of_ble_eq_true rfl) H (fun r1 s1 H => ?_) (fun x s1 H => Or.inr ⟨x, rfl, H⟩)
  exact qS_zreturn qd_10_9 rfl H.1 (Or.inl ⟨_, rfl, H.2⟩)
set_option maxRecDepth 100000 in
theorem k11 {w : qE} {s : qS} {p0 : Int} {p1 : Int} {f : Int → qS → Prop} {g : Nat → qS → Prop}  (H : Rg p0 ∧ (p0 < 0 → qR w 0 qm11 23 [] [] s (qPI f g)) ∧ (0 ≤ p0 → Rg (s 1 1) ∧ (p0 < s 1 1 → Rg p1 ∧ (p1 < 0 → qR w 0 qm11 23 [] [] s (qPI f g)) ∧ (0 ≤ p1 → (255 < p1 → qR w 0 qm11 23 [] [] s (qPI f g)) ∧ (p1 ≤ 255 → (0 ≤ p0 ∧ p0 < 500 ∧ (f 1 (qset s 2 p0 p1)))))) ∧ (s 1 1 ≤ p0 → qR w 0 qm11 23 [] [] s (qPI f g)))) : qW w 1 11 [.ref 1, qI p0, qI p1] s (qPI f g) := by
  refine qW.of (M := qm11) (l := [(0, .ref 1), (1, qI p0), (2, qI p1)]) qtm_11 rfl (Nat.le_of_ble_eq_true rfl) (zsub_c rfl (zsub_c rfl (zsub_c rfl zsub_n))) ?_
  refine qS_iload_n qd_11_0 rfl ?_
  obtain ⟨h1a, H1, H2⟩ := H
  refine qS_if0 qd_11_1 rfl (zcnd_lt (a := p0) (b := 0) h1a ⟨by decide, by decide⟩ (fun t => qR w _ _ t _ _ _ _) (fun hc => ?_) (fun hc => ?_))
  · have H := H1 hc; clear H1 H2 hc
    exact qS_sub zsub_n H
  · have H := H2 hc; clear H1 H2 hc
    refine qS_iload_n qd_11_4 rfl ?_
    refine qS_aload_n qd_11_5 rfl ?_
    refine qS_getfield (v := qI (s 1 1)) qd_11_6 (qfl_1_15 w) (hpc_1 _ _) rfl ?_
    obtain ⟨h9b, H1, H2⟩ := H
    refine qS_icmp qd_11_9 rfl (zcnd_ge (a := p0) (b := s 1 1) h1a h9b (fun t => qR w _ _ t _ _ _ _) (fun hc => ?_) (fun hc => ?_))
    · have H := H1 hc; clear H1 H2 hc
      refine qS_iload_n qd_11_12 rfl ?_
      obtain ⟨h13a, H1, H2⟩ := H
      refine qS_if0 qd_11_13 rfl (zcnd_lt (a := p1) (b := 0) h13a ⟨by decide, by decide⟩ (fun t => qR w _ _ t _ _ _ _) (fun hc => ?_) (fun hc => ?_))
      · have H := H1 hc; clear H1 H2 hc
        exact qS_sub zsub_n H
      · have H := H2 hc; clear H1 H2 hc
        refine qS_iload_n qd_11_16 rfl ?_
        refine qS_sipush qd_11_17 (by decide) ?_
        obtain ⟨H1, H2⟩ := H
        refine qS_icmp qd_11_20 rfl (zcnd_le (a := p1) (b := 255) h13a ⟨by decide, by decide⟩ (fun t => qR w _ _ t _ _ _ _) (fun hc => ?_) (fun hc => ?_))
        · have H := H1 hc; clear H1 H2 hc
          exact qS_sub zsub_n H
        · have H := H2 hc; clear H1 H2 hc
          refine qS_aload_n qd_11_25 rfl ?_
          refine qS_getfield (v := .ref 2) qd_11_26 (qfl_1_9 w) (hpc_1 _ _) rfl ?_
          refine qS_iload_n qd_11_29 rfl ?_
          refine qS_iload_n qd_11_30 rfl ?_
          obtain ⟨hl, hu, H⟩ := H
          refine qS_iastore (a := 2) (i := p0) (v := p1) qd_11_31 (Nat.le_of_ble_eq_true rfl) hl hu ?_
          refine qS_iconst qd_11_32 ?_
          exact qS_zreturn qd_11_33 rfl (Or.inr rfl) (Or.inl ⟨_, rfl, H⟩)
    · have H := H2 hc; clear H1 H2 hc
      exact qS_sub zsub_n H
set_option maxRecDepth 100000 in
theorem k11_23 {w : qE} {s : qS}  {f : Int → qS → Prop} {g : Nat → qS → Prop}  (H : f 0 s) : qR w 0 qm11 23 [] [] s (qPI f g) := by
  refine qS_iconst qd_11_23 ?_
  exact qS_zreturn qd_11_24 rfl (Or.inl rfl) (Or.inl ⟨_, rfl, H⟩)
set_option maxRecDepth 100000 in
theorem k12 {w : qE} {s : qS} {p0 : Int} {f : Int → qS → Prop} {g : Nat → qS → Prop}  (H : qW w 1 13 [.ref 1, qI p0] s (qPI (fun r1 s1 => f r1 s1) g)) : qW w 2 12 [.ref 0, qI p0] s (qPI f g) := by
  refine qW.of (M := qm12) (l := [(0, .ref 0), (1, qI p0)]) qtm_12 rfl (Nat.le_of_ble_eq_true rfl) (zsub_c rfl (zsub_c rfl zsub_n)) ?_
  refine qS_aload_n qd_12_0 rfl ?_
  refine qS_getfield (v := .ref 1) qd_12_1 (qfl_0_10 w) (hpc_0 _ _) rfl ?_
  refine qS_iload_n qd_12_4 rfl ?_
  refine qS_cvI qd_12_5 (qml_0_71 w) rfl qtm_13 (hpc_1 _ _) (Nat.le_of_ble_eq_true rfl) rfl (Nat.le_of_ble_eq_true rfl) H (fun r1 s1 H => ?_) (fun x s1 H => Or.inr ⟨x, rfl, H⟩)
  exact qS_ireturn qd_12_8 rfl (Or.inl ⟨_, rfl, H⟩)
set_option maxRecDepth 100000 in
theorem k13 {w : qE} {s : qS} {p0 : Int} {f : Int → qS → Prop} {g : Nat → qS → Prop}  (H : Rg p0 ∧ (p0 < 0 → qR w 0 qm13 12 [] [] s (qPI f g)) ∧ (0 ≤ p0 → Rg (s 1 1) ∧ (s 1 1 < p0 → qR w 0 qm13 12 [] [] s (qPI f g)) ∧ (p0 ≤ s 1 1 → f ((s 1 1) - p0) (qset s 1 1 p0)))) : qW w 1 13 [.ref 1, qI p0] s (qPI f g) := by
  refine qW.of (M := qm13) (l := [(0, .ref 1), (1, qI p0)]) qtm_13 rfl (Nat.le_of_ble_eq_true rfl) (zsub_c rfl (zsub_c rfl zsub_n)) ?_
  refine qS_iload_n qd_13_0 rfl ?_
  obtain ⟨h1a, H1, H2⟩ := H
  refine qS_if0 qd_13_1 rfl (zcnd_lt (a := p0) (b := 0) h1a ⟨by decide, by decide⟩ (fun t => qR w _ _ t _ _ _ _) (fun hc => ?_) (fun hc => ?_))
  · have H := H1 hc; clear H1 H2 hc
    exact qS_sub zsub_n H
  · have H := H2 hc; clear H1 H2 hc
    refine qS_iload_n qd_13_4 rfl ?_
    refine qS_aload_n qd_13_5 rfl ?_
    refine qS_getfield (v := qI (s 1 1)) qd_13_6 (qfl_1_15 w) (hpc_1 _ _) rfl ?_
    obtain ⟨h9b, H1, H2⟩ := H
    refine qS_icmp qd_13_9 rfl (zcnd_le (a := p0) (b := s 1 1) h1a h9b (fun t => qR w _ _ t _ _ _ _) (fun hc => ?_) (fun hc => ?_))
    · have H := H1 hc; clear H1 H2 hc
      exact qS_sub zsub_n H
    · have H := H2 hc; clear H1 H2 hc
      refine qS_aload_n qd_13_14 rfl ?_
      refine qS_getfield (v := qI (s 1 1)) qd_13_15 (qfl_1_15 w) (hpc_1 _ _) rfl ?_
      refine qS_iload_n qd_13_18 rfl ?_
      refine qS_isub (a := s 1 1) (b := p0) qd_13_19 ?_
      refine qS_istore_n (a := [(0, .ref 1), (1, qI p0)]) qd_13_20 (Nat.le_of_ble_eq_true rfl) (zsub_c rfl (zsub_c rfl zsub_n)) rfl ?_
      refine qS_aload_n qd_13_21 rfl ?_
      refine qS_iload_n qd_13_22 rfl ?_
      refine qS_putfield (s1 := qset s 1 1 p0) qd_13_23 (qfl_1_15 w) (hpc_1 _ _) (Nat.le_of_ble_eq_true rfl) rfl rfl rfl (hps_1_1 _ _ _) ?_
      refine qS_iload_n qd_13_26 rfl ?_
      exact qS_ireturn qd_13_27 rfl (Or.inl ⟨_, rfl, H⟩)
set_option maxRecDepth 100000 in
theorem k13_12 {w : qE} {s : qS}  {f : Int → qS → Prop} {g : Nat → qS → Prop}  (H : f ((-1)) s) : qR w 0 qm13 12 [] [] s (qPI f g) := by
  refine qS_iconst qd_13_12 ?_
  exact qS_ireturn qd_13_13 rfl (Or.inl ⟨_, rfl, H⟩)
set_option maxRecDepth 100000 in
theorem k14 {w : qE} {s : qS}  {f : Int → qS → Prop} {g : Nat → qS → Prop}  (H : qW w 1 15 [.ref 1] s (qPI (fun r1 s1 => f r1 s1) g)) : qW w 2 14 [.ref 0] s (qPI f g) := by
  refine qW.of (M := qm14) (l := [(0, .ref 0)]) qtm_14 rfl (Nat.le_of_ble_eq_true rfl) (zsub_c rfl zsub_n) ?_
  refine qS_aload_n qd_14_0 rfl ?_
  refine qS_getfield (v := .ref 1) qd_14_1 (qfl_0_10 w) (hpc_0 _ _) rfl ?_
  refine qS_cvI qd_14_4 (qml_0_122 w) rfl qtm_15 (hpc_1 _ _) (Nat.le_of_ble_eq_true rfl) rfl (Nat.le_of_ble_eq_true rfl) H (fun r1 s1 H => ?_) (fun x s1 H => Or.inr ⟨x, rfl, H⟩)
  exact qS_ireturn qd_14_7 rfl (Or.inl ⟨_, rfl, H⟩)
set_option maxRecDepth 100000 in
theorem k15 {w : qE} {s : qS}  {f : Int → qS → Prop} {g : Nat → qS → Prop}  (H : f (s 1 3) s) : qW w 1 15 [.ref 1] s (qPI f g) := by
  refine qW.of (M := qm15) (l := [(0, .ref 1)]) qtm_15 rfl (Nat.le_of_ble_eq_true rfl) (zsub_c rfl zsub_n) ?_
  refine qS_aload_n qd_15_0 rfl ?_
  refine qS_getfield (v := qI (s 1 3)) qd_15_1 (qfl_1_22 w) (hpc_1 _ _) rfl ?_
  exact qS_ireturn qd_15_4 rfl (Or.inl ⟨_, rfl, H⟩)
set_option maxRecDepth 100000 in
theorem k16 {w : qE} {s : qS}  {f : Int → qS → Prop} {g : Nat → qS → Prop}  (H : qW w 1 17 [.ref 1] (qset s 0 6 0) (qPV (fun s1 => qW w 2 18 [.ref 17] s1 (qPV (fun s2 => qW w 5 23 [.ref 3] s2 (qPV (fun s3 => qW w 8 33 [.ref 3] s3 (qPV (fun s4 => qW w 6 47 [.ref 7] s4 (qPV (fun s5 => qW w 5 56 [.ref 17] s5 (qPV (fun s6 => qW w 9 60 [.ref 17] s6 (qPV (fun s7 => qW w 9 86 [.ref 17] s7 (qPV (fun s8 => qW w 9 91 [.ref 8] s8 (qPV (fun s9 => qW w 2 92 [.ref 1] s9 (qPV (fun s10 => qW w 1 34 [.ref 15] s10 (qPI (fun r11 s11 => qW w 3 93 [.ref 7, qI r11] s11 (qPV (fun s12 => qW w 1 34 [.ref 4] (qset s12 0 6 1) (qPI (fun r13 s13 => f r13 s13) g)) g)) g)) g)) g)) g)) g)) g)) g)) g)) g)) g)) g)) : qW w 10 16 [.ref 0] s (qPI f g) := by
  refine qW.of (M := qm16) (l := [(0, .ref 0)]) qtm_16 rfl (Nat.le_of_ble_eq_true rfl) (zsub_c rfl zsub_n) ?_
  refine qS_aload_n qd_16_0 rfl ?_
  refine qS_iconst qd_16_1 ?_
  refine qS_putfield (s1 := qset s 0 6 0) qd_16_2 (qfl_0_59 w) (hpc_0 _ _) (Nat.le_of_ble_eq_true rfl) rfl rfl rfl (hps_0_6 _ _ _) ?_
  refine qS_aload_n qd_16_5 rfl ?_
  refine qS_getfield (v := .ref 1) qd_16_6 (qfl_0_10 w) (hpc_0 _ _) rfl ?_
  refine qS_cvV qd_16_9 (qml_0_75 w) rfl qtm_17 (hpc_1 _ _) (Nat.le_of_ble_eq_true rfl) rfl (Nat.le_of_ble_eq_true rfl) H (fun s1 H => ?_) (fun x s1 H => Or.inr ⟨x, rfl, H⟩)
  refine qS_aload_n qd_16_12 rfl ?_
  refine qS_getfield (v := .ref 17) qd_16_13 (qfl_0_46 w) (hpc_0 _ _) rfl ?_
  refine qS_cvV qd_16_16 (qml_0_78 w) rfl qtm_18 (hpc_17 _ _) (Nat.le_of_ble_eq_true rfl) rfl (Nat.le_of_ble_eq_true rfl) H (fun s2 H => ?_) (fun x s1 H => Or.inr ⟨x, rfl, H⟩)
  refine qS_aload_n qd_16_19 rfl ?_
  refine qS_getfield (v := .ref 3) qd_16_20 (qfl_0_21 w) (hpc_0 _ _) rfl ?_
  refine qS_cvV qd_16_23 (qml_0_81 w) rfl qtm_23 (hpc_3 _ _) (Nat.le_of_ble_eq_true rfl) rfl (Nat.le_of_ble_eq_true rfl) H (fun s3 H => ?_) (fun x s1 H => Or.inr ⟨x, rfl, H⟩)
  refine qS_aload_n qd_16_26 rfl ?_
  refine qS_getfield (v := .ref 3) qd_16_27 (qfl_0_21 w) (hpc_0 _ _) rfl ?_
  refine qS_cvV qd_16_30 (qml_0_84 w) rfl qtm_33 (hpc_3 _ _) (Nat.le_of_ble_eq_true rfl) rfl (Nat.le_of_ble_eq_true rfl) H (fun s4 H => ?_) (fun x s1 H => Or.inr ⟨x, rfl, H⟩)
  refine qS_aload_n qd_16_33 rfl ?_
  refine qS_getfield (v := .ref 7) qd_16_34 (qfl_0_30 w) (hpc_0 _ _) rfl ?_
  refine qS_cvV qd_16_37 (qml_0_87 w) rfl qtm_47 (hpc_7 _ _) (Nat.le_of_ble_eq_true rfl) rfl (Nat.le_of_ble_eq_true rfl) H (fun s5 H => ?_) (fun x s1 H => Or.inr ⟨x, rfl, H⟩)
  refine qS_aload_n qd_16_40 rfl ?_
  refine qS_getfield (v := .ref 17) qd_16_41 (qfl_0_46 w) (hpc_0 _ _) rfl ?_
  refine qS_cvV qd_16_44 (qml_0_90 w) rfl qtm_56 (hpc_17 _ _) (Nat.le_of_ble_eq_true rfl) rfl (Nat.le_of_ble_eq_true rfl) H (fun s6 H => ?_) (fun x s1 H => Or.inr ⟨x, rfl, H⟩)
  refine qS_aload_n qd_16_47 rfl ?_
  refine qS_getfield (v := .ref 17) qd_16_48 (qfl_0_46 w) (hpc_0 _ _) rfl ?_
  refine qS_cvV qd_16_51 (qml_0_93 w) rfl qtm_60 (hpc_17 _ _) (Nat.le_of_ble_eq_true rfl) rfl (Nat.le_of_ble_eq_true rfl) H (fun s7 H => ?_) (fun x s1 H => Or.inr ⟨x, rfl, H⟩)
  refine qS_aload_n qd_16_54 rfl ?_
  refine qS_getfield (v := .ref 17) qd_16_55 (qfl_0_46 w) (hpc_0 _ _) rfl ?_
  refine qS_cvV qd_16_58 (qml_0_96 w) rfl qtm_86 (hpc_17 _ _) (Nat.le_of_ble_eq_true rfl) rfl (Nat.le_of_ble_eq_true rfl) H (fun s8 H => ?_) (fun x s1 H => Or.inr ⟨x, rfl, H⟩)
  refine qS_aload_n qd_16_61 rfl ?_
  refine qS_getfield (v := .ref 8) qd_16_62 (qfl_0_37 w) (hpc_0 _ _) rfl ?_
  refine qS_cvV qd_16_65 (qml_0_99 w) rfl qtm_91 (hpc_8 _ _) (Nat.le_of_ble_eq_true rfl) rfl (Nat.le_of_ble_eq_true rfl) H (fun s9 H => ?_) (fun x s1 H => Or.inr ⟨x, rfl, H⟩)
  refine qS_aload_n qd_16_68 rfl ?_
  refine qS_getfield (v := .ref 1) qd_16_69 (qfl_0_10 w) (hpc_0 _ _) rfl ?_
  refine qS_cvV qd_16_72 (qml_0_102 w) rfl qtm_92 (hpc_1 _ _) (Nat.le_of_ble_eq_true rfl) rfl (Nat.le_of_ble_eq_true rfl) H (fun s10 H => ?_) (fun x s1 H => Or.inr ⟨x, rfl, H⟩)
  refine qS_aload_n qd_16_75 rfl ?_
  refine qS_getfield (v := .ref 7) qd_16_76 (qfl_0_30 w) (hpc_0 _ _) rfl ?_
  refine qS_aload_n qd_16_79 rfl ?_
  refine qS_getfield (v := .ref 8) qd_16_80 (qfl_0_37 w) (hpc_0 _ _) rfl ?_
  refine qS_getfield (v := .ref 15) qd_16_83 (qfl_0_105 w) (hpc_8 _ _) rfl ?_
  refine qS_cvI qd_16_86 (qml_0_109 w) rfl qtm_34 (hpc_15 _ _) (Nat.le_of_ble_eq_true rfl) rfl (Nat.le_of_ble_eq_true rfl) H (fun r11 s11 H => ?_) (fun x s1 H => Or.inr ⟨x, rfl, H⟩)
  refine qS_cvV qd_16_89 (qml_0_115 w) rfl qtm_93 (hpc_7 _ _) (Nat.le_of_ble_eq_true rfl) rfl (Nat.le_of_ble_eq_true rfl) H (fun s12 H => ?_) (fun x s1 H => Or.inr ⟨x, rfl, H⟩)
  refine qS_aload_n qd_16_92 rfl ?_
  refine qS_iconst qd_16_93 ?_
  refine qS_putfield (s1 := qset s12 0 6 1) qd_16_94 (qfl_0_59 w) (hpc_0 _ _) (Nat.le_of_ble_eq_true rfl) rfl rfl rfl (hps_0_6 _ _ _) ?_
  refine qS_aload_n qd_16_97 rfl ?_
  refine qS_getfield (v := .ref 3) qd_16_98 (qfl_0_21 w) (hpc_0 _ _) rfl ?_
  refine qS_getfield (v := .ref 4) qd_16_101 (qfl_0_119 w) (hpc_3 _ _) rfl ?_
  refine qS_cvI qd_16_104 (qml_0_109 w) rfl qtm_34 (hpc_4 _ _) (Nat.le_of_ble_eq_true rfl) rfl (Nat.le_of_ble_eq_true rfl) H (fun r13 s13 H => ?_) (fun x s1 H => Or.inr ⟨x, rfl, H⟩)
  exact qS_ireturn qd_16_107 rfl (Or.inl ⟨_, rfl, H⟩)
set_option maxRecDepth 100000 in
theorem k17 {w : qE} {s : qS}  {f : qS → Prop} {g : Nat → qS → Prop}  (H : f (qset (qset s 1 2 0) 1 3 ((-2)))) : qW w 1 17 [.ref 1] s (qPV f g) := by
  refine qW.of (M := qm17) (l := [(0, .ref 1)]) qtm_17 rfl (Nat.le_of_ble_eq_true rfl) (zsub_c rfl zsub_n) ?_
  refine qS_aload_n qd_17_0 rfl ?_
  refine qS_iconst qd_17_1 ?_
  refine qS_putfield (s1 := qset s 1 2 0) qd_17_2 (qfl_1_19 w) (hpc_1 _ _) (Nat.le_of_ble_eq_true rfl) rfl rfl rfl (hps_1_2 _ _ _) ?_
  refine qS_aload_n qd_17_5 rfl ?_
  refine qS_bipush qd_17_6 (by decide) ?_
  refine qS_putfield (s1 := qset (qset s 1 2 0) 1 3 ((-2))) qd_17_8 (qfl_1_22 w) (hpc_1 _ _) (Nat.le_of_ble_eq_true rfl) rfl rfl rfl (hps_1_3 _ _ _) ?_
  exact qS_vreturn qd_17_11 rfl (Or.inl ⟨rfl, H⟩)
set_option maxRecDepth 100000 in
theorem k18 {w : qE} {s : qS}  {f : qS → Prop} {g : Nat → qS → Prop}  (H : qW w 1 19 [.ref 1, qI 4] s (qPI (fun r1 s1 => Rg r1 ∧ (r1 = (-889275714) → qR w 1 qm18 22 [(0, .ref 17)] [qI 1, .ref 1] s1 (qPV f g)) ∧ (r1 ≠ (-889275714) → qR w 1 qm18 22 [(0, .ref 17)] [qI 0, .ref 1] s1 (qPV f g))) g)) : qW w 2 18 [.ref 17] s (qPV f g) := by
  refine qW.of (M := qm18) (l := [(0, .ref 17)]) qtm_18 rfl (Nat.le_of_ble_eq_true rfl) (zsub_c rfl zsub_n) ?_
  refine qS_aload_n qd_18_0 rfl ?_
  refine qS_getfield (v := .ref 1) qd_18_1 (qfl_6_9 w) (hpc_17 _ _) rfl ?_
  refine qS_aload_n qd_18_4 rfl ?_
  refine qS_getfield (v := .ref 1) qd_18_5 (qfl_6_9 w) (hpc_17 _ _) rfl ?_
  refine qS_iconst qd_18_8 ?_
  refine qS_cvI qd_18_9 (qml_6_38 w) rfl qtm_19 (hpc_1 _ _) (Nat.le_of_ble_eq_true rfl) rfl (Nat.le_of_ble_eq_true rfl) H (fun r1 s1 H => ?_) (fun x s1 H => Or.inr ⟨x, rfl, H⟩)
  refine qS_ldc (v := qI ((-889275714))) qd_18_12 rfl rfl (fun _ => rfl) (fun _ => qS_k (qkl_6_44 w)) ?_
  obtain ⟨h14a, H1, H2⟩ := H
  refine qS_icmp qd_18_14 rfl (zcnd_ne (a := r1) (b := (-889275714)) h14a ⟨by decide, by decide⟩ (fun t => qR w _ _ t _ _ _ _) (fun hc => ?_) (fun hc => ?_))
  · have H := H1 hc; clear H1 H2 hc
    refine qS_iconst qd_18_17 ?_
    refine qS_goto qd_18_18 rfl ?_
    exact qS_sub (zsub_c rfl zsub_n) H
  · have H := H2 hc; clear H1 H2 hc
    refine qS_iconst qd_18_21 ?_
    exact qS_sub (zsub_c rfl zsub_n) H
set_option maxRecDepth 100000 in
theorem k18_22 {w : qE} {s : qS} {k1 : Int} {f : qS → Prop} {g : Nat → qS → Prop}  (H : qW w 1 20 [.ref 1, qI k1, qI 0] s (qPV (fun s2 => qW w 1 19 [.ref 1, qI 2] s2 (qPI (fun r3 s3 => qW w 1 19 [.ref 1, qI 2] (qset s3 17 6 r3) (qPI (fun r4 s4 => Rg r4 ∧ (r4 < 45 → qR w 1 qm18 72 [(0, .ref 17)] [] (qset s4 17 7 r4) (qPV f g)) ∧ (45 ≤ r4 → (55 < r4 → qR w 1 qm18 72 [(0, .ref 17)] [] (qset s4 17 7 r4) (qPV f g)) ∧ (r4 ≤ 55 → qR w 1 qm18 73 [(0, .ref 17)] [qI 1] (qset s4 17 7 r4) (qPV f g)))) g)) g)) g)) : qR w 1 qm18 22 [(0, .ref 17)] [qI k1, .ref 1] s (qPV f g) := by
  refine qS_iconst qd_18_22 ?_
  refine qS_cvV qd_18_23 (qml_6_45 w) rfl qtm_20 (hpc_1 _ _) (Nat.le_of_ble_eq_true rfl) rfl (Nat.le_of_ble_eq_true rfl) H (fun s2 H => ?_) (fun x s1 H => Or.inr ⟨x, rfl, H⟩)
  refine qS_aload_n qd_18_26 rfl ?_
  refine qS_aload_n qd_18_27 rfl ?_
  refine qS_getfield (v := .ref 1) qd_18_28 (qfl_6_9 w) (hpc_17 _ _) rfl ?_
  refine qS_iconst qd_18_31 ?_
  refine qS_cvI qd_18_32 (qml_6_38 w) rfl qtm_19 (hpc_1 _ _) (Nat.le_of_ble_eq_true rfl) rfl (Nat.le_of_ble_eq_true rfl) H (fun r3 s3 H => ?_) (fun x s1 H => Or.inr ⟨x, rfl, H⟩)
  refine qS_putfield (s1 := qset s3 17 6 r3) qd_18_35 (qfl_6_49 w) (hpc_17 _ _) (Nat.le_of_ble_eq_true rfl) rfl rfl rfl (hps_17_6 _ _ _) ?_
  refine qS_aload_n qd_18_38 rfl ?_
  refine qS_aload_n qd_18_39 rfl ?_
  refine qS_getfield (v := .ref 1) qd_18_40 (qfl_6_9 w) (hpc_17 _ _) rfl ?_
  refine qS_iconst qd_18_43 ?_
  refine qS_cvI qd_18_44 (qml_6_38 w) rfl qtm_19 (hpc_1 _ _) (Nat.le_of_ble_eq_true rfl) rfl (Nat.le_of_ble_eq_true rfl) H (fun r4 s4 H => ?_) (fun x s1 H => Or.inr ⟨x, rfl, H⟩)
  refine qS_putfield (s1 := qset s4 17 7 r4) qd_18_47 (qfl_6_53 w) (hpc_17 _ _) (Nat.le_of_ble_eq_true rfl) rfl rfl rfl (hps_17_7 _ _ _) ?_
  refine qS_aload_n qd_18_50 rfl ?_
  refine qS_getfield (v := qI r4) qd_18_51 (qfl_6_53 w) (hpc_17 _ _) rfl ?_
  refine qS_bipush qd_18_54 (by decide) ?_
  obtain ⟨h56a, H1, H2⟩ := H
  refine qS_icmp qd_18_56 rfl (zcnd_lt (a := r4) (b := 45) h56a ⟨by decide, by decide⟩ (fun t => qR w _ _ t _ _ _ _) (fun hc => ?_) (fun hc => ?_))
  · have H := H1 hc; clear H1 H2 hc
    exact qS_sub (zsub_c rfl zsub_n) H
  · have H := H2 hc; clear H1 H2 hc
    refine qS_aload_n qd_18_59 rfl ?_
    refine qS_getfield (v := qI r4) qd_18_60 (qfl_6_53 w) (hpc_17 _ _) rfl ?_
    refine qS_bipush qd_18_63 (by decide) ?_
    obtain ⟨H1, H2⟩ := H
    refine qS_icmp qd_18_65 rfl (zcnd_gt (a := r4) (b := 55) h56a ⟨by decide, by decide⟩ (fun t => qR w _ _ t _ _ _ _) (fun hc => ?_) (fun hc => ?_))
    · have H := H1 hc; clear H1 H2 hc
      exact qS_sub (zsub_c rfl zsub_n) H
    · have H := H2 hc; clear H1 H2 hc
      refine qS_iconst qd_18_68 ?_
      refine qS_goto qd_18_69 rfl ?_
      exact qS_sub (zsub_c rfl zsub_n) H
set_option maxRecDepth 100000 in
theorem k18_72 {w : qE} {s : qS}  {f : qS → Prop} {g : Nat → qS → Prop}  (H : qR w 1 qm18 73 [(0, .ref 17)] [qI 0] s (qPV f g)) : qR w 1 qm18 72 [(0, .ref 17)] [] s (qPV f g) := by
  refine qS_iconst qd_18_72 ?_
  exact qS_sub (zsub_c rfl zsub_n) H
set_option maxRecDepth 100000 in
theorem k18_73 {w : qE} {s : qS} {k0 : Int} {f : qS → Prop} {g : Nat → qS → Prop}  (H : Rg (s 17 7) ∧ (s 17 7 < 56 → qR w 1 qm18 112 [(0, .ref 17), (1, qI k0)] [] s (qPV f g)) ∧ (56 ≤ s 17 7 → (69 < s 17 7 → qR w 1 qm18 112 [(0, .ref 17), (1, qI k0)] [] s (qPV f g)) ∧ (s 17 7 ≤ 69 → Rg (s 17 6) ∧ (s 17 6 = 0 → qR w 1 qm18 108 [(0, .ref 17), (1, qI k0)] [] s (qPV f g)) ∧ (s 17 6 ≠ 0 → (s 17 6 = 65535 → qR w 1 qm18 108 [(0, .ref 17), (1, qI k0)] [] s (qPV f g)) ∧ (s 17 6 ≠ 65535 → qR w 1 qm18 112 [(0, .ref 17), (1, qI k0)] [] s (qPV f g)))))) : qR w 1 qm18 73 [(0, .ref 17)] [qI k0] s (qPV f g) := by
  refine qS_istore_n (a := [(0, .ref 17)]) qd_18_73 (Nat.le_of_ble_eq_true rfl) (zsub_c rfl zsub_n) rfl ?_
  refine qS_aload_n qd_18_74 rfl ?_
  refine qS_getfield (v := qI (s 17 7)) qd_18_75 (qfl_6_53 w) (hpc_17 _ _) rfl ?_
  refine qS_bipush qd_18_78 (by decide) ?_
  obtain ⟨h80a, H1, H2⟩ := H
  refine qS_icmp qd_18_80 rfl (zcnd_lt (a := s 17 7) (b := 56) h80a ⟨by decide, by decide⟩ (fun t => qR w _ _ t _ _ _ _) (fun hc => ?_) (fun hc => ?_))
  · have H := H1 hc; clear H1 H2 hc
    exact qS_sub (zsub_c rfl (zsub_c rfl zsub_n)) H
  · have H := H2 hc; clear H1 H2 hc
    refine qS_aload_n qd_18_83 rfl ?_
    refine qS_getfield (v := qI (s 17 7)) qd_18_84 (qfl_6_53 w) (hpc_17 _ _) rfl ?_
    refine qS_bipush qd_18_87 (by decide) ?_
    obtain ⟨H1, H2⟩ := H
    refine qS_icmp qd_18_89 rfl (zcnd_gt (a := s 17 7) (b := 69) h80a ⟨by decide, by decide⟩ (fun t => qR w _ _ t _ _ _ _) (fun hc => ?_) (fun hc => ?_))
    · have H := H1 hc; clear H1 H2 hc
      exact qS_sub (zsub_c rfl (zsub_c rfl zsub_n)) H
    · have H := H2 hc; clear H1 H2 hc
      refine qS_aload_n qd_18_92 rfl ?_
      refine qS_getfield (v := qI (s 17 6)) qd_18_93 (qfl_6_49 w) (hpc_17 _ _) rfl ?_
      obtain ⟨h96a, H1, H2⟩ := H
      refine qS_if0 qd_18_96 rfl (zcnd_eq (a := s 17 6) (b := 0) h96a ⟨by decide, by decide⟩ (fun t => qR w _ _ t _ _ _ _) (fun hc => ?_) (fun hc => ?_))
      · have H := H1 hc; clear H1 H2 hc
        exact qS_sub (zsub_c rfl (zsub_c rfl zsub_n)) H
      · have H := H2 hc; clear H1 H2 hc
        refine qS_aload_n qd_18_99 rfl ?_
        refine qS_getfield (v := qI (s 17 6)) qd_18_100 (qfl_6_49 w) (hpc_17 _ _) rfl ?_
        refine qS_ldc (v := qI 65535) qd_18_103 rfl rfl (fun _ => rfl) (fun _ => qS_k (qkl_6_56 w)) ?_
        obtain ⟨H1, H2⟩ := H
        refine qS_icmp qd_18_105 rfl (zcnd_ne (a := s 17 6) (b := 65535) h96a ⟨by decide, by decide⟩ (fun t => qR w _ _ t _ _ _ _) (fun hc => ?_) (fun hc => ?_))
        · have H := H1 hc; clear H1 H2 hc
          exact qS_sub (zsub_c rfl (zsub_c rfl zsub_n)) H
        · have H := H2 hc; clear H1 H2 hc
          exact qS_sub (zsub_c rfl (zsub_c rfl zsub_n)) H
set_option maxRecDepth 100000 in
theorem k18_108 {w : qE} {s : qS} {v1 : Int} {f : qS → Prop} {g : Nat → qS → Prop}  (H : qR w 1 qm18 113 [(0, .ref 17), (1, qI v1)] [qI 1] s (qPV f g)) : qR w 1 qm18 108 [(0, .ref 17), (1, qI v1)] [] s (qPV f g) := by
  refine qS_iconst qd_18_108 ?_
  refine qS_goto qd_18_109 rfl ?_
  exact qS_sub (zsub_c rfl (zsub_c rfl zsub_n)) H
set_option maxRecDepth 100000 in
theorem k18_112 {w : qE} {s : qS} {v1 : Int} {f : qS → Prop} {g : Nat → qS → Prop}  (H : qR w 1 qm18 113 [(0, .ref 17), (1, qI v1)] [qI 0] s (qPV f g)) : qR w 1 qm18 112 [(0, .ref 17), (1, qI v1)] [] s (qPV f g) := by
  refine qS_iconst qd_18_112 ?_
  exact qS_sub (zsub_c rfl (zsub_c rfl zsub_n)) H
set_option maxRecDepth 100000 in
theorem k18_113 {w : qE} {s : qS} {v1 : Int} {k0 : Int} {f : qS → Prop} {g : Nat → qS → Prop}  (H : Rg v1 ∧ (v1 = 0 → Rg k0 ∧ (k0 = 0 → qR w 1 qm18 131 [(0, .ref 17)] [qI 0, .ref 1] s (qPV f g)) ∧ (k0 ≠ 0 → qR w 1 qm18 126 [(0, .ref 17)] [.ref 1] s (qPV f g))) ∧ (v1 ≠ 0 → qR w 1 qm18 126 [(0, .ref 17)] [.ref 1] s (qPV f g))) : qR w 1 qm18 113 [(0, .ref 17), (1, qI v1)] [qI k0] s (qPV f g) := by
  refine qS_istore_n (a := [(0, .ref 17), (1, qI v1)]) qd_18_113 (Nat.le_of_ble_eq_true rfl) (zsub_c rfl (zsub_c rfl zsub_n)) rfl ?_
  refine qS_aload_n qd_18_114 rfl ?_
  refine qS_getfield (v := .ref 1) qd_18_115 (qfl_6_9 w) (hpc_17 _ _) rfl ?_
  refine qS_iload_n qd_18_118 rfl ?_
  obtain ⟨h119a, H1, H2⟩ := H
  refine qS_if0 qd_18_119 rfl (zcnd_ne (a := v1) (b := 0) h119a ⟨by decide, by decide⟩ (fun t => qR w _ _ t _ _ _ _) (fun hc => ?_) (fun hc => ?_))
  · have H := H1 hc; clear H1 H2 hc
    refine qS_iload_n qd_18_122 rfl ?_
    obtain ⟨h123a, H1, H2⟩ := H
    refine qS_if0 qd_18_123 rfl (zcnd_eq (a := k0) (b := 0) h123a ⟨by decide, by decide⟩ (fun t => qR w _ _ t _ _ _ _) (fun hc => ?_) (fun hc => ?_))
    · have H := H1 hc; clear H1 H2 hc
      refine qS_iconst qd_18_130 ?_
      exact qS_sub (zsub_c rfl zsub_n) H
    · have H := H2 hc; clear H1 H2 hc
      exact qS_sub (zsub_c rfl zsub_n) H
  · have H := H2 hc; clear H1 H2 hc
    exact qS_sub (zsub_c rfl zsub_n) H
set_option maxRecDepth 100000 in
theorem k18_126 {w : qE} {s : qS}  {f : qS → Prop} {g : Nat → qS → Prop}  (H : qR w 1 qm18 131 [(0, .ref 17)] [qI 1, .ref 1] s (qPV f g)) : qR w 1 qm18 126 [(0, .ref 17)] [.ref 1] s (qPV f g) := by
  refine qS_iconst qd_18_126 ?_
  refine qS_goto qd_18_127 rfl ?_
  exact qS_sub (zsub_c rfl zsub_n) H
set_option maxRecDepth 100000 in
theorem k18_131 {w : qE} {s : qS} {k1 : Int} {f : qS → Prop} {g : Nat → qS → Prop}  (H : qW w 1 21 [.ref 1] s (qPI (fun r5 s5 => qW w 1 22 [.ref 1, qI k1, qI (r5 - 4)] s5 (qPV (fun s6 => f s6) g)) g)) : qR w 1 qm18 131 [(0, .ref 17)] [qI k1, .ref 1] s (qPV f g) := by
  refine qS_aload_n qd_18_131 rfl ?_
  refine qS_getfield (v := .ref 1) qd_18_132 (qfl_6_9 w) (hpc_17 _ _) rfl ?_
  refine qS_cvI qd_18_135 (qml_6_57 w) rfl qtm_21 (hpc_1 _ _) (Nat.le_of_ble_eq_true rfl) rfl (Nat.le_of_ble_eq_true rfl) H (fun r5 s5 H => ?_) (fun x s1 H => Or.inr ⟨x, rfl, H⟩)
  refine qS_iconst qd_18_138 ?_
  refine qS_isub (a := r5) (b := 4) qd_18_139 ?_
  refine qS_cvV qd_18_140 (qml_6_61 w) rfl qtm_22 (hpc_1 _ _) (Nat.le_of_ble_eq_true rfl) rfl (Nat.le_of_ble_eq_true rfl) H (fun s6 H => ?_) (fun x s1 H => Or.inr ⟨x, rfl, H⟩)
  exact qS_vreturn qd_18_143 rfl (Or.inl ⟨rfl, H⟩)
set_option maxRecDepth 100000 in
theorem k19 {w : qE} {s : qS} {p0 : Int} {f : Int → qS → Prop} {g : Nat → qS → Prop}  (H : Rg p0 ∧ Rg ((s 1 1) - (s 1 2)) ∧ ((s 1 1) - (s 1 2) < p0 → g 0 (qset s 1 3 (s 1 1))) ∧ (p0 ≤ (s 1 1) - (s 1 2) → qR w 0 qm19 33 [(0, .ref 1), (1, qI p0), (2, qI 0), (3, qI 0)] [] s (qPI f g))) : qW w 1 19 [.ref 1, qI p0] s (qPI f g) := by
  refine qW.of (M := qm19) (l := [(0, .ref 1), (1, qI p0)]) qtm_19 rfl (Nat.le_of_ble_eq_true rfl) (zsub_c rfl (zsub_c rfl zsub_n)) ?_
  refine qS_iload_n qd_19_0 rfl ?_
  refine qS_aload_n qd_19_1 rfl ?_
  refine qS_getfield (v := qI (s 1 1)) qd_19_2 (qfl_1_15 w) (hpc_1 _ _) rfl ?_
  refine qS_aload_n qd_19_5 rfl ?_
  refine qS_getfield (v := qI (s 1 2)) qd_19_6 (qfl_1_19 w) (hpc_1 _ _) rfl ?_
  refine qS_isub (a := s 1 1) (b := s 1 2) qd_19_9 ?_
  obtain ⟨h10a, h10b, H1, H2⟩ := H
  refine qS_icmp qd_19_10 rfl (zcnd_le (a := p0) (b := (s 1 1) - (s 1 2)) h10a h10b (fun t => qR w _ _ t _ _ _ _) (fun hc => ?_) (fun hc => ?_))
  · have H := H1 hc; clear H1 H2 hc
    refine qS_aload_n qd_19_13 rfl ?_
    refine qS_aload_n qd_19_14 rfl ?_
    refine qS_getfield (v := qI (s 1 1)) qd_19_15 (qfl_1_15 w) (hpc_1 _ _) rfl ?_
    refine qS_putfield (s1 := qset s 1 3 (s 1 1)) qd_19_18 (qfl_1_22 w) (hpc_1 _ _) (Nat.le_of_ble_eq_true rfl) rfl rfl rfl (hps_1_3 _ _ _) ?_
    exact qS_throw qd_19_21 rfl (Or.inr ⟨_, rfl, H⟩)
  · have H := H2 hc; clear H1 H2 hc
    refine qS_iconst qd_19_29 ?_
    refine qS_istore_n (a := [(0, .ref 1), (1, qI p0)]) qd_19_30 (Nat.le_of_ble_eq_true rfl) (zsub_c rfl (zsub_c rfl zsub_n)) rfl ?_
    refine qS_iconst qd_19_31 ?_
    refine qS_istore_n (a := [(2, qI 0), (0, .ref 1), (1, qI p0)]) qd_19_32 (Nat.le_of_ble_eq_true rfl) (zsub_c rfl (zsub_c rfl (zsub_c rfl zsub_n))) rfl ?_
    exact qS_sub (zsub_c rfl (zsub_c rfl (zsub_c rfl (zsub_c rfl zsub_n)))) H
set_option maxRecDepth 100000 in
theorem k19_33 {w : qE} {s : qS} {v1 : Int} {v2 : Int} {v3 : Int} {f : Int → qS → Prop} {g : Nat → qS → Prop}  (H : Rg v3 ∧ Rg v1 ∧ (v3 < v1 → (0 ≤ (s 1 2) + v3 ∧ (s 1 2) + v3 < 500 ∧ (qR w 0 qm19 33 [(0, .ref 1), (1, qI v1), (2, qI (qor (qshl v2 8) (s 2 ((s 1 2) + v3)))), (3, qI (v3 + 1))] [] s (qPI f g)))) ∧ (v1 ≤ v3 → f v2 (qset s 1 2 ((s 1 2) + v1)))) : qR w 0 qm19 33 [(0, .ref 1), (1, qI v1), (2, qI v2), (3, qI v3)] [] s (qPI f g) := by
  refine qS_iload_n qd_19_33 rfl ?_
  refine qS_iload_n qd_19_34 rfl ?_
  obtain ⟨h35a, h35b, H1, H2⟩ := H
  refine qS_icmp qd_19_35 rfl (zcnd_ge (a := v3) (b := v1) h35a h35b (fun t => qR w _ _ t _ _ _ _) (fun hc => ?_) (fun hc => ?_))
  · have H := H1 hc; clear H1 H2 hc
    refine qS_iload_n qd_19_38 rfl ?_
    refine qS_bipush qd_19_39 (by decide) ?_
    refine qS_ishl (a := v2) (b := 8) qd_19_41 ?_
    refine qS_aload_n qd_19_42 rfl ?_
    refine qS_getfield (v := .ref 2) qd_19_43 (qfl_1_9 w) (hpc_1 _ _) rfl ?_
    refine qS_aload_n qd_19_46 rfl ?_
    refine qS_getfield (v := qI (s 1 2)) qd_19_47 (qfl_1_19 w) (hpc_1 _ _) rfl ?_
    refine qS_iload_n qd_19_50 rfl ?_
    refine qS_iadd (a := s 1 2) (b := v3) qd_19_51 ?_
    obtain ⟨hl, hu, H⟩ := H
    refine qS_iaload (a := 2) (i := (s 1 2) + v3) qd_19_52 (Nat.le_of_ble_eq_true rfl) hl hu ?_
    refine qS_ior (a := qshl v2 8) (b := s 2 ((s 1 2) + v3)) qd_19_53 ?_
    refine qS_istore_n (a := [(0, .ref 1), (1, qI v1), (3, qI v3)]) qd_19_54 (Nat.le_of_ble_eq_true rfl) (zsub_c rfl (zsub_c rfl (zsub_c rfl zsub_n))) rfl ?_
    refine qS_iinc (v := v3) (a := [(2, qI (qor (qshl v2 8) (s 2 ((s 1 2) + v3)))), (0, .ref 1), (1, qI v1)]) qd_19_55 (Nat.le_of_ble_eq_true rfl) rfl (zsub_c rfl (zsub_c rfl (zsub_c rfl zsub_n))) rfl ?_
    refine qS_goto qd_19_58 rfl ?_
    exact qS_sub (zsub_c rfl (zsub_c rfl (zsub_c rfl (zsub_c rfl zsub_n)))) H
  · have H := H2 hc; clear H1 H2 hc
    refine qS_aload_n qd_19_61 rfl ?_
    refine qS_dup qd_19_62 rfl ?_
    refine qS_getfield (v := qI (s 1 2)) qd_19_63 (qfl_1_19 w) (hpc_1 _ _) rfl ?_
    refine qS_iload_n qd_19_66 rfl ?_
    refine qS_iadd (a := s 1 2) (b := v1) qd_19_67 ?_
    refine qS_putfield (s1 := qset s 1 2 ((s 1 2) + v1)) qd_19_68 (qfl_1_19 w) (hpc_1 _ _) (Nat.le_of_ble_eq_true rfl) rfl rfl rfl (hps_1_2 _ _ _) ?_
    refine qS_iload_n qd_19_71 rfl ?_
    exact qS_ireturn qd_19_72 rfl (Or.inl ⟨_, rfl, H⟩)
set_option maxRecDepth 100000 in
theorem k20 {w : qE} {s : qS} {p0 : Int} {p1 : Int} {f : qS → Prop} {g : Nat → qS → Prop}  (H : Rg p0 ∧ (p0 = 0 → g 0 (qset s 1 3 p1)) ∧ (p0 ≠ 0 → f s)) : qW w 1 20 [.ref 1, qI p0, qI p1] s (qPV f g) := by
  refine qW.of (M := qm20) (l := [(0, .ref 1), (1, qI p0), (2, qI p1)]) qtm_20 rfl (Nat.le_of_ble_eq_true rfl) (zsub_c rfl (zsub_c rfl (zsub_c rfl zsub_n))) ?_
  refine qS_iload_n qd_20_0 rfl ?_
  obtain ⟨h1a, H1, H2⟩ := H
  refine qS_if0 qd_20_1 rfl (zcnd_ne (a := p0) (b := 0) h1a ⟨by decide, by decide⟩ (fun t => qR w _ _ t _ _ _ _) (fun hc => ?_) (fun hc => ?_))
  · have H := H1 hc; clear H1 H2 hc
    refine qS_aload_n qd_20_4 rfl ?_
    refine qS_iload_n qd_20_5 rfl ?_
    refine qS_putfield (s1 := qset s 1 3 p1) qd_20_6 (qfl_1_22 w) (hpc_1 _ _) (Nat.le_of_ble_eq_true rfl) rfl rfl rfl (hps_1_3 _ _ _) ?_
    exact qS_throw qd_20_9 rfl (Or.inr ⟨_, rfl, H⟩)
  · have H := H2 hc; clear H1 H2 hc
    exact qS_vreturn qd_20_17 rfl (Or.inl ⟨rfl, H⟩)
set_option maxRecDepth 100000 in
theorem k21 {w : qE} {s : qS}  {f : Int → qS → Prop} {g : Nat → qS → Prop}  (H : f (s 1 2) s) : qW w 1 21 [.ref 1] s (qPI f g) := by
  refine qW.of (M := qm21) (l := [(0, .ref 1)]) qtm_21 rfl (Nat.le_of_ble_eq_true rfl) (zsub_c rfl zsub_n) ?_
  refine qS_aload_n qd_21_0 rfl ?_
  refine qS_getfield (v := qI (s 1 2)) qd_21_1 (qfl_1_19 w) (hpc_1 _ _) rfl ?_
  exact qS_ireturn qd_21_4 rfl (Or.inl ⟨_, rfl, H⟩)
set_option maxRecDepth 100000 in
theorem k22 {w : qE} {s : qS} {p0 : Int} {p1 : Int} {f : qS → Prop} {g : Nat → qS → Prop}  (H : Rg p0 ∧ (p0 = 0 → g 1 (qset s 1 3 p1)) ∧ (p0 ≠ 0 → f s)) : qW w 1 22 [.ref 1, qI p0, qI p1] s (qPV f g) := by
  refine qW.of (M := qm22) (l := [(0, .ref 1), (1, qI p0), (2, qI p1)]) qtm_22 rfl (Nat.le_of_ble_eq_true rfl) (zsub_c rfl (zsub_c rfl (zsub_c rfl zsub_n))) ?_
  refine qS_iload_n qd_22_0 rfl ?_
  obtain ⟨h1a, H1, H2⟩ := H
  refine qS_if0 qd_22_1 rfl (zcnd_ne (a := p0) (b := 0) h1a ⟨by decide, by decide⟩ (fun t => qR w _ _ t _ _ _ _) (fun hc => ?_) (fun hc => ?_))
  · have H := H1 hc; clear H1 H2 hc
    refine qS_aload_n qd_22_4 rfl ?_
    refine qS_iload_n qd_22_5 rfl ?_
    refine qS_putfield (s1 := qset s 1 3 p1) qd_22_6 (qfl_1_22 w) (hpc_1 _ _) (Nat.le_of_ble_eq_true rfl) rfl rfl rfl (hps_1_3 _ _ _) ?_
    exact qS_throw qd_22_9 rfl (Or.inr ⟨_, rfl, H⟩)
  · have H := H2 hc; clear H1 H2 hc
    exact qS_vreturn qd_22_17 rfl (Or.inl ⟨rfl, H⟩)
set_option maxRecDepth 100000 in
theorem k23 {w : qE} {s : qS}  {f : qS → Prop} {g : Nat → qS → Prop}  (H : qW w 1 24 [.ref 4] s (qPV (fun s1 => qW w 1 19 [.ref 1, qI 2] (qset s1 3 3 0) (qPI (fun r2 s2 => Rg r2 ∧ (r2 < 1 → qR w 4 qm23 35 [(0, .ref 3), (1, qI r2)] [qI 0, .ref 1] s2 (qPV f g)) ∧ (1 ≤ r2 → qR w 4 qm23 35 [(0, .ref 3), (1, qI r2)] [qI 1, .ref 1] s2 (qPV f g))) g)) g)) : qW w 5 23 [.ref 3] s (qPV f g) := by
  refine qW.of (M := qm23) (l := [(0, .ref 3)]) qtm_23 rfl (Nat.le_of_ble_eq_true rfl) (zsub_c rfl zsub_n) ?_
  refine qS_aload_n qd_23_0 rfl ?_
  refine qS_getfield (v := .ref 4) qd_23_1 (qfl_2_20 w) (hpc_3 _ _) rfl ?_
  refine qS_cvV qd_23_4 (qml_2_32 w) rfl qtm_24 (hpc_4 _ _) (Nat.le_of_ble_eq_true rfl) rfl (Nat.le_of_ble_eq_true rfl) H (fun s1 H => ?_) (fun x s1 H => Or.inr ⟨x, rfl, H⟩)
  refine qS_aload_n qd_23_7 rfl ?_
  refine qS_iconst qd_23_8 ?_
  refine qS_putfield (s1 := qset s1 3 3 0) qd_23_9 (qfl_2_28 w) (hpc_3 _ _) (Nat.le_of_ble_eq_true rfl) rfl rfl rfl (hps_3_3 _ _ _) ?_
  refine qS_aload_n qd_23_12 rfl ?_
  refine qS_getfield (v := .ref 1) qd_23_13 (qfl_2_9 w) (hpc_3 _ _) rfl ?_
  refine qS_iconst qd_23_16 ?_
  refine qS_cvI qd_23_17 (qml_2_35 w) rfl qtm_19 (hpc_1 _ _) (Nat.le_of_ble_eq_true rfl) rfl (Nat.le_of_ble_eq_true rfl) H (fun r2 s2 H => ?_) (fun x s1 H => Or.inr ⟨x, rfl, H⟩)
  refine qS_istore_n (a := [(0, .ref 3)]) qd_23_20 (Nat.le_of_ble_eq_true rfl) (zsub_c rfl zsub_n) rfl ?_
  refine qS_aload_n qd_23_21 rfl ?_
  refine qS_getfield (v := .ref 1) qd_23_22 (qfl_2_9 w) (hpc_3 _ _) rfl ?_
  refine qS_iload_n qd_23_25 rfl ?_
  refine qS_iconst qd_23_26 ?_
  obtain ⟨h27a, H1, H2⟩ := H
  refine qS_icmp qd_23_27 rfl (zcnd_lt (a := r2) (b := 1) h27a ⟨by decide, by decide⟩ (fun t => qR w _ _ t _ _ _ _) (fun hc => ?_) (fun hc => ?_))
  · have H := H1 hc; clear H1 H2 hc
    refine qS_iconst qd_23_34 ?_
    exact qS_sub (zsub_c rfl (zsub_c rfl zsub_n)) H
  · have H := H2 hc; clear H1 H2 hc
    refine qS_iconst qd_23_30 ?_
    refine qS_goto qd_23_31 rfl ?_
    exact qS_sub (zsub_c rfl (zsub_c rfl zsub_n)) H
set_option maxRecDepth 100000 in
theorem k23_35 {w : qE} {s : qS} {v1 : Int} {k1 : Int} {f : qS → Prop} {g : Nat → qS → Prop}  (H : qW w 1 21 [.ref 1] s (qPI (fun r3 s3 => qW w 1 20 [.ref 1, qI k1, qI (r3 - 2)] s3 (qPV (fun s4 => qW w 3 25 [.ref 4, qI 0] s4 (qPI (fun r5 s5 => qR w 4 qm23 58 [(0, .ref 3), (1, qI v1), (2, qI 1)] [] s5 (qPV f g)) g)) g)) g)) : qR w 4 qm23 35 [(0, .ref 3), (1, qI v1)] [qI k1, .ref 1] s (qPV f g) := by
  refine qS_aload_n qd_23_35 rfl ?_
  refine qS_getfield (v := .ref 1) qd_23_36 (qfl_2_9 w) (hpc_3 _ _) rfl ?_
  refine qS_cvI qd_23_39 (qml_2_41 w) rfl qtm_21 (hpc_1 _ _) (Nat.le_of_ble_eq_true rfl) rfl (Nat.le_of_ble_eq_true rfl) H (fun r3 s3 H => ?_) (fun x s1 H => Or.inr ⟨x, rfl, H⟩)
  refine qS_iconst qd_23_42 ?_
  refine qS_isub (a := r3) (b := 2) qd_23_43 ?_
  refine qS_cvV qd_23_44 (qml_2_45 w) rfl qtm_20 (hpc_1 _ _) (Nat.le_of_ble_eq_true rfl) rfl (Nat.le_of_ble_eq_true rfl) H (fun s4 H => ?_) (fun x s1 H => Or.inr ⟨x, rfl, H⟩)
  refine qS_aload_n qd_23_47 rfl ?_
  refine qS_getfield (v := .ref 4) qd_23_48 (qfl_2_20 w) (hpc_3 _ _) rfl ?_
  refine qS_iconst qd_23_51 ?_
  refine qS_cvI qd_23_52 (qml_2_49 w) rfl qtm_25 (hpc_4 _ _) (Nat.le_of_ble_eq_true rfl) rfl (Nat.le_of_ble_eq_true rfl) H (fun r5 s5 H => ?_) (fun x s1 H => Or.inr ⟨x, rfl, H⟩)
  refine qS_pop qd_23_55 rfl ?_
  refine qS_iconst qd_23_56 ?_
  refine qS_istore_n (a := [(0, .ref 3), (1, qI v1)]) qd_23_57 (Nat.le_of_ble_eq_true rfl) (zsub_c rfl (zsub_c rfl zsub_n)) rfl ?_
  exact qS_sub (zsub_c rfl (zsub_c rfl (zsub_c rfl zsub_n))) H
set_option maxRecDepth 100000 in
theorem k23_58 {w : qE} {s : qS} {v1 : Int} {v2 : Int} {f : qS → Prop} {g : Nat → qS → Prop}  (H : Rg v2 ∧ Rg v1 ∧ (v2 < v1 → qW w 1 21 [.ref 1] s (qPI (fun r6 s6 => qW w 1 19 [.ref 1, qI 1] s6 (qPI (fun r7 s7 => Rg r7 ∧ (r7 = 5 → qR w 4 qm23 94 [(0, .ref 3), (1, qI v1), (2, qI v2), (3, qI r6), (4, qI r7)] [] s7 (qPV f g)) ∧ (r7 ≠ 5 → (r7 = 6 → qR w 4 qm23 94 [(0, .ref 3), (1, qI v1), (2, qI v2), (3, qI r6), (4, qI r7)] [] s7 (qPV f g)) ∧ (r7 ≠ 6 → qR w 4 qm23 99 [(0, .ref 3), (1, qI v1), (2, qI v2), (3, qI r6), (4, qI r7)] [qI 0] s7 (qPV f g)))) g)) g)) ∧ (v1 ≤ v2 → f s)) : qR w 4 qm23 58 [(0, .ref 3), (1, qI v1), (2, qI v2)] [] s (qPV f g) := by
  refine qS_iload_n qd_23_58 rfl ?_
  refine qS_iload_n qd_23_59 rfl ?_
  obtain ⟨h60a, h60b, H1, H2⟩ := H
  refine qS_icmp qd_23_60 rfl (zcnd_ge (a := v2) (b := v1) h60a h60b (fun t => qR w _ _ t _ _ _ _) (fun hc => ?_) (fun hc => ?_))
  · have H := H1 hc; clear H1 H2 hc
    refine qS_aload_n qd_23_63 rfl ?_
    refine qS_getfield (v := .ref 1) qd_23_64 (qfl_2_9 w) (hpc_3 _ _) rfl ?_
    refine qS_cvI qd_23_67 (qml_2_41 w) rfl qtm_21 (hpc_1 _ _) (Nat.le_of_ble_eq_true rfl) rfl (Nat.le_of_ble_eq_true rfl) H (fun r6 s6 H => ?_) (fun x s1 H => Or.inr ⟨x, rfl, H⟩)
    refine qS_istore_n (a := [(0, .ref 3), (1, qI v1), (2, qI v2)]) qd_23_70 (Nat.le_of_ble_eq_true rfl) (zsub_c rfl (zsub_c rfl (zsub_c rfl zsub_n))) rfl ?_
    refine qS_aload_n qd_23_71 rfl ?_
    refine qS_getfield (v := .ref 1) qd_23_72 (qfl_2_9 w) (hpc_3 _ _) rfl ?_
    refine qS_iconst qd_23_75 ?_
    refine qS_cvI qd_23_76 (qml_2_35 w) rfl qtm_19 (hpc_1 _ _) (Nat.le_of_ble_eq_true rfl) rfl (Nat.le_of_ble_eq_true rfl) H (fun r7 s7 H => ?_) (fun x s1 H => Or.inr ⟨x, rfl, H⟩)
    refine qS_istore (a := [(3, qI r6), (0, .ref 3), (1, qI v1), (2, qI v2)]) qd_23_79 (Nat.le_of_ble_eq_true rfl) (zsub_c rfl (zsub_c rfl (zsub_c rfl (zsub_c rfl zsub_n)))) rfl ?_
    refine qS_iload qd_23_81 rfl ?_
    refine qS_iconst qd_23_83 ?_
    obtain ⟨h84a, H1, H2⟩ := H
    refine qS_icmp qd_23_84 rfl (zcnd_eq (a := r7) (b := 5) h84a ⟨by decide, by decide⟩ (fun t => qR w _ _ t _ _ _ _) (fun hc => ?_) (fun hc => ?_))
    · have H := H1 hc; clear H1 H2 hc
      exact qS_sub (zsub_c rfl (zsub_c rfl (zsub_c rfl (zsub_c rfl (zsub_c rfl zsub_n))))) H
    · have H := H2 hc; clear H1 H2 hc
      refine qS_iload qd_23_87 rfl ?_
      refine qS_bipush qd_23_89 (by decide) ?_
      obtain ⟨H1, H2⟩ := H
      refine qS_icmp qd_23_91 rfl (zcnd_ne (a := r7) (b := 6) h84a ⟨by decide, by decide⟩ (fun t => qR w _ _ t _ _ _ _) (fun hc => ?_) (fun hc => ?_))
      · have H := H1 hc; clear H1 H2 hc
        exact qS_sub (zsub_c rfl (zsub_c rfl (zsub_c rfl (zsub_c rfl (zsub_c rfl zsub_n))))) H
      · have H := H2 hc; clear H1 H2 hc
        refine qS_iconst qd_23_98 ?_
        exact qS_sub (zsub_c rfl (zsub_c rfl (zsub_c rfl (zsub_c rfl (zsub_c rfl zsub_n))))) H
  · have H := H2 hc; clear H1 H2 hc
    exact qS_vreturn qd_23_165 rfl (Or.inl ⟨rfl, H⟩)
set_option maxRecDepth 100000 in
theorem k23_94 {w : qE} {s : qS} {v1 : Int} {v2 : Int} {v3 : Int} {v4 : Int} {f : qS → Prop} {g : Nat → qS → Prop}  (H : qR w 4 qm23 99 [(0, .ref 3), (1, qI v1), (2, qI v2), (3, qI v3), (4, qI v4)] [qI 1] s (qPV f g)) : qR w 4 qm23 94 [(0, .ref 3), (1, qI v1), (2, qI v2), (3, qI v3), (4, qI v4)] [] s (qPV f g) := by
  refine qS_iconst qd_23_94 ?_
  refine qS_goto qd_23_95 rfl ?_
  exact qS_sub (zsub_c rfl (zsub_c rfl (zsub_c rfl (zsub_c rfl (zsub_c rfl zsub_n))))) H
set_option maxRecDepth 100000 in
theorem k23_99 {w : qE} {s : qS} {v1 : Int} {v2 : Int} {v3 : Int} {v4 : Int} {k0 : Int} {f : qS → Prop} {g : Nat → qS → Prop}  (H : Rg k0 ∧ (k0 = 0 → qR w 4 qm23 117 [(0, .ref 3), (1, qI v1), (2, qI v2), (3, qI v3), (4, qI v4), (5, qI k0)] [.ref 1] s (qPV f g)) ∧ (k0 ≠ 0 → Rg (v2 + 1) ∧ Rg v1 ∧ (v2 + 1 < v1 → qR w 4 qm23 117 [(0, .ref 3), (1, qI v1), (2, qI v2), (3, qI v3), (4, qI v4), (5, qI k0)] [.ref 1] s (qPV f g)) ∧ (v1 ≤ v2 + 1 → qR w 4 qm23 122 [(0, .ref 3), (1, qI v1), (2, qI v2), (3, qI v3), (4, qI v4), (5, qI k0)] [qI 0, .ref 1] s (qPV f g)))) : qR w 4 qm23 99 [(0, .ref 3), (1, qI v1), (2, qI v2), (3, qI v3), (4, qI v4)] [qI k0] s (qPV f g) := by
  refine qS_istore (a := [(0, .ref 3), (1, qI v1), (2, qI v2), (3, qI v3), (4, qI v4)]) qd_23_99 (Nat.le_of_ble_eq_true rfl) (zsub_c rfl (zsub_c rfl (zsub_c rfl (zsub_c rfl (zsub_c rfl zsub_n))))) rfl ?_
  refine qS_aload_n qd_23_101 rfl ?_
  refine qS_getfield (v := .ref 1) qd_23_102 (qfl_2_9 w) (hpc_3 _ _) rfl ?_
  refine qS_iload qd_23_105 rfl ?_
  obtain ⟨h107a, H1, H2⟩ := H
  refine qS_if0 qd_23_107 rfl (zcnd_eq (a := k0) (b := 0) h107a ⟨by decide, by decide⟩ (fun t => qR w _ _ t _ _ _ _) (fun hc => ?_) (fun hc => ?_))
  · have H := H1 hc; clear H1 H2 hc
    exact qS_sub (zsub_c rfl (zsub_c rfl (zsub_c rfl (zsub_c rfl (zsub_c rfl (zsub_c rfl zsub_n)))))) H
  · have H := H2 hc; clear H1 H2 hc
    refine qS_iload_n qd_23_110 rfl ?_
    refine qS_iconst qd_23_111 ?_
    refine qS_iadd (a := v2) (b := 1) qd_23_112 ?_
    refine qS_iload_n qd_23_113 rfl ?_
    obtain ⟨h114a, h114b, H1, H2⟩ := H
    refine qS_icmp qd_23_114 rfl (zcnd_ge (a := v2 + 1) (b := v1) h114a h114b (fun t => qR w _ _ t _ _ _ _) (fun hc => ?_) (fun hc => ?_))
    · have H := H1 hc; clear H1 H2 hc
      exact qS_sub (zsub_c rfl (zsub_c rfl (zsub_c rfl (zsub_c rfl (zsub_c rfl (zsub_c rfl zsub_n)))))) H
    · have H := H2 hc; clear H1 H2 hc
      refine qS_iconst qd_23_121 ?_
      exact qS_sub (zsub_c rfl (zsub_c rfl (zsub_c rfl (zsub_c rfl (zsub_c rfl (zsub_c rfl zsub_n)))))) H
set_option maxRecDepth 100000 in
theorem k23_117 {w : qE} {s : qS} {v1 : Int} {v2 : Int} {v3 : Int} {v4 : Int} {v5 : Int} {f : qS → Prop} {g : Nat → qS → Prop}  (H : qR w 4 qm23 122 [(0, .ref 3), (1, qI v1), (2, qI v2), (3, qI v3), (4, qI v4), (5, qI v5)] [qI 1, .ref 1] s (qPV f g)) : qR w 4 qm23 117 [(0, .ref 3), (1, qI v1), (2, qI v2), (3, qI v3), (4, qI v4), (5, qI v5)] [.ref 1] s (qPV f g) := by
  refine qS_iconst qd_23_117 ?_
  refine qS_goto qd_23_118 rfl ?_
  exact qS_sub (zsub_c rfl (zsub_c rfl (zsub_c rfl (zsub_c rfl (zsub_c rfl (zsub_c rfl zsub_n)))))) H
set_option maxRecDepth 100000 in
theorem k23_122 {w : qE} {s : qS} {v1 : Int} {v2 : Int} {v3 : Int} {v4 : Int} {v5 : Int} {k1 : Int} {f : qS → Prop} {g : Nat → qS → Prop}  (H : qW w 1 20 [.ref 1, qI k1, qI v3] s (qPV (fun s8 => qW w 3 25 [.ref 4, qI v4] s8 (qPI (fun r9 s9 => qW w 4 26 [.ref 3, qI r9, qI v4, qI v3] s9 (qPV (fun s10 => Rg v5 ∧ (v5 = 0 → qR w 4 qm23 159 [(0, .ref 3), (1, qI v1), (2, qI v2)] [] s10 (qPV f g)) ∧ (v5 ≠ 0 → qW w 3 25 [.ref 4, qI 0] s10 (qPI (fun r11 s11 => qR w 4 qm23 159 [(0, .ref 3), (1, qI v1), (2, qI (v2 + 1))] [] s11 (qPV f g)) g))) g)) g)) g)) : qR w 4 qm23 122 [(0, .ref 3), (1, qI v1), (2, qI v2), (3, qI v3), (4, qI v4), (5, qI v5)] [qI k1, .ref 1] s (qPV f g) := by
  refine qS_iload_n qd_23_122 rfl ?_
  refine qS_cvV qd_23_123 (qml_2_45 w) rfl qtm_20 (hpc_1 _ _) (Nat.le_of_ble_eq_true rfl) rfl (Nat.le_of_ble_eq_true rfl) H (fun s8 H => ?_) (fun x s1 H => Or.inr ⟨x, rfl, H⟩)
  refine qS_aload_n qd_23_126 rfl ?_
  refine qS_aload_n qd_23_127 rfl ?_
  refine qS_getfield (v := .ref 4) qd_23_128 (qfl_2_20 w) (hpc_3 _ _) rfl ?_
  refine qS_iload qd_23_131 rfl ?_
  refine qS_cvI qd_23_133 (qml_2_49 w) rfl qtm_25 (hpc_4 _ _) (Nat.le_of_ble_eq_true rfl) rfl (Nat.le_of_ble_eq_true rfl) H (fun r9 s9 H => ?_) (fun x s1 H => Or.inr ⟨x, rfl, H⟩)
  refine qS_iload qd_23_136 rfl ?_
  refine qS_iload_n qd_23_138 rfl ?_
  refine qS_cvV qd_23_139 (qml_2_52 w) rfl qtm_26 (hpc_3 _ _) (Nat.le_of_ble_eq_true rfl) rfl (Nat.le_of_ble_eq_true rfl) H (fun s10 H => ?_) (fun x s1 H => Or.inr ⟨x, rfl, H⟩)
  refine qS_iload qd_23_142 rfl ?_
  obtain ⟨h144a, H1, H2⟩ := H
  refine qS_if0 qd_23_144 rfl (zcnd_eq (a := v5) (b := 0) h144a ⟨by decide, by decide⟩ (fun t => qR w _ _ t _ _ _ _) (fun hc => ?_) (fun hc => ?_))
  · have H := H1 hc; clear H1 H2 hc
    exact qS_sub (zsub_c rfl (zsub_c rfl (zsub_c rfl zsub_n))) H
  · have H := H2 hc; clear H1 H2 hc
    refine qS_iinc (v := v2) (a := [(0, .ref 3), (1, qI v1)]) qd_23_147 (Nat.le_of_ble_eq_true rfl) rfl (zsub_c rfl (zsub_c rfl zsub_n)) rfl ?_
    refine qS_aload_n qd_23_150 rfl ?_
    refine qS_getfield (v := .ref 4) qd_23_151 (qfl_2_20 w) (hpc_3 _ _) rfl ?_
    refine qS_iconst qd_23_154 ?_
    refine qS_cvI qd_23_155 (qml_2_49 w) rfl qtm_25 (hpc_4 _ _) (Nat.le_of_ble_eq_true rfl) rfl (Nat.le_of_ble_eq_true rfl) H (fun r11 s11 H => ?_) (fun x s1 H => Or.inr ⟨x, rfl, H⟩)
    refine qS_pop qd_23_158 rfl ?_
    exact qS_sub (zsub_c rfl (zsub_c rfl (zsub_c rfl zsub_n))) H
set_option maxRecDepth 100000 in
theorem k23_159 {w : qE} {s : qS} {v1 : Int} {v2 : Int} {f : qS → Prop} {g : Nat → qS → Prop}  (H : qR w 4 qm23 58 [(0, .ref 3), (1, qI v1), (2, qI (v2 + 1))] [] s (qPV f g)) : qR w 4 qm23 159 [(0, .ref 3), (1, qI v1), (2, qI v2)] [] s (qPV f g) := by
  refine qS_iinc (v := v2) (a := [(0, .ref 3), (1, qI v1)]) qd_23_159 (Nat.le_of_ble_eq_true rfl) rfl (zsub_c rfl (zsub_c rfl zsub_n)) rfl ?_
  refine qS_goto qd_23_162 rfl ?_
  exact qS_sub (zsub_c rfl (zsub_c rfl (zsub_c rfl zsub_n))) H
set_option maxRecDepth 100000 in
theorem k24 {w : qE} {s : qS} {t : Nat} {f : qS → Prop} {g : Nat → qS → Prop} (ht : 0 < qwid t) (H : f (qset s t 2 0)) : qW w 1 24 [.ref t] s (qPV f g) := by
  refine qW.of (M := qm24) (l := [(0, .ref t)]) qtm_24 rfl (Nat.le_of_ble_eq_true rfl) (zsub_c rfl zsub_n) ?_
  refine qS_aload_n qd_24_0 rfl ?_
  refine qS_iconst qd_24_1 ?_
  refine qS_putfield (s1 := qset s t 2 0) qd_24_2 (qfl_3_19 w) (hp_tab _ _ t ht) (Nat.le_of_ble_eq_true rfl) rfl rfl rfl (hp_tset _ _ _ t ht) ?_
  exact qS_vreturn qd_24_5 rfl (Or.inl ⟨rfl, H⟩)
set_option maxRecDepth 100000 in
theorem k25 {w : qE} {s : qS} {t : Nat} {p0 : Int} {f : Int → qS → Prop} {g : Nat → qS → Prop} (ht : 0 < qwid t) (H : Rg (((s t 2) * (qwid t)) + (qwid t)) ∧ Rg ((qlen (t + 1) : Nat)) ∧ ((qlen (t + 1) : Nat) < ((s t 2) * (qwid t)) + (qwid t) → f ((-2)) s) ∧ (((s t 2) * (qwid t)) + (qwid t) ≤ (qlen (t + 1) : Nat) → qW w 2 203 [.ref (t + 1), qI ((s t 2) * (qwid t)), qI (((s t 2) * (qwid t)) + (qwid t)), qI 0] s (qPV (fun s1 => (0 ≤ (s t 2) * (qwid t) ∧ (s t 2) * (qwid t) < (qlen (t + 1) : Nat) ∧ (f (((qset (qset s1 (t + 1) ((s t 2) * (qwid t)) p0) t 2 (((qset s1 (t + 1) ((s t 2) * (qwid t)) p0) t 2) + 1)) t 2) - 1) (qset (qset s1 (t + 1) ((s t 2) * (qwid t)) p0) t 2 (((qset s1 (t + 1) ((s t 2) * (qwid t)) p0) t 2) + 1))))) g))) : qW w 3 25 [.ref t, qI p0] s (qPI f g) := by
  refine qW.of (M := qm25) (l := [(0, .ref t), (1, qI p0)]) qtm_25 rfl (Nat.le_of_ble_eq_true rfl) (zsub_c rfl (zsub_c rfl zsub_n)) ?_
  refine qS_aload_n qd_25_0 rfl ?_
  refine qS_getfield (v := qI (s t 2)) qd_25_1 (qfl_3_19 w) (hp_tab _ _ t ht) rfl ?_
  refine qS_aload_n qd_25_4 rfl ?_
  refine qS_getfield (v := qI (qwid t)) qd_25_5 (qfl_3_9 w) (hp_tab _ _ t ht) rfl ?_
  refine qS_imul (a := s t 2) (b := qwid t) qd_25_8 ?_
  refine qS_istore_n (a := [(0, .ref t), (1, qI p0)]) qd_25_9 (Nat.le_of_ble_eq_true rfl) (zsub_c rfl (zsub_c rfl zsub_n)) rfl ?_
  refine qS_iload_n qd_25_10 rfl ?_
  refine qS_aload_n qd_25_11 rfl ?_
  refine qS_getfield (v := qI (qwid t)) qd_25_12 (qfl_3_9 w) (hp_tab _ _ t ht) rfl ?_
  refine qS_iadd (a := (s t 2) * (qwid t)) (b := qwid t) qd_25_15 ?_
  refine qS_aload_n qd_25_16 rfl ?_
  refine qS_getfield (v := .ref (t + 1)) qd_25_17 (qfl_3_15 w) (hp_tab _ _ t ht) rfl ?_
  refine qS_alen (a := t + 1) qd_25_20 (qtab_len ht) ?_
  obtain ⟨h21a, h21b, H1, H2⟩ := H
  refine qS_icmp qd_25_21 rfl (zcnd_le (a := ((s t 2) * (qwid t)) + (qwid t)) (b := (qlen (t + 1) : Nat)) h21a h21b (fun t => qR w _ _ t _ _ _ _) (fun hc => ?_) (fun hc => ?_))
  · have H := H1 hc; clear H1 H2 hc
    refine qS_bipush qd_25_24 (by decide) ?_
    exact qS_ireturn qd_25_26 rfl (Or.inl ⟨_, rfl, H⟩)
  · have H := H2 hc; clear H1 H2 hc
    refine qS_aload_n qd_25_27 rfl ?_
    refine qS_getfield (v := .ref (t + 1)) qd_25_28 (qfl_3_15 w) (hp_tab _ _ t ht) rfl ?_
    refine qS_iload_n qd_25_31 rfl ?_
    refine qS_iload_n qd_25_32 rfl ?_
    refine qS_aload_n qd_25_33 rfl ?_
    refine qS_getfield (v := qI (qwid t)) qd_25_34 (qfl_3_9 w) (hp_tab _ _ t ht) rfl ?_
    refine qS_iadd (a := (s t 2) * (qwid t)) (b := qwid t) qd_25_37 ?_
    refine qS_iconst qd_25_38 ?_
    refine qS_csV qd_25_39 (qml_3_22 w) rfl (Nat.le_of_ble_eq_true rfl) rfl (Nat.le_of_ble_eq_true rfl) H (fun s1 H => ?_) (fun x s1 H => Or.inr ⟨x, rfl, H⟩)
    refine qS_aload_n qd_25_42 rfl ?_
    refine qS_getfield (v := .ref (t + 1)) qd_25_43 (qfl_3_15 w) (hp_tab _ _ t ht) rfl ?_
    refine qS_iload_n qd_25_46 rfl ?_
    refine qS_iload_n qd_25_47 rfl ?_
    obtain ⟨hl, hu, H⟩ := H
    refine qS_iastore (a := (t + 1)) (i := (s t 2) * (qwid t)) (v := p0) qd_25_48 (qtab_len ht) hl hu ?_
    refine qS_aload_n qd_25_49 rfl ?_
    refine qS_dup qd_25_50 rfl ?_
    refine qS_getfield (v := qI ((qset s1 (t + 1) ((s t 2) * (qwid t)) p0) t 2)) qd_25_51 (qfl_3_19 w) (hp_tab _ _ t ht) rfl ?_
    refine qS_iconst qd_25_54 ?_
    refine qS_iadd (a := (qset s1 (t + 1) ((s t 2) * (qwid t)) p0) t 2) (b := 1) qd_25_55 ?_
    refine qS_putfield (s1 := qset (qset s1 (t + 1) ((s t 2) * (qwid t)) p0) t 2 (((qset s1 (t + 1) ((s t 2) * (qwid t)) p0) t 2) + 1)) qd_25_56 (qfl_3_19 w) (hp_tab _ _ t ht) (Nat.le_of_ble_eq_true rfl) rfl rfl rfl (hp_tset _ _ _ t ht) ?_
    refine qS_aload_n qd_25_59 rfl ?_
    refine qS_getfield (v := qI ((qset (qset s1 (t + 1) ((s t 2) * (qwid t)) p0) t 2 (((qset s1 (t + 1) ((s t 2) * (qwid t)) p0) t 2) + 1)) t 2)) qd_25_60 (qfl_3_19 w) (hp_tab _ _ t ht) rfl ?_
    refine qS_iconst qd_25_63 ?_
    refine qS_isub (a := (qset (qset s1 (t + 1) ((s t 2) * (qwid t)) p0) t 2 (((qset s1 (t + 1) ((s t 2) * (qwid t)) p0) t 2) + 1)) t 2) (b := 1) qd_25_64 ?_
    exact qS_ireturn qd_25_65 rfl (Or.inl ⟨_, rfl, H⟩)
set_option maxRecDepth 100000 in
theorem k26 {w : qE} {s : qS} {p0 : Int} {p1 : Int} {p2 : Int} {f : qS → Prop} {g : Nat → qS → Prop}  (H : qW w 1 27 [.ref 4, qI p0, qI 3, qI p2] s (qPV (fun s1 => Rg p1 ∧ (p1 = 1 → qW w 3 28 [.ref 3, qI p0] s1 (qPV (fun s2 => qR w 3 qm26 183 [] [] s2 (qPV f g)) g)) ∧ ((p1 = 3 ∨ p1 = 4) → qW w 1 19 [.ref 1, qI 4] s1 (qPI (fun r3 s3 => qW w 1 27 [.ref 4, qI p0, qI 1, qI r3] s3 (qPV (fun s4 => qR w 3 qm26 183 [] [] s4 (qPV f g)) g)) g)) ∧ ((p1 = 5 ∨ p1 = 6) → qW w 2 32 [.ref 3, qI p0, qI 4, qI 4] s1 (qPV (fun s5 => qR w 3 qm26 183 [] [] s5 (qPV f g)) g)) ∧ ((p1 = 7 ∨ p1 = 8 ∨ p1 = 16) → qW w 1 19 [.ref 1, qI 2] s1 (qPI (fun r6 s6 => qW w 1 27 [.ref 4, qI p0, qI 1, qI r6] s6 (qPV (fun s7 => qR w 3 qm26 183 [] [] s7 (qPV f g)) g)) g)) ∧ ((p1 = 9 ∨ p1 = 10 ∨ p1 = 11 ∨ p1 = 12 ∨ p1 = 17 ∨ p1 = 18) → qW w 2 32 [.ref 3, qI p0, qI 2, qI 2] s1 (qPV (fun s8 => qR w 3 qm26 183 [] [] s8 (qPV f g)) g)) ∧ (p1 = 15 → qW w 2 32 [.ref 3, qI p0, qI 1, qI 2] s1 (qPV (fun s9 => qR w 3 qm26 183 [] [] s9 (qPV f g)) g)) ∧ (p1 ≠ 1 → p1 ≠ 3 → p1 ≠ 4 → p1 ≠ 5 → p1 ≠ 6 → p1 ≠ 7 → p1 ≠ 8 → p1 ≠ 9 → p1 ≠ 10 → p1 ≠ 11 → p1 ≠ 12 → p1 ≠ 15 → p1 ≠ 16 → p1 ≠ 17 → p1 ≠ 18 → qW w 1 20 [.ref 1, qI 0, qI p2] s1 (qPV (fun s10 => qR w 3 qm26 183 [] [] s10 (qPV f g)) g))) g)) : qW w 4 26 [.ref 3, qI p0, qI p1, qI p2] s (qPV f g) := by
  refine qW.of (M := qm26) (l := [(0, .ref 3), (1, qI p0), (2, qI p1), (3, qI p2)]) qtm_26 rfl (Nat.le_of_ble_eq_true rfl) (zsub_c rfl (zsub_c rfl (zsub_c rfl (zsub_c rfl zsub_n)))) ?_
  refine qS_aload_n qd_26_0 rfl ?_
  refine qS_getfield (v := .ref 4) qd_26_1 (qfl_2_20 w) (hpc_3 _ _) rfl ?_
  refine qS_iload_n qd_26_4 rfl ?_
  refine qS_iconst qd_26_5 ?_
  refine qS_iload_n qd_26_6 rfl ?_
  refine qS_cvV qd_26_7 (qml_2_56 w) rfl qtm_27 (hpc_4 _ _) (Nat.le_of_ble_eq_true rfl) rfl (Nat.le_of_ble_eq_true rfl) H (fun s1 H => ?_) (fun x s1 H => Or.inr ⟨x, rfl, H⟩)
  refine qS_iload_n qd_26_10 rfl ?_
  obtain ⟨h11a, H1, H2, H3, H4, H5, H6, Hd⟩ := H
  by_cases hc0 : p1 = 1
  · refine qS_tsw qd_26_11 (t := 96) h11a (by rw [hc0]; rfl) ?_
    have H := H1 hc0
    refine qS_aload_n qd_26_96 rfl ?_
    refine qS_iload_n qd_26_97 rfl ?_
    refine qS_cvV qd_26_98 (qml_2_59 w) rfl qtm_28 (hpc_3 _ _) (Nat.le_of_ble_eq_true rfl) rfl (Nat.le_of_ble_eq_true rfl) H (fun s2 H => ?_) (fun x s1 H => Or.inr ⟨x, rfl, H⟩)
    refine qS_goto qd_26_101 rfl ?_
    exact qS_sub zsub_n H
  by_cases hc1 : p1 = 3 ∨ p1 = 4
  · refine qS_tsw qd_26_11 (t := 104) h11a (by rcases hc1 with hq | hq <;> (rw [hq]; rfl)) ?_
    have H := H2 hc1
    refine qS_aload_n qd_26_104 rfl ?_
    refine qS_getfield (v := .ref 4) qd_26_105 (qfl_2_20 w) (hpc_3 _ _) rfl ?_
    refine qS_iload_n qd_26_108 rfl ?_
    refine qS_iconst qd_26_109 ?_
    refine qS_aload_n qd_26_110 rfl ?_
    refine qS_getfield (v := .ref 1) qd_26_111 (qfl_2_9 w) (hpc_3 _ _) rfl ?_
    refine qS_iconst qd_26_114 ?_
    refine qS_cvI qd_26_115 (qml_2_35 w) rfl qtm_19 (hpc_1 _ _) (Nat.le_of_ble_eq_true rfl) rfl (Nat.le_of_ble_eq_true rfl) H (fun r3 s3 H => ?_) (fun x s1 H => Or.inr ⟨x, rfl, H⟩)
    refine qS_cvV qd_26_118 (qml_2_56 w) rfl qtm_27 (hpc_4 _ _) (Nat.le_of_ble_eq_true rfl) rfl (Nat.le_of_ble_eq_true rfl) H (fun s4 H => ?_) (fun x s1 H => Or.inr ⟨x, rfl, H⟩)
    refine qS_goto qd_26_121 rfl ?_
    exact qS_sub zsub_n H
  by_cases hc2 : p1 = 5 ∨ p1 = 6
  · refine qS_tsw qd_26_11 (t := 124) h11a (by rcases hc2 with hq | hq <;> (rw [hq]; rfl)) ?_
    have H := H3 hc2
    refine qS_aload_n qd_26_124 rfl ?_
    refine qS_iload_n qd_26_125 rfl ?_
    refine qS_iconst qd_26_126 ?_
    refine qS_iconst qd_26_127 ?_
    refine qS_cvV qd_26_128 (qml_2_63 w) rfl qtm_32 (hpc_3 _ _) (Nat.le_of_ble_eq_true rfl) rfl (Nat.le_of_ble_eq_true rfl) H (fun s5 H => ?_) (fun x s1 H => Or.inr ⟨x, rfl, H⟩)
    refine qS_goto qd_26_131 rfl ?_
    exact qS_sub zsub_n H
  by_cases hc3 : p1 = 7 ∨ p1 = 8 ∨ p1 = 16
  · refine qS_tsw qd_26_11 (t := 134) h11a (by rcases hc3 with hq | hq | hq <;> (rw [hq]; rfl)) ?_
    have H := H4 hc3
    refine qS_aload_n qd_26_134 rfl ?_
    refine qS_getfield (v := .ref 4) qd_26_135 (qfl_2_20 w) (hpc_3 _ _) rfl ?_
    refine qS_iload_n qd_26_138 rfl ?_
    refine qS_iconst qd_26_139 ?_
    refine qS_aload_n qd_26_140 rfl ?_
    refine qS_getfield (v := .ref 1) qd_26_141 (qfl_2_9 w) (hpc_3 _ _) rfl ?_
    refine qS_iconst qd_26_144 ?_
    refine qS_cvI qd_26_145 (qml_2_35 w) rfl qtm_19 (hpc_1 _ _) (Nat.le_of_ble_eq_true rfl) rfl (Nat.le_of_ble_eq_true rfl) H (fun r6 s6 H => ?_) (fun x s1 H => Or.inr ⟨x, rfl, H⟩)
    refine qS_cvV qd_26_148 (qml_2_56 w) rfl qtm_27 (hpc_4 _ _) (Nat.le_of_ble_eq_true rfl) rfl (Nat.le_of_ble_eq_true rfl) H (fun s7 H => ?_) (fun x s1 H => Or.inr ⟨x, rfl, H⟩)
    refine qS_goto qd_26_151 rfl ?_
    exact qS_sub zsub_n H
  by_cases hc4 : p1 = 9 ∨ p1 = 10 ∨ p1 = 11 ∨ p1 = 12 ∨ p1 = 17 ∨ p1 = 18
  · refine qS_tsw qd_26_11 (t := 154) h11a (by rcases hc4 with hq | hq | hq | hq | hq | hq <;> (rw [hq]; rfl)) ?_
    have H := H5 hc4
    refine qS_aload_n qd_26_154 rfl ?_
    refine qS_iload_n qd_26_155 rfl ?_
    refine qS_iconst qd_26_156 ?_
    refine qS_iconst qd_26_157 ?_
    refine qS_cvV qd_26_158 (qml_2_63 w) rfl qtm_32 (hpc_3 _ _) (Nat.le_of_ble_eq_true rfl) rfl (Nat.le_of_ble_eq_true rfl) H (fun s8 H => ?_) (fun x s1 H => Or.inr ⟨x, rfl, H⟩)
    refine qS_goto qd_26_161 rfl ?_
    exact qS_sub zsub_n H
  by_cases hc5 : p1 = 15
  · refine qS_tsw qd_26_11 (t := 164) h11a (by rw [hc5]; rfl) ?_
    have H := H6 hc5
    refine qS_aload_n qd_26_164 rfl ?_
    refine qS_iload_n qd_26_165 rfl ?_
    refine qS_iconst qd_26_166 ?_
    refine qS_iconst qd_26_167 ?_
    refine qS_cvV qd_26_168 (qml_2_63 w) rfl qtm_32 (hpc_3 _ _) (Nat.le_of_ble_eq_true rfl) rfl (Nat.le_of_ble_eq_true rfl) H (fun s9 H => ?_) (fun x s1 H => Or.inr ⟨x, rfl, H⟩)
    refine qS_goto qd_26_171 rfl ?_
    exact qS_sub zsub_n H
  refine qS_tsw qd_26_11 (t := 174) h11a (by
    by_cases hz : p1 < 1 ∨ 18 < p1
    · unfold ztsw; rw [if_pos hz]; rfl
    · have hz2 : p1 = 2 ∨ p1 = 13 ∨ p1 = 14 := by omega
      rcases hz2 with hq | hq | hq <;> (rw [hq]; rfl)) ?_
  have H := Hd (by omega) (by omega) (by omega) (by omega) (by omega) (by omega) (by omega) (by omega) (by omega) (by omega) (by omega) (by omega) (by omega) (by omega) (by omega)
  refine qS_aload_n qd_26_174 rfl ?_
  refine qS_getfield (v := .ref 1) qd_26_175 (qfl_2_9 w) (hpc_3 _ _) rfl ?_
  refine qS_iconst qd_26_178 ?_
  refine qS_iload_n qd_26_179 rfl ?_
  refine qS_cvV qd_26_180 (qml_2_45 w) rfl qtm_20 (hpc_1 _ _) (Nat.le_of_ble_eq_true rfl) rfl (Nat.le_of_ble_eq_true rfl) H (fun s10 H => ?_) (fun x s1 H => Or.inr ⟨x, rfl, H⟩)
  exact qS_sub zsub_n H
set_option maxRecDepth 100000 in
theorem k26_183 {w : qE} {s : qS}  {f : qS → Prop} {g : Nat → qS → Prop}  (H : f s) : qR w 3 qm26 183 [] [] s (qPV f g) := by
  exact qS_vreturn qd_26_183 rfl (Or.inl ⟨rfl, H⟩)
set_option maxRecDepth 100000 in
theorem k27 {w : qE} {s : qS} {t : Nat} {p0 : Int} {p1 : Int} {p2 : Int} {f : qS → Prop} {g : Nat → qS → Prop} (ht : 0 < qwid t) (H : Rg p0 ∧ (p0 < 0 → qR w 0 qm27 38 [] [] s (qPV f g)) ∧ (0 ≤ p0 → Rg (s t 2) ∧ (p0 < s t 2 → Rg p1 ∧ (p1 < 0 → qR w 0 qm27 38 [] [] s (qPV f g)) ∧ (0 ≤ p1 → Rg (qwid t) ∧ (p1 < qwid t → (0 ≤ (p0 * (qwid t)) + p1 ∧ (p0 * (qwid t)) + p1 < (qlen (t + 1) : Nat) ∧ (qR w 0 qm27 38 [] [] (qset s (t + 1) ((p0 * (qwid t)) + p1) p2) (qPV f g)))) ∧ (qwid t ≤ p1 → qR w 0 qm27 38 [] [] s (qPV f g)))) ∧ (s t 2 ≤ p0 → qR w 0 qm27 38 [] [] s (qPV f g)))) : qW w 1 27 [.ref t, qI p0, qI p1, qI p2] s (qPV f g) := by
  refine qW.of (M := qm27) (l := [(0, .ref t), (1, qI p0), (2, qI p1), (3, qI p2)]) qtm_27 rfl (Nat.le_of_ble_eq_true rfl) (zsub_c rfl (zsub_c rfl (zsub_c rfl (zsub_c rfl zsub_n)))) ?_
  refine qS_iload_n qd_27_0 rfl ?_
  obtain ⟨h1a, H1, H2⟩ := H
  refine qS_if0 qd_27_1 rfl (zcnd_lt (a := p0) (b := 0) h1a ⟨by decide, by decide⟩ (fun t => qR w _ _ t _ _ _ _) (fun hc => ?_) (fun hc => ?_))
  · have H := H1 hc; clear H1 H2 hc
    exact qS_sub zsub_n H
  · have H := H2 hc; clear H1 H2 hc
    refine qS_iload_n qd_27_4 rfl ?_
    refine qS_aload_n qd_27_5 rfl ?_
    refine qS_getfield (v := qI (s t 2)) qd_27_6 (qfl_3_19 w) (hp_tab _ _ t ht) rfl ?_
    obtain ⟨h9b, H1, H2⟩ := H
    refine qS_icmp qd_27_9 rfl (zcnd_ge (a := p0) (b := s t 2) h1a h9b (fun t => qR w _ _ t _ _ _ _) (fun hc => ?_) (fun hc => ?_))
    · have H := H1 hc; clear H1 H2 hc
      refine qS_iload_n qd_27_12 rfl ?_
      obtain ⟨h13a, H1, H2⟩ := H
      refine qS_if0 qd_27_13 rfl (zcnd_lt (a := p1) (b := 0) h13a ⟨by decide, by decide⟩ (fun t => qR w _ _ t _ _ _ _) (fun hc => ?_) (fun hc => ?_))
      · have H := H1 hc; clear H1 H2 hc
        exact qS_sub zsub_n H
      · have H := H2 hc; clear H1 H2 hc
        refine qS_iload_n qd_27_16 rfl ?_
        refine qS_aload_n qd_27_17 rfl ?_
        refine qS_getfield (v := qI (qwid t)) qd_27_18 (qfl_3_9 w) (hp_tab _ _ t ht) rfl ?_
        obtain ⟨h21b, H1, H2⟩ := H
        refine qS_icmp qd_27_21 rfl (zcnd_ge (a := p1) (b := qwid t) h13a h21b (fun t => qR w _ _ t _ _ _ _) (fun hc => ?_) (fun hc => ?_))
        · have H := H1 hc; clear H1 H2 hc
          refine qS_aload_n qd_27_24 rfl ?_
          refine qS_getfield (v := .ref (t + 1)) qd_27_25 (qfl_3_15 w) (hp_tab _ _ t ht) rfl ?_
          refine qS_iload_n qd_27_28 rfl ?_
          refine qS_aload_n qd_27_29 rfl ?_
          refine qS_getfield (v := qI (qwid t)) qd_27_30 (qfl_3_9 w) (hp_tab _ _ t ht) rfl ?_
          refine qS_imul (a := p0) (b := qwid t) qd_27_33 ?_
          refine qS_iload_n qd_27_34 rfl ?_
          refine qS_iadd (a := p0 * (qwid t)) (b := p1) qd_27_35 ?_
          refine qS_iload_n qd_27_36 rfl ?_
          obtain ⟨hl, hu, H⟩ := H
          refine qS_iastore (a := (t + 1)) (i := (p0 * (qwid t)) + p1) (v := p2) qd_27_37 (qtab_len ht) hl hu ?_
          exact qS_sub zsub_n H
        · have H := H2 hc; clear H1 H2 hc
          exact qS_sub zsub_n H
    · have H := H2 hc; clear H1 H2 hc
      exact qS_sub zsub_n H
set_option maxRecDepth 100000 in
theorem k27_38 {w : qE} {s : qS}  {f : qS → Prop} {g : Nat → qS → Prop}  (H : f s) : qR w 0 qm27 38 [] [] s (qPV f g) := by
  exact qS_vreturn qd_27_38 rfl (Or.inl ⟨rfl, H⟩)
set_option maxRecDepth 100000 in
theorem k28 {w : qE} {s : qS} {p0 : Int} {f : qS → Prop} {g : Nat → qS → Prop}  (H : qW w 1 19 [.ref 1, qI 2] s (qPI (fun r1 s1 => qW w 1 29 [.ref 1, qI r1] s1 (qPV (fun s2 => qW w 1 21 [.ref 1] s2 (qPI (fun r3 s3 => qR w 2 qm28 36 [(0, .ref 3), (1, qI p0), (2, qI r1), (3, qI (r3 + r1)), (4, qI (s3 3 3)), (5, qI 0)] [] s3 (qPV f g)) g)) g)) g)) : qW w 3 28 [.ref 3, qI p0] s (qPV f g) := by
  refine qW.of (M := qm28) (l := [(0, .ref 3), (1, qI p0)]) qtm_28 rfl (Nat.le_of_ble_eq_true rfl) (zsub_c rfl (zsub_c rfl zsub_n)) ?_
  refine qS_aload_n qd_28_0 rfl ?_
  refine qS_getfield (v := .ref 1) qd_28_1 (qfl_2_9 w) (hpc_3 _ _) rfl ?_
  refine qS_iconst qd_28_4 ?_
  refine qS_cvI qd_28_5 (qml_2_35 w) rfl qtm_19 (hpc_1 _ _) (Nat.le_of_ble_eq_true rfl) rfl (Nat.le_of_ble_eq_true rfl) H (fun r1 s1 H => ?_) (fun x s1 H => Or.inr ⟨x, rfl, H⟩)
  refine qS_istore_n (a := [(0, .ref 3), (1, qI p0)]) qd_28_8 (Nat.le_of_ble_eq_true rfl) (zsub_c rfl (zsub_c rfl zsub_n)) rfl ?_
  refine qS_aload_n qd_28_9 rfl ?_
  refine qS_getfield (v := .ref 1) qd_28_10 (qfl_2_9 w) (hpc_3 _ _) rfl ?_
  refine qS_iload_n qd_28_13 rfl ?_
  refine qS_cvV qd_28_14 (qml_2_66 w) rfl qtm_29 (hpc_1 _ _) (Nat.le_of_ble_eq_true rfl) rfl (Nat.le_of_ble_eq_true rfl) H (fun s2 H => ?_) (fun x s1 H => Or.inr ⟨x, rfl, H⟩)
  refine qS_aload_n qd_28_17 rfl ?_
  refine qS_getfield (v := .ref 1) qd_28_18 (qfl_2_9 w) (hpc_3 _ _) rfl ?_
  refine qS_cvI qd_28_21 (qml_2_41 w) rfl qtm_21 (hpc_1 _ _) (Nat.le_of_ble_eq_true rfl) rfl (Nat.le_of_ble_eq_true rfl) H (fun r3 s3 H => ?_) (fun x s1 H => Or.inr ⟨x, rfl, H⟩)
  refine qS_iload_n qd_28_24 rfl ?_
  refine qS_iadd (a := r3) (b := r1) qd_28_25 ?_
  refine qS_istore_n (a := [(2, qI r1), (0, .ref 3), (1, qI p0)]) qd_28_26 (Nat.le_of_ble_eq_true rfl) (zsub_c rfl (zsub_c rfl (zsub_c rfl zsub_n))) rfl ?_
  refine qS_aload_n qd_28_27 rfl ?_
  refine qS_getfield (v := qI (s3 3 3)) qd_28_28 (qfl_2_28 w) (hpc_3 _ _) rfl ?_
  refine qS_istore (a := [(3, qI (r3 + r1)), (2, qI r1), (0, .ref 3), (1, qI p0)]) qd_28_31 (Nat.le_of_ble_eq_true rfl) (zsub_c rfl (zsub_c rfl (zsub_c rfl (zsub_c rfl zsub_n)))) rfl ?_
  refine qS_iconst qd_28_33 ?_
  refine qS_istore (a := [(4, qI (s3 3 3)), (3, qI (r3 + r1)), (2, qI r1), (0, .ref 3), (1, qI p0)]) qd_28_34 (Nat.le_of_ble_eq_true rfl) (zsub_c rfl (zsub_c rfl (zsub_c rfl (zsub_c rfl (zsub_c rfl zsub_n))))) rfl ?_
  exact qS_sub (zsub_c rfl (zsub_c rfl (zsub_c rfl (zsub_c rfl (zsub_c rfl (zsub_c rfl zsub_n)))))) H
set_option maxRecDepth 100000 in
theorem k28_36 {w : qE} {s : qS} {v1 : Int} {v2 : Int} {v3 : Int} {v4 : Int} {v5 : Int} {f : qS → Prop} {g : Nat → qS → Prop}  (H : Rg v5 ∧ Rg v2 ∧ (v5 < v2 → qW w 1 21 [.ref 1] s (qPI (fun r4 s4 => Rg r4 ∧ Rg v3 ∧ (r4 < v3 → qW w 2 30 [.ref 3, qI v3] s4 (qPV (fun s5 => qR w 2 qm28 36 [(0, .ref 3), (1, qI v1), (2, qI v2), (3, qI v3), (4, qI v4), (5, qI (v5 + 1))] [] s5 (qPV f g)) g)) ∧ (v3 ≤ r4 → qR w 2 qm28 64 [(0, .ref 3), (1, qI v1), (4, qI v4)] [] s4 (qPV f g))) g)) ∧ (v2 ≤ v5 → qR w 2 qm28 64 [(0, .ref 3), (1, qI v1), (4, qI v4)] [] s (qPV f g))) : qR w 2 qm28 36 [(0, .ref 3), (1, qI v1), (2, qI v2), (3, qI v3), (4, qI v4), (5, qI v5)] [] s (qPV f g) := by
  refine qS_iload qd_28_36 rfl ?_
  refine qS_iload_n qd_28_38 rfl ?_
  obtain ⟨h39a, h39b, H1, H2⟩ := H
  refine qS_icmp qd_28_39 rfl (zcnd_ge (a := v5) (b := v2) h39a h39b (fun t => qR w _ _ t _ _ _ _) (fun hc => ?_) (fun hc => ?_))
  · have H := H1 hc; clear H1 H2 hc
    refine qS_aload_n qd_28_42 rfl ?_
    refine qS_getfield (v := .ref 1) qd_28_43 (qfl_2_9 w) (hpc_3 _ _) rfl ?_
    refine qS_cvI qd_28_46 (qml_2_41 w) rfl qtm_21 (hpc_1 _ _) (Nat.le_of_ble_eq_true rfl) rfl (Nat.le_of_ble_eq_true rfl) H (fun r4 s4 H => ?_) (fun x s1 H => Or.inr ⟨x, rfl, H⟩)
    refine qS_iload_n qd_28_49 rfl ?_
    obtain ⟨h50a, h50b, H1, H2⟩ := H
    refine qS_icmp qd_28_50 rfl (zcnd_ge (a := r4) (b := v3) h50a h50b (fun t => qR w _ _ t _ _ _ _) (fun hc => ?_) (fun hc => ?_))
    · have H := H1 hc; clear H1 H2 hc
      refine qS_aload_n qd_28_53 rfl ?_
      refine qS_iload_n qd_28_54 rfl ?_
      refine qS_cvV qd_28_55 (qml_2_69 w) rfl qtm_30 (hpc_3 _ _) (Nat.le_of_ble_eq_true rfl) rfl (Nat.le_of_ble_eq_true rfl) H (fun s5 H => ?_) (fun x s1 H => Or.inr ⟨x, rfl, H⟩)
      refine qS_iinc (v := v5) (a := [(0, .ref 3), (1, qI v1), (2, qI v2), (3, qI v3), (4, qI v4)]) qd_28_58 (Nat.le_of_ble_eq_true rfl) rfl (zsub_c rfl (zsub_c rfl (zsub_c rfl (zsub_c rfl (zsub_c rfl zsub_n))))) rfl ?_
      refine qS_goto qd_28_61 rfl ?_
      exact qS_sub (zsub_c rfl (zsub_c rfl (zsub_c rfl (zsub_c rfl (zsub_c rfl (zsub_c rfl zsub_n)))))) H
    · have H := H2 hc; clear H1 H2 hc
      exact qS_sub (zsub_c rfl (zsub_c rfl (zsub_c rfl zsub_n))) H
  · have H := H2 hc; clear H1 H2 hc
    exact qS_sub (zsub_c rfl (zsub_c rfl (zsub_c rfl zsub_n))) H
set_option maxRecDepth 100000 in
theorem k28_64 {w : qE} {s : qS} {v1 : Int} {v4 : Int} {f : qS → Prop} {g : Nat → qS → Prop}  (H : qW w 1 27 [.ref 4, qI v1, qI 4, qI v4] s (qPV (fun s6 => qW w 1 27 [.ref 4, qI v1, qI 1, qI ((s6 3 3) - v4)] s6 (qPV (fun s7 => f s7) g)) g)) : qR w 2 qm28 64 [(0, .ref 3), (1, qI v1), (4, qI v4)] [] s (qPV f g) := by
  refine qS_aload_n qd_28_64 rfl ?_
  refine qS_getfield (v := .ref 4) qd_28_65 (qfl_2_20 w) (hpc_3 _ _) rfl ?_
  refine qS_iload_n qd_28_68 rfl ?_
  refine qS_iconst qd_28_69 ?_
  refine qS_iload qd_28_70 rfl ?_
  refine qS_cvV qd_28_72 (qml_2_56 w) rfl qtm_27 (hpc_4 _ _) (Nat.le_of_ble_eq_true rfl) rfl (Nat.le_of_ble_eq_true rfl) H (fun s6 H => ?_) (fun x s1 H => Or.inr ⟨x, rfl, H⟩)
  refine qS_aload_n qd_28_75 rfl ?_
  refine qS_getfield (v := .ref 4) qd_28_76 (qfl_2_20 w) (hpc_3 _ _) rfl ?_
  refine qS_iload_n qd_28_79 rfl ?_
  refine qS_iconst qd_28_80 ?_
  refine qS_aload_n qd_28_81 rfl ?_
  refine qS_getfield (v := qI (s6 3 3)) qd_28_82 (qfl_2_28 w) (hpc_3 _ _) rfl ?_
  refine qS_iload qd_28_85 rfl ?_
  refine qS_isub (a := s6 3 3) (b := v4) qd_28_87 ?_
  refine qS_cvV qd_28_88 (qml_2_56 w) rfl qtm_27 (hpc_4 _ _) (Nat.le_of_ble_eq_true rfl) rfl (Nat.le_of_ble_eq_true rfl) H (fun s7 H => ?_) (fun x s1 H => Or.inr ⟨x, rfl, H⟩)
  exact qS_vreturn qd_28_91 rfl (Or.inl ⟨rfl, H⟩)
set_option maxRecDepth 100000 in
theorem k29 {w : qE} {s : qS} {p0 : Int} {f : qS → Prop} {g : Nat → qS → Prop}  (H : Rg p0 ∧ (p0 < 0 → qR w 0 qm29 17 [(0, .ref 1)] [] s (qPV f g)) ∧ (0 ≤ p0 → Rg ((s 1 1) - (s 1 2)) ∧ ((s 1 1) - (s 1 2) < p0 → qR w 0 qm29 17 [(0, .ref 1)] [] s (qPV f g)) ∧ (p0 ≤ (s 1 1) - (s 1 2) → f s))) : qW w 1 29 [.ref 1, qI p0] s (qPV f g) := by
  refine qW.of (M := qm29) (l := [(0, .ref 1), (1, qI p0)]) qtm_29 rfl (Nat.le_of_ble_eq_true rfl) (zsub_c rfl (zsub_c rfl zsub_n)) ?_
  refine qS_iload_n qd_29_0 rfl ?_
  obtain ⟨h1a, H1, H2⟩ := H
  refine qS_if0 qd_29_1 rfl (zcnd_lt (a := p0) (b := 0) h1a ⟨by decide, by decide⟩ (fun t => qR w _ _ t _ _ _ _) (fun hc => ?_) (fun hc => ?_))
  · have H := H1 hc; clear H1 H2 hc
    exact qS_sub (zsub_c rfl zsub_n) H
  · have H := H2 hc; clear H1 H2 hc
    refine qS_iload_n qd_29_4 rfl ?_
    refine qS_aload_n qd_29_5 rfl ?_
    refine qS_getfield (v := qI (s 1 1)) qd_29_6 (qfl_1_15 w) (hpc_1 _ _) rfl ?_
    refine qS_aload_n qd_29_9 rfl ?_
    refine qS_getfield (v := qI (s 1 2)) qd_29_10 (qfl_1_19 w) (hpc_1 _ _) rfl ?_
    refine qS_isub (a := s 1 1) (b := s 1 2) qd_29_13 ?_
    obtain ⟨h14b, H1, H2⟩ := H
    refine qS_icmp qd_29_14 rfl (zcnd_le (a := p0) (b := (s 1 1) - (s 1 2)) h1a h14b (fun t => qR w _ _ t _ _ _ _) (fun hc => ?_) (fun hc => ?_))
    · have H := H1 hc; clear H1 H2 hc
      exact qS_sub (zsub_c rfl zsub_n) H
    · have H := H2 hc; clear H1 H2 hc
      exact qS_vreturn qd_29_33 rfl (Or.inl ⟨rfl, H⟩)
set_option maxRecDepth 100000 in
theorem k29_17 {w : qE} {s : qS}  {f : qS → Prop} {g : Nat → qS → Prop}  (H : g 0 (qset s 1 3 (s 1 1))) : qR w 0 qm29 17 [(0, .ref 1)] [] s (qPV f g) := by
  refine qS_aload_n qd_29_17 rfl ?_
  refine qS_aload_n qd_29_18 rfl ?_
  refine qS_getfield (v := qI (s 1 1)) qd_29_19 (qfl_1_15 w) (hpc_1 _ _) rfl ?_
  refine qS_putfield (s1 := qset s 1 3 (s 1 1)) qd_29_22 (qfl_1_22 w) (hpc_1 _ _) (Nat.le_of_ble_eq_true rfl) rfl rfl rfl (hps_1_3 _ _ _) ?_
  exact qS_throw qd_29_25 rfl (Or.inr ⟨_, rfl, H⟩)
set_option maxRecDepth 100000 in
theorem k30 {w : qE} {s : qS} {p0 : Int} {f : qS → Prop} {g : Nat → qS → Prop}  (H : qW w 1 21 [.ref 1] s (qPI (fun r1 s1 => qW w 1 19 [.ref 1, qI 1] s1 (qPI (fun r2 s2 => qW w 1 31 [qI r2] s2 (qPI (fun r3 s3 => Rg r3 ∧ (r3 < 0 → qR w 1 qm30 50 [(0, .ref 3), (2, qI r1), (3, qI r2), (4, qI r3)] [.ref 1] s3 (qPV f g)) ∧ (0 ≤ r3 → qW w 1 21 [.ref 1] s3 (qPI (fun r4 s4 => Rg (r4 + r3) ∧ Rg p0 ∧ (p0 < r4 + r3 → qR w 1 qm30 50 [(0, .ref 3), (2, qI r1), (3, qI r2), (4, qI r3)] [.ref 1] s4 (qPV f g)) ∧ (r4 + r3 ≤ p0 → qR w 1 qm30 51 [(0, .ref 3), (2, qI r1), (3, qI r2), (4, qI r3)] [qI 1, .ref 1] s4 (qPV f g))) g))) g)) g)) g)) : qW w 2 30 [.ref 3, qI p0] s (qPV f g) := by
  refine qW.of (M := qm30) (l := [(0, .ref 3), (1, qI p0)]) qtm_30 rfl (Nat.le_of_ble_eq_true rfl) (zsub_c rfl (zsub_c rfl zsub_n)) ?_
  refine qS_aload_n qd_30_0 rfl ?_
  refine qS_getfield (v := .ref 1) qd_30_1 (qfl_2_9 w) (hpc_3 _ _) rfl ?_
  refine qS_cvI qd_30_4 (qml_2_41 w) rfl qtm_21 (hpc_1 _ _) (Nat.le_of_ble_eq_true rfl) rfl (Nat.le_of_ble_eq_true rfl) H (fun r1 s1 H => ?_) (fun x s1 H => Or.inr ⟨x, rfl, H⟩)
  refine qS_istore_n (a := [(0, .ref 3), (1, qI p0)]) qd_30_7 (Nat.le_of_ble_eq_true rfl) (zsub_c rfl (zsub_c rfl zsub_n)) rfl ?_
  refine qS_aload_n qd_30_8 rfl ?_
  refine qS_getfield (v := .ref 1) qd_30_9 (qfl_2_9 w) (hpc_3 _ _) rfl ?_
  refine qS_iconst qd_30_12 ?_
  refine qS_cvI qd_30_13 (qml_2_35 w) rfl qtm_19 (hpc_1 _ _) (Nat.le_of_ble_eq_true rfl) rfl (Nat.le_of_ble_eq_true rfl) H (fun r2 s2 H => ?_) (fun x s1 H => Or.inr ⟨x, rfl, H⟩)
  refine qS_istore_n (a := [(2, qI r1), (0, .ref 3), (1, qI p0)]) qd_30_16 (Nat.le_of_ble_eq_true rfl) (zsub_c rfl (zsub_c rfl (zsub_c rfl zsub_n))) rfl ?_
  refine qS_iload_n qd_30_17 rfl ?_
  refine qS_csI qd_30_18 (qml_2_72 w) rfl (Nat.le_of_ble_eq_true rfl) rfl (Nat.le_of_ble_eq_true rfl) H (fun r3 s3 H => ?_) (fun x s1 H => Or.inr ⟨x, rfl, H⟩)
  refine qS_istore (a := [(3, qI r2), (2, qI r1), (0, .ref 3), (1, qI p0)]) qd_30_21 (Nat.le_of_ble_eq_true rfl) (zsub_c rfl (zsub_c rfl (zsub_c rfl (zsub_c rfl zsub_n)))) rfl ?_
  refine qS_aload_n qd_30_23 rfl ?_
  refine qS_getfield (v := .ref 1) qd_30_24 (qfl_2_9 w) (hpc_3 _ _) rfl ?_
  refine qS_iload qd_30_27 rfl ?_
  obtain ⟨h29a, H1, H2⟩ := H
  refine qS_if0 qd_30_29 rfl (zcnd_lt (a := r3) (b := 0) h29a ⟨by decide, by decide⟩ (fun t => qR w _ _ t _ _ _ _) (fun hc => ?_) (fun hc => ?_))
  · have H := H1 hc; clear H1 H2 hc
    exact qS_sub (zsub_c rfl (zsub_c rfl (zsub_c rfl (zsub_c rfl zsub_n)))) H
  · have H := H2 hc; clear H1 H2 hc
    refine qS_aload_n qd_30_32 rfl ?_
    refine qS_getfield (v := .ref 1) qd_30_33 (qfl_2_9 w) (hpc_3 _ _) rfl ?_
    refine qS_cvI qd_30_36 (qml_2_41 w) rfl qtm_21 (hpc_1 _ _) (Nat.le_of_ble_eq_true rfl) rfl (Nat.le_of_ble_eq_true rfl) H (fun r4 s4 H => ?_) (fun x s1 H => Or.inr ⟨x, rfl, H⟩)
    refine qS_iload qd_30_39 rfl ?_
    refine qS_iadd (a := r4) (b := r3) qd_30_41 ?_
    refine qS_iload_n qd_30_42 rfl ?_
    obtain ⟨h43a, h43b, H1, H2⟩ := H
    refine qS_icmp qd_30_43 rfl (zcnd_gt (a := r4 + r3) (b := p0) h43a h43b (fun t => qR w _ _ t _ _ _ _) (fun hc => ?_) (fun hc => ?_))
    · have H := H1 hc; clear H1 H2 hc
      exact qS_sub (zsub_c rfl (zsub_c rfl (zsub_c rfl (zsub_c rfl zsub_n)))) H
    · have H := H2 hc; clear H1 H2 hc
      refine qS_iconst qd_30_46 ?_
      refine qS_goto qd_30_47 rfl ?_
      exact qS_sub (zsub_c rfl (zsub_c rfl (zsub_c rfl (zsub_c rfl zsub_n)))) H
set_option maxRecDepth 100000 in
theorem k30_50 {w : qE} {s : qS} {v2 : Int} {v3 : Int} {v4 : Int} {f : qS → Prop} {g : Nat → qS → Prop}  (H : qR w 1 qm30 51 [(0, .ref 3), (2, qI v2), (3, qI v3), (4, qI v4)] [qI 0, .ref 1] s (qPV f g)) : qR w 1 qm30 50 [(0, .ref 3), (2, qI v2), (3, qI v3), (4, qI v4)] [.ref 1] s (qPV f g) := by
  refine qS_iconst qd_30_50 ?_
  exact qS_sub (zsub_c rfl (zsub_c rfl (zsub_c rfl (zsub_c rfl zsub_n)))) H
set_option maxRecDepth 100000 in
theorem k30_51 {w : qE} {s : qS} {v2 : Int} {v3 : Int} {v4 : Int} {k1 : Int} {f : qS → Prop} {g : Nat → qS → Prop}  (H : qW w 1 20 [.ref 1, qI k1, qI v2] s (qPV (fun s5 => Rg v4 ∧ (v4 = 0 → qR w 1 qm30 81 [(0, .ref 3), (2, qI v2), (4, qI v4)] [qI v3] s5 (qPV f g)) ∧ (v4 ≠ 0 → (v4 = 1 → qR w 1 qm30 81 [(0, .ref 3), (2, qI v2), (4, qI v4)] [qI (qand v3 31)] s5 (qPV f g)) ∧ (v4 ≠ 1 → qR w 1 qm30 81 [(0, .ref 3), (2, qI v2), (4, qI v4)] [qI (qand v3 15)] s5 (qPV f g)))) g)) : qR w 1 qm30 51 [(0, .ref 3), (2, qI v2), (3, qI v3), (4, qI v4)] [qI k1, .ref 1] s (qPV f g) := by
  refine qS_iload_n qd_30_51 rfl ?_
  refine qS_cvV qd_30_52 (qml_2_45 w) rfl qtm_20 (hpc_1 _ _) (Nat.le_of_ble_eq_true rfl) rfl (Nat.le_of_ble_eq_true rfl) H (fun s5 H => ?_) (fun x s1 H => Or.inr ⟨x, rfl, H⟩)
  refine qS_iload qd_30_55 rfl ?_
  obtain ⟨h57a, H1, H2⟩ := H
  refine qS_if0 qd_30_57 rfl (zcnd_ne (a := v4) (b := 0) h57a ⟨by decide, by decide⟩ (fun t => qR w _ _ t _ _ _ _) (fun hc => ?_) (fun hc => ?_))
  · have H := H1 hc; clear H1 H2 hc
    refine qS_iload_n qd_30_60 rfl ?_
    refine qS_goto qd_30_61 rfl ?_
    exact qS_sub (zsub_c rfl (zsub_c rfl (zsub_c rfl zsub_n))) H
  · have H := H2 hc; clear H1 H2 hc
    refine qS_iload qd_30_64 rfl ?_
    refine qS_iconst qd_30_66 ?_
    obtain ⟨H1, H2⟩ := H
    refine qS_icmp qd_30_67 rfl (zcnd_ne (a := v4) (b := 1) h57a ⟨by decide, by decide⟩ (fun t => qR w _ _ t _ _ _ _) (fun hc => ?_) (fun hc => ?_))
    · have H := H1 hc; clear H1 H2 hc
      refine qS_iload_n qd_30_70 rfl ?_
      refine qS_bipush qd_30_71 (by decide) ?_
      refine qS_iand (a := v3) (b := 31) qd_30_73 ?_
      refine qS_goto qd_30_74 rfl ?_
      exact qS_sub (zsub_c rfl (zsub_c rfl (zsub_c rfl zsub_n))) H
    · have H := H2 hc; clear H1 H2 hc
      refine qS_iload_n qd_30_77 rfl ?_
      refine qS_bipush qd_30_78 (by decide) ?_
      refine qS_iand (a := v3) (b := 15) qd_30_80 ?_
      exact qS_sub (zsub_c rfl (zsub_c rfl (zsub_c rfl zsub_n))) H
set_option maxRecDepth 100000 in
theorem k30_81 {w : qE} {s : qS} {v2 : Int} {v4 : Int} {k0 : Int} {f : qS → Prop} {g : Nat → qS → Prop}  (H : qR w 1 qm30 86 [(0, .ref 3), (2, qI v2), (4, qI v4), (5, qI k0), (6, qI 0)] [] s (qPV f g)) : qR w 1 qm30 81 [(0, .ref 3), (2, qI v2), (4, qI v4)] [qI k0] s (qPV f g) := by
  refine qS_istore (a := [(0, .ref 3), (2, qI v2), (4, qI v4)]) qd_30_81 (Nat.le_of_ble_eq_true rfl) (zsub_c rfl (zsub_c rfl (zsub_c rfl zsub_n))) rfl ?_
  refine qS_iconst qd_30_83 ?_
  refine qS_istore (a := [(5, qI k0), (0, .ref 3), (2, qI v2), (4, qI v4)]) qd_30_84 (Nat.le_of_ble_eq_true rfl) (zsub_c rfl (zsub_c rfl (zsub_c rfl (zsub_c rfl zsub_n)))) rfl ?_
  exact qS_sub (zsub_c rfl (zsub_c rfl (zsub_c rfl (zsub_c rfl (zsub_c rfl zsub_n))))) H
set_option maxRecDepth 100000 in
theorem k30_86 {w : qE} {s : qS} {v2 : Int} {v4 : Int} {v5 : Int} {v6 : Int} {f : qS → Prop} {g : Nat → qS → Prop}  (H : Rg v6 ∧ Rg v4 ∧ (v6 < v4 → qW w 1 19 [.ref 1, qI 1] s (qPI (fun r6 s6 => Rg r6 ∧ (r6 < 128 → qR w 1 qm30 127 [(0, .ref 3), (2, qI v2), (4, qI v4), (5, qI v5), (6, qI v6), (7, qI r6)] [.ref 1] s6 (qPV f g)) ∧ (128 ≤ r6 → (191 < r6 → qR w 1 qm30 127 [(0, .ref 3), (2, qI v2), (4, qI v4), (5, qI v5), (6, qI v6), (7, qI r6)] [.ref 1] s6 (qPV f g)) ∧ (r6 ≤ 191 → qR w 1 qm30 128 [(0, .ref 3), (2, qI v2), (4, qI v4), (5, qI v5), (6, qI v6), (7, qI r6)] [qI 1, .ref 1] s6 (qPV f g)))) g)) ∧ (v4 ≤ v6 → Rg (s 3 3) ∧ (s 3 3 < 500 → (0 ≤ s 3 3 ∧ s 3 3 < 500 ∧ (qR w 1 qm30 184 [] [] (qset (qset s 6 (s 3 3) v5) 3 3 ((s 3 3) + 1)) (qPV f g)))) ∧ (500 ≤ s 3 3 → qR w 1 qm30 184 [] [] s (qPV f g)))) : qR w 1 qm30 86 [(0, .ref 3), (2, qI v2), (4, qI v4), (5, qI v5), (6, qI v6)] [] s (qPV f g) := by
  refine qS_iload qd_30_86 rfl ?_
  refine qS_iload qd_30_88 rfl ?_
  obtain ⟨h90a, h90b, H1, H2⟩ := H
  refine qS_icmp qd_30_90 rfl (zcnd_ge (a := v6) (b := v4) h90a h90b (fun t => qR w _ _ t _ _ _ _) (fun hc => ?_) (fun hc => ?_))
  · have H := H1 hc; clear H1 H2 hc
    refine qS_aload_n qd_30_93 rfl ?_
    refine qS_getfield (v := .ref 1) qd_30_94 (qfl_2_9 w) (hpc_3 _ _) rfl ?_
    refine qS_iconst qd_30_97 ?_
    refine qS_cvI qd_30_98 (qml_2_35 w) rfl qtm_19 (hpc_1 _ _) (Nat.le_of_ble_eq_true rfl) rfl (Nat.le_of_ble_eq_true rfl) H (fun r6 s6 H => ?_) (fun x s1 H => Or.inr ⟨x, rfl, H⟩)
    refine qS_istore (a := [(0, .ref 3), (2, qI v2), (4, qI v4), (5, qI v5), (6, qI v6)]) qd_30_101 (Nat.le_of_ble_eq_true rfl) (zsub_c rfl (zsub_c rfl (zsub_c rfl (zsub_c rfl (zsub_c rfl zsub_n))))) rfl ?_
    refine qS_aload_n qd_30_103 rfl ?_
    refine qS_getfield (v := .ref 1) qd_30_104 (qfl_2_9 w) (hpc_3 _ _) rfl ?_
    refine qS_iload qd_30_107 rfl ?_
    refine qS_sipush qd_30_109 (by decide) ?_
    obtain ⟨h112a, H1, H2⟩ := H
    refine qS_icmp qd_30_112 rfl (zcnd_lt (a := r6) (b := 128) h112a ⟨by decide, by decide⟩ (fun t => qR w _ _ t _ _ _ _) (fun hc => ?_) (fun hc => ?_))
    · have H := H1 hc; clear H1 H2 hc
      exact qS_sub (zsub_c rfl (zsub_c rfl (zsub_c rfl (zsub_c rfl (zsub_c rfl (zsub_c rfl zsub_n)))))) H
    · have H := H2 hc; clear H1 H2 hc
      refine qS_iload qd_30_115 rfl ?_
      refine qS_sipush qd_30_117 (by decide) ?_
      obtain ⟨H1, H2⟩ := H
      refine qS_icmp qd_30_120 rfl (zcnd_gt (a := r6) (b := 191) h112a ⟨by decide, by decide⟩ (fun t => qR w _ _ t _ _ _ _) (fun hc => ?_) (fun hc => ?_))
      · have H := H1 hc; clear H1 H2 hc
        exact qS_sub (zsub_c rfl (zsub_c rfl (zsub_c rfl (zsub_c rfl (zsub_c rfl (zsub_c rfl zsub_n)))))) H
      · have H := H2 hc; clear H1 H2 hc
        refine qS_iconst qd_30_123 ?_
        refine qS_goto qd_30_124 rfl ?_
        exact qS_sub (zsub_c rfl (zsub_c rfl (zsub_c rfl (zsub_c rfl (zsub_c rfl (zsub_c rfl zsub_n)))))) H
  · have H := H2 hc; clear H1 H2 hc
    refine qS_aload_n qd_30_151 rfl ?_
    refine qS_getfield (v := qI (s 3 3)) qd_30_152 (qfl_2_28 w) (hpc_3 _ _) rfl ?_
    refine qS_aload_n qd_30_155 rfl ?_
    refine qS_getfield (v := .ref 6) qd_30_156 (qfl_2_24 w) (hpc_3 _ _) rfl ?_
    refine qS_alen (a := 6) qd_30_159 (Nat.le_of_ble_eq_true rfl) ?_
    obtain ⟨h160a, H1, H2⟩ := H
    refine qS_icmp qd_30_160 rfl (zcnd_ge (a := s 3 3) (b := 500) h160a ⟨by decide, by decide⟩ (fun t => qR w _ _ t _ _ _ _) (fun hc => ?_) (fun hc => ?_))
    · have H := H1 hc; clear H1 H2 hc
      refine qS_aload_n qd_30_163 rfl ?_
      refine qS_getfield (v := .ref 6) qd_30_164 (qfl_2_24 w) (hpc_3 _ _) rfl ?_
      refine qS_aload_n qd_30_167 rfl ?_
      refine qS_getfield (v := qI (s 3 3)) qd_30_168 (qfl_2_28 w) (hpc_3 _ _) rfl ?_
      refine qS_iload qd_30_171 rfl ?_
      obtain ⟨hl, hu, H⟩ := H
      refine qS_iastore (a := 6) (i := s 3 3) (v := v5) qd_30_173 (Nat.le_of_ble_eq_true rfl) hl hu ?_
      refine qS_aload_n qd_30_174 rfl ?_
      refine qS_dup qd_30_175 rfl ?_
      refine qS_getfield (v := qI (s 3 3)) qd_30_176 (qfl_2_28 w) (hpc_3 _ _) rfl ?_
      refine qS_iconst qd_30_179 ?_
      refine qS_iadd (a := s 3 3) (b := 1) qd_30_180 ?_
      refine qS_putfield (s1 := qset (qset s 6 (s 3 3) v5) 3 3 ((s 3 3) + 1)) qd_30_181 (qfl_2_28 w) (hpc_3 _ _) (Nat.le_of_ble_eq_true rfl) rfl rfl rfl (hps_3_3 _ _ _) ?_
      exact qS_sub zsub_n H
    · have H := H2 hc; clear H1 H2 hc
      exact qS_sub zsub_n H
set_option maxRecDepth 100000 in
theorem k30_127 {w : qE} {s : qS} {v2 : Int} {v4 : Int} {v5 : Int} {v6 : Int} {v7 : Int} {f : qS → Prop} {g : Nat → qS → Prop}  (H : qR w 1 qm30 128 [(0, .ref 3), (2, qI v2), (4, qI v4), (5, qI v5), (6, qI v6), (7, qI v7)] [qI 0, .ref 1] s (qPV f g)) : qR w 1 qm30 127 [(0, .ref 3), (2, qI v2), (4, qI v4), (5, qI v5), (6, qI v6), (7, qI v7)] [.ref 1] s (qPV f g) := by
  refine qS_iconst qd_30_127 ?_
  exact qS_sub (zsub_c rfl (zsub_c rfl (zsub_c rfl (zsub_c rfl (zsub_c rfl (zsub_c rfl zsub_n)))))) H
set_option maxRecDepth 100000 in
theorem k30_128 {w : qE} {s : qS} {v2 : Int} {v4 : Int} {v5 : Int} {v6 : Int} {v7 : Int} {k1 : Int} {f : qS → Prop} {g : Nat → qS → Prop}  (H : qW w 1 20 [.ref 1, qI k1, qI v2] s (qPV (fun s7 => qR w 1 qm30 86 [(0, .ref 3), (2, qI v2), (4, qI v4), (5, qI ((64 * v5) + (qand v7 63))), (6, qI (v6 + 1))] [] s7 (qPV f g)) g)) : qR w 1 qm30 128 [(0, .ref 3), (2, qI v2), (4, qI v4), (5, qI v5), (6, qI v6), (7, qI v7)] [qI k1, .ref 1] s (qPV f g) := by
  refine qS_iload_n qd_30_128 rfl ?_
  refine qS_cvV qd_30_129 (qml_2_45 w) rfl qtm_20 (hpc_1 _ _) (Nat.le_of_ble_eq_true rfl) rfl (Nat.le_of_ble_eq_true rfl) H (fun s7 H => ?_) (fun x s1 H => Or.inr ⟨x, rfl, H⟩)
  refine qS_bipush qd_30_132 (by decide) ?_
  refine qS_iload qd_30_134 rfl ?_
  refine qS_imul (a := 64) (b := v5) qd_30_136 ?_
  refine qS_iload qd_30_137 rfl ?_
  refine qS_bipush qd_30_139 (by decide) ?_
  refine qS_iand (a := v7) (b := 63) qd_30_141 ?_
  refine qS_iadd (a := 64 * v5) (b := qand v7 63) qd_30_142 ?_
  refine qS_istore (a := [(0, .ref 3), (2, qI v2), (4, qI v4), (6, qI v6)]) qd_30_143 (Nat.le_of_ble_eq_true rfl) (zsub_c rfl (zsub_c rfl (zsub_c rfl (zsub_c rfl zsub_n)))) rfl ?_
  refine qS_iinc (v := v6) (a := [(5, qI ((64 * v5) + (qand v7 63))), (0, .ref 3), (2, qI v2), (4, qI v4)]) qd_30_145 (Nat.le_of_ble_eq_true rfl) rfl (zsub_c rfl (zsub_c rfl (zsub_c rfl (zsub_c rfl zsub_n)))) rfl ?_
  refine qS_goto qd_30_148 rfl ?_
  exact qS_sub (zsub_c rfl (zsub_c rfl (zsub_c rfl (zsub_c rfl (zsub_c rfl zsub_n))))) H
set_option maxRecDepth 100000 in
theorem k30_184 {w : qE} {s : qS}  {f : qS → Prop} {g : Nat → qS → Prop}  (H : f s) : qR w 1 qm30 184 [] [] s (qPV f g) := by
  exact qS_vreturn qd_30_184 rfl (Or.inl ⟨rfl, H⟩)
set_option maxRecDepth 100000 in
theorem k31 {w : qE} {s : qS} {p0 : Int} {f : Int → qS → Prop} {g : Nat → qS → Prop}  (H : Rg p0 ∧ (p0 < 1 → qR w 0 qm31 13 [(0, qI p0)] [] s (qPI f g)) ∧ (1 ≤ p0 → (127 < p0 → qR w 0 qm31 13 [(0, qI p0)] [] s (qPI f g)) ∧ (p0 ≤ 127 → f 0 s))) : qW w 1 31 [qI p0] s (qPI f g) := by
  refine qW.of (M := qm31) (l := [(0, qI p0)]) qtm_31 rfl (Nat.le_of_ble_eq_true rfl) (zsub_c rfl zsub_n) ?_
  refine qS_iload_n qd_31_0 rfl ?_
  refine qS_iconst qd_31_1 ?_
  obtain ⟨h2a, H1, H2⟩ := H
  refine qS_icmp qd_31_2 rfl (zcnd_lt (a := p0) (b := 1) h2a ⟨by decide, by decide⟩ (fun t => qR w _ _ t _ _ _ _) (fun hc => ?_) (fun hc => ?_))
  · have H := H1 hc; clear H1 H2 hc
    exact qS_sub (zsub_c rfl zsub_n) H
  · have H := H2 hc; clear H1 H2 hc
    refine qS_iload_n qd_31_5 rfl ?_
    refine qS_bipush qd_31_6 (by decide) ?_
    obtain ⟨H1, H2⟩ := H
    refine qS_icmp qd_31_8 rfl (zcnd_gt (a := p0) (b := 127) h2a ⟨by decide, by decide⟩ (fun t => qR w _ _ t _ _ _ _) (fun hc => ?_) (fun hc => ?_))
    · have H := H1 hc; clear H1 H2 hc
      exact qS_sub (zsub_c rfl zsub_n) H
    · have H := H2 hc; clear H1 H2 hc
      refine qS_iconst qd_31_11 ?_
      exact qS_ireturn qd_31_12 rfl (Or.inl ⟨_, rfl, H⟩)
set_option maxRecDepth 100000 in
theorem k31_13 {w : qE} {s : qS} {v0 : Int} {f : Int → qS → Prop} {g : Nat → qS → Prop}  (H : Rg v0 ∧ (v0 < 192 → qR w 0 qm31 29 [(0, qI v0)] [] s (qPI f g)) ∧ (192 ≤ v0 → (223 < v0 → qR w 0 qm31 29 [(0, qI v0)] [] s (qPI f g)) ∧ (v0 ≤ 223 → f 1 s))) : qR w 0 qm31 13 [(0, qI v0)] [] s (qPI f g) := by
  refine qS_iload_n qd_31_13 rfl ?_
  refine qS_sipush qd_31_14 (by decide) ?_
  obtain ⟨h17a, H1, H2⟩ := H
  refine qS_icmp qd_31_17 rfl (zcnd_lt (a := v0) (b := 192) h17a ⟨by decide, by decide⟩ (fun t => qR w _ _ t _ _ _ _) (fun hc => ?_) (fun hc => ?_))
  · have H := H1 hc; clear H1 H2 hc
    exact qS_sub (zsub_c rfl zsub_n) H
  · have H := H2 hc; clear H1 H2 hc
    refine qS_iload_n qd_31_20 rfl ?_
    refine qS_sipush qd_31_21 (by decide) ?_
    obtain ⟨H1, H2⟩ := H
    refine qS_icmp qd_31_24 rfl (zcnd_gt (a := v0) (b := 223) h17a ⟨by decide, by decide⟩ (fun t => qR w _ _ t _ _ _ _) (fun hc => ?_) (fun hc => ?_))
    · have H := H1 hc; clear H1 H2 hc
      exact qS_sub (zsub_c rfl zsub_n) H
    · have H := H2 hc; clear H1 H2 hc
      refine qS_iconst qd_31_27 ?_
      exact qS_ireturn qd_31_28 rfl (Or.inl ⟨_, rfl, H⟩)
set_option maxRecDepth 100000 in
theorem k31_29 {w : qE} {s : qS} {v0 : Int} {f : Int → qS → Prop} {g : Nat → qS → Prop}  (H : Rg v0 ∧ (v0 < 224 → qR w 0 qm31 47 [] [] s (qPI f g)) ∧ (224 ≤ v0 → (239 < v0 → qR w 0 qm31 47 [] [] s (qPI f g)) ∧ (v0 ≤ 239 → qR w 0 qm31 48 [] [qI 2] s (qPI f g)))) : qR w 0 qm31 29 [(0, qI v0)] [] s (qPI f g) := by
  refine qS_iload_n qd_31_29 rfl ?_
  refine qS_sipush qd_31_30 (by decide) ?_
  obtain ⟨h33a, H1, H2⟩ := H
  refine qS_icmp qd_31_33 rfl (zcnd_lt (a := v0) (b := 224) h33a ⟨by decide, by decide⟩ (fun t => qR w _ _ t _ _ _ _) (fun hc => ?_) (fun hc => ?_))
  · have H := H1 hc; clear H1 H2 hc
    exact qS_sub zsub_n H
  · have H := H2 hc; clear H1 H2 hc
    refine qS_iload_n qd_31_36 rfl ?_
    refine qS_sipush qd_31_37 (by decide) ?_
    obtain ⟨H1, H2⟩ := H
    refine qS_icmp qd_31_40 rfl (zcnd_gt (a := v0) (b := 239) h33a ⟨by decide, by decide⟩ (fun t => qR w _ _ t _ _ _ _) (fun hc => ?_) (fun hc => ?_))
    · have H := H1 hc; clear H1 H2 hc
      exact qS_sub zsub_n H
    · have H := H2 hc; clear H1 H2 hc
      refine qS_iconst qd_31_43 ?_
      refine qS_goto qd_31_44 rfl ?_
      exact qS_sub zsub_n H
set_option maxRecDepth 100000 in
theorem k31_47 {w : qE} {s : qS}  {f : Int → qS → Prop} {g : Nat → qS → Prop}  (H : qR w 0 qm31 48 [] [qI ((-1))] s (qPI f g)) : qR w 0 qm31 47 [] [] s (qPI f g) := by
  refine qS_iconst qd_31_47 ?_
  exact qS_sub zsub_n H
set_option maxRecDepth 100000 in
theorem k31_48 {w : qE} {s : qS} {k0 : Int} {f : Int → qS → Prop} {g : Nat → qS → Prop}  (H : f k0 s) : qR w 0 qm31 48 [] [qI k0] s (qPI f g) := by
  exact qS_ireturn qd_31_48 rfl (Or.inl ⟨_, rfl, H⟩)
set_option maxRecDepth 100000 in
theorem k32 {w : qE} {s : qS} {p0 : Int} {p1 : Int} {p2 : Int} {f : qS → Prop} {g : Nat → qS → Prop}  (H : qW w 1 19 [.ref 1, qI p1] s (qPI (fun r1 s1 => qW w 1 27 [.ref 4, qI p0, qI 1, qI r1] s1 (qPV (fun s2 => qW w 1 19 [.ref 1, qI p2] s2 (qPI (fun r3 s3 => qW w 1 27 [.ref 4, qI p0, qI 2, qI r3] s3 (qPV (fun s4 => f s4) g)) g)) g)) g)) : qW w 2 32 [.ref 3, qI p0, qI p1, qI p2] s (qPV f g) := by
  refine qW.of (M := qm32) (l := [(0, .ref 3), (1, qI p0), (2, qI p1), (3, qI p2)]) qtm_32 rfl (Nat.le_of_ble_eq_true rfl) (zsub_c rfl (zsub_c rfl (zsub_c rfl (zsub_c rfl zsub_n)))) ?_
  refine qS_aload_n qd_32_0 rfl ?_
  refine qS_getfield (v := .ref 4) qd_32_1 (qfl_2_20 w) (hpc_3 _ _) rfl ?_
  refine qS_iload_n qd_32_4 rfl ?_
  refine qS_iconst qd_32_5 ?_
  refine qS_aload_n qd_32_6 rfl ?_
  refine qS_getfield (v := .ref 1) qd_32_7 (qfl_2_9 w) (hpc_3 _ _) rfl ?_
  refine qS_iload_n qd_32_10 rfl ?_
  refine qS_cvI qd_32_11 (qml_2_35 w) rfl qtm_19 (hpc_1 _ _) (Nat.le_of_ble_eq_true rfl) rfl (Nat.le_of_ble_eq_true rfl) H (fun r1 s1 H => ?_) (fun x s1 H => Or.inr ⟨x, rfl, H⟩)
  refine qS_cvV qd_32_14 (qml_2_56 w) rfl qtm_27 (hpc_4 _ _) (Nat.le_of_ble_eq_true rfl) rfl (Nat.le_of_ble_eq_true rfl) H (fun s2 H => ?_) (fun x s1 H => Or.inr ⟨x, rfl, H⟩)
  refine qS_aload_n qd_32_17 rfl ?_
  refine qS_getfield (v := .ref 4) qd_32_18 (qfl_2_20 w) (hpc_3 _ _) rfl ?_
  refine qS_iload_n qd_32_21 rfl ?_
  refine qS_iconst qd_32_22 ?_
  refine qS_aload_n qd_32_23 rfl ?_
  refine qS_getfield (v := .ref 1) qd_32_24 (qfl_2_9 w) (hpc_3 _ _) rfl ?_
  refine qS_iload_n qd_32_27 rfl ?_
  refine qS_cvI qd_32_28 (qml_2_35 w) rfl qtm_19 (hpc_1 _ _) (Nat.le_of_ble_eq_true rfl) rfl (Nat.le_of_ble_eq_true rfl) H (fun r3 s3 H => ?_) (fun x s1 H => Or.inr ⟨x, rfl, H⟩)
  refine qS_cvV qd_32_31 (qml_2_56 w) rfl qtm_27 (hpc_4 _ _) (Nat.le_of_ble_eq_true rfl) rfl (Nat.le_of_ble_eq_true rfl) H (fun s4 H => ?_) (fun x s1 H => Or.inr ⟨x, rfl, H⟩)
  exact qS_vreturn qd_32_34 rfl (Or.inl ⟨rfl, H⟩)
set_option maxRecDepth 100000 in
theorem k33 {w : qE} {s : qS}  {f : qS → Prop} {g : Nat → qS → Prop}  (H : qR w 7 qm33 2 [(0, .ref 3), (1, qI 1)] [] s (qPV f g)) : qW w 8 33 [.ref 3] s (qPV f g) := by
  refine qW.of (M := qm33) (l := [(0, .ref 3)]) qtm_33 rfl (Nat.le_of_ble_eq_true rfl) (zsub_c rfl zsub_n) ?_
  refine qS_iconst qd_33_0 ?_
  refine qS_istore_n (a := [(0, .ref 3)]) qd_33_1 (Nat.le_of_ble_eq_true rfl) (zsub_c rfl zsub_n) rfl ?_
  exact qS_sub (zsub_c rfl (zsub_c rfl zsub_n)) H
set_option maxRecDepth 100000 in
theorem k33_2 {w : qE} {s : qS} {v1 : Int} {f : qS → Prop} {g : Nat → qS → Prop}  (H : qW w 1 34 [.ref 4] s (qPI (fun r1 s1 => Rg v1 ∧ Rg r1 ∧ (v1 < r1 → qW w 2 35 [.ref 3, qI v1] s1 (qPI (fun r2 s2 => Rg r2 ∧ (r2 = 1 → qW w 2 37 [.ref 3, qI v1] s2 (qPI (fun r3 s3 => qW w 2 38 [.ref 3, qI v1] s3 (qPI (fun r4 s4 => qW w 7 39 [.ref 6, qI r3, qI r4] s4 (qPI (fun r5 s5 => qW w 1 27 [.ref 4, qI v1, qI 5, qI r5] s5 (qPV (fun s6 => qR w 7 qm33 48 [(0, .ref 3), (1, qI v1)] [] s6 (qPV f g)) g)) g)) g)) g)) ∧ (r2 ≠ 1 → qR w 7 qm33 48 [(0, .ref 3), (1, qI v1)] [] s2 (qPV f g))) g)) ∧ (r1 ≤ v1 → f s1)) g)) : qR w 7 qm33 2 [(0, .ref 3), (1, qI v1)] [] s (qPV f g) := by
  refine qS_iload_n qd_33_2 rfl ?_
  refine qS_aload_n qd_33_3 rfl ?_
  refine qS_getfield (v := .ref 4) qd_33_4 (qfl_2_20 w) (hpc_3 _ _) rfl ?_
  refine qS_cvI qd_33_7 (qml_2_75 w) rfl qtm_34 (hpc_4 _ _) (Nat.le_of_ble_eq_true rfl) rfl (Nat.le_of_ble_eq_true rfl) H (fun r1 s1 H => ?_) (fun x s1 H => Or.inr ⟨x, rfl, H⟩)
  obtain ⟨h10a, h10b, H1, H2⟩ := H
  refine qS_icmp qd_33_10 rfl (zcnd_ge (a := v1) (b := r1) h10a h10b (fun t => qR w _ _ t _ _ _ _) (fun hc => ?_) (fun hc => ?_))
  · have H := H1 hc; clear H1 H2 hc
    refine qS_aload_n qd_33_13 rfl ?_
    refine qS_iload_n qd_33_14 rfl ?_
    refine qS_cvI qd_33_15 (qml_2_78 w) rfl qtm_35 (hpc_3 _ _) (Nat.le_of_ble_eq_true rfl) rfl (Nat.le_of_ble_eq_true rfl) H (fun r2 s2 H => ?_) (fun x s1 H => Or.inr ⟨x, rfl, H⟩)
    refine qS_iconst qd_33_18 ?_
    obtain ⟨h19a, H1, H2⟩ := H
    refine qS_icmp qd_33_19 rfl (zcnd_ne (a := r2) (b := 1) h19a ⟨by decide, by decide⟩ (fun t => qR w _ _ t _ _ _ _) (fun hc => ?_) (fun hc => ?_))
    · have H := H1 hc; clear H1 H2 hc
      refine qS_aload_n qd_33_22 rfl ?_
      refine qS_getfield (v := .ref 4) qd_33_23 (qfl_2_20 w) (hpc_3 _ _) rfl ?_
      refine qS_iload_n qd_33_26 rfl ?_
      refine qS_iconst qd_33_27 ?_
      refine qS_aload_n qd_33_28 rfl ?_
      refine qS_getfield (v := .ref 6) qd_33_29 (qfl_2_24 w) (hpc_3 _ _) rfl ?_
      refine qS_aload_n qd_33_32 rfl ?_
      refine qS_iload_n qd_33_33 rfl ?_
      refine qS_cvI qd_33_34 (qml_2_81 w) rfl qtm_37 (hpc_3 _ _) (Nat.le_of_ble_eq_true rfl) rfl (Nat.le_of_ble_eq_true rfl) H (fun r3 s3 H => ?_) (fun x s1 H => Or.inr ⟨x, rfl, H⟩)
      refine qS_aload_n qd_33_37 rfl ?_
      refine qS_iload_n qd_33_38 rfl ?_
      refine qS_cvI qd_33_39 (qml_2_84 w) rfl qtm_38 (hpc_3 _ _) (Nat.le_of_ble_eq_true rfl) rfl (Nat.le_of_ble_eq_true rfl) H (fun r4 s4 H => ?_) (fun x s1 H => Or.inr ⟨x, rfl, H⟩)
      refine qS_csI qd_33_42 (qml_2_87 w) rfl (Nat.le_of_ble_eq_true rfl) rfl (Nat.le_of_ble_eq_true rfl) H (fun r5 s5 H => ?_) (fun x s1 H => Or.inr ⟨x, rfl, H⟩)
      refine qS_cvV qd_33_45 (qml_2_56 w) rfl qtm_27 (hpc_4 _ _) (Nat.le_of_ble_eq_true rfl) rfl (Nat.le_of_ble_eq_true rfl) H (fun s6 H => ?_) (fun x s1 H => Or.inr ⟨x, rfl, H⟩)
      exact qS_sub (zsub_c rfl (zsub_c rfl zsub_n)) H
    · have H := H2 hc; clear H1 H2 hc
      exact qS_sub (zsub_c rfl (zsub_c rfl zsub_n)) H
  · have H := H2 hc; clear H1 H2 hc
    exact qS_vreturn qd_33_54 rfl (Or.inl ⟨rfl, H⟩)
set_option maxRecDepth 100000 in
theorem k33_48 {w : qE} {s : qS} {v1 : Int} {f : qS → Prop} {g : Nat → qS → Prop}  (H : qR w 7 qm33 2 [(0, .ref 3), (1, qI (v1 + 1))] [] s (qPV f g)) : qR w 7 qm33 48 [(0, .ref 3), (1, qI v1)] [] s (qPV f g) := by
  refine qS_iinc (v := v1) (a := [(0, .ref 3)]) qd_33_48 (Nat.le_of_ble_eq_true rfl) rfl (zsub_c rfl zsub_n) rfl ?_
  refine qS_goto qd_33_51 rfl ?_
  exact qS_sub (zsub_c rfl (zsub_c rfl zsub_n)) H
set_option maxRecDepth 100000 in
theorem k34 {w : qE} {s : qS} {t : Nat} {f : Int → qS → Prop} {g : Nat → qS → Prop} (ht : 0 < qwid t) (H : f (s t 2) s) : qW w 1 34 [.ref t] s (qPI f g) := by
  refine qW.of (M := qm34) (l := [(0, .ref t)]) qtm_34 rfl (Nat.le_of_ble_eq_true rfl) (zsub_c rfl zsub_n) ?_
  refine qS_aload_n qd_34_0 rfl ?_
  refine qS_getfield (v := qI (s t 2)) qd_34_1 (qfl_3_19 w) (hp_tab _ _ t ht) rfl ?_
  exact qS_ireturn qd_34_4 rfl (Or.inl ⟨_, rfl, H⟩)
set_option maxRecDepth 100000 in
theorem k35 {w : qE} {s : qS} {p0 : Int} {f : Int → qS → Prop} {g : Nat → qS → Prop}  (H : qW w 1 36 [.ref 4, qI p0, qI 0] s (qPI (fun r1 s1 => f r1 s1) g)) : qW w 2 35 [.ref 3, qI p0] s (qPI f g) := by
  refine qW.of (M := qm35) (l := [(0, .ref 3), (1, qI p0)]) qtm_35 rfl (Nat.le_of_ble_eq_true rfl) (zsub_c rfl (zsub_c rfl zsub_n)) ?_
  refine qS_aload_n qd_35_0 rfl ?_
  refine qS_getfield (v := .ref 4) qd_35_1 (qfl_2_20 w) (hpc_3 _ _) rfl ?_
  refine qS_iload_n qd_35_4 rfl ?_
  refine qS_iconst qd_35_5 ?_
  refine qS_cvI qd_35_6 (qml_2_93 w) rfl qtm_36 (hpc_4 _ _) (Nat.le_of_ble_eq_true rfl) rfl (Nat.le_of_ble_eq_true rfl) H (fun r1 s1 H => ?_) (fun x s1 H => Or.inr ⟨x, rfl, H⟩)
  exact qS_ireturn qd_35_9 rfl (Or.inl ⟨_, rfl, H⟩)
set_option maxRecDepth 100000 in
theorem k36 {w : qE} {s : qS} {t : Nat} {p0 : Int} {p1 : Int} {f : Int → qS → Prop} {g : Nat → qS → Prop} (ht : 0 < qwid t) (H : Rg p0 ∧ (p0 < 0 → qR w 0 qm36 24 [] [] s (qPI f g)) ∧ (0 ≤ p0 → Rg (s t 2) ∧ (p0 < s t 2 → Rg p1 ∧ (p1 < 0 → qR w 0 qm36 24 [] [] s (qPI f g)) ∧ (0 ≤ p1 → Rg (qwid t) ∧ (p1 < qwid t → (0 ≤ (p0 * (qwid t)) + p1 ∧ (p0 * (qwid t)) + p1 < (qlen (t + 1) : Nat) ∧ (f (s (t + 1) ((p0 * (qwid t)) + p1)) s))) ∧ (qwid t ≤ p1 → qR w 0 qm36 24 [] [] s (qPI f g)))) ∧ (s t 2 ≤ p0 → qR w 0 qm36 24 [] [] s (qPI f g)))) : qW w 1 36 [.ref t, qI p0, qI p1] s (qPI f g) := by
  refine qW.of (M := qm36) (l := [(0, .ref t), (1, qI p0), (2, qI p1)]) qtm_36 rfl (Nat.le_of_ble_eq_true rfl) (zsub_c rfl (zsub_c rfl (zsub_c rfl zsub_n))) ?_
  refine qS_iload_n qd_36_0 rfl ?_
  obtain ⟨h1a, H1, H2⟩ := H
  refine qS_if0 qd_36_1 rfl (zcnd_lt (a := p0) (b := 0) h1a ⟨by decide, by decide⟩ (fun t => qR w _ _ t _ _ _ _) (fun hc => ?_) (fun hc => ?_))
  · have H := H1 hc; clear H1 H2 hc
    exact qS_sub zsub_n H
  · have H := H2 hc; clear H1 H2 hc
    refine qS_iload_n qd_36_4 rfl ?_
    refine qS_aload_n qd_36_5 rfl ?_
    refine qS_getfield (v := qI (s t 2)) qd_36_6 (qfl_3_19 w) (hp_tab _ _ t ht) rfl ?_
    obtain ⟨h9b, H1, H2⟩ := H
    refine qS_icmp qd_36_9 rfl (zcnd_ge (a := p0) (b := s t 2) h1a h9b (fun t => qR w _ _ t _ _ _ _) (fun hc => ?_) (fun hc => ?_))
    · have H := H1 hc; clear H1 H2 hc
      refine qS_iload_n qd_36_12 rfl ?_
      obtain ⟨h13a, H1, H2⟩ := H
      refine qS_if0 qd_36_13 rfl (zcnd_lt (a := p1) (b := 0) h13a ⟨by decide, by decide⟩ (fun t => qR w _ _ t _ _ _ _) (fun hc => ?_) (fun hc => ?_))
      · have H := H1 hc; clear H1 H2 hc
        exact qS_sub zsub_n H
      · have H := H2 hc; clear H1 H2 hc
        refine qS_iload_n qd_36_16 rfl ?_
        refine qS_aload_n qd_36_17 rfl ?_
        refine qS_getfield (v := qI (qwid t)) qd_36_18 (qfl_3_9 w) (hp_tab _ _ t ht) rfl ?_
        obtain ⟨h21b, H1, H2⟩ := H
        refine qS_icmp qd_36_21 rfl (zcnd_lt (a := p1) (b := qwid t) h13a h21b (fun t => qR w _ _ t _ _ _ _) (fun hc => ?_) (fun hc => ?_))
        · have H := H1 hc; clear H1 H2 hc
          refine qS_aload_n qd_36_27 rfl ?_
          refine qS_getfield (v := .ref (t + 1)) qd_36_28 (qfl_3_15 w) (hp_tab _ _ t ht) rfl ?_
          refine qS_iload_n qd_36_31 rfl ?_
          refine qS_aload_n qd_36_32 rfl ?_
          refine qS_getfield (v := qI (qwid t)) qd_36_33 (qfl_3_9 w) (hp_tab _ _ t ht) rfl ?_
          refine qS_imul (a := p0) (b := qwid t) qd_36_36 ?_
          refine qS_iload_n qd_36_37 rfl ?_
          refine qS_iadd (a := p0 * (qwid t)) (b := p1) qd_36_38 ?_
          obtain ⟨hl, hu, H⟩ := H
          refine qS_iaload (a := (t + 1)) (i := (p0 * (qwid t)) + p1) qd_36_39 (qtab_len ht) hl hu ?_
          exact qS_ireturn qd_36_40 rfl (Or.inl ⟨_, rfl, H⟩)
        · have H := H2 hc; clear H1 H2 hc
          exact qS_sub zsub_n H
    · have H := H2 hc; clear H1 H2 hc
      exact qS_sub zsub_n H
set_option maxRecDepth 100000 in
theorem k36_24 {w : qE} {s : qS}  {f : Int → qS → Prop} {g : Nat → qS → Prop}  (H : f ((-2)) s) : qR w 0 qm36 24 [] [] s (qPI f g) := by
  refine qS_bipush qd_36_24 (by decide) ?_
  exact qS_ireturn qd_36_26 rfl (Or.inl ⟨_, rfl, H⟩)
set_option maxRecDepth 100000 in
theorem k37 {w : qE} {s : qS} {p0 : Int} {f : Int → qS → Prop} {g : Nat → qS → Prop}  (H : qW w 1 36 [.ref 4, qI p0, qI 4] s (qPI (fun r1 s1 => f r1 s1) g)) : qW w 2 37 [.ref 3, qI p0] s (qPI f g) := by
  refine qW.of (M := qm37) (l := [(0, .ref 3), (1, qI p0)]) qtm_37 rfl (Nat.le_of_ble_eq_true rfl) (zsub_c rfl (zsub_c rfl zsub_n)) ?_
  refine qS_aload_n qd_37_0 rfl ?_
  refine qS_getfield (v := .ref 4) qd_37_1 (qfl_2_20 w) (hpc_3 _ _) rfl ?_
  refine qS_iload_n qd_37_4 rfl ?_
  refine qS_iconst qd_37_5 ?_
  refine qS_cvI qd_37_6 (qml_2_93 w) rfl qtm_36 (hpc_4 _ _) (Nat.le_of_ble_eq_true rfl) rfl (Nat.le_of_ble_eq_true rfl) H (fun r1 s1 H => ?_) (fun x s1 H => Or.inr ⟨x, rfl, H⟩)
  exact qS_ireturn qd_37_9 rfl (Or.inl ⟨_, rfl, H⟩)
set_option maxRecDepth 100000 in
theorem k38 {w : qE} {s : qS} {p0 : Int} {f : Int → qS → Prop} {g : Nat → qS → Prop}  (H : qW w 1 36 [.ref 4, qI p0, qI 4] s (qPI (fun r1 s1 => qW w 1 36 [.ref 4, qI p0, qI 1] s1 (qPI (fun r2 s2 => f (r1 + r2) s2) g)) g)) : qW w 2 38 [.ref 3, qI p0] s (qPI f g) := by
  refine qW.of (M := qm38) (l := [(0, .ref 3), (1, qI p0)]) qtm_38 rfl (Nat.le_of_ble_eq_true rfl) (zsub_c rfl (zsub_c rfl zsub_n)) ?_
  refine qS_aload_n qd_38_0 rfl ?_
  refine qS_getfield (v := .ref 4) qd_38_1 (qfl_2_20 w) (hpc_3 _ _) rfl ?_
  refine qS_iload_n qd_38_4 rfl ?_
  refine qS_iconst qd_38_5 ?_
  refine qS_cvI qd_38_6 (qml_2_93 w) rfl qtm_36 (hpc_4 _ _) (Nat.le_of_ble_eq_true rfl) rfl (Nat.le_of_ble_eq_true rfl) H (fun r1 s1 H => ?_) (fun x s1 H => Or.inr ⟨x, rfl, H⟩)
  refine qS_aload_n qd_38_9 rfl ?_
  refine qS_getfield (v := .ref 4) qd_38_10 (qfl_2_20 w) (hpc_3 _ _) rfl ?_
  refine qS_iload_n qd_38_13 rfl ?_
  refine qS_iconst qd_38_14 ?_
  refine qS_cvI qd_38_15 (qml_2_93 w) rfl qtm_36 (hpc_4 _ _) (Nat.le_of_ble_eq_true rfl) rfl (Nat.le_of_ble_eq_true rfl) H (fun r2 s2 H => ?_) (fun x s1 H => Or.inr ⟨x, rfl, H⟩)
  refine qS_iadd (a := r1) (b := r2) qd_38_18 ?_
  exact qS_ireturn qd_38_19 rfl (Or.inl ⟨_, rfl, H⟩)
set_option maxRecDepth 100000 in
theorem k39 {w : qE} {s : qS} {p1 : Int} {p2 : Int} {f : Int → qS → Prop} {g : Nat → qS → Prop}  (H : qW w 6 40 [.ref 6, qI p1, qI p2] s (qPI (fun r1 s1 => qW w 1 42 [.ref 6, qI p1, qI p2] s1 (qPI (fun r2 s2 => Rg r2 ∧ (r2 = 0 → qR w 6 qm39 21 [(0, .ref 6), (1, qI p1), (2, qI p2), (3, qI r1)] [] s2 (qPI f g)) ∧ (r2 ≠ 0 → qR w 6 qm39 21 [(0, .ref 6), (1, qI p1), (2, qI p2), (3, qI (qor r1 12))] [] s2 (qPI f g))) g)) g)) : qW w 7 39 [.ref 6, qI p1, qI p2] s (qPI f g) := by
  refine qW.of (M := qm39) (l := [(0, .ref 6), (1, qI p1), (2, qI p2)]) qtm_39 rfl (Nat.le_of_ble_eq_true rfl) (zsub_c rfl (zsub_c rfl (zsub_c rfl zsub_n))) ?_
  refine qS_aload_n qd_39_0 rfl ?_
  refine qS_iload_n qd_39_1 rfl ?_
  refine qS_iload_n qd_39_2 rfl ?_
  refine qS_csI qd_39_3 (qml_9_9 w) rfl (Nat.le_of_ble_eq_true rfl) rfl (Nat.le_of_ble_eq_true rfl) H (fun r1 s1 H => ?_) (fun x s1 H => Or.inr ⟨x, rfl, H⟩)
  refine qS_istore_n (a := [(0, .ref 6), (1, qI p1), (2, qI p2)]) qd_39_6 (Nat.le_of_ble_eq_true rfl) (zsub_c rfl (zsub_c rfl (zsub_c rfl zsub_n))) rfl ?_
  refine qS_aload_n qd_39_7 rfl ?_
  refine qS_iload_n qd_39_8 rfl ?_
  refine qS_iload_n qd_39_9 rfl ?_
  refine qS_csI qd_39_10 (qml_9_15 w) rfl (Nat.le_of_ble_eq_true rfl) rfl (Nat.le_of_ble_eq_true rfl) H (fun r2 s2 H => ?_) (fun x s1 H => Or.inr ⟨x, rfl, H⟩)
  obtain ⟨h13a, H1, H2⟩ := H
  refine qS_if0 qd_39_13 rfl (zcnd_eq (a := r2) (b := 0) h13a ⟨by decide, by decide⟩ (fun t => qR w _ _ t _ _ _ _) (fun hc => ?_) (fun hc => ?_))
  · have H := H1 hc; clear H1 H2 hc
    exact qS_sub (zsub_c rfl (zsub_c rfl (zsub_c rfl (zsub_c rfl zsub_n)))) H
  · have H := H2 hc; clear H1 H2 hc
    refine qS_iload_n qd_39_16 rfl ?_
    refine qS_bipush qd_39_17 (by decide) ?_
    refine qS_ior (a := r1) (b := 12) qd_39_19 ?_
    refine qS_istore_n (a := [(0, .ref 6), (1, qI p1), (2, qI p2)]) qd_39_20 (Nat.le_of_ble_eq_true rfl) (zsub_c rfl (zsub_c rfl (zsub_c rfl zsub_n))) rfl ?_
    exact qS_sub (zsub_c rfl (zsub_c rfl (zsub_c rfl (zsub_c rfl zsub_n)))) H
set_option maxRecDepth 100000 in
theorem k39_21 {w : qE} {s : qS} {v1 : Int} {v2 : Int} {v3 : Int} {f : Int → qS → Prop} {g : Nat → qS → Prop}  (H : qW w 2 43 [.ref 6, qI v1, qI v2] s (qPI (fun r3 s3 => Rg r3 ∧ Rg v2 ∧ (r3 = v2 → (0 ≤ v1 ∧ v1 < 500 ∧ (Rg (s3 6 v1) ∧ (s3 6 v1 = 91 → qR w 6 qm39 47 [(0, .ref 6), (1, qI v1), (2, qI v2)] [qI 24, qI v3] s3 (qPI f g)) ∧ (s3 6 v1 ≠ 91 → qR w 6 qm39 47 [(0, .ref 6), (1, qI v1), (2, qI v2)] [qI 16, qI v3] s3 (qPI f g))))) ∧ (r3 ≠ v2 → qR w 6 qm39 49 [(0, .ref 6), (1, qI v1), (2, qI v2), (3, qI v3)] [] s3 (qPI f g))) g)) : qR w 6 qm39 21 [(0, .ref 6), (1, qI v1), (2, qI v2), (3, qI v3)] [] s (qPI f g) := by
  refine qS_aload_n qd_39_21 rfl ?_
  refine qS_iload_n qd_39_22 rfl ?_
  refine qS_iload_n qd_39_23 rfl ?_
  refine qS_csI qd_39_24 (qml_9_19 w) rfl (Nat.le_of_ble_eq_true rfl) rfl (Nat.le_of_ble_eq_true rfl) H (fun r3 s3 H => ?_) (fun x s1 H => Or.inr ⟨x, rfl, H⟩)
  refine qS_iload_n qd_39_27 rfl ?_
  obtain ⟨h28a, h28b, H1, H2⟩ := H
  refine qS_icmp qd_39_28 rfl (zcnd_ne (a := r3) (b := v2) h28a h28b (fun t => qR w _ _ t _ _ _ _) (fun hc => ?_) (fun hc => ?_))
  · have H := H1 hc; clear H1 H2 hc
    refine qS_iload_n qd_39_31 rfl ?_
    refine qS_aload_n qd_39_32 rfl ?_
    refine qS_iload_n qd_39_33 rfl ?_
    obtain ⟨hl, hu, H⟩ := H
    refine qS_iaload (a := 6) (i := v1) qd_39_34 (Nat.le_of_ble_eq_true rfl) hl hu ?_
    refine qS_bipush qd_39_35 (by decide) ?_
    obtain ⟨h37a, H1, H2⟩ := H
    refine qS_icmp qd_39_37 rfl (zcnd_ne (a := s3 6 v1) (b := 91) h37a ⟨by decide, by decide⟩ (fun t => qR w _ _ t _ _ _ _) (fun hc => ?_) (fun hc => ?_))
    · have H := H1 hc; clear H1 H2 hc
      refine qS_bipush qd_39_40 (by decide) ?_
      refine qS_goto qd_39_42 rfl ?_
      exact qS_sub (zsub_c rfl (zsub_c rfl (zsub_c rfl zsub_n))) H
    · have H := H2 hc; clear H1 H2 hc
      refine qS_bipush qd_39_45 (by decide) ?_
      exact qS_sub (zsub_c rfl (zsub_c rfl (zsub_c rfl zsub_n))) H
  · have H := H2 hc; clear H1 H2 hc
    exact qS_sub (zsub_c rfl (zsub_c rfl (zsub_c rfl (zsub_c rfl zsub_n)))) H
set_option maxRecDepth 100000 in
theorem k39_47 {w : qE} {s : qS} {v1 : Int} {v2 : Int} {k1 : Int} {k0 : Int} {f : Int → qS → Prop} {g : Nat → qS → Prop}  (H : qR w 6 qm39 49 [(0, .ref 6), (1, qI v1), (2, qI v2), (3, qI (qor k0 k1))] [] s (qPI f g)) : qR w 6 qm39 47 [(0, .ref 6), (1, qI v1), (2, qI v2)] [qI k1, qI k0] s (qPI f g) := by
  refine qS_ior (a := k0) (b := k1) qd_39_47 ?_
  refine qS_istore_n (a := [(0, .ref 6), (1, qI v1), (2, qI v2)]) qd_39_48 (Nat.le_of_ble_eq_true rfl) (zsub_c rfl (zsub_c rfl (zsub_c rfl zsub_n))) rfl ?_
  exact qS_sub (zsub_c rfl (zsub_c rfl (zsub_c rfl (zsub_c rfl zsub_n)))) H
set_option maxRecDepth 100000 in
theorem k39_49 {w : qE} {s : qS} {v1 : Int} {v2 : Int} {v3 : Int} {f : Int → qS → Prop} {g : Nat → qS → Prop}  (H : qW w 6 45 [.ref 6, qI v1, qI v2] s (qPI (fun r4 s4 => Rg r4 ∧ (r4 = 0 → qR w 6 qm39 63 [(3, qI v3)] [] s4 (qPI f g)) ∧ (r4 ≠ 0 → qR w 6 qm39 63 [(3, qI (qor v3 32))] [] s4 (qPI f g))) g)) : qR w 6 qm39 49 [(0, .ref 6), (1, qI v1), (2, qI v2), (3, qI v3)] [] s (qPI f g) := by
  refine qS_aload_n qd_39_49 rfl ?_
  refine qS_iload_n qd_39_50 rfl ?_
  refine qS_iload_n qd_39_51 rfl ?_
  refine qS_csI qd_39_52 (qml_9_22 w) rfl (Nat.le_of_ble_eq_true rfl) rfl (Nat.le_of_ble_eq_true rfl) H (fun r4 s4 H => ?_) (fun x s1 H => Or.inr ⟨x, rfl, H⟩)
  obtain ⟨h55a, H1, H2⟩ := H
  refine qS_if0 qd_39_55 rfl (zcnd_eq (a := r4) (b := 0) h55a ⟨by decide, by decide⟩ (fun t => qR w _ _ t _ _ _ _) (fun hc => ?_) (fun hc => ?_))
  · have H := H1 hc; clear H1 H2 hc
    exact qS_sub (zsub_c rfl zsub_n) H
  · have H := H2 hc; clear H1 H2 hc
    refine qS_iload_n qd_39_58 rfl ?_
    refine qS_bipush qd_39_59 (by decide) ?_
    refine qS_ior (a := v3) (b := 32) qd_39_61 ?_
    refine qS_istore_n (a := []) qd_39_62 (Nat.le_of_ble_eq_true rfl) zsub_n rfl ?_
    exact qS_sub (zsub_c rfl zsub_n) H
set_option maxRecDepth 100000 in
theorem k39_63 {w : qE} {s : qS} {v3 : Int} {f : Int → qS → Prop} {g : Nat → qS → Prop}  (H : f v3 s) : qR w 6 qm39 63 [(3, qI v3)] [] s (qPI f g) := by
  refine qS_iload_n qd_39_63 rfl ?_
  exact qS_ireturn qd_39_64 rfl (Or.inl ⟨_, rfl, H⟩)
set_option maxRecDepth 100000 in
theorem k40 {w : qE} {s : qS} {p1 : Int} {p2 : Int} {f : Int → qS → Prop} {g : Nat → qS → Prop}  (H : qW w 5 41 [.ref 6, qI p1, qI p2, .retAddr 100] s (qPI (fun r1 s1 => Rg r1 ∧ (r1 = 0 → qW w 5 41 [.ref 6, qI p1, qI p2, .retAddr 102] s1 (qPI (fun r2 s2 => Rg r2 ∧ (r2 = 0 → qW w 1 42 [.ref 6, qI p1, qI p2] s2 (qPI (fun r3 s3 => qR w 5 qm40 42 [(0, .ref 6), (2, qI p2), (3, qI r3), (4, qI 0), (5, qI p1)] [] s3 (qPI f g)) g)) ∧ (r2 ≠ 0 → f 131 s2)) g)) ∧ (r1 ≠ 0 → f 67 s1)) g)) : qW w 6 40 [.ref 6, qI p1, qI p2] s (qPI f g) := by
  refine qW.of (M := qm40) (l := [(0, .ref 6), (1, qI p1), (2, qI p2)]) qtm_40 rfl (Nat.le_of_ble_eq_true rfl) (zsub_c rfl (zsub_c rfl (zsub_c rfl zsub_n))) ?_
  refine qS_aload_n qd_40_0 rfl ?_
  refine qS_iload_n qd_40_1 rfl ?_
  refine qS_iload_n qd_40_2 rfl ?_
  refine qS_ex (st' := [.retAddr 100, qI p2, qI p1, .ref 6]) qd_40_3 rfl rfl (fun _ => rfl) (fun _ => rfl) (fun _ => rfl) rfl (fun _ => rfl) rfl (fun _ => rfl) rfl rfl ?_
  refine qS_csI qd_40_5 (qml_9_26 w) rfl (Nat.le_of_ble_eq_true rfl) rfl (Nat.le_of_ble_eq_true rfl) H (fun r1 s1 H => ?_) (fun x s1 H => Or.inr ⟨x, rfl, H⟩)
  obtain ⟨h8a, H1, H2⟩ := H
  refine qS_if0 qd_40_8 rfl (zcnd_eq (a := r1) (b := 0) h8a ⟨by decide, by decide⟩ (fun t => qR w _ _ t _ _ _ _) (fun hc => ?_) (fun hc => ?_))
  · have H := H1 hc; clear H1 H2 hc
    refine qS_aload_n qd_40_14 rfl ?_
    refine qS_iload_n qd_40_15 rfl ?_
    refine qS_iload_n qd_40_16 rfl ?_
    refine qS_ex (st' := [.retAddr 102, qI p2, qI p1, .ref 6]) qd_40_17 rfl rfl (fun _ => rfl) (fun _ => rfl) (fun _ => rfl) rfl (fun _ => rfl) rfl (fun _ => rfl) rfl rfl ?_
    refine qS_csI qd_40_19 (qml_9_26 w) rfl (Nat.le_of_ble_eq_true rfl) rfl (Nat.le_of_ble_eq_true rfl) H (fun r2 s2 H => ?_) (fun x s1 H => Or.inr ⟨x, rfl, H⟩)
    obtain ⟨h22a, H1, H2⟩ := H
    refine qS_if0 qd_40_22 rfl (zcnd_eq (a := r2) (b := 0) h22a ⟨by decide, by decide⟩ (fun t => qR w _ _ t _ _ _ _) (fun hc => ?_) (fun hc => ?_))
    · have H := H1 hc; clear H1 H2 hc
      refine qS_aload_n qd_40_29 rfl ?_
      refine qS_iload_n qd_40_30 rfl ?_
      refine qS_iload_n qd_40_31 rfl ?_
      refine qS_csI qd_40_32 (qml_9_15 w) rfl (Nat.le_of_ble_eq_true rfl) rfl (Nat.le_of_ble_eq_true rfl) H (fun r3 s3 H => ?_) (fun x s1 H => Or.inr ⟨x, rfl, H⟩)
      refine qS_istore_n (a := [(0, .ref 6), (1, qI p1), (2, qI p2)]) qd_40_35 (Nat.le_of_ble_eq_true rfl) (zsub_c rfl (zsub_c rfl (zsub_c rfl zsub_n))) rfl ?_
      refine qS_iconst qd_40_36 ?_
      refine qS_istore (a := [(3, qI r3), (0, .ref 6), (1, qI p1), (2, qI p2)]) qd_40_37 (Nat.le_of_ble_eq_true rfl) (zsub_c rfl (zsub_c rfl (zsub_c rfl (zsub_c rfl zsub_n)))) rfl ?_
      refine qS_iload_n qd_40_39 rfl ?_
      refine qS_istore (a := [(4, qI 0), (3, qI r3), (0, .ref 6), (2, qI p2)]) qd_40_40 (Nat.le_of_ble_eq_true rfl) (zsub_c rfl (zsub_c rfl (zsub_c rfl (zsub_c rfl zsub_n)))) rfl ?_
      exact qS_sub (zsub_c rfl (zsub_c rfl (zsub_c rfl (zsub_c rfl (zsub_c rfl zsub_n))))) H
    · have H := H2 hc; clear H1 H2 hc
      refine qS_sipush qd_40_25 (by decide) ?_
      exact qS_ireturn qd_40_28 rfl (Or.inl ⟨_, rfl, H⟩)
  · have H := H2 hc; clear H1 H2 hc
    refine qS_bipush qd_40_11 (by decide) ?_
    exact qS_ireturn qd_40_13 rfl (Or.inl ⟨_, rfl, H⟩)
set_option maxRecDepth 100000 in
theorem k40_42 {w : qE} {s : qS} {v2 : Int} {v3 : Int} {v4 : Int} {v5 : Int} {f : Int → qS → Prop} {g : Nat → qS → Prop}  (H : Rg v5 ∧ Rg v2 ∧ (v5 < v2 → Rg v3 ∧ (v3 = 0 → qR w 5 qm40 65 [(0, .ref 6), (2, qI v2), (4, qI v4), (5, qI v5)] [] s (qPI f g)) ∧ (v3 ≠ 0 → (0 ≤ v5 ∧ v5 < 500 ∧ (Rg (s 6 v5) ∧ (s 6 v5 = 47 → qR w 5 qm40 65 [(0, .ref 6), (2, qI v2), (4, qI v4), (5, qI v5)] [] s (qPI f g)) ∧ (s 6 v5 ≠ 47 → qR w 5 qm40 66 [(0, .ref 6), (2, qI v2), (4, qI v4), (5, qI v5)] [qI 1] s (qPI f g)))))) ∧ (v2 ≤ v5 → Rg v3 ∧ (v3 = 0 → f 0 s) ∧ (v3 ≠ 0 → Rg v4 ∧ (v4 = 0 → qR w 5 qm40 119 [] [qI 3] s (qPI f g)) ∧ (v4 ≠ 0 → qR w 5 qm40 119 [] [qI 1] s (qPI f g))))) : qR w 5 qm40 42 [(0, .ref 6), (2, qI v2), (3, qI v3), (4, qI v4), (5, qI v5)] [] s (qPI f g) := by
  refine qS_iload qd_40_42 rfl ?_
  refine qS_iload_n qd_40_44 rfl ?_
  obtain ⟨h45a, h45b, H1, H2⟩ := H
  refine qS_icmp qd_40_45 rfl (zcnd_ge (a := v5) (b := v2) h45a h45b (fun t => qR w _ _ t _ _ _ _) (fun hc => ?_) (fun hc => ?_))
  · have H := H1 hc; clear H1 H2 hc
    refine qS_iload_n qd_40_48 rfl ?_
    obtain ⟨h49a, H1, H2⟩ := H
    refine qS_if0 qd_40_49 rfl (zcnd_eq (a := v3) (b := 0) h49a ⟨by decide, by decide⟩ (fun t => qR w _ _ t _ _ _ _) (fun hc => ?_) (fun hc => ?_))
    · have H := H1 hc; clear H1 H2 hc
      exact qS_sub (zsub_c rfl (zsub_c rfl (zsub_c rfl (zsub_c rfl zsub_n)))) H
    · have H := H2 hc; clear H1 H2 hc
      refine qS_aload_n qd_40_52 rfl ?_
      refine qS_iload qd_40_53 rfl ?_
      obtain ⟨hl, hu, H⟩ := H
      refine qS_iaload (a := 6) (i := v5) qd_40_55 (Nat.le_of_ble_eq_true rfl) hl hu ?_
      refine qS_bipush qd_40_56 (by decide) ?_
      obtain ⟨h58a, H1, H2⟩ := H
      refine qS_icmp qd_40_58 rfl (zcnd_eq (a := s 6 v5) (b := 47) h58a ⟨by decide, by decide⟩ (fun t => qR w _ _ t _ _ _ _) (fun hc => ?_) (fun hc => ?_))
      · have H := H1 hc; clear H1 H2 hc
        exact qS_sub (zsub_c rfl (zsub_c rfl (zsub_c rfl (zsub_c rfl zsub_n)))) H
      · have H := H2 hc; clear H1 H2 hc
        refine qS_iconst qd_40_61 ?_
        refine qS_goto qd_40_62 rfl ?_
        exact qS_sub (zsub_c rfl (zsub_c rfl (zsub_c rfl (zsub_c rfl zsub_n)))) H
  · have H := H2 hc; clear H1 H2 hc
    refine qS_iload_n qd_40_103 rfl ?_
    obtain ⟨h104a, H1, H2⟩ := H
    refine qS_if0 qd_40_104 rfl (zcnd_ne (a := v3) (b := 0) h104a ⟨by decide, by decide⟩ (fun t => qR w _ _ t _ _ _ _) (fun hc => ?_) (fun hc => ?_))
    · have H := H1 hc; clear H1 H2 hc
      refine qS_iconst qd_40_107 ?_
      exact qS_ireturn qd_40_108 rfl (Or.inl ⟨_, rfl, H⟩)
    · have H := H2 hc; clear H1 H2 hc
      refine qS_iload qd_40_109 rfl ?_
      obtain ⟨h111a, H1, H2⟩ := H
      refine qS_if0 qd_40_111 rfl (zcnd_eq (a := v4) (b := 0) h111a ⟨by decide, by decide⟩ (fun t => qR w _ _ t _ _ _ _) (fun hc => ?_) (fun hc => ?_))
      · have H := H1 hc; clear H1 H2 hc
        refine qS_iconst qd_40_118 ?_
        exact qS_sub zsub_n H
      · have H := H2 hc; clear H1 H2 hc
        refine qS_iconst qd_40_114 ?_
        refine qS_goto qd_40_115 rfl ?_
        exact qS_sub zsub_n H
set_option maxRecDepth 100000 in
theorem k40_65 {w : qE} {s : qS} {v2 : Int} {v4 : Int} {v5 : Int} {f : Int → qS → Prop} {g : Nat → qS → Prop}  (H : qR w 5 qm40 66 [(0, .ref 6), (2, qI v2), (4, qI v4), (5, qI v5)] [qI 0] s (qPI f g)) : qR w 5 qm40 65 [(0, .ref 6), (2, qI v2), (4, qI v4), (5, qI v5)] [] s (qPI f g) := by
  refine qS_iconst qd_40_65 ?_
  exact qS_sub (zsub_c rfl (zsub_c rfl (zsub_c rfl (zsub_c rfl zsub_n)))) H
set_option maxRecDepth 100000 in
theorem k40_66 {w : qE} {s : qS} {v2 : Int} {v4 : Int} {v5 : Int} {k0 : Int} {f : Int → qS → Prop} {g : Nat → qS → Prop}  (H : Rg v4 ∧ (v4 = 0 → (0 ≤ v5 ∧ v5 < 500 ∧ (Rg (s 6 v5) ∧ (s 6 v5 = 60 → qR w 5 qm40 90 [(0, .ref 6), (2, qI v2), (3, qI k0), (5, qI v5)] [] s (qPI f g)) ∧ (s 6 v5 ≠ 60 → (0 ≤ v5 ∧ v5 < 500 ∧ ((s 6 v5 = 62 → qR w 5 qm40 90 [(0, .ref 6), (2, qI v2), (3, qI k0), (5, qI v5)] [] s (qPI f g)) ∧ (s 6 v5 ≠ 62 → qR w 5 qm40 95 [(0, .ref 6), (2, qI v2), (3, qI k0), (5, qI v5)] [qI 0] s (qPI f g)))))))) ∧ (v4 ≠ 0 → qR w 5 qm40 90 [(0, .ref 6), (2, qI v2), (3, qI k0), (5, qI v5)] [] s (qPI f g))) : qR w 5 qm40 66 [(0, .ref 6), (2, qI v2), (4, qI v4), (5, qI v5)] [qI k0] s (qPI f g) := by
  refine qS_istore_n (a := [(0, .ref 6), (2, qI v2), (4, qI v4), (5, qI v5)]) qd_40_66 (Nat.le_of_ble_eq_true rfl) (zsub_c rfl (zsub_c rfl (zsub_c rfl (zsub_c rfl zsub_n)))) rfl ?_
  refine qS_iload qd_40_67 rfl ?_
  obtain ⟨h69a, H1, H2⟩ := H
  refine qS_if0 qd_40_69 rfl (zcnd_ne (a := v4) (b := 0) h69a ⟨by decide, by decide⟩ (fun t => qR w _ _ t _ _ _ _) (fun hc => ?_) (fun hc => ?_))
  · have H := H1 hc; clear H1 H2 hc
    refine qS_aload_n qd_40_72 rfl ?_
    refine qS_iload qd_40_73 rfl ?_
    obtain ⟨hl, hu, H⟩ := H
    refine qS_iaload (a := 6) (i := v5) qd_40_75 (Nat.le_of_ble_eq_true rfl) hl hu ?_
    refine qS_bipush qd_40_76 (by decide) ?_
    obtain ⟨h78a, H1, H2⟩ := H
    refine qS_icmp qd_40_78 rfl (zcnd_eq (a := s 6 v5) (b := 60) h78a ⟨by decide, by decide⟩ (fun t => qR w _ _ t _ _ _ _) (fun hc => ?_) (fun hc => ?_))
    · have H := H1 hc; clear H1 H2 hc
      exact qS_sub (zsub_c rfl (zsub_c rfl (zsub_c rfl (zsub_c rfl zsub_n)))) H
    · have H := H2 hc; clear H1 H2 hc
      refine qS_aload_n qd_40_81 rfl ?_
      refine qS_iload qd_40_82 rfl ?_
      obtain ⟨hl, hu, H⟩ := H
      refine qS_iaload (a := 6) (i := v5) qd_40_84 (Nat.le_of_ble_eq_true rfl) hl hu ?_
      refine qS_bipush qd_40_85 (by decide) ?_
      obtain ⟨H1, H2⟩ := H
      refine qS_icmp qd_40_87 rfl (zcnd_ne (a := s 6 v5) (b := 62) h78a ⟨by decide, by decide⟩ (fun t => qR w _ _ t _ _ _ _) (fun hc => ?_) (fun hc => ?_))
      · have H := H1 hc; clear H1 H2 hc
        exact qS_sub (zsub_c rfl (zsub_c rfl (zsub_c rfl (zsub_c rfl zsub_n)))) H
      · have H := H2 hc; clear H1 H2 hc
        refine qS_iconst qd_40_94 ?_
        exact qS_sub (zsub_c rfl (zsub_c rfl (zsub_c rfl (zsub_c rfl zsub_n)))) H
  · have H := H2 hc; clear H1 H2 hc
    exact qS_sub (zsub_c rfl (zsub_c rfl (zsub_c rfl (zsub_c rfl zsub_n)))) H
set_option maxRecDepth 100000 in
theorem k40_119 {w : qE} {s : qS} {k0 : Int} {f : Int → qS → Prop} {g : Nat → qS → Prop}  (H : f k0 s) : qR w 5 qm40 119 [] [qI k0] s (qPI f g) := by
  exact qS_ireturn qd_40_119 rfl (Or.inl ⟨_, rfl, H⟩)
set_option maxRecDepth 100000 in
theorem k40_90 {w : qE} {s : qS} {v2 : Int} {v3 : Int} {v5 : Int} {f : Int → qS → Prop} {g : Nat → qS → Prop}  (H : qR w 5 qm40 95 [(0, .ref 6), (2, qI v2), (3, qI v3), (5, qI v5)] [qI 1] s (qPI f g)) : qR w 5 qm40 90 [(0, .ref 6), (2, qI v2), (3, qI v3), (5, qI v5)] [] s (qPI f g) := by
  refine qS_iconst qd_40_90 ?_
  refine qS_goto qd_40_91 rfl ?_
  exact qS_sub (zsub_c rfl (zsub_c rfl (zsub_c rfl (zsub_c rfl zsub_n)))) H
set_option maxRecDepth 100000 in
theorem k40_95 {w : qE} {s : qS} {v2 : Int} {v3 : Int} {v5 : Int} {k0 : Int} {f : Int → qS → Prop} {g : Nat → qS → Prop}  (H : qR w 5 qm40 42 [(0, .ref 6), (2, qI v2), (3, qI v3), (4, qI k0), (5, qI (v5 + 1))] [] s (qPI f g)) : qR w 5 qm40 95 [(0, .ref 6), (2, qI v2), (3, qI v3), (5, qI v5)] [qI k0] s (qPI f g) := by
  refine qS_istore (a := [(0, .ref 6), (2, qI v2), (3, qI v3), (5, qI v5)]) qd_40_95 (Nat.le_of_ble_eq_true rfl) (zsub_c rfl (zsub_c rfl (zsub_c rfl (zsub_c rfl zsub_n)))) rfl ?_
  refine qS_iinc (v := v5) (a := [(4, qI k0), (0, .ref 6), (2, qI v2), (3, qI v3)]) qd_40_97 (Nat.le_of_ble_eq_true rfl) rfl (zsub_c rfl (zsub_c rfl (zsub_c rfl (zsub_c rfl zsub_n)))) rfl ?_
  refine qS_goto qd_40_100 rfl ?_
  exact qS_sub (zsub_c rfl (zsub_c rfl (zsub_c rfl (zsub_c rfl (zsub_c rfl zsub_n))))) H
