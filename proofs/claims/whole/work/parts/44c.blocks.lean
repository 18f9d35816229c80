/-! what the code does, in numbers: printed by a program of mine (wip/whole/gen_blocks.py, emit.py) -/
set_option maxRecDepth 100000 in
theorem k68 {w : qE} {s : qS} {p0 : Int} {p1 : Int} {f : Int → qS → Prop} {g : Nat → qS → Prop}  (H : qW w 2 37 [.ref 3, qI p0] s (qPI (fun r1 s1 => qW w 2 49 [.ref 3, qI p0] s1 (qPI (fun r2 s2 => qW w 2 37 [.ref 3, qI p1] s2 (qPI (fun r3 s3 => qW w 2 35 [.ref 3, qI p0] s3 (qPI (fun r4 s4 => Rg r4 ∧ (r4 = 1 → qW w 2 35 [.ref 3, qI p1] s4 (qPI (fun r5 s5 => Rg r5 ∧ (r5 = 1 → qW w 2 49 [.ref 3, qI p1] s5 (qPI (fun r6 s6 => Rg r2 ∧ Rg r6 ∧ (r2 = r6 → qR w 2 qm68 53 [(0, .ref 3), (3, qI r1), (4, qI r2), (5, qI r3), (6, qI 0)] [] s6 (qPI f g)) ∧ (r2 ≠ r6 → qR w 2 qm68 48 [] [] s6 (qPI f g))) g)) ∧ (r5 ≠ 1 → qR w 2 qm68 48 [] [] s5 (qPI f g))) g)) ∧ (r4 ≠ 1 → qR w 2 qm68 48 [] [] s4 (qPI f g))) g)) g)) g)) g)) : qW w 3 68 [.ref 3, qI p0, qI p1] s (qPI f g) := by
  refine qW.of (M := qm68) (l := [(0, .ref 3), (1, qI p0), (2, qI p1)]) qtm_68 rfl (Nat.le_of_ble_eq_true rfl) (zsub_c rfl (zsub_c rfl (zsub_c rfl zsub_n))) ?_
  refine qS_aload_n qd_68_0 rfl ?_
  refine qS_iload_n qd_68_1 rfl ?_
  refine qS_cvI qd_68_2 (qml_2_81 w) rfl qtm_37 (hpc_3 _ _) (Nat.le_of_ble_eq_true rfl) rfl (Nat.le_of_ble_eq_true rfl) H (fun r1 s1 H => ?_) (fun x s1 H => Or.inr ⟨x, rfl, H⟩)
  refine qS_istore_n (a := [(0, .ref 3), (1, qI p0), (2, qI p1)]) qd_68_5 (Nat.le_of_ble_eq_true rfl) (zsub_c rfl (zsub_c rfl (zsub_c rfl zsub_n))) rfl ?_
  refine qS_aload_n qd_68_6 rfl ?_
  refine qS_iload_n qd_68_7 rfl ?_
  refine qS_cvI qd_68_8 (qml_2_101 w) rfl qtm_49 (hpc_3 _ _) (Nat.le_of_ble_eq_true rfl) rfl (Nat.le_of_ble_eq_true rfl) H (fun r2 s2 H => ?_) (fun x s1 H => Or.inr ⟨x, rfl, H⟩)
  refine qS_istore (a := [(3, qI r1), (0, .ref 3), (1, qI p0), (2, qI p1)]) qd_68_11 (Nat.le_of_ble_eq_true rfl) (zsub_c rfl (zsub_c rfl (zsub_c rfl (zsub_c rfl zsub_n)))) rfl ?_
  refine qS_aload_n qd_68_13 rfl ?_
  refine qS_iload_n qd_68_14 rfl ?_
  refine qS_cvI qd_68_15 (qml_2_81 w) rfl qtm_37 (hpc_3 _ _) (Nat.le_of_ble_eq_true rfl) rfl (Nat.le_of_ble_eq_true rfl) H (fun r3 s3 H => ?_) (fun x s1 H => Or.inr ⟨x, rfl, H⟩)
  refine qS_istore (a := [(4, qI r2), (3, qI r1), (0, .ref 3), (1, qI p0), (2, qI p1)]) qd_68_18 (Nat.le_of_ble_eq_true rfl) (zsub_c rfl (zsub_c rfl (zsub_c rfl (zsub_c rfl (zsub_c rfl zsub_n))))) rfl ?_
  refine qS_aload_n qd_68_20 rfl ?_
  refine qS_iload_n qd_68_21 rfl ?_
  refine qS_cvI qd_68_22 (qml_2_78 w) rfl qtm_35 (hpc_3 _ _) (Nat.le_of_ble_eq_true rfl) rfl (Nat.le_of_ble_eq_true rfl) H (fun r4 s4 H => ?_) (fun x s1 H => Or.inr ⟨x, rfl, H⟩)
  refine qS_iconst qd_68_25 ?_
  obtain ⟨h26a, H1, H2⟩ := H
  refine qS_icmp qd_68_26 rfl (zcnd_ne (a := r4) (b := 1) h26a ⟨by decide, by decide⟩ (fun t => qR w _ _ t _ _ _ _) (fun hc => ?_) (fun hc => ?_))
  · have H := H1 hc; clear H1 H2 hc
    refine qS_aload_n qd_68_29 rfl ?_
    refine qS_iload_n qd_68_30 rfl ?_
    refine qS_cvI qd_68_31 (qml_2_78 w) rfl qtm_35 (hpc_3 _ _) (Nat.le_of_ble_eq_true rfl) rfl (Nat.le_of_ble_eq_true rfl) H (fun r5 s5 H => ?_) (fun x s1 H => Or.inr ⟨x, rfl, H⟩)
    refine qS_iconst qd_68_34 ?_
    obtain ⟨h35a, H1, H2⟩ := H
    refine qS_icmp qd_68_35 rfl (zcnd_ne (a := r5) (b := 1) h35a ⟨by decide, by decide⟩ (fun t => qR w _ _ t _ _ _ _) (fun hc => ?_) (fun hc => ?_))
    · have H := H1 hc; clear H1 H2 hc
      refine qS_iload qd_68_38 rfl ?_
      refine qS_aload_n qd_68_40 rfl ?_
      refine qS_iload_n qd_68_41 rfl ?_
      refine qS_cvI qd_68_42 (qml_2_101 w) rfl qtm_49 (hpc_3 _ _) (Nat.le_of_ble_eq_true rfl) rfl (Nat.le_of_ble_eq_true rfl) H (fun r6 s6 H => ?_) (fun x s1 H => Or.inr ⟨x, rfl, H⟩)
      obtain ⟨h45a, h45b, H1, H2⟩ := H
      refine qS_icmp qd_68_45 rfl (zcnd_eq (a := r2) (b := r6) h45a h45b (fun t => qR w _ _ t _ _ _ _) (fun hc => ?_) (fun hc => ?_))
      · have H := H1 hc; clear H1 H2 hc
        refine qS_iconst qd_68_50 ?_
        refine qS_istore (a := [(5, qI r3), (4, qI r2), (3, qI r1), (0, .ref 3)]) qd_68_51 (Nat.le_of_ble_eq_true rfl) (zsub_c rfl (zsub_c rfl (zsub_c rfl (zsub_c rfl zsub_n)))) rfl ?_
        exact qS_sub (zsub_c rfl (zsub_c rfl (zsub_c rfl (zsub_c rfl (zsub_c rfl zsub_n))))) H
      · have H := H2 hc; clear H1 H2 hc
        exact qS_sub zsub_n H
    · have H := H2 hc; clear H1 H2 hc
      exact qS_sub zsub_n H
  · have H := H2 hc; clear H1 H2 hc
    exact qS_sub zsub_n H
set_option maxRecDepth 100000 in
theorem k68_48 {w : qE} {s : qS}  {f : Int → qS → Prop} {g : Nat → qS → Prop}  (H : f 0 s) : qR w 2 qm68 48 [] [] s (qPI f g) := by
  refine qS_iconst qd_68_48 ?_
  exact qS_zreturn qd_68_49 rfl (Or.inl rfl) (Or.inl ⟨_, rfl, H⟩)
set_option maxRecDepth 100000 in
theorem k68_53 {w : qE} {s : qS} {v3 : Int} {v4 : Int} {v5 : Int} {v6 : Int} {f : Int → qS → Prop} {g : Nat → qS → Prop}  (H : Rg v6 ∧ Rg v4 ∧ (v6 < v4 → (0 ≤ v3 + v6 ∧ v3 + v6 < 500 ∧ ((0 ≤ v5 + v6 ∧ v5 + v6 < 500 ∧ (Rg (s 6 (v3 + v6)) ∧ Rg (s 6 (v5 + v6)) ∧ (s 6 (v3 + v6) = s 6 (v5 + v6) → qR w 2 qm68 53 [(0, .ref 3), (3, qI v3), (4, qI v4), (5, qI v5), (6, qI (v6 + 1))] [] s (qPI f g)) ∧ (s 6 (v3 + v6) ≠ s 6 (v5 + v6) → f 0 s)))))) ∧ (v4 ≤ v6 → f 1 s)) : qR w 2 qm68 53 [(0, .ref 3), (3, qI v3), (4, qI v4), (5, qI v5), (6, qI v6)] [] s (qPI f g) := by
  refine qS_iload qd_68_53 rfl ?_
  refine qS_iload qd_68_55 rfl ?_
  obtain ⟨h57a, h57b, H1, H2⟩ := H
  refine qS_icmp qd_68_57 rfl (zcnd_ge (a := v6) (b := v4) h57a h57b (fun t => qR w _ _ t _ _ _ _) (fun hc => ?_) (fun hc => ?_))
  · have H := H1 hc; clear H1 H2 hc
    refine qS_aload_n qd_68_60 rfl ?_
    refine qS_getfield (v := .ref 6) qd_68_61 (qfl_2_24 w) (hpc_3 _ _) rfl ?_
    refine qS_iload_n qd_68_64 rfl ?_
    refine qS_iload qd_68_65 rfl ?_
    refine qS_iadd (a := v3) (b := v6) qd_68_67 ?_
    obtain ⟨hl, hu, H⟩ := H
    refine qS_iaload (a := 6) (i := v3 + v6) qd_68_68 (Nat.le_of_ble_eq_true rfl) hl hu ?_
    refine qS_aload_n qd_68_69 rfl ?_
    refine qS_getfield (v := .ref 6) qd_68_70 (qfl_2_24 w) (hpc_3 _ _) rfl ?_
    refine qS_iload qd_68_73 rfl ?_
    refine qS_iload qd_68_75 rfl ?_
    refine qS_iadd (a := v5) (b := v6) qd_68_77 ?_
    obtain ⟨hl, hu, H⟩ := H
    refine qS_iaload (a := 6) (i := v5 + v6) qd_68_78 (Nat.le_of_ble_eq_true rfl) hl hu ?_
    obtain ⟨h79a, h79b, H1, H2⟩ := H
    refine qS_icmp qd_68_79 rfl (zcnd_eq (a := s 6 (v3 + v6)) (b := s 6 (v5 + v6)) h79a h79b (fun t => qR w _ _ t _ _ _ _) (fun hc => ?_) (fun hc => ?_))
    · have H := H1 hc; clear H1 H2 hc
      refine qS_iinc (v := v6) (a := [(0, .ref 3), (3, qI v3), (4, qI v4), (5, qI v5)]) qd_68_84 (Nat.le_of_ble_eq_true rfl) rfl (zsub_c rfl (zsub_c rfl (zsub_c rfl (zsub_c rfl zsub_n)))) rfl ?_
      refine qS_goto qd_68_87 rfl ?_
      exact qS_sub (zsub_c rfl (zsub_c rfl (zsub_c rfl (zsub_c rfl (zsub_c rfl zsub_n))))) H
    · have H := H2 hc; clear H1 H2 hc
      refine qS_iconst qd_68_82 ?_
      exact qS_zreturn qd_68_83 rfl (Or.inl rfl) (Or.inl ⟨_, rfl, H⟩)
  · have H := H2 hc; clear H1 H2 hc
    refine qS_iconst qd_68_90 ?_
    exact qS_zreturn qd_68_91 rfl (Or.inr rfl) (Or.inl ⟨_, rfl, H⟩)
set_option maxRecDepth 100000 in
theorem k69 {w : qE} {s : qS} {p0 : Int} {p1 : Int} {f : Int → qS → Prop} {g : Nat → qS → Prop}  (H : qW w 1 19 [.ref 1, qI 2] (qset (qset (qset s 8 2 ((-2))) 8 3 ((-2))) 8 4 0) (qPI (fun r1 s1 => qR w 7 qm69 32 [(0, .ref 8), (1, qI p0), (2, qI p1), (3, qI r1), (4, qI 0), (5, qI 0)] [] s1 (qPI f g)) g)) : qW w 8 69 [.ref 8, qI p0, qI p1] s (qPI f g) := by
  refine qW.of (M := qm69) (l := [(0, .ref 8), (1, qI p0), (2, qI p1)]) qtm_69 rfl (Nat.le_of_ble_eq_true rfl) (zsub_c rfl (zsub_c rfl (zsub_c rfl zsub_n))) ?_
  refine qS_aload_n qd_69_0 rfl ?_
  refine qS_bipush qd_69_1 (by decide) ?_
  refine qS_putfield (s1 := qset s 8 2 ((-2))) qd_69_3 (qfl_5_56 w) (hpc_8 _ _) (Nat.le_of_ble_eq_true rfl) rfl rfl rfl (hps_8_2 _ _ _) ?_
  refine qS_aload_n qd_69_6 rfl ?_
  refine qS_bipush qd_69_7 (by decide) ?_
  refine qS_putfield (s1 := qset (qset s 8 2 ((-2))) 8 3 ((-2))) qd_69_9 (qfl_5_59 w) (hpc_8 _ _) (Nat.le_of_ble_eq_true rfl) rfl rfl rfl (hps_8_3 _ _ _) ?_
  refine qS_aload_n qd_69_12 rfl ?_
  refine qS_iconst qd_69_13 ?_
  refine qS_putfield (s1 := qset (qset (qset s 8 2 ((-2))) 8 3 ((-2))) 8 4 0) qd_69_14 (qfl_5_62 w) (hpc_8 _ _) (Nat.le_of_ble_eq_true rfl) rfl rfl rfl (hps_8_4 _ _ _) ?_
  refine qS_aload_n qd_69_17 rfl ?_
  refine qS_getfield (v := .ref 1) qd_69_18 (qfl_5_9 w) (hpc_8 _ _) rfl ?_
  refine qS_iconst qd_69_21 ?_
  refine qS_cvI qd_69_22 (qml_5_65 w) rfl qtm_19 (hpc_1 _ _) (Nat.le_of_ble_eq_true rfl) rfl (Nat.le_of_ble_eq_true rfl) H (fun r1 s1 H => ?_) (fun x s1 H => Or.inr ⟨x, rfl, H⟩)
  refine qS_istore_n (a := [(0, .ref 8), (1, qI p0), (2, qI p1)]) qd_69_25 (Nat.le_of_ble_eq_true rfl) (zsub_c rfl (zsub_c rfl (zsub_c rfl zsub_n))) rfl ?_
  refine qS_iconst qd_69_26 ?_
  refine qS_istore (a := [(3, qI r1), (0, .ref 8), (1, qI p0), (2, qI p1)]) qd_69_27 (Nat.le_of_ble_eq_true rfl) (zsub_c rfl (zsub_c rfl (zsub_c rfl (zsub_c rfl zsub_n)))) rfl ?_
  refine qS_iconst qd_69_29 ?_
  refine qS_istore (a := [(4, qI 0), (3, qI r1), (0, .ref 8), (1, qI p0), (2, qI p1)]) qd_69_30 (Nat.le_of_ble_eq_true rfl) (zsub_c rfl (zsub_c rfl (zsub_c rfl (zsub_c rfl (zsub_c rfl zsub_n))))) rfl ?_
  exact qS_sub (zsub_c rfl (zsub_c rfl (zsub_c rfl (zsub_c rfl (zsub_c rfl (zsub_c rfl zsub_n)))))) H
set_option maxRecDepth 100000 in
theorem k69_32 {w : qE} {s : qS} {v1 : Int} {v2 : Int} {v3 : Int} {v4 : Int} {v5 : Int} {f : Int → qS → Prop} {g : Nat → qS → Prop}  (H : Rg v5 ∧ Rg v3 ∧ (v5 < v3 → qW w 1 21 [.ref 1] s (qPI (fun r2 s2 => qW w 2 70 [.ref 3, qI 1] s2 (qPI (fun r3 s3 => qW w 7 71 [.ref 8, qI v1, qI r3] s3 (qPA (fun r4 s4 => (∃ z5 : Int, qXo r4 5 = some (qI z5) ∧ 0 < r4 ∧ Rg (qand v4 z5) ∧ (qand v4 z5 = 0 → qR w 7 qm69 82 [(0, .ref 8), (1, qI v1), (2, qI v2), (3, qI v3), (4, qI v4), (5, qI v5), (6, qI r2), (7, .retAddr r4)] [qI 1, .ref 1] s4 (qPI f g)) ∧ (qand v4 z5 ≠ 0 → qR w 7 qm69 82 [(0, .ref 8), (1, qI v1), (2, qI v2), (3, qI v3), (4, qI v4), (5, qI v5), (6, qI r2), (7, .retAddr r4)] [qI 0, .ref 1] s4 (qPI f g)))) g)) g)) g)) ∧ (v3 ≤ v5 → f v3 s)) : qR w 7 qm69 32 [(0, .ref 8), (1, qI v1), (2, qI v2), (3, qI v3), (4, qI v4), (5, qI v5)] [] s (qPI f g) := by
  refine qS_iload qd_69_32 rfl ?_
  refine qS_iload_n qd_69_34 rfl ?_
  obtain ⟨h35a, h35b, H1, H2⟩ := H
  refine qS_icmp qd_69_35 rfl (zcnd_ge (a := v5) (b := v3) h35a h35b (fun t => qR w _ _ t _ _ _ _) (fun hc => ?_) (fun hc => ?_))
  · have H := H1 hc; clear H1 H2 hc
    refine qS_aload_n qd_69_38 rfl ?_
    refine qS_getfield (v := .ref 1) qd_69_39 (qfl_5_9 w) (hpc_8 _ _) rfl ?_
    refine qS_cvI qd_69_42 (qml_5_71 w) rfl qtm_21 (hpc_1 _ _) (Nat.le_of_ble_eq_true rfl) rfl (Nat.le_of_ble_eq_true rfl) H (fun r2 s2 H => ?_) (fun x s1 H => Or.inr ⟨x, rfl, H⟩)
    refine qS_istore (a := [(0, .ref 8), (1, qI v1), (2, qI v2), (3, qI v3), (4, qI v4), (5, qI v5)]) qd_69_45 (Nat.le_of_ble_eq_true rfl) (zsub_c rfl (zsub_c rfl (zsub_c rfl (zsub_c rfl (zsub_c rfl (zsub_c rfl zsub_n)))))) rfl ?_
    refine qS_aload_n qd_69_47 rfl ?_
    refine qS_iload_n qd_69_48 rfl ?_
    refine qS_aload_n qd_69_49 rfl ?_
    refine qS_getfield (v := .ref 3) qd_69_50 (qfl_5_15 w) (hpc_8 _ _) rfl ?_
    refine qS_iconst qd_69_53 ?_
    refine qS_cvI qd_69_54 (qml_5_75 w) rfl qtm_70 (hpc_3 _ _) (Nat.le_of_ble_eq_true rfl) rfl (Nat.le_of_ble_eq_true rfl) H (fun r3 s3 H => ?_) (fun x s1 H => Or.inr ⟨x, rfl, H⟩)
    refine qS_cvA qd_69_57 (qml_5_80 w) rfl qtm_71 (hpc_8 _ _) (Nat.le_of_ble_eq_true rfl) rfl (Nat.le_of_ble_eq_true rfl) H (fun r4 s4 H => ?_) (fun x s1 H => Or.inr ⟨x, rfl, H⟩)
    refine qS_ostore (a := [(6, qI r2), (0, .ref 8), (1, qI v1), (2, qI v2), (3, qI v3), (4, qI v4), (5, qI v5)]) qd_69_60 (Nat.le_of_ble_eq_true rfl) (zsub_c rfl (zsub_c rfl (zsub_c rfl (zsub_c rfl (zsub_c rfl (zsub_c rfl (zsub_c rfl zsub_n))))))) rfl ?_
    refine qS_aload_n qd_69_62 rfl ?_
    refine qS_getfield (v := .ref 1) qd_69_63 (qfl_5_9 w) (hpc_8 _ _) rfl ?_
    refine qS_iload qd_69_66 rfl ?_
    refine qS_oload qd_69_68 rfl ?_
    obtain ⟨z5, hxz5, h0z5, H⟩ := H
    refine qS_exget (v := qI z5) qd_69_70 (fun _ _ => qxf_5_84 _ _ _) hxz5 h0z5 rfl ?_
    refine qS_iand (a := v4) (b := z5) qd_69_73 ?_
    obtain ⟨h74a, H1, H2⟩ := H
    refine qS_if0 qd_69_74 rfl (zcnd_ne (a := qand v4 z5) (b := 0) h74a ⟨by decide, by decide⟩ (fun t => qR w _ _ t _ _ _ _) (fun hc => ?_) (fun hc => ?_))
    · have H := H1 hc; clear H1 H2 hc
      refine qS_iconst qd_69_77 ?_
      refine qS_goto qd_69_78 rfl ?_
      exact qS_sub (zsub_c rfl (zsub_c rfl (zsub_c rfl (zsub_c rfl (zsub_c rfl (zsub_c rfl (zsub_c rfl (zsub_c rfl zsub_n)))))))) H
    · have H := H2 hc; clear H1 H2 hc
      refine qS_iconst qd_69_81 ?_
      exact qS_sub (zsub_c rfl (zsub_c rfl (zsub_c rfl (zsub_c rfl (zsub_c rfl (zsub_c rfl (zsub_c rfl (zsub_c rfl zsub_n)))))))) H
  · have H := H2 hc; clear H1 H2 hc
    refine qS_iload_n qd_69_347 rfl ?_
    exact qS_ireturn qd_69_348 rfl (Or.inl ⟨_, rfl, H⟩)
set_option maxRecDepth 100000 in
theorem k69_82 {w : qE} {s : qS} {v1 : Int} {v2 : Int} {v3 : Int} {v4 : Int} {v5 : Int} {v6 : Int} {v7 : Nat} {k1 : Int} {f : Int → qS → Prop} {g : Nat → qS → Prop}  (H : qW w 1 20 [.ref 1, qI k1, qI v6] s (qPV (fun s6 => (∃ z7 : Int, qXo v7 4 = some (qI z7) ∧ 0 < v7 ∧ qW w 1 21 [.ref 1] s6 (qPI (fun r8 s8 => qW w 2 73 [.ref 1] s8 (qPI (fun r9 s9 => qW w 1 21 [.ref 1] s9 (qPI (fun r10 s10 => (∃ z11 : Int, qov v7 = some (Int32.ofInt z11) ∧ 0 < v7 ∧ 0 ≤ z11 ∧ z11 < 10 ∧ (Rg z11 ∧ (z11 = 1 → qW w 7 74 [.ref 8, qI v2] s10 (qPI (fun r12 s12 => qW w 2 70 [.ref 3, qI r12] s12 (qPI (fun r13 s13 => qR w 7 qm69 315 [(0, .ref 8), (1, qI v1), (2, qI v2), (3, qI v3), (4, qI (qor v4 z7)), (5, qI v5), (8, qI r8), (10, qI (r10 + r9))] [] (qset s13 8 2 r13) (qPI f g)) g)) g)) ∧ (z11 = 2 → qW w 4 75 [.ref 8] s10 (qPV (fun s14 => qR w 7 qm69 315 [(0, .ref 8), (1, qI v1), (2, qI v2), (3, qI v3), (4, qI (qor v4 z7)), (5, qI v5), (8, qI r8), (10, qI (r10 + r9))] [] s14 (qPI f g)) g)) ∧ (z11 = 3 → qW w 3 80 [.ref 8] s10 (qPI (fun r15 s15 => qR w 7 qm69 315 [(0, .ref 8), (1, qI v1), (2, qI v2), (3, qI v3), (4, qI (qor v4 z7)), (5, qI v5), (8, qI r8), (10, qI (r10 + r9))] [] (qset s15 8 4 r15) (qPI f g)) g)) ∧ (z11 = 4 → qW w 4 81 [.ref 8] s10 (qPV (fun s16 => qR w 7 qm69 315 [(0, .ref 8), (1, qI v1), (2, qI v2), (3, qI v3), (4, qI (qor v4 z7)), (5, qI v5), (8, qI r8), (10, qI (r10 + r9))] [] s16 (qPI f g)) g)) ∧ (z11 = 5 → qW w 2 70 [.ref 3, qI 7] s10 (qPI (fun r17 s17 => qW w 2 78 [.ref 3, qI 12] (qset s17 8 6 r17) (qPI (fun r18 s18 => qR w 7 qm69 315 [(0, .ref 8), (1, qI v1), (2, qI v2), (3, qI v3), (4, qI (qor v4 z7)), (5, qI v5), (8, qI r8), (10, qI (r10 + r9))] [] (qset s18 8 7 r18) (qPI f g)) g)) g)) ∧ (z11 = 6 → qW w 2 70 [.ref 3, qI 7] s10 (qPI (fun r19 s19 => qR w 7 qm69 315 [(0, .ref 8), (1, qI v1), (2, qI v2), (3, qI v3), (4, qI (qor v4 z7)), (5, qI v5), (8, qI r8), (10, qI (r10 + r9))] [] (qset s19 8 5 r19) (qPI f g)) g)) ∧ (z11 = 7 → qW w 4 82 [.ref 8, .ref 9] s10 (qPV (fun s20 => qR w 7 qm69 315 [(0, .ref 8), (1, qI v1), (2, qI v2), (3, qI v3), (4, qI (qor v4 z7)), (5, qI v5), (8, qI r8), (10, qI (r10 + r9))] [] s20 (qPI f g)) g)) ∧ (z11 = 8 → qW w 4 82 [.ref 8, .ref 11] s10 (qPV (fun s21 => qR w 7 qm69 315 [(0, .ref 8), (1, qI v1), (2, qI v2), (3, qI v3), (4, qI (qor v4 z7)), (5, qI v5), (8, qI r8), (10, qI (r10 + r9))] [] s21 (qPI f g)) g)) ∧ (z11 = 9 → qW w 4 83 [.ref 8] s10 (qPV (fun s22 => qR w 7 qm69 315 [(0, .ref 8), (1, qI v1), (2, qI v2), (3, qI v3), (4, qI (qor v4 z7)), (5, qI v5), (8, qI r8), (10, qI (r10 + r9))] [] s22 (qPI f g)) g)) ∧ (z11 ≠ 1 → z11 ≠ 2 → z11 ≠ 3 → z11 ≠ 4 → z11 ≠ 5 → z11 ≠ 6 → z11 ≠ 7 → z11 ≠ 8 → z11 ≠ 9 → qW w 2 76 [.ref 1, qI r9] s10 (qPV (fun s23 => qR w 7 qm69 315 [(0, .ref 8), (1, qI v1), (2, qI v2), (3, qI v3), (4, qI (qor v4 z7)), (5, qI v5), (8, qI r8), (10, qI (r10 + r9))] [] s23 (qPI f g)) g))))) g)) g)) g))) g)) : qR w 7 qm69 82 [(0, .ref 8), (1, qI v1), (2, qI v2), (3, qI v3), (4, qI v4), (5, qI v5), (6, qI v6), (7, .retAddr v7)] [qI k1, .ref 1] s (qPI f g) := by
  refine qS_iload qd_69_82 rfl ?_
  refine qS_cvV qd_69_84 (qml_5_87 w) rfl qtm_20 (hpc_1 _ _) (Nat.le_of_ble_eq_true rfl) rfl (Nat.le_of_ble_eq_true rfl) H (fun s6 H => ?_) (fun x s1 H => Or.inr ⟨x, rfl, H⟩)
  refine qS_iload qd_69_87 rfl ?_
  refine qS_oload qd_69_89 rfl ?_
  obtain ⟨z7, hxz7, h0z7, H⟩ := H
  refine qS_exget (v := qI z7) qd_69_91 (fun _ _ => qxf_5_91 _ _ _) hxz7 h0z7 rfl ?_
  refine qS_ior (a := v4) (b := z7) qd_69_94 ?_
  refine qS_istore (a := [(0, .ref 8), (1, qI v1), (2, qI v2), (3, qI v3), (5, qI v5), (7, .retAddr v7)]) qd_69_95 (Nat.le_of_ble_eq_true rfl) (zsub_c rfl (zsub_c rfl (zsub_c rfl (zsub_c rfl (zsub_c rfl (zsub_c rfl zsub_n)))))) rfl ?_
  refine qS_aload_n qd_69_97 rfl ?_
  refine qS_getfield (v := .ref 1) qd_69_98 (qfl_5_9 w) (hpc_8 _ _) rfl ?_
  refine qS_cvI qd_69_101 (qml_5_71 w) rfl qtm_21 (hpc_1 _ _) (Nat.le_of_ble_eq_true rfl) rfl (Nat.le_of_ble_eq_true rfl) H (fun r8 s8 H => ?_) (fun x s1 H => Or.inr ⟨x, rfl, H⟩)
  refine qS_istore (a := [(4, qI (qor v4 z7)), (0, .ref 8), (1, qI v1), (2, qI v2), (3, qI v3), (5, qI v5), (7, .retAddr v7)]) qd_69_104 (Nat.le_of_ble_eq_true rfl) (zsub_c rfl (zsub_c rfl (zsub_c rfl (zsub_c rfl (zsub_c rfl (zsub_c rfl (zsub_c rfl zsub_n))))))) rfl ?_
  refine qS_aload_n qd_69_106 rfl ?_
  refine qS_getfield (v := .ref 1) qd_69_107 (qfl_5_9 w) (hpc_8 _ _) rfl ?_
  refine qS_cvI qd_69_110 (qml_5_94 w) rfl qtm_73 (hpc_1 _ _) (Nat.le_of_ble_eq_true rfl) rfl (Nat.le_of_ble_eq_true rfl) H (fun r9 s9 H => ?_) (fun x s1 H => Or.inr ⟨x, rfl, H⟩)
  refine qS_istore (a := [(8, qI r8), (4, qI (qor v4 z7)), (0, .ref 8), (1, qI v1), (2, qI v2), (3, qI v3), (5, qI v5), (7, .retAddr v7)]) qd_69_113 (Nat.le_of_ble_eq_true rfl) (zsub_c rfl (zsub_c rfl (zsub_c rfl (zsub_c rfl (zsub_c rfl (zsub_c rfl (zsub_c rfl (zsub_c rfl zsub_n)))))))) rfl ?_
  refine qS_aload_n qd_69_115 rfl ?_
  refine qS_getfield (v := .ref 1) qd_69_116 (qfl_5_9 w) (hpc_8 _ _) rfl ?_
  refine qS_cvI qd_69_119 (qml_5_71 w) rfl qtm_21 (hpc_1 _ _) (Nat.le_of_ble_eq_true rfl) rfl (Nat.le_of_ble_eq_true rfl) H (fun r10 s10 H => ?_) (fun x s1 H => Or.inr ⟨x, rfl, H⟩)
  refine qS_iload qd_69_122 rfl ?_
  refine qS_iadd (a := r10) (b := r9) qd_69_124 ?_
  refine qS_istore (a := [(9, qI r9), (8, qI r8), (4, qI (qor v4 z7)), (0, .ref 8), (1, qI v1), (2, qI v2), (3, qI v3), (5, qI v5), (7, .retAddr v7)]) qd_69_125 (Nat.le_of_ble_eq_true rfl) (zsub_c rfl (zsub_c rfl (zsub_c rfl (zsub_c rfl (zsub_c rfl (zsub_c rfl (zsub_c rfl (zsub_c rfl (zsub_c rfl zsub_n))))))))) rfl ?_
  refine qS_ex (st' := [.retAddr 3]) qd_69_127 rfl rfl (fun _ => rfl) (fun _ => rfl) (fun _ => rfl) rfl (fun _ => rfl) rfl (fun _ => rfl) rfl rfl ?_
  refine qS_oload qd_69_130 rfl ?_
  obtain ⟨z11, hxz11, h0z11, H⟩ := H
  refine qS_ex (st' := [qI z11, .retAddr 3]) qd_69_132 rfl rfl (fun _ => rfl) (fun _ => rfl) (fun _ => rfl) rfl (fun _ => rfl) rfl (fun _ => rfl) rfl (qS_ord rfl hxz11 h0z11 (Nat.le_of_ble_eq_true rfl)) ?_
  obtain ⟨hl, hu, H⟩ := H
  refine qS_ex (st' := [qI z11]) qd_69_135 rfl rfl (fun _ => rfl) (fun _ => rfl) (fun _ => rfl) rfl (fun _ => rfl) rfl (fun _ => rfl) rfl (qS_sw hl hu) ?_
  obtain ⟨h136a, H1, H2, H3, H4, H5, H6, H7, H8, H9, Hd⟩ := H
  by_cases hc0 : z11 = 1
  · refine qS_tsw qd_69_136 (t := 188) h136a (by rw [hc0]; rfl) ?_
    have H := H1 hc0
    refine qS_aload_n qd_69_188 rfl ?_
    refine qS_aload_n qd_69_189 rfl ?_
    refine qS_getfield (v := .ref 3) qd_69_190 (qfl_5_15 w) (hpc_8 _ _) rfl ?_
    refine qS_aload_n qd_69_193 rfl ?_
    refine qS_iload_n qd_69_194 rfl ?_
    refine qS_cvI qd_69_195 (qml_5_106 w) rfl qtm_74 (hpc_8 _ _) (Nat.le_of_ble_eq_true rfl) rfl (Nat.le_of_ble_eq_true rfl) H (fun r12 s12 H => ?_) (fun x s1 H => Or.inr ⟨x, rfl, H⟩)
    refine qS_cvI qd_69_198 (qml_5_75 w) rfl qtm_70 (hpc_3 _ _) (Nat.le_of_ble_eq_true rfl) rfl (Nat.le_of_ble_eq_true rfl) H (fun r13 s13 H => ?_) (fun x s1 H => Or.inr ⟨x, rfl, H⟩)
    refine qS_putfield (s1 := qset s13 8 2 r13) qd_69_201 (qfl_5_56 w) (hpc_8 _ _) (Nat.le_of_ble_eq_true rfl) rfl rfl rfl (hps_8_2 _ _ _) ?_
    refine qS_goto qd_69_204 rfl ?_
    exact qS_sub (zsub_c rfl (zsub_c rfl (zsub_c rfl (zsub_c rfl (zsub_c rfl (zsub_c rfl (zsub_c rfl (zsub_c rfl zsub_n)))))))) H
  by_cases hc1 : z11 = 2
  · refine qS_tsw qd_69_136 (t := 207) h136a (by rw [hc1]; rfl) ?_
    have H := H2 hc1
    refine qS_aload_n qd_69_207 rfl ?_
    refine qS_cvV qd_69_208 (qml_5_109 w) rfl qtm_75 (hpc_8 _ _) (Nat.le_of_ble_eq_true rfl) rfl (Nat.le_of_ble_eq_true rfl) H (fun s14 H => ?_) (fun x s1 H => Or.inr ⟨x, rfl, H⟩)
    refine qS_goto qd_69_211 rfl ?_
    exact qS_sub (zsub_c rfl (zsub_c rfl (zsub_c rfl (zsub_c rfl (zsub_c rfl (zsub_c rfl (zsub_c rfl (zsub_c rfl zsub_n)))))))) H
  by_cases hc2 : z11 = 3
  · refine qS_tsw qd_69_136 (t := 214) h136a (by rw [hc2]; rfl) ?_
    have H := H3 hc2
    refine qS_aload_n qd_69_214 rfl ?_
    refine qS_aload_n qd_69_215 rfl ?_
    refine qS_cvI qd_69_216 (qml_5_112 w) rfl qtm_80 (hpc_8 _ _) (Nat.le_of_ble_eq_true rfl) rfl (Nat.le_of_ble_eq_true rfl) H (fun r15 s15 H => ?_) (fun x s1 H => Or.inr ⟨x, rfl, H⟩)
    refine qS_putfield (s1 := qset s15 8 4 r15) qd_69_219 (qfl_5_62 w) (hpc_8 _ _) (Nat.le_of_ble_eq_true rfl) rfl rfl rfl (hps_8_4 _ _ _) ?_
    refine qS_goto qd_69_222 rfl ?_
    exact qS_sub (zsub_c rfl (zsub_c rfl (zsub_c rfl (zsub_c rfl (zsub_c rfl (zsub_c rfl (zsub_c rfl (zsub_c rfl zsub_n)))))))) H
  by_cases hc3 : z11 = 4
  · refine qS_tsw qd_69_136 (t := 225) h136a (by rw [hc3]; rfl) ?_
    have H := H4 hc3
    refine qS_aload_n qd_69_225 rfl ?_
    refine qS_cvV qd_69_226 (qml_5_115 w) rfl qtm_81 (hpc_8 _ _) (Nat.le_of_ble_eq_true rfl) rfl (Nat.le_of_ble_eq_true rfl) H (fun s16 H => ?_) (fun x s1 H => Or.inr ⟨x, rfl, H⟩)
    refine qS_goto qd_69_229 rfl ?_
    exact qS_sub (zsub_c rfl (zsub_c rfl (zsub_c rfl (zsub_c rfl (zsub_c rfl (zsub_c rfl (zsub_c rfl (zsub_c rfl zsub_n)))))))) H
  by_cases hc4 : z11 = 5
  · refine qS_tsw qd_69_136 (t := 232) h136a (by rw [hc4]; rfl) ?_
    have H := H5 hc4
    refine qS_aload_n qd_69_232 rfl ?_
    refine qS_aload_n qd_69_233 rfl ?_
    refine qS_getfield (v := .ref 3) qd_69_234 (qfl_5_15 w) (hpc_8 _ _) rfl ?_
    refine qS_bipush qd_69_237 (by decide) ?_
    refine qS_cvI qd_69_239 (qml_5_75 w) rfl qtm_70 (hpc_3 _ _) (Nat.le_of_ble_eq_true rfl) rfl (Nat.le_of_ble_eq_true rfl) H (fun r17 s17 H => ?_) (fun x s1 H => Or.inr ⟨x, rfl, H⟩)
    refine qS_putfield (s1 := qset s17 8 6 r17) qd_69_242 (qfl_5_41 w) (hpc_8 _ _) (Nat.le_of_ble_eq_true rfl) rfl rfl rfl (hps_8_6 _ _ _) ?_
    refine qS_aload_n qd_69_245 rfl ?_
    refine qS_aload_n qd_69_246 rfl ?_
    refine qS_getfield (v := .ref 3) qd_69_247 (qfl_5_15 w) (hpc_8 _ _) rfl ?_
    refine qS_bipush qd_69_250 (by decide) ?_
    refine qS_cvI qd_69_252 (qml_5_118 w) rfl qtm_78 (hpc_3 _ _) (Nat.le_of_ble_eq_true rfl) rfl (Nat.le_of_ble_eq_true rfl) H (fun r18 s18 H => ?_) (fun x s1 H => Or.inr ⟨x, rfl, H⟩)
    refine qS_putfield (s1 := qset s18 8 7 r18) qd_69_255 (qfl_5_44 w) (hpc_8 _ _) (Nat.le_of_ble_eq_true rfl) rfl rfl rfl (hps_8_7 _ _ _) ?_
    refine qS_goto qd_69_258 rfl ?_
    exact qS_sub (zsub_c rfl (zsub_c rfl (zsub_c rfl (zsub_c rfl (zsub_c rfl (zsub_c rfl (zsub_c rfl (zsub_c rfl zsub_n)))))))) H
  by_cases hc5 : z11 = 6
  · refine qS_tsw qd_69_136 (t := 261) h136a (by rw [hc5]; rfl) ?_
    have H := H6 hc5
    refine qS_aload_n qd_69_261 rfl ?_
    refine qS_aload_n qd_69_262 rfl ?_
    refine qS_getfield (v := .ref 3) qd_69_263 (qfl_5_15 w) (hpc_8 _ _) rfl ?_
    refine qS_bipush qd_69_266 (by decide) ?_
    refine qS_cvI qd_69_268 (qml_5_75 w) rfl qtm_70 (hpc_3 _ _) (Nat.le_of_ble_eq_true rfl) rfl (Nat.le_of_ble_eq_true rfl) H (fun r19 s19 H => ?_) (fun x s1 H => Or.inr ⟨x, rfl, H⟩)
    refine qS_putfield (s1 := qset s19 8 5 r19) qd_69_271 (qfl_5_37 w) (hpc_8 _ _) (Nat.le_of_ble_eq_true rfl) rfl rfl rfl (hps_8_5 _ _ _) ?_
    refine qS_goto qd_69_274 rfl ?_
    exact qS_sub (zsub_c rfl (zsub_c rfl (zsub_c rfl (zsub_c rfl (zsub_c rfl (zsub_c rfl (zsub_c rfl (zsub_c rfl zsub_n)))))))) H
  by_cases hc6 : z11 = 7
  · refine qS_tsw qd_69_136 (t := 277) h136a (by rw [hc6]; rfl) ?_
    have H := H7 hc6
    refine qS_aload_n qd_69_277 rfl ?_
    refine qS_aload_n qd_69_278 rfl ?_
    refine qS_getfield (v := .ref 9) qd_69_279 (qfl_5_24 w) (hpc_8 _ _) rfl ?_
    refine qS_cvV qd_69_282 (qml_5_121 w) rfl qtm_82 (hpc_8 _ _) (Nat.le_of_ble_eq_true rfl) rfl (Nat.le_of_ble_eq_true rfl) H (fun s20 H => ?_) (fun x s1 H => Or.inr ⟨x, rfl, H⟩)
    refine qS_goto qd_69_285 rfl ?_
    exact qS_sub (zsub_c rfl (zsub_c rfl (zsub_c rfl (zsub_c rfl (zsub_c rfl (zsub_c rfl (zsub_c rfl (zsub_c rfl zsub_n)))))))) H
  by_cases hc7 : z11 = 8
  · refine qS_tsw qd_69_136 (t := 288) h136a (by rw [hc7]; rfl) ?_
    have H := H8 hc7
    refine qS_aload_n qd_69_288 rfl ?_
    refine qS_aload_n qd_69_289 rfl ?_
    refine qS_getfield (v := .ref 11) qd_69_290 (qfl_5_28 w) (hpc_8 _ _) rfl ?_
    refine qS_cvV qd_69_293 (qml_5_121 w) rfl qtm_82 (hpc_8 _ _) (Nat.le_of_ble_eq_true rfl) rfl (Nat.le_of_ble_eq_true rfl) H (fun s21 H => ?_) (fun x s1 H => Or.inr ⟨x, rfl, H⟩)
    refine qS_goto qd_69_296 rfl ?_
    exact qS_sub (zsub_c rfl (zsub_c rfl (zsub_c rfl (zsub_c rfl (zsub_c rfl (zsub_c rfl (zsub_c rfl (zsub_c rfl zsub_n)))))))) H
  by_cases hc8 : z11 = 9
  · refine qS_tsw qd_69_136 (t := 299) h136a (by rw [hc8]; rfl) ?_
    have H := H9 hc8
    refine qS_aload_n qd_69_299 rfl ?_
    refine qS_cvV qd_69_300 (qml_5_125 w) rfl qtm_83 (hpc_8 _ _) (Nat.le_of_ble_eq_true rfl) rfl (Nat.le_of_ble_eq_true rfl) H (fun s22 H => ?_) (fun x s1 H => Or.inr ⟨x, rfl, H⟩)
    refine qS_goto qd_69_303 rfl ?_
    exact qS_sub (zsub_c rfl (zsub_c rfl (zsub_c rfl (zsub_c rfl (zsub_c rfl (zsub_c rfl (zsub_c rfl (zsub_c rfl zsub_n)))))))) H
  refine qS_tsw qd_69_136 (t := 306) h136a (by unfold ztsw; rw [if_pos (by omega)]; rfl) ?_
  have H := Hd (by omega) (by omega) (by omega) (by omega) (by omega) (by omega) (by omega) (by omega) (by omega)
  refine qS_aload_n qd_69_306 rfl ?_
  refine qS_getfield (v := .ref 1) qd_69_307 (qfl_5_9 w) (hpc_8 _ _) rfl ?_
  refine qS_iload qd_69_310 rfl ?_
  refine qS_cvV qd_69_312 (qml_5_128 w) rfl qtm_76 (hpc_1 _ _) (Nat.le_of_ble_eq_true rfl) rfl (Nat.le_of_ble_eq_true rfl) H (fun s23 H => ?_) (fun x s1 H => Or.inr ⟨x, rfl, H⟩)
  exact qS_sub (zsub_c rfl (zsub_c rfl (zsub_c rfl (zsub_c rfl (zsub_c rfl (zsub_c rfl (zsub_c rfl (zsub_c rfl zsub_n)))))))) H
set_option maxRecDepth 100000 in
theorem k69_315 {w : qE} {s : qS} {v1 : Int} {v2 : Int} {v3 : Int} {v4 : Int} {v5 : Int} {v8 : Int} {v10 : Int} {f : Int → qS → Prop} {g : Nat → qS → Prop}  (H : qW w 1 21 [.ref 1] s (qPI (fun r24 s24 => Rg r24 ∧ Rg v10 ∧ (r24 = v10 → qR w 7 qm69 336 [(0, .ref 8), (1, qI v1), (2, qI v2), (3, qI v3), (4, qI v4), (5, qI v5), (8, qI v8)] [qI 1, .ref 1] s24 (qPI f g)) ∧ (r24 ≠ v10 → qR w 7 qm69 336 [(0, .ref 8), (1, qI v1), (2, qI v2), (3, qI v3), (4, qI v4), (5, qI v5), (8, qI v8)] [qI 0, .ref 1] s24 (qPI f g))) g)) : qR w 7 qm69 315 [(0, .ref 8), (1, qI v1), (2, qI v2), (3, qI v3), (4, qI v4), (5, qI v5), (8, qI v8), (10, qI v10)] [] s (qPI f g) := by
  refine qS_aload_n qd_69_315 rfl ?_
  refine qS_getfield (v := .ref 1) qd_69_316 (qfl_5_9 w) (hpc_8 _ _) rfl ?_
  refine qS_aload_n qd_69_319 rfl ?_
  refine qS_getfield (v := .ref 1) qd_69_320 (qfl_5_9 w) (hpc_8 _ _) rfl ?_
  refine qS_cvI qd_69_323 (qml_5_71 w) rfl qtm_21 (hpc_1 _ _) (Nat.le_of_ble_eq_true rfl) rfl (Nat.le_of_ble_eq_true rfl) H (fun r24 s24 H => ?_) (fun x s1 H => Or.inr ⟨x, rfl, H⟩)
  refine qS_iload qd_69_326 rfl ?_
  obtain ⟨h328a, h328b, H1, H2⟩ := H
  refine qS_icmp qd_69_328 rfl (zcnd_ne (a := r24) (b := v10) h328a h328b (fun t => qR w _ _ t _ _ _ _) (fun hc => ?_) (fun hc => ?_))
  · have H := H1 hc; clear H1 H2 hc
    refine qS_iconst qd_69_331 ?_
    refine qS_goto qd_69_332 rfl ?_
    exact qS_sub (zsub_c rfl (zsub_c rfl (zsub_c rfl (zsub_c rfl (zsub_c rfl (zsub_c rfl (zsub_c rfl zsub_n))))))) H
  · have H := H2 hc; clear H1 H2 hc
    refine qS_iconst qd_69_335 ?_
    exact qS_sub (zsub_c rfl (zsub_c rfl (zsub_c rfl (zsub_c rfl (zsub_c rfl (zsub_c rfl (zsub_c rfl zsub_n))))))) H
set_option maxRecDepth 100000 in
theorem k69_336 {w : qE} {s : qS} {v1 : Int} {v2 : Int} {v3 : Int} {v4 : Int} {v5 : Int} {v8 : Int} {k1 : Int} {f : Int → qS → Prop} {g : Nat → qS → Prop}  (H : qW w 1 20 [.ref 1, qI k1, qI v8] s (qPV (fun s25 => qR w 7 qm69 32 [(0, .ref 8), (1, qI v1), (2, qI v2), (3, qI v3), (4, qI v4), (5, qI (v5 + 1))] [] s25 (qPI f g)) g)) : qR w 7 qm69 336 [(0, .ref 8), (1, qI v1), (2, qI v2), (3, qI v3), (4, qI v4), (5, qI v5), (8, qI v8)] [qI k1, .ref 1] s (qPI f g) := by
  refine qS_iload qd_69_336 rfl ?_
  refine qS_cvV qd_69_338 (qml_5_87 w) rfl qtm_20 (hpc_1 _ _) (Nat.le_of_ble_eq_true rfl) rfl (Nat.le_of_ble_eq_true rfl) H (fun s25 H => ?_) (fun x s1 H => Or.inr ⟨x, rfl, H⟩)
  refine qS_iinc (v := v5) (a := [(0, .ref 8), (1, qI v1), (2, qI v2), (3, qI v3), (4, qI v4)]) qd_69_341 (Nat.le_of_ble_eq_true rfl) rfl (zsub_c rfl (zsub_c rfl (zsub_c rfl (zsub_c rfl (zsub_c rfl zsub_n))))) rfl ?_
  refine qS_goto qd_69_344 rfl ?_
  exact qS_sub (zsub_c rfl (zsub_c rfl (zsub_c rfl (zsub_c rfl (zsub_c rfl (zsub_c rfl zsub_n)))))) H
set_option maxRecDepth 100000 in
theorem k70 {w : qE} {s : qS} {p0 : Int} {f : Int → qS → Prop} {g : Nat → qS → Prop}  (H : qW w 1 19 [.ref 1, qI 2] s (qPI (fun r1 s1 => qW w 1 36 [.ref 4, qI r1, qI 0] s1 (qPI (fun r2 s2 => Rg r2 ∧ Rg p0 ∧ (r2 = p0 → qR w 1 qm70 31 [(0, .ref 3), (2, qI r1)] [qI 1, .ref 1] s2 (qPI f g)) ∧ (r2 ≠ p0 → qR w 1 qm70 31 [(0, .ref 3), (2, qI r1)] [qI 0, .ref 1] s2 (qPI f g))) g)) g)) : qW w 2 70 [.ref 3, qI p0] s (qPI f g) := by
  refine qW.of (M := qm70) (l := [(0, .ref 3), (1, qI p0)]) qtm_70 rfl (Nat.le_of_ble_eq_true rfl) (zsub_c rfl (zsub_c rfl zsub_n)) ?_
  refine qS_aload_n qd_70_0 rfl ?_
  refine qS_getfield (v := .ref 1) qd_70_1 (qfl_2_9 w) (hpc_3 _ _) rfl ?_
  refine qS_iconst qd_70_4 ?_
  refine qS_cvI qd_70_5 (qml_2_35 w) rfl qtm_19 (hpc_1 _ _) (Nat.le_of_ble_eq_true rfl) rfl (Nat.le_of_ble_eq_true rfl) H (fun r1 s1 H => ?_) (fun x s1 H => Or.inr ⟨x, rfl, H⟩)
  refine qS_istore_n (a := [(0, .ref 3), (1, qI p0)]) qd_70_8 (Nat.le_of_ble_eq_true rfl) (zsub_c rfl (zsub_c rfl zsub_n)) rfl ?_
  refine qS_aload_n qd_70_9 rfl ?_
  refine qS_getfield (v := .ref 1) qd_70_10 (qfl_2_9 w) (hpc_3 _ _) rfl ?_
  refine qS_aload_n qd_70_13 rfl ?_
  refine qS_getfield (v := .ref 4) qd_70_14 (qfl_2_20 w) (hpc_3 _ _) rfl ?_
  refine qS_iload_n qd_70_17 rfl ?_
  refine qS_iconst qd_70_18 ?_
  refine qS_cvI qd_70_19 (qml_2_93 w) rfl qtm_36 (hpc_4 _ _) (Nat.le_of_ble_eq_true rfl) rfl (Nat.le_of_ble_eq_true rfl) H (fun r2 s2 H => ?_) (fun x s1 H => Or.inr ⟨x, rfl, H⟩)
  refine qS_iload_n qd_70_22 rfl ?_
  obtain ⟨h23a, h23b, H1, H2⟩ := H
  refine qS_icmp qd_70_23 rfl (zcnd_ne (a := r2) (b := p0) h23a h23b (fun t => qR w _ _ t _ _ _ _) (fun hc => ?_) (fun hc => ?_))
  · have H := H1 hc; clear H1 H2 hc
    refine qS_iconst qd_70_26 ?_
    refine qS_goto qd_70_27 rfl ?_
    exact qS_sub (zsub_c rfl (zsub_c rfl zsub_n)) H
  · have H := H2 hc; clear H1 H2 hc
    refine qS_iconst qd_70_30 ?_
    exact qS_sub (zsub_c rfl (zsub_c rfl zsub_n)) H
set_option maxRecDepth 100000 in
theorem k70_31 {w : qE} {s : qS} {v2 : Int} {k1 : Int} {f : Int → qS → Prop} {g : Nat → qS → Prop}  (H : qW w 1 21 [.ref 1] s (qPI (fun r3 s3 => qW w 1 20 [.ref 1, qI k1, qI (r3 - 2)] s3 (qPV (fun s4 => f v2 s4) g)) g)) : qR w 1 qm70 31 [(0, .ref 3), (2, qI v2)] [qI k1, .ref 1] s (qPI f g) := by
  refine qS_aload_n qd_70_31 rfl ?_
  refine qS_getfield (v := .ref 1) qd_70_32 (qfl_2_9 w) (hpc_3 _ _) rfl ?_
  refine qS_cvI qd_70_35 (qml_2_41 w) rfl qtm_21 (hpc_1 _ _) (Nat.le_of_ble_eq_true rfl) rfl (Nat.le_of_ble_eq_true rfl) H (fun r3 s3 H => ?_) (fun x s1 H => Or.inr ⟨x, rfl, H⟩)
  refine qS_iconst qd_70_38 ?_
  refine qS_isub (a := r3) (b := 2) qd_70_39 ?_
  refine qS_cvV qd_70_40 (qml_2_45 w) rfl qtm_20 (hpc_1 _ _) (Nat.le_of_ble_eq_true rfl) rfl (Nat.le_of_ble_eq_true rfl) H (fun s4 H => ?_) (fun x s1 H => Or.inr ⟨x, rfl, H⟩)
  refine qS_iload_n qd_70_43 rfl ?_
  exact qS_ireturn qd_70_44 rfl (Or.inl ⟨_, rfl, H⟩)
set_option maxRecDepth 100000 in
theorem k71 {w : qE} {s : qS} {p0 : Int} {p1 : Int} {f : Nat → qS → Prop} {g : Nat → qS → Prop}  (H : qR w 6 qm71 2 [(0, .ref 8), (1, qI p0), (2, qI p1), (3, qI 0)] [] s (qPA f g)) : qW w 7 71 [.ref 8, qI p0, qI p1] s (qPA f g) := by
  refine qW.of (M := qm71) (l := [(0, .ref 8), (1, qI p0), (2, qI p1)]) qtm_71 rfl (Nat.le_of_ble_eq_true rfl) (zsub_c rfl (zsub_c rfl (zsub_c rfl zsub_n))) ?_
  refine qS_iconst qd_71_0 ?_
  refine qS_istore_n (a := [(0, .ref 8), (1, qI p0), (2, qI p1)]) qd_71_1 (Nat.le_of_ble_eq_true rfl) (zsub_c rfl (zsub_c rfl (zsub_c rfl zsub_n))) rfl ?_
  exact qS_sub (zsub_c rfl (zsub_c rfl (zsub_c rfl (zsub_c rfl zsub_n)))) H
set_option maxRecDepth 100000 in
theorem k71_2 {w : qE} {s : qS} {v1 : Int} {v2 : Int} {v3 : Int} {f : Nat → qS → Prop} {g : Nat → qS → Prop}  (H : Rg v3 ∧ (v3 < 10 → 0 ≤ v3 ∧ v3 < 10 ∧ ((∃ z1 : Int, qXo (10 + (v3).toNat) 2 = some (qI z1) ∧ 0 < (10 + (v3).toNat) ∧ Rg z1 ∧ Rg v1 ∧ (z1 = v1 → 0 ≤ v3 ∧ v3 < 10 ∧ ((∃ z2 : Nat, qXo (10 + (v3).toNat) 3 = some (.retAddr z2) ∧ 0 < (10 + (v3).toNat) ∧ qW w 6 72 [.ref 3, qI v2, .retAddr z2] s (qPI (fun r3 s3 => Rg r3 ∧ (r3 = 0 → qR w 6 qm71 47 [(0, .ref 8), (1, qI v1), (2, qI v2), (3, qI v3)] [] s3 (qPA f g)) ∧ (r3 ≠ 0 → 0 ≤ v3 ∧ v3 < 10 ∧ (f (10 + (v3).toNat) s3))) g)))) ∧ (z1 ≠ v1 → qR w 6 qm71 47 [(0, .ref 8), (1, qI v1), (2, qI v2), (3, qI v3)] [] s (qPA f g))))) ∧ (10 ≤ v3 → f 10 s)) : qR w 6 qm71 2 [(0, .ref 8), (1, qI v1), (2, qI v2), (3, qI v3)] [] s (qPA f g) := by
  refine qS_iload_n qd_71_2 rfl ?_
  refine qS_ex (st' := [.retAddr 2, qI v3]) qd_71_3 rfl rfl (fun _ => rfl) (fun _ => rfl) (fun _ => rfl) rfl (fun _ => rfl) rfl (fun _ => rfl) rfl rfl ?_
  refine qS_ex (st' := [qI 10, qI v3]) qd_71_6 rfl rfl (fun _ => rfl) (fun _ => rfl) (fun _ => rfl) rfl (fun _ => rfl) rfl (fun _ => rfl) rfl rfl ?_
  obtain ⟨h7a, H1, H2⟩ := H
  refine qS_icmp qd_71_7 rfl (zcnd_ge (a := v3) (b := 10) h7a ⟨by decide, by decide⟩ (fun t => qR w _ _ t _ _ _ _) (fun hc => ?_) (fun hc => ?_))
  · have H := H1 hc; clear H1 H2 hc
    refine qS_ex (st' := [.retAddr 2]) qd_71_10 rfl rfl (fun _ => rfl) (fun _ => rfl) (fun _ => rfl) rfl (fun _ => rfl) rfl (fun _ => rfl) rfl rfl ?_
    refine qS_iload_n qd_71_13 rfl ?_
    obtain ⟨hl, hu, H⟩ := H
    refine qS_ex (st' := [.retAddr (10 + (v3).toNat)]) qd_71_14 rfl rfl (fun _ => rfl) (fun _ => rfl) (fun _ => rfl) rfl (fun _ => rfl) rfl (fun _ => rfl) rfl (qS_all hl hu) ?_
    obtain ⟨z1, hxz1, h0z1, H⟩ := H
    refine qS_exget (v := qI z1) qd_71_15 (fun _ _ => qxf_5_136 _ _ _) hxz1 h0z1 rfl ?_
    refine qS_iload_n qd_71_18 rfl ?_
    obtain ⟨h19a, h19b, H1, H2⟩ := H
    refine qS_icmp qd_71_19 rfl (zcnd_ne (a := z1) (b := v1) h19a h19b (fun t => qR w _ _ t _ _ _ _) (fun hc => ?_) (fun hc => ?_))
    · have H := H1 hc; clear H1 H2 hc
      refine qS_aload_n qd_71_22 rfl ?_
      refine qS_getfield (v := .ref 3) qd_71_23 (qfl_5_15 w) (hpc_8 _ _) rfl ?_
      refine qS_iload_n qd_71_26 rfl ?_
      refine qS_ex (st' := [.retAddr 2, qI v2, .ref 3]) qd_71_27 rfl rfl (fun _ => rfl) (fun _ => rfl) (fun _ => rfl) rfl (fun _ => rfl) rfl (fun _ => rfl) rfl rfl ?_
      refine qS_iload_n qd_71_30 rfl ?_
      obtain ⟨hl, hu, H⟩ := H
      refine qS_ex (st' := [.retAddr (10 + (v3).toNat), qI v2, .ref 3]) qd_71_31 rfl rfl (fun _ => rfl) (fun _ => rfl) (fun _ => rfl) rfl (fun _ => rfl) rfl (fun _ => rfl) rfl (qS_all hl hu) ?_
      obtain ⟨z2, hxz2, h0z2, H⟩ := H
      refine qS_exget (v := .retAddr z2) qd_71_32 (fun _ _ => qxf_5_139 _ _ _) hxz2 h0z2 rfl ?_
      refine qS_cvI qd_71_35 (qml_5_143 w) rfl qtm_72 (hpc_3 _ _) (Nat.le_of_ble_eq_true rfl) rfl (Nat.le_of_ble_eq_true rfl) H (fun r3 s3 H => ?_) (fun x s1 H => Or.inr ⟨x, rfl, H⟩)
      obtain ⟨h38a, H1, H2⟩ := H
      refine qS_if0 qd_71_38 rfl (zcnd_eq (a := r3) (b := 0) h38a ⟨by decide, by decide⟩ (fun t => qR w _ _ t _ _ _ _) (fun hc => ?_) (fun hc => ?_))
      · have H := H1 hc; clear H1 H2 hc
        exact qS_sub (zsub_c rfl (zsub_c rfl (zsub_c rfl (zsub_c rfl zsub_n)))) H
      · have H := H2 hc; clear H1 H2 hc
        refine qS_ex (st' := [.retAddr 2]) qd_71_41 rfl rfl (fun _ => rfl) (fun _ => rfl) (fun _ => rfl) rfl (fun _ => rfl) rfl (fun _ => rfl) rfl rfl ?_
        refine qS_iload_n qd_71_44 rfl ?_
        obtain ⟨hl, hu, H⟩ := H
        refine qS_ex (st' := [.retAddr (10 + (v3).toNat)]) qd_71_45 rfl rfl (fun _ => rfl) (fun _ => rfl) (fun _ => rfl) rfl (fun _ => rfl) rfl (fun _ => rfl) rfl (qS_all hl hu) ?_
        exact qS_oreturn qd_71_46 rfl (Or.inl ⟨_, rfl, H⟩)
    · have H := H2 hc; clear H1 H2 hc
      exact qS_sub (zsub_c rfl (zsub_c rfl (zsub_c rfl (zsub_c rfl zsub_n)))) H
  · have H := H2 hc; clear H1 H2 hc
    refine qS_ex (st' := [.retAddr 10]) qd_71_53 rfl rfl (fun _ => rfl) (fun _ => rfl) (fun _ => rfl) rfl (fun _ => rfl) rfl (fun _ => rfl) rfl rfl ?_
    exact qS_oreturn qd_71_56 rfl (Or.inl ⟨_, rfl, H⟩)
set_option maxRecDepth 100000 in
theorem k71_47 {w : qE} {s : qS} {v1 : Int} {v2 : Int} {v3 : Int} {f : Nat → qS → Prop} {g : Nat → qS → Prop}  (H : qR w 6 qm71 2 [(0, .ref 8), (1, qI v1), (2, qI v2), (3, qI (v3 + 1))] [] s (qPA f g)) : qR w 6 qm71 47 [(0, .ref 8), (1, qI v1), (2, qI v2), (3, qI v3)] [] s (qPA f g) := by
  refine qS_iinc (v := v3) (a := [(0, .ref 8), (1, qI v1), (2, qI v2)]) qd_71_47 (Nat.le_of_ble_eq_true rfl) rfl (zsub_c rfl (zsub_c rfl (zsub_c rfl zsub_n))) rfl ?_
  refine qS_goto qd_71_50 rfl ?_
  exact qS_sub (zsub_c rfl (zsub_c rfl (zsub_c rfl (zsub_c rfl zsub_n)))) H
set_option maxRecDepth 100000 in
theorem k72 {w : qE} {s : qS} {p0 : Int} {p1 : Nat} {f : Int → qS → Prop} {g : Nat → qS → Prop}  (H : qW w 2 35 [.ref 3, qI p0] s (qPI (fun r1 s1 => Rg r1 ∧ (r1 = 1 → qW w 2 37 [.ref 3, qI p0] s1 (qPI (fun r2 s2 => qW w 2 38 [.ref 3, qI p0] s2 (qPI (fun r3 s3 => qW w 5 41 [.ref 6, qI r2, qI r3, .retAddr p1] s3 (qPI (fun r4 s4 => Rg r4 ∧ (r4 = 0 → qR w 5 qm72 34 [] [] s4 (qPI f g)) ∧ (r4 ≠ 0 → qR w 5 qm72 35 [] [qI 1] s4 (qPI f g))) g)) g)) g)) ∧ (r1 ≠ 1 → qR w 5 qm72 34 [] [] s1 (qPI f g))) g)) : qW w 6 72 [.ref 3, qI p0, .retAddr p1] s (qPI f g) := by
  refine qW.of (M := qm72) (l := [(0, .ref 3), (1, qI p0), (2, .retAddr p1)]) qtm_72 rfl (Nat.le_of_ble_eq_true rfl) (zsub_c rfl (zsub_c rfl (zsub_c rfl zsub_n))) ?_
  refine qS_aload_n qd_72_0 rfl ?_
  refine qS_iload_n qd_72_1 rfl ?_
  refine qS_cvI qd_72_2 (qml_2_78 w) rfl qtm_35 (hpc_3 _ _) (Nat.le_of_ble_eq_true rfl) rfl (Nat.le_of_ble_eq_true rfl) H (fun r1 s1 H => ?_) (fun x s1 H => Or.inr ⟨x, rfl, H⟩)
  refine qS_iconst qd_72_5 ?_
  obtain ⟨h6a, H1, H2⟩ := H
  refine qS_icmp qd_72_6 rfl (zcnd_ne (a := r1) (b := 1) h6a ⟨by decide, by decide⟩ (fun t => qR w _ _ t _ _ _ _) (fun hc => ?_) (fun hc => ?_))
  · have H := H1 hc; clear H1 H2 hc
    refine qS_aload_n qd_72_9 rfl ?_
    refine qS_getfield (v := .ref 6) qd_72_10 (qfl_2_24 w) (hpc_3 _ _) rfl ?_
    refine qS_aload_n qd_72_13 rfl ?_
    refine qS_iload_n qd_72_14 rfl ?_
    refine qS_cvI qd_72_15 (qml_2_81 w) rfl qtm_37 (hpc_3 _ _) (Nat.le_of_ble_eq_true rfl) rfl (Nat.le_of_ble_eq_true rfl) H (fun r2 s2 H => ?_) (fun x s1 H => Or.inr ⟨x, rfl, H⟩)
    refine qS_aload_n qd_72_18 rfl ?_
    refine qS_iload_n qd_72_19 rfl ?_
    refine qS_cvI qd_72_20 (qml_2_84 w) rfl qtm_38 (hpc_3 _ _) (Nat.le_of_ble_eq_true rfl) rfl (Nat.le_of_ble_eq_true rfl) H (fun r3 s3 H => ?_) (fun x s1 H => Or.inr ⟨x, rfl, H⟩)
    refine qS_oload_n qd_72_23 rfl ?_
    refine qS_csI qd_72_24 (qml_2_113 w) rfl (Nat.le_of_ble_eq_true rfl) rfl (Nat.le_of_ble_eq_true rfl) H (fun r4 s4 H => ?_) (fun x s1 H => Or.inr ⟨x, rfl, H⟩)
    obtain ⟨h27a, H1, H2⟩ := H
    refine qS_if0 qd_72_27 rfl (zcnd_eq (a := r4) (b := 0) h27a ⟨by decide, by decide⟩ (fun t => qR w _ _ t _ _ _ _) (fun hc => ?_) (fun hc => ?_))
    · have H := H1 hc; clear H1 H2 hc
      exact qS_sub zsub_n H
    · have H := H2 hc; clear H1 H2 hc
      refine qS_iconst qd_72_30 ?_
      refine qS_goto qd_72_31 rfl ?_
      exact qS_sub zsub_n H
  · have H := H2 hc; clear H1 H2 hc
    exact qS_sub zsub_n H
set_option maxRecDepth 100000 in
theorem k72_34 {w : qE} {s : qS}  {f : Int → qS → Prop} {g : Nat → qS → Prop}  (H : qR w 5 qm72 35 [] [qI 0] s (qPI f g)) : qR w 5 qm72 34 [] [] s (qPI f g) := by
  refine qS_iconst qd_72_34 ?_
  exact qS_sub zsub_n H
set_option maxRecDepth 100000 in
theorem k72_35 {w : qE} {s : qS} {k0 : Int} {f : Int → qS → Prop} {g : Nat → qS → Prop}  (H : ((k0 = 0 ∨ k0 = 1) ∧ f k0 s)) : qR w 5 qm72 35 [] [qI k0] s (qPI f g) := by
  exact qS_zreturn qd_72_35 rfl H.1 (Or.inl ⟨_, rfl, H.2⟩)
set_option maxRecDepth 100000 in
theorem k73 {w : qE} {s : qS}  {f : Int → qS → Prop} {g : Nat → qS → Prop}  (H : qW w 1 19 [.ref 1, qI 4] s (qPI (fun r1 s1 => qW w 1 29 [.ref 1, qI r1] s1 (qPV (fun s2 => f r1 s2) g)) g)) : qW w 2 73 [.ref 1] s (qPI f g) := by
  refine qW.of (M := qm73) (l := [(0, .ref 1)]) qtm_73 rfl (Nat.le_of_ble_eq_true rfl) (zsub_c rfl zsub_n) ?_
  refine qS_aload_n qd_73_0 rfl ?_
  refine qS_iconst qd_73_1 ?_
  refine qS_cvI qd_73_2 (qml_1_35 w) rfl qtm_19 (hpc_1 _ _) (Nat.le_of_ble_eq_true rfl) rfl (Nat.le_of_ble_eq_true rfl) H (fun r1 s1 H => ?_) (fun x s1 H => Or.inr ⟨x, rfl, H⟩)
  refine qS_istore_n (a := [(0, .ref 1)]) qd_73_5 (Nat.le_of_ble_eq_true rfl) (zsub_c rfl zsub_n) rfl ?_
  refine qS_aload_n qd_73_6 rfl ?_
  refine qS_iload_n qd_73_7 rfl ?_
  refine qS_cvV qd_73_8 (qml_1_39 w) rfl qtm_29 (hpc_1 _ _) (Nat.le_of_ble_eq_true rfl) rfl (Nat.le_of_ble_eq_true rfl) H (fun s2 H => ?_) (fun x s1 H => Or.inr ⟨x, rfl, H⟩)
  refine qS_iload_n qd_73_11 rfl ?_
  exact qS_ireturn qd_73_12 rfl (Or.inl ⟨_, rfl, H⟩)
set_option maxRecDepth 100000 in
theorem k74 {w : qE} {s : qS} {p0 : Int} {f : Int → qS → Prop} {g : Nat → qS → Prop}  (H : qW w 6 72 [.ref 3, qI p0, .retAddr 106] s (qPI (fun r1 s1 => Rg r1 ∧ (r1 = 0 → qW w 2 49 [.ref 3, qI p0] s1 (qPI (fun r2 s2 => Rg r2 ∧ (r2 = 1 → qW w 3 65 [.ref 3, qI p0, qI 0] s2 (qPI (fun r3 s3 => Rg r3 ∧ (r3 = 68 → f 6 s3) ∧ (r3 = 70 → f 4 s3) ∧ (r3 = 74 → f 5 s3) ∧ (r3 ≠ 68 → r3 ≠ 70 → r3 ≠ 74 → f 3 s3)) g)) ∧ (r2 ≠ 1 → f ((-1)) s2)) g)) ∧ (r1 ≠ 0 → f 8 s1)) g)) : qW w 7 74 [.ref 8, qI p0] s (qPI f g) := by
  refine qW.of (M := qm74) (l := [(0, .ref 8), (1, qI p0)]) qtm_74 rfl (Nat.le_of_ble_eq_true rfl) (zsub_c rfl (zsub_c rfl zsub_n)) ?_
  refine qS_aload_n qd_74_0 rfl ?_
  refine qS_getfield (v := .ref 3) qd_74_1 (qfl_5_15 w) (hpc_8 _ _) rfl ?_
  refine qS_iload_n qd_74_4 rfl ?_
  refine qS_ex (st' := [.retAddr 106, qI p0, .ref 3]) qd_74_5 rfl rfl (fun _ => rfl) (fun _ => rfl) (fun _ => rfl) rfl (fun _ => rfl) rfl (fun _ => rfl) rfl rfl ?_
  refine qS_cvI qd_74_7 (qml_5_143 w) rfl qtm_72 (hpc_3 _ _) (Nat.le_of_ble_eq_true rfl) rfl (Nat.le_of_ble_eq_true rfl) H (fun r1 s1 H => ?_) (fun x s1 H => Or.inr ⟨x, rfl, H⟩)
  obtain ⟨h10a, H1, H2⟩ := H
  refine qS_if0 qd_74_10 rfl (zcnd_eq (a := r1) (b := 0) h10a ⟨by decide, by decide⟩ (fun t => qR w _ _ t _ _ _ _) (fun hc => ?_) (fun hc => ?_))
  · have H := H1 hc; clear H1 H2 hc
    refine qS_aload_n qd_74_16 rfl ?_
    refine qS_getfield (v := .ref 3) qd_74_17 (qfl_5_15 w) (hpc_8 _ _) rfl ?_
    refine qS_iload_n qd_74_20 rfl ?_
    refine qS_cvI qd_74_21 (qml_5_152 w) rfl qtm_49 (hpc_3 _ _) (Nat.le_of_ble_eq_true rfl) rfl (Nat.le_of_ble_eq_true rfl) H (fun r2 s2 H => ?_) (fun x s1 H => Or.inr ⟨x, rfl, H⟩)
    refine qS_iconst qd_74_24 ?_
    obtain ⟨h25a, H1, H2⟩ := H
    refine qS_icmp qd_74_25 rfl (zcnd_eq (a := r2) (b := 1) h25a ⟨by decide, by decide⟩ (fun t => qR w _ _ t _ _ _ _) (fun hc => ?_) (fun hc => ?_))
    · have H := H1 hc; clear H1 H2 hc
      refine qS_aload_n qd_74_30 rfl ?_
      refine qS_getfield (v := .ref 3) qd_74_31 (qfl_5_15 w) (hpc_8 _ _) rfl ?_
      refine qS_iload_n qd_74_34 rfl ?_
      refine qS_iconst qd_74_35 ?_
      refine qS_cvI qd_74_36 (qml_5_155 w) rfl qtm_65 (hpc_3 _ _) (Nat.le_of_ble_eq_true rfl) rfl (Nat.le_of_ble_eq_true rfl) H (fun r3 s3 H => ?_) (fun x s1 H => Or.inr ⟨x, rfl, H⟩)
      obtain ⟨h39a, H1, H2, H3, Hd⟩ := H
      by_cases hc0 : r3 = 68
      · refine qS_lsw qd_74_39 (by decide) (t := 76) h39a (by rw [hc0]; rfl) ?_
        have H := H1 hc0
        refine qS_bipush qd_74_76 (by decide) ?_
        exact qS_ireturn qd_74_78 rfl (Or.inl ⟨_, rfl, H⟩)
      by_cases hc1 : r3 = 70
      · refine qS_lsw qd_74_39 (by decide) (t := 74) h39a (by rw [hc1]; rfl) ?_
        have H := H2 hc1
        refine qS_iconst qd_74_74 ?_
        exact qS_ireturn qd_74_75 rfl (Or.inl ⟨_, rfl, H⟩)
      by_cases hc2 : r3 = 74
      · refine qS_lsw qd_74_39 (by decide) (t := 72) h39a (by rw [hc2]; rfl) ?_
        have H := H3 hc2
        refine qS_iconst qd_74_72 ?_
        exact qS_ireturn qd_74_73 rfl (Or.inl ⟨_, rfl, H⟩)
      refine qS_lsw qd_74_39 (by decide) (t := 79) h39a (zlsw_d (fun q hq => by simp only [List.mem_cons, List.not_mem_nil, or_false] at hq; rcases hq with rfl | rfl | rfl <;> (show (_ : Int) ≠ _; omega)) rfl) ?_
      have H := Hd (by omega) (by omega) (by omega)
      refine qS_iconst qd_74_79 ?_
      exact qS_ireturn qd_74_80 rfl (Or.inl ⟨_, rfl, H⟩)
    · have H := H2 hc; clear H1 H2 hc
      refine qS_iconst qd_74_28 ?_
      exact qS_ireturn qd_74_29 rfl (Or.inl ⟨_, rfl, H⟩)
  · have H := H2 hc; clear H1 H2 hc
    refine qS_bipush qd_74_13 (by decide) ?_
    exact qS_ireturn qd_74_15 rfl (Or.inl ⟨_, rfl, H⟩)
set_option maxRecDepth 100000 in
theorem k75 {w : qE} {s : qS}  {f : qS → Prop} {g : Nat → qS → Prop}  (H : qW w 2 76 [.ref 1, qI 4] s (qPV (fun s1 => qW w 1 19 [.ref 1, qI 4] s1 (qPI (fun r2 s2 => Rg r2 ∧ (r2 < 1 → qR w 3 qm75 36 [(0, .ref 8), (1, qI r2)] [.ref 1] s2 (qPV f g)) ∧ (1 ≤ r2 → (65535 < r2 → qR w 3 qm75 36 [(0, .ref 8), (1, qI r2)] [.ref 1] s2 (qPV f g)) ∧ (r2 ≤ 65535 → qR w 3 qm75 37 [(0, .ref 8), (1, qI r2)] [qI 1, .ref 1] s2 (qPV f g)))) g)) g)) : qW w 4 75 [.ref 8] s (qPV f g) := by
  refine qW.of (M := qm75) (l := [(0, .ref 8)]) qtm_75 rfl (Nat.le_of_ble_eq_true rfl) (zsub_c rfl zsub_n) ?_
  refine qS_aload_n qd_75_0 rfl ?_
  refine qS_getfield (v := .ref 1) qd_75_1 (qfl_5_9 w) (hpc_8 _ _) rfl ?_
  refine qS_iconst qd_75_4 ?_
  refine qS_cvV qd_75_5 (qml_5_128 w) rfl qtm_76 (hpc_1 _ _) (Nat.le_of_ble_eq_true rfl) rfl (Nat.le_of_ble_eq_true rfl) H (fun s1 H => ?_) (fun x s1 H => Or.inr ⟨x, rfl, H⟩)
  refine qS_aload_n qd_75_8 rfl ?_
  refine qS_getfield (v := .ref 1) qd_75_9 (qfl_5_9 w) (hpc_8 _ _) rfl ?_
  refine qS_iconst qd_75_12 ?_
  refine qS_cvI qd_75_13 (qml_5_65 w) rfl qtm_19 (hpc_1 _ _) (Nat.le_of_ble_eq_true rfl) rfl (Nat.le_of_ble_eq_true rfl) H (fun r2 s2 H => ?_) (fun x s1 H => Or.inr ⟨x, rfl, H⟩)
  refine qS_istore_n (a := [(0, .ref 8)]) qd_75_16 (Nat.le_of_ble_eq_true rfl) (zsub_c rfl zsub_n) rfl ?_
  refine qS_aload_n qd_75_17 rfl ?_
  refine qS_getfield (v := .ref 1) qd_75_18 (qfl_5_9 w) (hpc_8 _ _) rfl ?_
  refine qS_iload_n qd_75_21 rfl ?_
  refine qS_iconst qd_75_22 ?_
  obtain ⟨h23a, H1, H2⟩ := H
  refine qS_icmp qd_75_23 rfl (zcnd_lt (a := r2) (b := 1) h23a ⟨by decide, by decide⟩ (fun t => qR w _ _ t _ _ _ _) (fun hc => ?_) (fun hc => ?_))
  · have H := H1 hc; clear H1 H2 hc
    exact qS_sub (zsub_c rfl (zsub_c rfl zsub_n)) H
  · have H := H2 hc; clear H1 H2 hc
    refine qS_iload_n qd_75_26 rfl ?_
    refine qS_ldc (v := qI 65535) qd_75_27 rfl rfl (fun _ => rfl) (fun _ => qS_k (qkl_5_158 w)) ?_
    obtain ⟨H1, H2⟩ := H
    refine qS_icmp qd_75_29 rfl (zcnd_gt (a := r2) (b := 65535) h23a ⟨by decide, by decide⟩ (fun t => qR w _ _ t _ _ _ _) (fun hc => ?_) (fun hc => ?_))
    · have H := H1 hc; clear H1 H2 hc
      exact qS_sub (zsub_c rfl (zsub_c rfl zsub_n)) H
    · have H := H2 hc; clear H1 H2 hc
      refine qS_iconst qd_75_32 ?_
      refine qS_goto qd_75_33 rfl ?_
      exact qS_sub (zsub_c rfl (zsub_c rfl zsub_n)) H
set_option maxRecDepth 100000 in
theorem k75_36 {w : qE} {s : qS} {v1 : Int} {f : qS → Prop} {g : Nat → qS → Prop}  (H : qR w 3 qm75 37 [(0, .ref 8), (1, qI v1)] [qI 0, .ref 1] s (qPV f g)) : qR w 3 qm75 36 [(0, .ref 8), (1, qI v1)] [.ref 1] s (qPV f g) := by
  refine qS_iconst qd_75_36 ?_
  exact qS_sub (zsub_c rfl (zsub_c rfl zsub_n)) H
set_option maxRecDepth 100000 in
theorem k75_37 {w : qE} {s : qS} {v1 : Int} {k1 : Int} {f : qS → Prop} {g : Nat → qS → Prop}  (H : qW w 1 21 [.ref 1] s (qPI (fun r3 s3 => qW w 1 20 [.ref 1, qI k1, qI (r3 - 4)] s3 (qPV (fun s4 => qW w 2 76 [.ref 1, qI v1] s4 (qPV (fun s5 => qW w 1 19 [.ref 1, qI 2] s5 (qPI (fun r6 s6 => qR w 3 qm75 68 [(0, .ref 8), (1, qI v1), (2, qI r6), (3, qI 0)] [] s6 (qPV f g)) g)) g)) g)) g)) : qR w 3 qm75 37 [(0, .ref 8), (1, qI v1)] [qI k1, .ref 1] s (qPV f g) := by
  refine qS_aload_n qd_75_37 rfl ?_
  refine qS_getfield (v := .ref 1) qd_75_38 (qfl_5_9 w) (hpc_8 _ _) rfl ?_
  refine qS_cvI qd_75_41 (qml_5_71 w) rfl qtm_21 (hpc_1 _ _) (Nat.le_of_ble_eq_true rfl) rfl (Nat.le_of_ble_eq_true rfl) H (fun r3 s3 H => ?_) (fun x s1 H => Or.inr ⟨x, rfl, H⟩)
  refine qS_iconst qd_75_44 ?_
  refine qS_isub (a := r3) (b := 4) qd_75_45 ?_
  refine qS_cvV qd_75_46 (qml_5_87 w) rfl qtm_20 (hpc_1 _ _) (Nat.le_of_ble_eq_true rfl) rfl (Nat.le_of_ble_eq_true rfl) H (fun s4 H => ?_) (fun x s1 H => Or.inr ⟨x, rfl, H⟩)
  refine qS_aload_n qd_75_49 rfl ?_
  refine qS_getfield (v := .ref 1) qd_75_50 (qfl_5_9 w) (hpc_8 _ _) rfl ?_
  refine qS_iload_n qd_75_53 rfl ?_
  refine qS_cvV qd_75_54 (qml_5_128 w) rfl qtm_76 (hpc_1 _ _) (Nat.le_of_ble_eq_true rfl) rfl (Nat.le_of_ble_eq_true rfl) H (fun s5 H => ?_) (fun x s1 H => Or.inr ⟨x, rfl, H⟩)
  refine qS_aload_n qd_75_57 rfl ?_
  refine qS_getfield (v := .ref 1) qd_75_58 (qfl_5_9 w) (hpc_8 _ _) rfl ?_
  refine qS_iconst qd_75_61 ?_
  refine qS_cvI qd_75_62 (qml_5_65 w) rfl qtm_19 (hpc_1 _ _) (Nat.le_of_ble_eq_true rfl) rfl (Nat.le_of_ble_eq_true rfl) H (fun r6 s6 H => ?_) (fun x s1 H => Or.inr ⟨x, rfl, H⟩)
  refine qS_istore_n (a := [(0, .ref 8), (1, qI v1)]) qd_75_65 (Nat.le_of_ble_eq_true rfl) (zsub_c rfl (zsub_c rfl zsub_n)) rfl ?_
  refine qS_iconst qd_75_66 ?_
  refine qS_istore_n (a := [(2, qI r6), (0, .ref 8), (1, qI v1)]) qd_75_67 (Nat.le_of_ble_eq_true rfl) (zsub_c rfl (zsub_c rfl (zsub_c rfl zsub_n))) rfl ?_
  exact qS_sub (zsub_c rfl (zsub_c rfl (zsub_c rfl (zsub_c rfl zsub_n)))) H
set_option maxRecDepth 100000 in
theorem k75_68 {w : qE} {s : qS} {v1 : Int} {v2 : Int} {v3 : Int} {f : qS → Prop} {g : Nat → qS → Prop}  (H : Rg v3 ∧ Rg v2 ∧ (v3 < v2 → qW w 3 77 [.ref 8, qI v1] s (qPV (fun s7 => qR w 3 qm75 68 [(0, .ref 8), (1, qI v1), (2, qI v2), (3, qI (v3 + 1))] [] s7 (qPV f g)) g)) ∧ (v2 ≤ v3 → qW w 3 79 [.ref 8] s (qPV (fun s8 => f (qset (qset s8 8 2 v1) 8 3 v2)) g))) : qR w 3 qm75 68 [(0, .ref 8), (1, qI v1), (2, qI v2), (3, qI v3)] [] s (qPV f g) := by
  refine qS_iload_n qd_75_68 rfl ?_
  refine qS_iload_n qd_75_69 rfl ?_
  obtain ⟨h70a, h70b, H1, H2⟩ := H
  refine qS_icmp qd_75_70 rfl (zcnd_ge (a := v3) (b := v2) h70a h70b (fun t => qR w _ _ t _ _ _ _) (fun hc => ?_) (fun hc => ?_))
  · have H := H1 hc; clear H1 H2 hc
    refine qS_aload_n qd_75_73 rfl ?_
    refine qS_iload_n qd_75_74 rfl ?_
    refine qS_cvV qd_75_75 (qml_5_159 w) rfl qtm_77 (hpc_8 _ _) (Nat.le_of_ble_eq_true rfl) rfl (Nat.le_of_ble_eq_true rfl) H (fun s7 H => ?_) (fun x s1 H => Or.inr ⟨x, rfl, H⟩)
    refine qS_iinc (v := v3) (a := [(0, .ref 8), (1, qI v1), (2, qI v2)]) qd_75_78 (Nat.le_of_ble_eq_true rfl) rfl (zsub_c rfl (zsub_c rfl (zsub_c rfl zsub_n))) rfl ?_
    refine qS_goto qd_75_81 rfl ?_
    exact qS_sub (zsub_c rfl (zsub_c rfl (zsub_c rfl (zsub_c rfl zsub_n)))) H
  · have H := H2 hc; clear H1 H2 hc
    refine qS_aload_n qd_75_84 rfl ?_
    refine qS_cvV qd_75_85 (qml_5_162 w) rfl qtm_79 (hpc_8 _ _) (Nat.le_of_ble_eq_true rfl) rfl (Nat.le_of_ble_eq_true rfl) H (fun s8 H => ?_) (fun x s1 H => Or.inr ⟨x, rfl, H⟩)
    refine qS_aload_n qd_75_88 rfl ?_
    refine qS_iload_n qd_75_89 rfl ?_
    refine qS_putfield (s1 := qset s8 8 2 v1) qd_75_90 (qfl_5_56 w) (hpc_8 _ _) (Nat.le_of_ble_eq_true rfl) rfl rfl rfl (hps_8_2 _ _ _) ?_
    refine qS_aload_n qd_75_93 rfl ?_
    refine qS_iload_n qd_75_94 rfl ?_
    refine qS_putfield (s1 := qset (qset s8 8 2 v1) 8 3 v2) qd_75_95 (qfl_5_59 w) (hpc_8 _ _) (Nat.le_of_ble_eq_true rfl) rfl rfl rfl (hps_8_3 _ _ _) ?_
    exact qS_vreturn qd_75_98 rfl (Or.inl ⟨rfl, H⟩)
set_option maxRecDepth 100000 in
theorem k76 {w : qE} {s : qS} {p0 : Int} {f : qS → Prop} {g : Nat → qS → Prop}  (H : qW w 1 29 [.ref 1, qI p0] s (qPV (fun s1 => f (qset s1 1 2 ((s1 1 2) + p0))) g)) : qW w 2 76 [.ref 1, qI p0] s (qPV f g) := by
  refine qW.of (M := qm76) (l := [(0, .ref 1), (1, qI p0)]) qtm_76 rfl (Nat.le_of_ble_eq_true rfl) (zsub_c rfl (zsub_c rfl zsub_n)) ?_
  refine qS_aload_n qd_76_0 rfl ?_
  refine qS_iload_n qd_76_1 rfl ?_
  refine qS_cvV qd_76_2 (qml_1_39 w) rfl qtm_29 (hpc_1 _ _) (Nat.le_of_ble_eq_true rfl) rfl (Nat.le_of_ble_eq_true rfl) H (fun s1 H => ?_) (fun x s1 H => Or.inr ⟨x, rfl, H⟩)
  refine qS_aload_n qd_76_5 rfl ?_
  refine qS_dup qd_76_6 rfl ?_
  refine qS_getfield (v := qI (s1 1 2)) qd_76_7 (qfl_1_19 w) (hpc_1 _ _) rfl ?_
  refine qS_iload_n qd_76_10 rfl ?_
  refine qS_iadd (a := s1 1 2) (b := p0) qd_76_11 ?_
  refine qS_putfield (s1 := qset s1 1 2 ((s1 1 2) + p0)) qd_76_12 (qfl_1_19 w) (hpc_1 _ _) (Nat.le_of_ble_eq_true rfl) rfl rfl rfl (hps_1_2 _ _ _) ?_
  exact qS_vreturn qd_76_15 rfl (Or.inl ⟨rfl, H⟩)
set_option maxRecDepth 100000 in
theorem k77 {w : qE} {s : qS} {p0 : Int} {f : qS → Prop} {g : Nat → qS → Prop}  (H : qW w 1 21 [.ref 1] s (qPI (fun r1 s1 => qW w 1 19 [.ref 1, qI 2] s1 (qPI (fun r2 s2 => qW w 1 19 [.ref 1, qI 2] s2 (qPI (fun r3 s3 => qW w 1 19 [.ref 1, qI 2] s3 (qPI (fun r4 s4 => Rg r2 ∧ Rg r3 ∧ (r2 < r3 → qR w 2 qm77 52 [(0, .ref 8), (1, qI p0), (2, qI r1), (4, qI r3), (5, qI r4)] [qI 1, .ref 1] s4 (qPV f g)) ∧ (r3 ≤ r2 → qR w 2 qm77 52 [(0, .ref 8), (1, qI p0), (2, qI r1), (4, qI r3), (5, qI r4)] [qI 0, .ref 1] s4 (qPV f g))) g)) g)) g)) g)) : qW w 3 77 [.ref 8, qI p0] s (qPV f g) := by
  refine qW.of (M := qm77) (l := [(0, .ref 8), (1, qI p0)]) qtm_77 rfl (Nat.le_of_ble_eq_true rfl) (zsub_c rfl (zsub_c rfl zsub_n)) ?_
  refine qS_aload_n qd_77_0 rfl ?_
  refine qS_getfield (v := .ref 1) qd_77_1 (qfl_5_9 w) (hpc_8 _ _) rfl ?_
  refine qS_cvI qd_77_4 (qml_5_71 w) rfl qtm_21 (hpc_1 _ _) (Nat.le_of_ble_eq_true rfl) rfl (Nat.le_of_ble_eq_true rfl) H (fun r1 s1 H => ?_) (fun x s1 H => Or.inr ⟨x, rfl, H⟩)
  refine qS_istore_n (a := [(0, .ref 8), (1, qI p0)]) qd_77_7 (Nat.le_of_ble_eq_true rfl) (zsub_c rfl (zsub_c rfl zsub_n)) rfl ?_
  refine qS_aload_n qd_77_8 rfl ?_
  refine qS_getfield (v := .ref 1) qd_77_9 (qfl_5_9 w) (hpc_8 _ _) rfl ?_
  refine qS_iconst qd_77_12 ?_
  refine qS_cvI qd_77_13 (qml_5_65 w) rfl qtm_19 (hpc_1 _ _) (Nat.le_of_ble_eq_true rfl) rfl (Nat.le_of_ble_eq_true rfl) H (fun r2 s2 H => ?_) (fun x s1 H => Or.inr ⟨x, rfl, H⟩)
  refine qS_istore_n (a := [(2, qI r1), (0, .ref 8), (1, qI p0)]) qd_77_16 (Nat.le_of_ble_eq_true rfl) (zsub_c rfl (zsub_c rfl (zsub_c rfl zsub_n))) rfl ?_
  refine qS_aload_n qd_77_17 rfl ?_
  refine qS_getfield (v := .ref 1) qd_77_18 (qfl_5_9 w) (hpc_8 _ _) rfl ?_
  refine qS_iconst qd_77_21 ?_
  refine qS_cvI qd_77_22 (qml_5_65 w) rfl qtm_19 (hpc_1 _ _) (Nat.le_of_ble_eq_true rfl) rfl (Nat.le_of_ble_eq_true rfl) H (fun r3 s3 H => ?_) (fun x s1 H => Or.inr ⟨x, rfl, H⟩)
  refine qS_istore (a := [(3, qI r2), (2, qI r1), (0, .ref 8), (1, qI p0)]) qd_77_25 (Nat.le_of_ble_eq_true rfl) (zsub_c rfl (zsub_c rfl (zsub_c rfl (zsub_c rfl zsub_n)))) rfl ?_
  refine qS_aload_n qd_77_27 rfl ?_
  refine qS_getfield (v := .ref 1) qd_77_28 (qfl_5_9 w) (hpc_8 _ _) rfl ?_
  refine qS_iconst qd_77_31 ?_
  refine qS_cvI qd_77_32 (qml_5_65 w) rfl qtm_19 (hpc_1 _ _) (Nat.le_of_ble_eq_true rfl) rfl (Nat.le_of_ble_eq_true rfl) H (fun r4 s4 H => ?_) (fun x s1 H => Or.inr ⟨x, rfl, H⟩)
  refine qS_istore (a := [(4, qI r3), (3, qI r2), (2, qI r1), (0, .ref 8), (1, qI p0)]) qd_77_35 (Nat.le_of_ble_eq_true rfl) (zsub_c rfl (zsub_c rfl (zsub_c rfl (zsub_c rfl (zsub_c rfl zsub_n))))) rfl ?_
  refine qS_aload_n qd_77_37 rfl ?_
  refine qS_getfield (v := .ref 1) qd_77_38 (qfl_5_9 w) (hpc_8 _ _) rfl ?_
  refine qS_iload_n qd_77_41 rfl ?_
  refine qS_iload qd_77_42 rfl ?_
  obtain ⟨h44a, h44b, H1, H2⟩ := H
  refine qS_icmp qd_77_44 rfl (zcnd_ge (a := r2) (b := r3) h44a h44b (fun t => qR w _ _ t _ _ _ _) (fun hc => ?_) (fun hc => ?_))
  · have H := H1 hc; clear H1 H2 hc
    refine qS_iconst qd_77_47 ?_
    refine qS_goto qd_77_48 rfl ?_
    exact qS_sub (zsub_c rfl (zsub_c rfl (zsub_c rfl (zsub_c rfl (zsub_c rfl zsub_n))))) H
  · have H := H2 hc; clear H1 H2 hc
    refine qS_iconst qd_77_51 ?_
    exact qS_sub (zsub_c rfl (zsub_c rfl (zsub_c rfl (zsub_c rfl (zsub_c rfl zsub_n))))) H
set_option maxRecDepth 100000 in
theorem k77_52 {w : qE} {s : qS} {v1 : Int} {v2 : Int} {v4 : Int} {v5 : Int} {k1 : Int} {f : qS → Prop} {g : Nat → qS → Prop}  (H : qW w 1 20 [.ref 1, qI k1, qI v2] s (qPV (fun s5 => Rg v4 ∧ Rg v1 ∧ (v1 < v4 → qR w 2 qm77 71 [(0, .ref 8), (1, qI v1), (2, qI v2), (5, qI v5)] [qI 0, .ref 1] s5 (qPV f g)) ∧ (v4 ≤ v1 → qR w 2 qm77 71 [(0, .ref 8), (1, qI v1), (2, qI v2), (5, qI v5)] [qI 1, .ref 1] s5 (qPV f g))) g)) : qR w 2 qm77 52 [(0, .ref 8), (1, qI v1), (2, qI v2), (4, qI v4), (5, qI v5)] [qI k1, .ref 1] s (qPV f g) := by
  refine qS_iload_n qd_77_52 rfl ?_
  refine qS_cvV qd_77_53 (qml_5_87 w) rfl qtm_20 (hpc_1 _ _) (Nat.le_of_ble_eq_true rfl) rfl (Nat.le_of_ble_eq_true rfl) H (fun s5 H => ?_) (fun x s1 H => Or.inr ⟨x, rfl, H⟩)
  refine qS_aload_n qd_77_56 rfl ?_
  refine qS_getfield (v := .ref 1) qd_77_57 (qfl_5_9 w) (hpc_8 _ _) rfl ?_
  refine qS_iload qd_77_60 rfl ?_
  refine qS_iload_n qd_77_62 rfl ?_
  obtain ⟨h63a, h63b, H1, H2⟩ := H
  refine qS_icmp qd_77_63 rfl (zcnd_gt (a := v4) (b := v1) h63a h63b (fun t => qR w _ _ t _ _ _ _) (fun hc => ?_) (fun hc => ?_))
  · have H := H1 hc; clear H1 H2 hc
    refine qS_iconst qd_77_70 ?_
    exact qS_sub (zsub_c rfl (zsub_c rfl (zsub_c rfl (zsub_c rfl zsub_n)))) H
  · have H := H2 hc; clear H1 H2 hc
    refine qS_iconst qd_77_66 ?_
    refine qS_goto qd_77_67 rfl ?_
    exact qS_sub (zsub_c rfl (zsub_c rfl (zsub_c rfl (zsub_c rfl zsub_n)))) H
set_option maxRecDepth 100000 in
theorem k77_71 {w : qE} {s : qS} {v1 : Int} {v2 : Int} {v5 : Int} {k1 : Int} {f : qS → Prop} {g : Nat → qS → Prop}  (H : qW w 1 20 [.ref 1, qI k1, qI (v2 + 2)] s (qPV (fun s6 => Rg v5 ∧ Rg v1 ∧ (v5 < v1 → qR w 2 qm77 92 [(0, .ref 8), (2, qI v2)] [qI 1, .ref 1] s6 (qPV f g)) ∧ (v1 ≤ v5 → qR w 2 qm77 92 [(0, .ref 8), (2, qI v2)] [qI 0, .ref 1] s6 (qPV f g))) g)) : qR w 2 qm77 71 [(0, .ref 8), (1, qI v1), (2, qI v2), (5, qI v5)] [qI k1, .ref 1] s (qPV f g) := by
  refine qS_iload_n qd_77_71 rfl ?_
  refine qS_iconst qd_77_72 ?_
  refine qS_iadd (a := v2) (b := 2) qd_77_73 ?_
  refine qS_cvV qd_77_74 (qml_5_87 w) rfl qtm_20 (hpc_1 _ _) (Nat.le_of_ble_eq_true rfl) rfl (Nat.le_of_ble_eq_true rfl) H (fun s6 H => ?_) (fun x s1 H => Or.inr ⟨x, rfl, H⟩)
  refine qS_aload_n qd_77_77 rfl ?_
  refine qS_getfield (v := .ref 1) qd_77_78 (qfl_5_9 w) (hpc_8 _ _) rfl ?_
  refine qS_iload qd_77_81 rfl ?_
  refine qS_iload_n qd_77_83 rfl ?_
  obtain ⟨h84a, h84b, H1, H2⟩ := H
  refine qS_icmp qd_77_84 rfl (zcnd_ge (a := v5) (b := v1) h84a h84b (fun t => qR w _ _ t _ _ _ _) (fun hc => ?_) (fun hc => ?_))
  · have H := H1 hc; clear H1 H2 hc
    refine qS_iconst qd_77_87 ?_
    refine qS_goto qd_77_88 rfl ?_
    exact qS_sub (zsub_c rfl (zsub_c rfl zsub_n)) H
  · have H := H2 hc; clear H1 H2 hc
    refine qS_iconst qd_77_91 ?_
    exact qS_sub (zsub_c rfl (zsub_c rfl zsub_n)) H
set_option maxRecDepth 100000 in
theorem k77_92 {w : qE} {s : qS} {v2 : Int} {k1 : Int} {f : qS → Prop} {g : Nat → qS → Prop}  (H : qW w 1 20 [.ref 1, qI k1, qI (v2 + 4)] s (qPV (fun s7 => qW w 2 78 [.ref 3, qI 7] s7 (qPI (fun r8 s8 => f s8) g)) g)) : qR w 2 qm77 92 [(0, .ref 8), (2, qI v2)] [qI k1, .ref 1] s (qPV f g) := by
  refine qS_iload_n qd_77_92 rfl ?_
  refine qS_iconst qd_77_93 ?_
  refine qS_iadd (a := v2) (b := 4) qd_77_94 ?_
  refine qS_cvV qd_77_95 (qml_5_87 w) rfl qtm_20 (hpc_1 _ _) (Nat.le_of_ble_eq_true rfl) rfl (Nat.le_of_ble_eq_true rfl) H (fun s7 H => ?_) (fun x s1 H => Or.inr ⟨x, rfl, H⟩)
  refine qS_aload_n qd_77_98 rfl ?_
  refine qS_getfield (v := .ref 3) qd_77_99 (qfl_5_15 w) (hpc_8 _ _) rfl ?_
  refine qS_bipush qd_77_102 (by decide) ?_
  refine qS_cvI qd_77_104 (qml_5_118 w) rfl qtm_78 (hpc_3 _ _) (Nat.le_of_ble_eq_true rfl) rfl (Nat.le_of_ble_eq_true rfl) H (fun r8 s8 H => ?_) (fun x s1 H => Or.inr ⟨x, rfl, H⟩)
  refine qS_pop qd_77_107 rfl ?_
  exact qS_vreturn qd_77_108 rfl (Or.inl ⟨rfl, H⟩)
set_option maxRecDepth 100000 in
theorem k78 {w : qE} {s : qS} {p0 : Int} {f : Int → qS → Prop} {g : Nat → qS → Prop}  (H : qW w 1 19 [.ref 1, qI 2] s (qPI (fun r1 s1 => Rg r1 ∧ (r1 = 0 → qR w 1 qm78 30 [(0, .ref 3), (2, qI r1)] [.ref 1] s1 (qPI f g)) ∧ (r1 ≠ 0 → qW w 1 36 [.ref 4, qI r1, qI 0] s1 (qPI (fun r2 s2 => Rg r2 ∧ Rg p0 ∧ (r2 = p0 → qR w 1 qm78 30 [(0, .ref 3), (2, qI r1)] [.ref 1] s2 (qPI f g)) ∧ (r2 ≠ p0 → qR w 1 qm78 35 [(0, .ref 3), (2, qI r1)] [qI 0, .ref 1] s2 (qPI f g))) g))) g)) : qW w 2 78 [.ref 3, qI p0] s (qPI f g) := by
  refine qW.of (M := qm78) (l := [(0, .ref 3), (1, qI p0)]) qtm_78 rfl (Nat.le_of_ble_eq_true rfl) (zsub_c rfl (zsub_c rfl zsub_n)) ?_
  refine qS_aload_n qd_78_0 rfl ?_
  refine qS_getfield (v := .ref 1) qd_78_1 (qfl_2_9 w) (hpc_3 _ _) rfl ?_
  refine qS_iconst qd_78_4 ?_
  refine qS_cvI qd_78_5 (qml_2_35 w) rfl qtm_19 (hpc_1 _ _) (Nat.le_of_ble_eq_true rfl) rfl (Nat.le_of_ble_eq_true rfl) H (fun r1 s1 H => ?_) (fun x s1 H => Or.inr ⟨x, rfl, H⟩)
  refine qS_istore_n (a := [(0, .ref 3), (1, qI p0)]) qd_78_8 (Nat.le_of_ble_eq_true rfl) (zsub_c rfl (zsub_c rfl zsub_n)) rfl ?_
  refine qS_aload_n qd_78_9 rfl ?_
  refine qS_getfield (v := .ref 1) qd_78_10 (qfl_2_9 w) (hpc_3 _ _) rfl ?_
  refine qS_iload_n qd_78_13 rfl ?_
  obtain ⟨h14a, H1, H2⟩ := H
  refine qS_if0 qd_78_14 rfl (zcnd_eq (a := r1) (b := 0) h14a ⟨by decide, by decide⟩ (fun t => qR w _ _ t _ _ _ _) (fun hc => ?_) (fun hc => ?_))
  · have H := H1 hc; clear H1 H2 hc
    exact qS_sub (zsub_c rfl (zsub_c rfl zsub_n)) H
  · have H := H2 hc; clear H1 H2 hc
    refine qS_aload_n qd_78_17 rfl ?_
    refine qS_getfield (v := .ref 4) qd_78_18 (qfl_2_20 w) (hpc_3 _ _) rfl ?_
    refine qS_iload_n qd_78_21 rfl ?_
    refine qS_iconst qd_78_22 ?_
    refine qS_cvI qd_78_23 (qml_2_93 w) rfl qtm_36 (hpc_4 _ _) (Nat.le_of_ble_eq_true rfl) rfl (Nat.le_of_ble_eq_true rfl) H (fun r2 s2 H => ?_) (fun x s1 H => Or.inr ⟨x, rfl, H⟩)
    refine qS_iload_n qd_78_26 rfl ?_
    obtain ⟨h27a, h27b, H1, H2⟩ := H
    refine qS_icmp qd_78_27 rfl (zcnd_ne (a := r2) (b := p0) h27a h27b (fun t => qR w _ _ t _ _ _ _) (fun hc => ?_) (fun hc => ?_))
    · have H := H1 hc; clear H1 H2 hc
      exact qS_sub (zsub_c rfl (zsub_c rfl zsub_n)) H
    · have H := H2 hc; clear H1 H2 hc
      refine qS_iconst qd_78_34 ?_
      exact qS_sub (zsub_c rfl (zsub_c rfl zsub_n)) H
set_option maxRecDepth 100000 in
theorem k78_30 {w : qE} {s : qS} {v2 : Int} {f : Int → qS → Prop} {g : Nat → qS → Prop}  (H : qR w 1 qm78 35 [(0, .ref 3), (2, qI v2)] [qI 1, .ref 1] s (qPI f g)) : qR w 1 qm78 30 [(0, .ref 3), (2, qI v2)] [.ref 1] s (qPI f g) := by
  refine qS_iconst qd_78_30 ?_
  refine qS_goto qd_78_31 rfl ?_
  exact qS_sub (zsub_c rfl (zsub_c rfl zsub_n)) H
set_option maxRecDepth 100000 in
theorem k78_35 {w : qE} {s : qS} {v2 : Int} {k1 : Int} {f : Int → qS → Prop} {g : Nat → qS → Prop}  (H : qW w 1 21 [.ref 1] s (qPI (fun r3 s3 => qW w 1 20 [.ref 1, qI k1, qI (r3 - 2)] s3 (qPV (fun s4 => f v2 s4) g)) g)) : qR w 1 qm78 35 [(0, .ref 3), (2, qI v2)] [qI k1, .ref 1] s (qPI f g) := by
  refine qS_aload_n qd_78_35 rfl ?_
  refine qS_getfield (v := .ref 1) qd_78_36 (qfl_2_9 w) (hpc_3 _ _) rfl ?_
  refine qS_cvI qd_78_39 (qml_2_41 w) rfl qtm_21 (hpc_1 _ _) (Nat.le_of_ble_eq_true rfl) rfl (Nat.le_of_ble_eq_true rfl) H (fun r3 s3 H => ?_) (fun x s1 H => Or.inr ⟨x, rfl, H⟩)
  refine qS_iconst qd_78_42 ?_
  refine qS_isub (a := r3) (b := 2) qd_78_43 ?_
  refine qS_cvV qd_78_44 (qml_2_45 w) rfl qtm_20 (hpc_1 _ _) (Nat.le_of_ble_eq_true rfl) rfl (Nat.le_of_ble_eq_true rfl) H (fun s4 H => ?_) (fun x s1 H => Or.inr ⟨x, rfl, H⟩)
  refine qS_iload_n qd_78_47 rfl ?_
  exact qS_ireturn qd_78_48 rfl (Or.inl ⟨_, rfl, H⟩)
set_option maxRecDepth 100000 in
theorem k79 {w : qE} {s : qS}  {f : qS → Prop} {g : Nat → qS → Prop}  (H : qW w 1 19 [.ref 1, qI 2] s (qPI (fun r1 s1 => qR w 2 qm79 11 [(0, .ref 8), (1, qI r1), (2, qI 0)] [] s1 (qPV f g)) g)) : qW w 3 79 [.ref 8] s (qPV f g) := by
  refine qW.of (M := qm79) (l := [(0, .ref 8)]) qtm_79 rfl (Nat.le_of_ble_eq_true rfl) (zsub_c rfl zsub_n) ?_
  refine qS_aload_n qd_79_0 rfl ?_
  refine qS_getfield (v := .ref 1) qd_79_1 (qfl_5_9 w) (hpc_8 _ _) rfl ?_
  refine qS_iconst qd_79_4 ?_
  refine qS_cvI qd_79_5 (qml_5_65 w) rfl qtm_19 (hpc_1 _ _) (Nat.le_of_ble_eq_true rfl) rfl (Nat.le_of_ble_eq_true rfl) H (fun r1 s1 H => ?_) (fun x s1 H => Or.inr ⟨x, rfl, H⟩)
  refine qS_istore_n (a := [(0, .ref 8)]) qd_79_8 (Nat.le_of_ble_eq_true rfl) (zsub_c rfl zsub_n) rfl ?_
  refine qS_iconst qd_79_9 ?_
  refine qS_istore_n (a := [(1, qI r1), (0, .ref 8)]) qd_79_10 (Nat.le_of_ble_eq_true rfl) (zsub_c rfl (zsub_c rfl zsub_n)) rfl ?_
  exact qS_sub (zsub_c rfl (zsub_c rfl (zsub_c rfl zsub_n))) H
set_option maxRecDepth 100000 in
theorem k79_11 {w : qE} {s : qS} {v1 : Int} {v2 : Int} {f : qS → Prop} {g : Nat → qS → Prop}  (H : Rg v2 ∧ Rg v1 ∧ (v2 < v1 → qW w 2 70 [.ref 3, qI 1] s (qPI (fun r2 s2 => qW w 2 73 [.ref 1] s2 (qPI (fun r3 s3 => qW w 2 76 [.ref 1, qI r3] s3 (qPV (fun s4 => qR w 2 qm79 11 [(0, .ref 8), (1, qI v1), (2, qI (v2 + 1))] [] s4 (qPV f g)) g)) g)) g)) ∧ (v1 ≤ v2 → f s)) : qR w 2 qm79 11 [(0, .ref 8), (1, qI v1), (2, qI v2)] [] s (qPV f g) := by
  refine qS_iload_n qd_79_11 rfl ?_
  refine qS_iload_n qd_79_12 rfl ?_
  obtain ⟨h13a, h13b, H1, H2⟩ := H
  refine qS_icmp qd_79_13 rfl (zcnd_ge (a := v2) (b := v1) h13a h13b (fun t => qR w _ _ t _ _ _ _) (fun hc => ?_) (fun hc => ?_))
  · have H := H1 hc; clear H1 H2 hc
    refine qS_aload_n qd_79_16 rfl ?_
    refine qS_getfield (v := .ref 3) qd_79_17 (qfl_5_15 w) (hpc_8 _ _) rfl ?_
    refine qS_iconst qd_79_20 ?_
    refine qS_cvI qd_79_21 (qml_5_75 w) rfl qtm_70 (hpc_3 _ _) (Nat.le_of_ble_eq_true rfl) rfl (Nat.le_of_ble_eq_true rfl) H (fun r2 s2 H => ?_) (fun x s1 H => Or.inr ⟨x, rfl, H⟩)
    refine qS_pop qd_79_24 rfl ?_
    refine qS_aload_n qd_79_25 rfl ?_
    refine qS_getfield (v := .ref 1) qd_79_26 (qfl_5_9 w) (hpc_8 _ _) rfl ?_
    refine qS_aload_n qd_79_29 rfl ?_
    refine qS_getfield (v := .ref 1) qd_79_30 (qfl_5_9 w) (hpc_8 _ _) rfl ?_
    refine qS_cvI qd_79_33 (qml_5_94 w) rfl qtm_73 (hpc_1 _ _) (Nat.le_of_ble_eq_true rfl) rfl (Nat.le_of_ble_eq_true rfl) H (fun r3 s3 H => ?_) (fun x s1 H => Or.inr ⟨x, rfl, H⟩)
    refine qS_cvV qd_79_36 (qml_5_128 w) rfl qtm_76 (hpc_1 _ _) (Nat.le_of_ble_eq_true rfl) rfl (Nat.le_of_ble_eq_true rfl) H (fun s4 H => ?_) (fun x s1 H => Or.inr ⟨x, rfl, H⟩)
    refine qS_iinc (v := v2) (a := [(0, .ref 8), (1, qI v1)]) qd_79_39 (Nat.le_of_ble_eq_true rfl) rfl (zsub_c rfl (zsub_c rfl zsub_n)) rfl ?_
    refine qS_goto qd_79_42 rfl ?_
    exact qS_sub (zsub_c rfl (zsub_c rfl (zsub_c rfl zsub_n))) H
  · have H := H2 hc; clear H1 H2 hc
    exact qS_vreturn qd_79_45 rfl (Or.inl ⟨rfl, H⟩)
set_option maxRecDepth 100000 in
theorem k80 {w : qE} {s : qS}  {f : Int → qS → Prop} {g : Nat → qS → Prop}  (H : qW w 1 19 [.ref 1, qI 2] s (qPI (fun r1 s1 => qR w 2 qm80 11 [(0, .ref 8), (1, qI r1), (2, qI 0)] [] s1 (qPI f g)) g)) : qW w 3 80 [.ref 8] s (qPI f g) := by
  refine qW.of (M := qm80) (l := [(0, .ref 8)]) qtm_80 rfl (Nat.le_of_ble_eq_true rfl) (zsub_c rfl zsub_n) ?_
  refine qS_aload_n qd_80_0 rfl ?_
  refine qS_getfield (v := .ref 1) qd_80_1 (qfl_5_9 w) (hpc_8 _ _) rfl ?_
  refine qS_iconst qd_80_4 ?_
  refine qS_cvI qd_80_5 (qml_5_65 w) rfl qtm_19 (hpc_1 _ _) (Nat.le_of_ble_eq_true rfl) rfl (Nat.le_of_ble_eq_true rfl) H (fun r1 s1 H => ?_) (fun x s1 H => Or.inr ⟨x, rfl, H⟩)
  refine qS_istore_n (a := [(0, .ref 8)]) qd_80_8 (Nat.le_of_ble_eq_true rfl) (zsub_c rfl zsub_n) rfl ?_
  refine qS_iconst qd_80_9 ?_
  refine qS_istore_n (a := [(1, qI r1), (0, .ref 8)]) qd_80_10 (Nat.le_of_ble_eq_true rfl) (zsub_c rfl (zsub_c rfl zsub_n)) rfl ?_
  exact qS_sub (zsub_c rfl (zsub_c rfl (zsub_c rfl zsub_n))) H
set_option maxRecDepth 100000 in
theorem k80_11 {w : qE} {s : qS} {v1 : Int} {v2 : Int} {f : Int → qS → Prop} {g : Nat → qS → Prop}  (H : Rg v2 ∧ Rg v1 ∧ (v2 < v1 → qW w 2 70 [.ref 3, qI 7] s (qPI (fun r2 s2 => qR w 2 qm80 11 [(0, .ref 8), (1, qI v1), (2, qI (v2 + 1))] [] s2 (qPI f g)) g)) ∧ (v1 ≤ v2 → f v1 s)) : qR w 2 qm80 11 [(0, .ref 8), (1, qI v1), (2, qI v2)] [] s (qPI f g) := by
  refine qS_iload_n qd_80_11 rfl ?_
  refine qS_iload_n qd_80_12 rfl ?_
  obtain ⟨h13a, h13b, H1, H2⟩ := H
  refine qS_icmp qd_80_13 rfl (zcnd_ge (a := v2) (b := v1) h13a h13b (fun t => qR w _ _ t _ _ _ _) (fun hc => ?_) (fun hc => ?_))
  · have H := H1 hc; clear H1 H2 hc
    refine qS_aload_n qd_80_16 rfl ?_
    refine qS_getfield (v := .ref 3) qd_80_17 (qfl_5_15 w) (hpc_8 _ _) rfl ?_
    refine qS_bipush qd_80_20 (by decide) ?_
    refine qS_cvI qd_80_22 (qml_5_75 w) rfl qtm_70 (hpc_3 _ _) (Nat.le_of_ble_eq_true rfl) rfl (Nat.le_of_ble_eq_true rfl) H (fun r2 s2 H => ?_) (fun x s1 H => Or.inr ⟨x, rfl, H⟩)
    refine qS_pop qd_80_25 rfl ?_
    refine qS_iinc (v := v2) (a := [(0, .ref 8), (1, qI v1)]) qd_80_26 (Nat.le_of_ble_eq_true rfl) rfl (zsub_c rfl (zsub_c rfl zsub_n)) rfl ?_
    refine qS_goto qd_80_29 rfl ?_
    exact qS_sub (zsub_c rfl (zsub_c rfl (zsub_c rfl zsub_n))) H
  · have H := H2 hc; clear H1 H2 hc
    refine qS_iload_n qd_80_32 rfl ?_
    exact qS_ireturn qd_80_33 rfl (Or.inl ⟨_, rfl, H⟩)
set_option maxRecDepth 100000 in
theorem k81 {w : qE} {s : qS}  {f : qS → Prop} {g : Nat → qS → Prop}  (H : qW w 1 19 [.ref 1, qI 2] s (qPI (fun r1 s1 => qR w 3 qm81 11 [(0, .ref 8), (1, qI r1), (2, qI 0)] [] s1 (qPV f g)) g)) : qW w 4 81 [.ref 8] s (qPV f g) := by
  refine qW.of (M := qm81) (l := [(0, .ref 8)]) qtm_81 rfl (Nat.le_of_ble_eq_true rfl) (zsub_c rfl zsub_n) ?_
  refine qS_aload_n qd_81_0 rfl ?_
  refine qS_getfield (v := .ref 1) qd_81_1 (qfl_5_9 w) (hpc_8 _ _) rfl ?_
  refine qS_iconst qd_81_4 ?_
  refine qS_cvI qd_81_5 (qml_5_65 w) rfl qtm_19 (hpc_1 _ _) (Nat.le_of_ble_eq_true rfl) rfl (Nat.le_of_ble_eq_true rfl) H (fun r1 s1 H => ?_) (fun x s1 H => Or.inr ⟨x, rfl, H⟩)
  refine qS_istore_n (a := [(0, .ref 8)]) qd_81_8 (Nat.le_of_ble_eq_true rfl) (zsub_c rfl zsub_n) rfl ?_
  refine qS_iconst qd_81_9 ?_
  refine qS_istore_n (a := [(1, qI r1), (0, .ref 8)]) qd_81_10 (Nat.le_of_ble_eq_true rfl) (zsub_c rfl (zsub_c rfl zsub_n)) rfl ?_
  exact qS_sub (zsub_c rfl (zsub_c rfl (zsub_c rfl zsub_n))) H
set_option maxRecDepth 100000 in
theorem k81_11 {w : qE} {s : qS} {v1 : Int} {v2 : Int} {f : qS → Prop} {g : Nat → qS → Prop}  (H : Rg v2 ∧ Rg v1 ∧ (v2 < v1 → qW w 2 70 [.ref 3, qI 7] s (qPI (fun r2 s2 => qW w 3 25 [.ref 13, qI r2] s2 (qPI (fun r3 s3 => qW w 2 78 [.ref 3, qI 7] s3 (qPI (fun r4 s4 => qW w 1 27 [.ref 13, qI r3, qI 1, qI r4] s4 (qPV (fun s5 => qW w 2 78 [.ref 3, qI 1] s5 (qPI (fun r6 s6 => qW w 1 27 [.ref 13, qI r3, qI 2, qI r6] s6 (qPV (fun s7 => qW w 1 19 [.ref 1, qI 2] s7 (qPI (fun r8 s8 => qW w 1 27 [.ref 13, qI r3, qI 3, qI r8] s8 (qPV (fun s9 => qR w 3 qm81 11 [(0, .ref 8), (1, qI v1), (2, qI (v2 + 1))] [] s9 (qPV f g)) g)) g)) g)) g)) g)) g)) g)) g)) ∧ (v1 ≤ v2 → f s)) : qR w 3 qm81 11 [(0, .ref 8), (1, qI v1), (2, qI v2)] [] s (qPV f g) := by
  refine qS_iload_n qd_81_11 rfl ?_
  refine qS_iload_n qd_81_12 rfl ?_
  obtain ⟨h13a, h13b, H1, H2⟩ := H
  refine qS_icmp qd_81_13 rfl (zcnd_ge (a := v2) (b := v1) h13a h13b (fun t => qR w _ _ t _ _ _ _) (fun hc => ?_) (fun hc => ?_))
  · have H := H1 hc; clear H1 H2 hc
    refine qS_aload_n qd_81_16 rfl ?_
    refine qS_getfield (v := .ref 13) qd_81_17 (qfl_5_31 w) (hpc_8 _ _) rfl ?_
    refine qS_aload_n qd_81_20 rfl ?_
    refine qS_getfield (v := .ref 3) qd_81_21 (qfl_5_15 w) (hpc_8 _ _) rfl ?_
    refine qS_bipush qd_81_24 (by decide) ?_
    refine qS_cvI qd_81_26 (qml_5_75 w) rfl qtm_70 (hpc_3 _ _) (Nat.le_of_ble_eq_true rfl) rfl (Nat.le_of_ble_eq_true rfl) H (fun r2 s2 H => ?_) (fun x s1 H => Or.inr ⟨x, rfl, H⟩)
    refine qS_cvI qd_81_29 (qml_5_165 w) rfl qtm_25 (hpc_13 _ _) (Nat.le_of_ble_eq_true rfl) rfl (Nat.le_of_ble_eq_true rfl) H (fun r3 s3 H => ?_) (fun x s1 H => Or.inr ⟨x, rfl, H⟩)
    refine qS_istore_n (a := [(0, .ref 8), (1, qI v1), (2, qI v2)]) qd_81_32 (Nat.le_of_ble_eq_true rfl) (zsub_c rfl (zsub_c rfl (zsub_c rfl zsub_n))) rfl ?_
    refine qS_aload_n qd_81_33 rfl ?_
    refine qS_getfield (v := .ref 13) qd_81_34 (qfl_5_31 w) (hpc_8 _ _) rfl ?_
    refine qS_iload_n qd_81_37 rfl ?_
    refine qS_iconst qd_81_38 ?_
    refine qS_aload_n qd_81_39 rfl ?_
    refine qS_getfield (v := .ref 3) qd_81_40 (qfl_5_15 w) (hpc_8 _ _) rfl ?_
    refine qS_bipush qd_81_43 (by decide) ?_
    refine qS_cvI qd_81_45 (qml_5_118 w) rfl qtm_78 (hpc_3 _ _) (Nat.le_of_ble_eq_true rfl) rfl (Nat.le_of_ble_eq_true rfl) H (fun r4 s4 H => ?_) (fun x s1 H => Or.inr ⟨x, rfl, H⟩)
    refine qS_cvV qd_81_48 (qml_5_168 w) rfl qtm_27 (hpc_13 _ _) (Nat.le_of_ble_eq_true rfl) rfl (Nat.le_of_ble_eq_true rfl) H (fun s5 H => ?_) (fun x s1 H => Or.inr ⟨x, rfl, H⟩)
    refine qS_aload_n qd_81_51 rfl ?_
    refine qS_getfield (v := .ref 13) qd_81_52 (qfl_5_31 w) (hpc_8 _ _) rfl ?_
    refine qS_iload_n qd_81_55 rfl ?_
    refine qS_iconst qd_81_56 ?_
    refine qS_aload_n qd_81_57 rfl ?_
    refine qS_getfield (v := .ref 3) qd_81_58 (qfl_5_15 w) (hpc_8 _ _) rfl ?_
    refine qS_iconst qd_81_61 ?_
    refine qS_cvI qd_81_62 (qml_5_118 w) rfl qtm_78 (hpc_3 _ _) (Nat.le_of_ble_eq_true rfl) rfl (Nat.le_of_ble_eq_true rfl) H (fun r6 s6 H => ?_) (fun x s1 H => Or.inr ⟨x, rfl, H⟩)
    refine qS_cvV qd_81_65 (qml_5_168 w) rfl qtm_27 (hpc_13 _ _) (Nat.le_of_ble_eq_true rfl) rfl (Nat.le_of_ble_eq_true rfl) H (fun s7 H => ?_) (fun x s1 H => Or.inr ⟨x, rfl, H⟩)
    refine qS_aload_n qd_81_68 rfl ?_
    refine qS_getfield (v := .ref 13) qd_81_69 (qfl_5_31 w) (hpc_8 _ _) rfl ?_
    refine qS_iload_n qd_81_72 rfl ?_
    refine qS_iconst qd_81_73 ?_
    refine qS_aload_n qd_81_74 rfl ?_
    refine qS_getfield (v := .ref 1) qd_81_75 (qfl_5_9 w) (hpc_8 _ _) rfl ?_
    refine qS_iconst qd_81_78 ?_
    refine qS_cvI qd_81_79 (qml_5_65 w) rfl qtm_19 (hpc_1 _ _) (Nat.le_of_ble_eq_true rfl) rfl (Nat.le_of_ble_eq_true rfl) H (fun r8 s8 H => ?_) (fun x s1 H => Or.inr ⟨x, rfl, H⟩)
    refine qS_cvV qd_81_82 (qml_5_168 w) rfl qtm_27 (hpc_13 _ _) (Nat.le_of_ble_eq_true rfl) rfl (Nat.le_of_ble_eq_true rfl) H (fun s9 H => ?_) (fun x s1 H => Or.inr ⟨x, rfl, H⟩)
    refine qS_iinc (v := v2) (a := [(0, .ref 8), (1, qI v1)]) qd_81_85 (Nat.le_of_ble_eq_true rfl) rfl (zsub_c rfl (zsub_c rfl zsub_n)) rfl ?_
    refine qS_goto qd_81_88 rfl ?_
    exact qS_sub (zsub_c rfl (zsub_c rfl (zsub_c rfl zsub_n))) H
  · have H := H2 hc; clear H1 H2 hc
    exact qS_vreturn qd_81_91 rfl (Or.inl ⟨rfl, H⟩)
set_option maxRecDepth 100000 in
theorem k82 {w : qE} {s : qS} {t : Nat} {f : qS → Prop} {g : Nat → qS → Prop} (ht : 0 < qwid t) (H : qW w 1 19 [.ref 1, qI 2] s (qPI (fun r1 s1 => qR w 3 qm82 11 [(0, .ref 8), (1, .ref t), (2, qI r1), (3, qI 0)] [] s1 (qPV f g)) g)) : qW w 4 82 [.ref 8, .ref t] s (qPV f g) := by
  refine qW.of (M := qm82) (l := [(0, .ref 8), (1, .ref t)]) qtm_82 rfl (Nat.le_of_ble_eq_true rfl) (zsub_c rfl (zsub_c rfl zsub_n)) ?_
  refine qS_aload_n qd_82_0 rfl ?_
  refine qS_getfield (v := .ref 1) qd_82_1 (qfl_5_9 w) (hpc_8 _ _) rfl ?_
  refine qS_iconst qd_82_4 ?_
  refine qS_cvI qd_82_5 (qml_5_65 w) rfl qtm_19 (hpc_1 _ _) (Nat.le_of_ble_eq_true rfl) rfl (Nat.le_of_ble_eq_true rfl) H (fun r1 s1 H => ?_) (fun x s1 H => Or.inr ⟨x, rfl, H⟩)
  refine qS_istore_n (a := [(0, .ref 8), (1, .ref t)]) qd_82_8 (Nat.le_of_ble_eq_true rfl) (zsub_c rfl (zsub_c rfl zsub_n)) rfl ?_
  refine qS_iconst qd_82_9 ?_
  refine qS_istore_n (a := [(2, qI r1), (0, .ref 8), (1, .ref t)]) qd_82_10 (Nat.le_of_ble_eq_true rfl) (zsub_c rfl (zsub_c rfl (zsub_c rfl zsub_n))) rfl ?_
  exact qS_sub (zsub_c rfl (zsub_c rfl (zsub_c rfl (zsub_c rfl zsub_n)))) H
set_option maxRecDepth 100000 in
theorem k82_11 {w : qE} {s : qS} {t : Nat} {v2 : Int} {v3 : Int} {f : qS → Prop} {g : Nat → qS → Prop} (ht : 0 < qwid t) (H : Rg v3 ∧ Rg v2 ∧ (v3 < v2 → qW w 2 70 [.ref 3, qI 7] s (qPI (fun r2 s2 => qW w 3 25 [.ref t, qI r2] s2 (qPI (fun r3 s3 => qR w 3 qm82 11 [(0, .ref 8), (1, .ref t), (2, qI v2), (3, qI (v3 + 1))] [] s3 (qPV f g)) g)) g)) ∧ (v2 ≤ v3 → f s)) : qR w 3 qm82 11 [(0, .ref 8), (1, .ref t), (2, qI v2), (3, qI v3)] [] s (qPV f g) := by
  refine qS_iload_n qd_82_11 rfl ?_
  refine qS_iload_n qd_82_12 rfl ?_
  obtain ⟨h13a, h13b, H1, H2⟩ := H
  refine qS_icmp qd_82_13 rfl (zcnd_ge (a := v3) (b := v2) h13a h13b (fun t => qR w _ _ t _ _ _ _) (fun hc => ?_) (fun hc => ?_))
  · have H := H1 hc; clear H1 H2 hc
    refine qS_aload_n qd_82_16 rfl ?_
    refine qS_aload_n qd_82_17 rfl ?_
    refine qS_getfield (v := .ref 3) qd_82_18 (qfl_5_15 w) (hpc_8 _ _) rfl ?_
    refine qS_bipush qd_82_21 (by decide) ?_
    refine qS_cvI qd_82_23 (qml_5_75 w) rfl qtm_70 (hpc_3 _ _) (Nat.le_of_ble_eq_true rfl) rfl (Nat.le_of_ble_eq_true rfl) H (fun r2 s2 H => ?_) (fun x s1 H => Or.inr ⟨x, rfl, H⟩)
    refine qS_cvI qd_82_26 (qml_5_165 w) rfl qtm_25 (hp_tab _ _ t ht) (Nat.le_of_ble_eq_true rfl) rfl (Nat.le_of_ble_eq_true rfl) H (fun r3 s3 H => ?_) (fun x s1 H => Or.inr ⟨x, rfl, H⟩)
    refine qS_pop qd_82_29 rfl ?_
    refine qS_iinc (v := v3) (a := [(0, .ref 8), (1, .ref t), (2, qI v2)]) qd_82_30 (Nat.le_of_ble_eq_true rfl) rfl (zsub_c rfl (zsub_c rfl (zsub_c rfl zsub_n))) rfl ?_
    refine qS_goto qd_82_33 rfl ?_
    exact qS_sub (zsub_c rfl (zsub_c rfl (zsub_c rfl (zsub_c rfl zsub_n)))) H
  · have H := H2 hc; clear H1 H2 hc
    exact qS_vreturn qd_82_36 rfl (Or.inl ⟨rfl, H⟩)
set_option maxRecDepth 100000 in
theorem k83 {w : qE} {s : qS}  {f : qS → Prop} {g : Nat → qS → Prop}  (H : qW w 1 19 [.ref 1, qI 2] s (qPI (fun r1 s1 => qR w 3 qm83 11 [(0, .ref 8), (1, qI r1), (2, qI 0)] [] s1 (qPV f g)) g)) : qW w 4 83 [.ref 8] s (qPV f g) := by
  refine qW.of (M := qm83) (l := [(0, .ref 8)]) qtm_83 rfl (Nat.le_of_ble_eq_true rfl) (zsub_c rfl zsub_n) ?_
  refine qS_aload_n qd_83_0 rfl ?_
  refine qS_getfield (v := .ref 1) qd_83_1 (qfl_5_9 w) (hpc_8 _ _) rfl ?_
  refine qS_iconst qd_83_4 ?_
  refine qS_cvI qd_83_5 (qml_5_65 w) rfl qtm_19 (hpc_1 _ _) (Nat.le_of_ble_eq_true rfl) rfl (Nat.le_of_ble_eq_true rfl) H (fun r1 s1 H => ?_) (fun x s1 H => Or.inr ⟨x, rfl, H⟩)
  refine qS_istore_n (a := [(0, .ref 8)]) qd_83_8 (Nat.le_of_ble_eq_true rfl) (zsub_c rfl zsub_n) rfl ?_
  refine qS_iconst qd_83_9 ?_
  refine qS_istore_n (a := [(1, qI r1), (0, .ref 8)]) qd_83_10 (Nat.le_of_ble_eq_true rfl) (zsub_c rfl (zsub_c rfl zsub_n)) rfl ?_
  exact qS_sub (zsub_c rfl (zsub_c rfl (zsub_c rfl zsub_n))) H
set_option maxRecDepth 100000 in
theorem k83_11 {w : qE} {s : qS} {v1 : Int} {v2 : Int} {f : qS → Prop} {g : Nat → qS → Prop}  (H : Rg v2 ∧ Rg v1 ∧ (v2 < v1 → qW w 2 70 [.ref 3, qI 15] s (qPI (fun r2 s2 => qW w 3 25 [.ref 15, qI r2] s2 (qPI (fun r3 s3 => qW w 1 19 [.ref 1, qI 2] s3 (qPI (fun r4 s4 => qW w 1 27 [.ref 15, qI r3, qI 1, qI r4] s4 (qPV (fun s5 => qR w 3 qm83 57 [(0, .ref 8), (1, qI v1), (2, qI v2), (4, qI r4), (5, qI 0)] [] s5 (qPV f g)) g)) g)) g)) g)) ∧ (v1 ≤ v2 → f s)) : qR w 3 qm83 11 [(0, .ref 8), (1, qI v1), (2, qI v2)] [] s (qPV f g) := by
  refine qS_iload_n qd_83_11 rfl ?_
  refine qS_iload_n qd_83_12 rfl ?_
  obtain ⟨h13a, h13b, H1, H2⟩ := H
  refine qS_icmp qd_83_13 rfl (zcnd_ge (a := v2) (b := v1) h13a h13b (fun t => qR w _ _ t _ _ _ _) (fun hc => ?_) (fun hc => ?_))
  · have H := H1 hc; clear H1 H2 hc
    refine qS_aload_n qd_83_16 rfl ?_
    refine qS_getfield (v := .ref 15) qd_83_17 (qfl_5_34 w) (hpc_8 _ _) rfl ?_
    refine qS_aload_n qd_83_20 rfl ?_
    refine qS_getfield (v := .ref 3) qd_83_21 (qfl_5_15 w) (hpc_8 _ _) rfl ?_
    refine qS_bipush qd_83_24 (by decide) ?_
    refine qS_cvI qd_83_26 (qml_5_75 w) rfl qtm_70 (hpc_3 _ _) (Nat.le_of_ble_eq_true rfl) rfl (Nat.le_of_ble_eq_true rfl) H (fun r2 s2 H => ?_) (fun x s1 H => Or.inr ⟨x, rfl, H⟩)
    refine qS_cvI qd_83_29 (qml_5_165 w) rfl qtm_25 (hpc_15 _ _) (Nat.le_of_ble_eq_true rfl) rfl (Nat.le_of_ble_eq_true rfl) H (fun r3 s3 H => ?_) (fun x s1 H => Or.inr ⟨x, rfl, H⟩)
    refine qS_istore_n (a := [(0, .ref 8), (1, qI v1), (2, qI v2)]) qd_83_32 (Nat.le_of_ble_eq_true rfl) (zsub_c rfl (zsub_c rfl (zsub_c rfl zsub_n))) rfl ?_
    refine qS_aload_n qd_83_33 rfl ?_
    refine qS_getfield (v := .ref 1) qd_83_34 (qfl_5_9 w) (hpc_8 _ _) rfl ?_
    refine qS_iconst qd_83_37 ?_
    refine qS_cvI qd_83_38 (qml_5_65 w) rfl qtm_19 (hpc_1 _ _) (Nat.le_of_ble_eq_true rfl) rfl (Nat.le_of_ble_eq_true rfl) H (fun r4 s4 H => ?_) (fun x s1 H => Or.inr ⟨x, rfl, H⟩)
    refine qS_istore (a := [(3, qI r3), (0, .ref 8), (1, qI v1), (2, qI v2)]) qd_83_41 (Nat.le_of_ble_eq_true rfl) (zsub_c rfl (zsub_c rfl (zsub_c rfl (zsub_c rfl zsub_n)))) rfl ?_
    refine qS_aload_n qd_83_43 rfl ?_
    refine qS_getfield (v := .ref 15) qd_83_44 (qfl_5_34 w) (hpc_8 _ _) rfl ?_
    refine qS_iload_n qd_83_47 rfl ?_
    refine qS_iconst qd_83_48 ?_
    refine qS_iload qd_83_49 rfl ?_
    refine qS_cvV qd_83_51 (qml_5_168 w) rfl qtm_27 (hpc_15 _ _) (Nat.le_of_ble_eq_true rfl) rfl (Nat.le_of_ble_eq_true rfl) H (fun s5 H => ?_) (fun x s1 H => Or.inr ⟨x, rfl, H⟩)
    refine qS_iconst qd_83_54 ?_
    refine qS_istore (a := [(4, qI r4), (0, .ref 8), (1, qI v1), (2, qI v2)]) qd_83_55 (Nat.le_of_ble_eq_true rfl) (zsub_c rfl (zsub_c rfl (zsub_c rfl (zsub_c rfl zsub_n)))) rfl ?_
    exact qS_sub (zsub_c rfl (zsub_c rfl (zsub_c rfl (zsub_c rfl (zsub_c rfl zsub_n))))) H
  · have H := H2 hc; clear H1 H2 hc
    exact qS_vreturn qd_83_114 rfl (Or.inl ⟨rfl, H⟩)
set_option maxRecDepth 100000 in
theorem k83_57 {w : qE} {s : qS} {v1 : Int} {v2 : Int} {v4 : Int} {v5 : Int} {f : qS → Prop} {g : Nat → qS → Prop}  (H : Rg v5 ∧ Rg v4 ∧ (v5 < v4 → qW w 1 19 [.ref 1, qI 2] s (qPI (fun r6 s6 => qW w 2 35 [.ref 3, qI r6] s6 (qPI (fun r7 s7 => qW w 1 84 [qI r7] s7 (qPI (fun r8 s8 => qW w 1 21 [.ref 1] s8 (qPI (fun r9 s9 => qW w 1 20 [.ref 1, qI r8, qI (r9 - 2)] s9 (qPV (fun s10 => qR w 3 qm83 57 [(0, .ref 8), (1, qI v1), (2, qI v2), (4, qI v4), (5, qI (v5 + 1))] [] s10 (qPV f g)) g)) g)) g)) g)) g)) ∧ (v4 ≤ v5 → qR w 3 qm83 11 [(0, .ref 8), (1, qI v1), (2, qI (v2 + 1))] [] s (qPV f g))) : qR w 3 qm83 57 [(0, .ref 8), (1, qI v1), (2, qI v2), (4, qI v4), (5, qI v5)] [] s (qPV f g) := by
  refine qS_iload qd_83_57 rfl ?_
  refine qS_iload qd_83_59 rfl ?_
  obtain ⟨h61a, h61b, H1, H2⟩ := H
  refine qS_icmp qd_83_61 rfl (zcnd_ge (a := v5) (b := v4) h61a h61b (fun t => qR w _ _ t _ _ _ _) (fun hc => ?_) (fun hc => ?_))
  · have H := H1 hc; clear H1 H2 hc
    refine qS_aload_n qd_83_64 rfl ?_
    refine qS_getfield (v := .ref 3) qd_83_65 (qfl_5_15 w) (hpc_8 _ _) rfl ?_
    refine qS_aload_n qd_83_68 rfl ?_
    refine qS_getfield (v := .ref 1) qd_83_69 (qfl_5_9 w) (hpc_8 _ _) rfl ?_
    refine qS_iconst qd_83_72 ?_
    refine qS_cvI qd_83_73 (qml_5_65 w) rfl qtm_19 (hpc_1 _ _) (Nat.le_of_ble_eq_true rfl) rfl (Nat.le_of_ble_eq_true rfl) H (fun r6 s6 H => ?_) (fun x s1 H => Or.inr ⟨x, rfl, H⟩)
    refine qS_cvI qd_83_76 (qml_5_172 w) rfl qtm_35 (hpc_3 _ _) (Nat.le_of_ble_eq_true rfl) rfl (Nat.le_of_ble_eq_true rfl) H (fun r7 s7 H => ?_) (fun x s1 H => Or.inr ⟨x, rfl, H⟩)
    refine qS_istore (a := [(0, .ref 8), (1, qI v1), (2, qI v2), (4, qI v4), (5, qI v5)]) qd_83_79 (Nat.le_of_ble_eq_true rfl) (zsub_c rfl (zsub_c rfl (zsub_c rfl (zsub_c rfl (zsub_c rfl zsub_n))))) rfl ?_
    refine qS_aload_n qd_83_81 rfl ?_
    refine qS_getfield (v := .ref 1) qd_83_82 (qfl_5_9 w) (hpc_8 _ _) rfl ?_
    refine qS_iload qd_83_85 rfl ?_
    refine qS_csI qd_83_87 (qml_5_175 w) rfl (Nat.le_of_ble_eq_true rfl) rfl (Nat.le_of_ble_eq_true rfl) H (fun r8 s8 H => ?_) (fun x s1 H => Or.inr ⟨x, rfl, H⟩)
    refine qS_aload_n qd_83_90 rfl ?_
    refine qS_getfield (v := .ref 1) qd_83_91 (qfl_5_9 w) (hpc_8 _ _) rfl ?_
    refine qS_cvI qd_83_94 (qml_5_71 w) rfl qtm_21 (hpc_1 _ _) (Nat.le_of_ble_eq_true rfl) rfl (Nat.le_of_ble_eq_true rfl) H (fun r9 s9 H => ?_) (fun x s1 H => Or.inr ⟨x, rfl, H⟩)
    refine qS_iconst qd_83_97 ?_
    refine qS_isub (a := r9) (b := 2) qd_83_98 ?_
    refine qS_cvV qd_83_99 (qml_5_87 w) rfl qtm_20 (hpc_1 _ _) (Nat.le_of_ble_eq_true rfl) rfl (Nat.le_of_ble_eq_true rfl) H (fun s10 H => ?_) (fun x s1 H => Or.inr ⟨x, rfl, H⟩)
    refine qS_iinc (v := v5) (a := [(0, .ref 8), (1, qI v1), (2, qI v2), (4, qI v4)]) qd_83_102 (Nat.le_of_ble_eq_true rfl) rfl (zsub_c rfl (zsub_c rfl (zsub_c rfl (zsub_c rfl zsub_n)))) rfl ?_
    refine qS_goto qd_83_105 rfl ?_
    exact qS_sub (zsub_c rfl (zsub_c rfl (zsub_c rfl (zsub_c rfl (zsub_c rfl zsub_n))))) H
  · have H := H2 hc; clear H1 H2 hc
    refine qS_iinc (v := v2) (a := [(0, .ref 8), (1, qI v1)]) qd_83_108 (Nat.le_of_ble_eq_true rfl) rfl (zsub_c rfl (zsub_c rfl zsub_n)) rfl ?_
    refine qS_goto qd_83_111 rfl ?_
    exact qS_sub (zsub_c rfl (zsub_c rfl (zsub_c rfl zsub_n))) H
set_option maxRecDepth 100000 in
theorem k84 {w : qE} {s : qS} {p0 : Int} {f : Int → qS → Prop} {g : Nat → qS → Prop}  (H : Rg p0 ∧ ((p0 = 3 ∨ p0 = 4 ∨ p0 = 5 ∨ p0 = 6 ∨ p0 = 7 ∨ p0 = 8 ∨ p0 = 15 ∨ p0 = 16 ∨ p0 = 17) → f 1 s) ∧ (p0 ≠ 3 → p0 ≠ 4 → p0 ≠ 5 → p0 ≠ 6 → p0 ≠ 7 → p0 ≠ 8 → p0 ≠ 15 → p0 ≠ 16 → p0 ≠ 17 → f 0 s)) : qW w 1 84 [qI p0] s (qPI f g) := by
  refine qW.of (M := qm84) (l := [(0, qI p0)]) qtm_84 rfl (Nat.le_of_ble_eq_true rfl) (zsub_c rfl zsub_n) ?_
  refine qS_iload_n qd_84_0 rfl ?_
  obtain ⟨h1a, H1, Hd⟩ := H
  by_cases hc0 : p0 = 3 ∨ p0 = 4 ∨ p0 = 5 ∨ p0 = 6 ∨ p0 = 7 ∨ p0 = 8 ∨ p0 = 15 ∨ p0 = 16 ∨ p0 = 17
  · refine qS_tsw qd_84_1 (t := 76) h1a (by rcases hc0 with hq | hq | hq | hq | hq | hq | hq | hq | hq <;> (rw [hq]; rfl)) ?_
    have H := H1 hc0
    refine qS_iconst qd_84_76 ?_
    exact qS_zreturn qd_84_77 rfl (Or.inr rfl) (Or.inl ⟨_, rfl, H⟩)
  refine qS_tsw qd_84_1 (t := 78) h1a (by
    by_cases hz : p0 < 3 ∨ 17 < p0
    · unfold ztsw; rw [if_pos hz]; rfl
    · have hz2 : p0 = 9 ∨ p0 = 10 ∨ p0 = 11 ∨ p0 = 12 ∨ p0 = 13 ∨ p0 = 14 := by omega
      rcases hz2 with hq | hq | hq | hq | hq | hq <;> (rw [hq]; rfl)) ?_
  have H := Hd (by omega) (by omega) (by omega) (by omega) (by omega) (by omega) (by omega) (by omega) (by omega)
  refine qS_iconst qd_84_78 ?_
  exact qS_zreturn qd_84_79 rfl (Or.inl rfl) (Or.inl ⟨_, rfl, H⟩)
set_option maxRecDepth 100000 in
theorem k85 {w : qE} {s : qS} {t : Nat} {p1 : Int} {p2 : Int} {f : qS → Prop} {g : Nat → qS → Prop} (ht : 0 < qwid t) (H : qW w 1 27 [.ref t, qI p1, qI 3, qI p2] s (qPV (fun s1 => qW w 1 27 [.ref t, qI p1, qI 5, qI (s1 8 2)] s1 (qPV (fun s2 => qW w 1 27 [.ref t, qI p1, qI 6, qI (s2 8 3)] s2 (qPV (fun s3 => qW w 1 27 [.ref t, qI p1, qI 7, qI (s3 8 4)] s3 (qPV (fun s4 => f s4) g)) g)) g)) g)) : qW w 2 85 [.ref 17, .ref t, qI p1, qI p2] s (qPV f g) := by
  refine qW.of (M := qm85) (l := [(0, .ref 17), (1, .ref t), (2, qI p1), (3, qI p2)]) qtm_85 rfl (Nat.le_of_ble_eq_true rfl) (zsub_c rfl (zsub_c rfl (zsub_c rfl (zsub_c rfl zsub_n)))) ?_
  refine qS_aload_n qd_85_0 rfl ?_
  refine qS_iload_n qd_85_1 rfl ?_
  refine qS_iconst qd_85_2 ?_
  refine qS_iload_n qd_85_3 rfl ?_
  refine qS_cvV qd_85_4 (qml_6_127 w) rfl qtm_27 (hp_tab _ _ t ht) (Nat.le_of_ble_eq_true rfl) rfl (Nat.le_of_ble_eq_true rfl) H (fun s1 H => ?_) (fun x s1 H => Or.inr ⟨x, rfl, H⟩)
  refine qS_aload_n qd_85_7 rfl ?_
  refine qS_iload_n qd_85_8 rfl ?_
  refine qS_iconst qd_85_9 ?_
  refine qS_aload_n qd_85_10 rfl ?_
  refine qS_getfield (v := .ref 8) qd_85_11 (qfl_6_19 w) (hpc_17 _ _) rfl ?_
  refine qS_getfield (v := qI (s1 8 2)) qd_85_14 (qfl_6_175 w) (hpc_8 _ _) rfl ?_
  refine qS_cvV qd_85_17 (qml_6_127 w) rfl qtm_27 (hp_tab _ _ t ht) (Nat.le_of_ble_eq_true rfl) rfl (Nat.le_of_ble_eq_true rfl) H (fun s2 H => ?_) (fun x s1 H => Or.inr ⟨x, rfl, H⟩)
  refine qS_aload_n qd_85_20 rfl ?_
  refine qS_iload_n qd_85_21 rfl ?_
  refine qS_bipush qd_85_22 (by decide) ?_
  refine qS_aload_n qd_85_24 rfl ?_
  refine qS_getfield (v := .ref 8) qd_85_25 (qfl_6_19 w) (hpc_17 _ _) rfl ?_
  refine qS_getfield (v := qI (s2 8 3)) qd_85_28 (qfl_6_178 w) (hpc_8 _ _) rfl ?_
  refine qS_cvV qd_85_31 (qml_6_127 w) rfl qtm_27 (hp_tab _ _ t ht) (Nat.le_of_ble_eq_true rfl) rfl (Nat.le_of_ble_eq_true rfl) H (fun s3 H => ?_) (fun x s1 H => Or.inr ⟨x, rfl, H⟩)
  refine qS_aload_n qd_85_34 rfl ?_
  refine qS_iload_n qd_85_35 rfl ?_
  refine qS_bipush qd_85_36 (by decide) ?_
  refine qS_aload_n qd_85_38 rfl ?_
  refine qS_getfield (v := .ref 8) qd_85_39 (qfl_6_19 w) (hpc_17 _ _) rfl ?_
  refine qS_getfield (v := qI (s3 8 4)) qd_85_42 (qfl_6_181 w) (hpc_8 _ _) rfl ?_
  refine qS_cvV qd_85_45 (qml_6_127 w) rfl qtm_27 (hp_tab _ _ t ht) (Nat.le_of_ble_eq_true rfl) rfl (Nat.le_of_ble_eq_true rfl) H (fun s4 H => ?_) (fun x s1 H => Or.inr ⟨x, rfl, H⟩)
  exact qS_vreturn qd_85_48 rfl (Or.inl ⟨rfl, H⟩)
set_option maxRecDepth 100000 in
theorem k86 {w : qE} {s : qS}  {f : qS → Prop} {g : Nat → qS → Prop}  (H : qW w 1 24 [.ref 22] s (qPV (fun s1 => qW w 1 19 [.ref 1, qI 2] s1 (qPI (fun r2 s2 => qR w 8 qm86 18 [(0, .ref 17), (1, qI r2), (2, qI 0)] [] s2 (qPV f g)) g)) g)) : qW w 9 86 [.ref 17] s (qPV f g) := by
  refine qW.of (M := qm86) (l := [(0, .ref 17)]) qtm_86 rfl (Nat.le_of_ble_eq_true rfl) (zsub_c rfl zsub_n) ?_
  refine qS_aload_n qd_86_0 rfl ?_
  refine qS_getfield (v := .ref 22) qd_86_1 (qfl_6_35 w) (hpc_17 _ _) rfl ?_
  refine qS_cvV qd_86_4 (qml_6_85 w) rfl qtm_24 (hpc_22 _ _) (Nat.le_of_ble_eq_true rfl) rfl (Nat.le_of_ble_eq_true rfl) H (fun s1 H => ?_) (fun x s1 H => Or.inr ⟨x, rfl, H⟩)
  refine qS_aload_n qd_86_7 rfl ?_
  refine qS_getfield (v := .ref 1) qd_86_8 (qfl_6_9 w) (hpc_17 _ _) rfl ?_
  refine qS_iconst qd_86_11 ?_
  refine qS_cvI qd_86_12 (qml_6_38 w) rfl qtm_19 (hpc_1 _ _) (Nat.le_of_ble_eq_true rfl) rfl (Nat.le_of_ble_eq_true rfl) H (fun r2 s2 H => ?_) (fun x s1 H => Or.inr ⟨x, rfl, H⟩)
  refine qS_istore_n (a := [(0, .ref 17)]) qd_86_15 (Nat.le_of_ble_eq_true rfl) (zsub_c rfl zsub_n) rfl ?_
  refine qS_iconst qd_86_16 ?_
  refine qS_istore_n (a := [(1, qI r2), (0, .ref 17)]) qd_86_17 (Nat.le_of_ble_eq_true rfl) (zsub_c rfl (zsub_c rfl zsub_n)) rfl ?_
  exact qS_sub (zsub_c rfl (zsub_c rfl (zsub_c rfl zsub_n))) H
set_option maxRecDepth 100000 in
theorem k86_18 {w : qE} {s : qS} {v1 : Int} {v2 : Int} {f : qS → Prop} {g : Nat → qS → Prop}  (H : Rg v2 ∧ Rg v1 ∧ (v2 < v1 → qW w 1 21 [.ref 1] s (qPI (fun r3 s3 => qW w 8 87 [.ref 17] s3 (qPI (fun r4 s4 => qW w 8 69 [.ref 8, qI 2, qI ((-2))] s4 (qPI (fun r5 s5 => qW w 2 85 [.ref 17, .ref 22, qI r4, qI r5] s5 (qPV (fun s6 => qW w 1 36 [.ref 22, qI r4, qI 0] s6 (qPI (fun r7 s7 => Rg (qand r7 1280) ∧ (qand r7 1280 = 0 → qR w 8 qm86 83 [(0, .ref 17), (1, qI v1), (2, qI v2), (3, qI r3), (4, qI r4)] [qI 0] s7 (qPV f g)) ∧ (qand r7 1280 ≠ 0 → qR w 8 qm86 83 [(0, .ref 17), (1, qI v1), (2, qI v2), (3, qI r3), (4, qI r4)] [qI 1] s7 (qPV f g))) g)) g)) g)) g)) g)) ∧ (v1 ≤ v2 → f s)) : qR w 8 qm86 18 [(0, .ref 17), (1, qI v1), (2, qI v2)] [] s (qPV f g) := by
  refine qS_iload_n qd_86_18 rfl ?_
  refine qS_iload_n qd_86_19 rfl ?_
  obtain ⟨h20a, h20b, H1, H2⟩ := H
  refine qS_icmp qd_86_20 rfl (zcnd_ge (a := v2) (b := v1) h20a h20b (fun t => qR w _ _ t _ _ _ _) (fun hc => ?_) (fun hc => ?_))
  · have H := H1 hc; clear H1 H2 hc
    refine qS_aload_n qd_86_23 rfl ?_
    refine qS_getfield (v := .ref 1) qd_86_24 (qfl_6_9 w) (hpc_17 _ _) rfl ?_
    refine qS_cvI qd_86_27 (qml_6_57 w) rfl qtm_21 (hpc_1 _ _) (Nat.le_of_ble_eq_true rfl) rfl (Nat.le_of_ble_eq_true rfl) H (fun r3 s3 H => ?_) (fun x s1 H => Or.inr ⟨x, rfl, H⟩)
    refine qS_istore_n (a := [(0, .ref 17), (1, qI v1), (2, qI v2)]) qd_86_30 (Nat.le_of_ble_eq_true rfl) (zsub_c rfl (zsub_c rfl (zsub_c rfl zsub_n))) rfl ?_
    refine qS_aload_n qd_86_31 rfl ?_
    refine qS_cvI qd_86_32 (qml_6_135 w) rfl qtm_87 (hpc_17 _ _) (Nat.le_of_ble_eq_true rfl) rfl (Nat.le_of_ble_eq_true rfl) H (fun r4 s4 H => ?_) (fun x s1 H => Or.inr ⟨x, rfl, H⟩)
    refine qS_istore (a := [(3, qI r3), (0, .ref 17), (1, qI v1), (2, qI v2)]) qd_86_35 (Nat.le_of_ble_eq_true rfl) (zsub_c rfl (zsub_c rfl (zsub_c rfl (zsub_c rfl zsub_n)))) rfl ?_
    refine qS_aload_n qd_86_37 rfl ?_
    refine qS_getfield (v := .ref 8) qd_86_38 (qfl_6_19 w) (hpc_17 _ _) rfl ?_
    refine qS_iconst qd_86_41 ?_
    refine qS_bipush qd_86_42 (by decide) ?_
    refine qS_cvI qd_86_44 (qml_6_100 w) rfl qtm_69 (hpc_8 _ _) (Nat.le_of_ble_eq_true rfl) rfl (Nat.le_of_ble_eq_true rfl) H (fun r5 s5 H => ?_) (fun x s1 H => Or.inr ⟨x, rfl, H⟩)
    refine qS_istore (a := [(4, qI r4), (3, qI r3), (0, .ref 17), (1, qI v1), (2, qI v2)]) qd_86_47 (Nat.le_of_ble_eq_true rfl) (zsub_c rfl (zsub_c rfl (zsub_c rfl (zsub_c rfl (zsub_c rfl zsub_n))))) rfl ?_
    refine qS_aload_n qd_86_49 rfl ?_
    refine qS_aload_n qd_86_50 rfl ?_
    refine qS_getfield (v := .ref 22) qd_86_51 (qfl_6_35 w) (hpc_17 _ _) rfl ?_
    refine qS_iload qd_86_54 rfl ?_
    refine qS_iload qd_86_56 rfl ?_
    refine qS_cvV qd_86_58 (qml_6_105 w) rfl qtm_85 (hpc_17 _ _) (Nat.le_of_ble_eq_true rfl) rfl (Nat.le_of_ble_eq_true rfl) H (fun s6 H => ?_) (fun x s1 H => Or.inr ⟨x, rfl, H⟩)
    refine qS_aload_n qd_86_61 rfl ?_
    refine qS_getfield (v := .ref 22) qd_86_62 (qfl_6_35 w) (hpc_17 _ _) rfl ?_
    refine qS_iload qd_86_65 rfl ?_
    refine qS_iconst qd_86_67 ?_
    refine qS_cvI qd_86_68 (qml_6_96 w) rfl qtm_36 (hpc_22 _ _) (Nat.le_of_ble_eq_true rfl) rfl (Nat.le_of_ble_eq_true rfl) H (fun r7 s7 H => ?_) (fun x s1 H => Or.inr ⟨x, rfl, H⟩)
    refine qS_sipush qd_86_71 (by decide) ?_
    refine qS_iand (a := r7) (b := 1280) qd_86_74 ?_
    obtain ⟨h75a, H1, H2⟩ := H
    refine qS_if0 qd_86_75 rfl (zcnd_eq (a := qand r7 1280) (b := 0) h75a ⟨by decide, by decide⟩ (fun t => qR w _ _ t _ _ _ _) (fun hc => ?_) (fun hc => ?_))
    · have H := H1 hc; clear H1 H2 hc
      refine qS_iconst qd_86_82 ?_
      exact qS_sub (zsub_c rfl (zsub_c rfl (zsub_c rfl (zsub_c rfl (zsub_c rfl zsub_n))))) H
    · have H := H2 hc; clear H1 H2 hc
      refine qS_iconst qd_86_78 ?_
      refine qS_goto qd_86_79 rfl ?_
      exact qS_sub (zsub_c rfl (zsub_c rfl (zsub_c rfl (zsub_c rfl (zsub_c rfl zsub_n))))) H
  · have H := H2 hc; clear H1 H2 hc
    exact qS_vreturn qd_86_133 rfl (Or.inl ⟨rfl, H⟩)
set_option maxRecDepth 100000 in
theorem k86_83 {w : qE} {s : qS} {v1 : Int} {v2 : Int} {v3 : Int} {v4 : Int} {k0 : Int} {f : qS → Prop} {g : Nat → qS → Prop}  (H : qW w 1 36 [.ref 22, qI v4, qI 5] s (qPI (fun r8 s8 => Rg r8 ∧ (r8 = (-2) → qR w 8 qm86 105 [(0, .ref 17), (1, qI v1), (2, qI v2), (3, qI v3), (6, qI k0)] [qI 0] s8 (qPV f g)) ∧ (r8 ≠ (-2) → qR w 8 qm86 105 [(0, .ref 17), (1, qI v1), (2, qI v2), (3, qI v3), (6, qI k0)] [qI 1] s8 (qPV f g))) g)) : qR w 8 qm86 83 [(0, .ref 17), (1, qI v1), (2, qI v2), (3, qI v3), (4, qI v4)] [qI k0] s (qPV f g) := by
  refine qS_istore (a := [(0, .ref 17), (1, qI v1), (2, qI v2), (3, qI v3), (4, qI v4)]) qd_86_83 (Nat.le_of_ble_eq_true rfl) (zsub_c rfl (zsub_c rfl (zsub_c rfl (zsub_c rfl (zsub_c rfl zsub_n))))) rfl ?_
  refine qS_aload_n qd_86_85 rfl ?_
  refine qS_getfield (v := .ref 22) qd_86_86 (qfl_6_35 w) (hpc_17 _ _) rfl ?_
  refine qS_iload qd_86_89 rfl ?_
  refine qS_iconst qd_86_91 ?_
  refine qS_cvI qd_86_92 (qml_6_96 w) rfl qtm_36 (hpc_22 _ _) (Nat.le_of_ble_eq_true rfl) rfl (Nat.le_of_ble_eq_true rfl) H (fun r8 s8 H => ?_) (fun x s1 H => Or.inr ⟨x, rfl, H⟩)
  refine qS_bipush qd_86_95 (by decide) ?_
  obtain ⟨h97a, H1, H2⟩ := H
  refine qS_icmp qd_86_97 rfl (zcnd_eq (a := r8) (b := (-2)) h97a ⟨by decide, by decide⟩ (fun t => qR w _ _ t _ _ _ _) (fun hc => ?_) (fun hc => ?_))
  · have H := H1 hc; clear H1 H2 hc
    refine qS_iconst qd_86_104 ?_
    exact qS_sub (zsub_c rfl (zsub_c rfl (zsub_c rfl (zsub_c rfl (zsub_c rfl zsub_n))))) H
  · have H := H2 hc; clear H1 H2 hc
    refine qS_iconst qd_86_100 ?_
    refine qS_goto qd_86_101 rfl ?_
    exact qS_sub (zsub_c rfl (zsub_c rfl (zsub_c rfl (zsub_c rfl (zsub_c rfl zsub_n))))) H
set_option maxRecDepth 100000 in
theorem k86_105 {w : qE} {s : qS} {v1 : Int} {v2 : Int} {v3 : Int} {v6 : Int} {k0 : Int} {f : qS → Prop} {g : Nat → qS → Prop}  (H : Rg v6 ∧ Rg k0 ∧ (v6 = k0 → qR w 8 qm86 123 [(0, .ref 17), (1, qI v1), (2, qI v2), (3, qI v3)] [qI 0, .ref 1] s (qPV f g)) ∧ (v6 ≠ k0 → qR w 8 qm86 123 [(0, .ref 17), (1, qI v1), (2, qI v2), (3, qI v3)] [qI 1, .ref 1] s (qPV f g))) : qR w 8 qm86 105 [(0, .ref 17), (1, qI v1), (2, qI v2), (3, qI v3), (6, qI v6)] [qI k0] s (qPV f g) := by
  refine qS_istore (a := [(0, .ref 17), (1, qI v1), (2, qI v2), (3, qI v3), (6, qI v6)]) qd_86_105 (Nat.le_of_ble_eq_true rfl) (zsub_c rfl (zsub_c rfl (zsub_c rfl (zsub_c rfl (zsub_c rfl zsub_n))))) rfl ?_
  refine qS_aload_n qd_86_107 rfl ?_
  refine qS_getfield (v := .ref 1) qd_86_108 (qfl_6_9 w) (hpc_17 _ _) rfl ?_
  refine qS_iload qd_86_111 rfl ?_
  refine qS_iload qd_86_113 rfl ?_
  obtain ⟨h115a, h115b, H1, H2⟩ := H
  refine qS_icmp qd_86_115 rfl (zcnd_eq (a := v6) (b := k0) h115a h115b (fun t => qR w _ _ t _ _ _ _) (fun hc => ?_) (fun hc => ?_))
  · have H := H1 hc; clear H1 H2 hc
    refine qS_iconst qd_86_122 ?_
    exact qS_sub (zsub_c rfl (zsub_c rfl (zsub_c rfl (zsub_c rfl zsub_n)))) H
  · have H := H2 hc; clear H1 H2 hc
    refine qS_iconst qd_86_118 ?_
    refine qS_goto qd_86_119 rfl ?_
    exact qS_sub (zsub_c rfl (zsub_c rfl (zsub_c rfl (zsub_c rfl zsub_n)))) H
set_option maxRecDepth 100000 in
theorem k86_123 {w : qE} {s : qS} {v1 : Int} {v2 : Int} {v3 : Int} {k1 : Int} {f : qS → Prop} {g : Nat → qS → Prop}  (H : qW w 1 20 [.ref 1, qI k1, qI v3] s (qPV (fun s9 => qR w 8 qm86 18 [(0, .ref 17), (1, qI v1), (2, qI (v2 + 1))] [] s9 (qPV f g)) g)) : qR w 8 qm86 123 [(0, .ref 17), (1, qI v1), (2, qI v2), (3, qI v3)] [qI k1, .ref 1] s (qPV f g) := by
  refine qS_iload_n qd_86_123 rfl ?_
  refine qS_cvV qd_86_124 (qml_6_45 w) rfl qtm_20 (hpc_1 _ _) (Nat.le_of_ble_eq_true rfl) rfl (Nat.le_of_ble_eq_true rfl) H (fun s9 H => ?_) (fun x s1 H => Or.inr ⟨x, rfl, H⟩)
  refine qS_iinc (v := v2) (a := [(0, .ref 17), (1, qI v1)]) qd_86_127 (Nat.le_of_ble_eq_true rfl) rfl (zsub_c rfl (zsub_c rfl zsub_n)) rfl ?_
  refine qS_goto qd_86_130 rfl ?_
  exact qS_sub (zsub_c rfl (zsub_c rfl (zsub_c rfl zsub_n))) H
set_option maxRecDepth 100000 in
theorem k87 {w : qE} {s : qS}  {f : Int → qS → Prop} {g : Nat → qS → Prop}  (H : qW w 1 19 [.ref 1, qI 2] s (qPI (fun r1 s1 => qW w 2 88 [qI r1] s1 (qPI (fun r2 s2 => qW w 1 21 [.ref 1] s2 (qPI (fun r3 s3 => qW w 1 20 [.ref 1, qI r2, qI (r3 - 2)] s3 (qPV (fun s4 => qW w 3 63 [.ref 3, qI 2] s4 (qPI (fun r5 s5 => qW w 1 21 [.ref 1] s5 (qPI (fun r6 s6 => qW w 3 63 [.ref 3, qI 32] s6 (qPI (fun r7 s7 => qW w 7 89 [.ref 17, qI r5, qI r7] s7 (qPI (fun r8 s8 => qW w 1 21 [.ref 1] s8 (qPI (fun r9 s9 => qW w 1 20 [.ref 1, qI r8, qI (r9 - 2)] s9 (qPV (fun s10 => qW w 4 64 [.ref 22, qI r1, qI r5, qI r7] s10 (qPI (fun r11 s11 => qW w 2 37 [.ref 3, qI r7] s11 (qPI (fun r12 s12 => qW w 2 38 [.ref 3, qI r7] s12 (qPI (fun r13 s13 => qW w 3 90 [.ref 6, qI r12, qI r13] s13 (qPI (fun r14 s14 => qW w 1 27 [.ref 22, qI r11, qI 4, qI r14] s14 (qPV (fun s15 => qW w 4 67 [.ref 17, .ref 22, qI r11] s15 (qPI (fun r16 s16 => Rg r16 ∧ (r16 = 0 → qR w 7 qm87 159 [(3, qI (r6 - 2)), (5, qI r11)] [qI 1, .ref 1] s16 (qPI f g)) ∧ (r16 ≠ 0 → qR w 7 qm87 159 [(3, qI (r6 - 2)), (5, qI r11)] [qI 0, .ref 1] s16 (qPI f g))) g)) g)) g)) g)) g)) g)) g)) g)) g)) g)) g)) g)) g)) g)) g)) g)) : qW w 8 87 [.ref 17] s (qPI f g) := by
  refine qW.of (M := qm87) (l := [(0, .ref 17)]) qtm_87 rfl (Nat.le_of_ble_eq_true rfl) (zsub_c rfl zsub_n) ?_
  refine qS_aload_n qd_87_0 rfl ?_
  refine qS_getfield (v := .ref 1) qd_87_1 (qfl_6_9 w) (hpc_17 _ _) rfl ?_
  refine qS_iconst qd_87_4 ?_
  refine qS_cvI qd_87_5 (qml_6_38 w) rfl qtm_19 (hpc_1 _ _) (Nat.le_of_ble_eq_true rfl) rfl (Nat.le_of_ble_eq_true rfl) H (fun r1 s1 H => ?_) (fun x s1 H => Or.inr ⟨x, rfl, H⟩)
  refine qS_istore_n (a := [(0, .ref 17)]) qd_87_8 (Nat.le_of_ble_eq_true rfl) (zsub_c rfl zsub_n) rfl ?_
  refine qS_aload_n qd_87_9 rfl ?_
  refine qS_getfield (v := .ref 1) qd_87_10 (qfl_6_9 w) (hpc_17 _ _) rfl ?_
  refine qS_iload_n qd_87_13 rfl ?_
  refine qS_csI qd_87_14 (qml_6_138 w) rfl (Nat.le_of_ble_eq_true rfl) rfl (Nat.le_of_ble_eq_true rfl) H (fun r2 s2 H => ?_) (fun x s1 H => Or.inr ⟨x, rfl, H⟩)
  refine qS_aload_n qd_87_17 rfl ?_
  refine qS_getfield (v := .ref 1) qd_87_18 (qfl_6_9 w) (hpc_17 _ _) rfl ?_
  refine qS_cvI qd_87_21 (qml_6_57 w) rfl qtm_21 (hpc_1 _ _) (Nat.le_of_ble_eq_true rfl) rfl (Nat.le_of_ble_eq_true rfl) H (fun r3 s3 H => ?_) (fun x s1 H => Or.inr ⟨x, rfl, H⟩)
  refine qS_iconst qd_87_24 ?_
  refine qS_isub (a := r3) (b := 2) qd_87_25 ?_
  refine qS_cvV qd_87_26 (qml_6_45 w) rfl qtm_20 (hpc_1 _ _) (Nat.le_of_ble_eq_true rfl) rfl (Nat.le_of_ble_eq_true rfl) H (fun s4 H => ?_) (fun x s1 H => Or.inr ⟨x, rfl, H⟩)
  refine qS_aload_n qd_87_29 rfl ?_
  refine qS_getfield (v := .ref 3) qd_87_30 (qfl_6_15 w) (hpc_17 _ _) rfl ?_
  refine qS_iconst qd_87_33 ?_
  refine qS_cvI qd_87_34 (qml_6_114 w) rfl qtm_63 (hpc_3 _ _) (Nat.le_of_ble_eq_true rfl) rfl (Nat.le_of_ble_eq_true rfl) H (fun r5 s5 H => ?_) (fun x s1 H => Or.inr ⟨x, rfl, H⟩)
  refine qS_istore_n (a := [(1, qI r1), (0, .ref 17)]) qd_87_37 (Nat.le_of_ble_eq_true rfl) (zsub_c rfl (zsub_c rfl zsub_n)) rfl ?_
  refine qS_aload_n qd_87_38 rfl ?_
  refine qS_getfield (v := .ref 1) qd_87_39 (qfl_6_9 w) (hpc_17 _ _) rfl ?_
  refine qS_cvI qd_87_42 (qml_6_57 w) rfl qtm_21 (hpc_1 _ _) (Nat.le_of_ble_eq_true rfl) rfl (Nat.le_of_ble_eq_true rfl) H (fun r6 s6 H => ?_) (fun x s1 H => Or.inr ⟨x, rfl, H⟩)
  refine qS_iconst qd_87_45 ?_
  refine qS_isub (a := r6) (b := 2) qd_87_46 ?_
  refine qS_istore_n (a := [(2, qI r5), (1, qI r1), (0, .ref 17)]) qd_87_47 (Nat.le_of_ble_eq_true rfl) (zsub_c rfl (zsub_c rfl (zsub_c rfl zsub_n))) rfl ?_
  refine qS_aload_n qd_87_48 rfl ?_
  refine qS_getfield (v := .ref 3) qd_87_49 (qfl_6_15 w) (hpc_17 _ _) rfl ?_
  refine qS_bipush qd_87_52 (by decide) ?_
  refine qS_cvI qd_87_54 (qml_6_114 w) rfl qtm_63 (hpc_3 _ _) (Nat.le_of_ble_eq_true rfl) rfl (Nat.le_of_ble_eq_true rfl) H (fun r7 s7 H => ?_) (fun x s1 H => Or.inr ⟨x, rfl, H⟩)
  refine qS_istore (a := [(3, qI (r6 - 2)), (2, qI r5), (1, qI r1), (0, .ref 17)]) qd_87_57 (Nat.le_of_ble_eq_true rfl) (zsub_c rfl (zsub_c rfl (zsub_c rfl (zsub_c rfl zsub_n)))) rfl ?_
  refine qS_aload_n qd_87_59 rfl ?_
  refine qS_getfield (v := .ref 1) qd_87_60 (qfl_6_9 w) (hpc_17 _ _) rfl ?_
  refine qS_aload_n qd_87_63 rfl ?_
  refine qS_iload_n qd_87_64 rfl ?_
  refine qS_iload qd_87_65 rfl ?_
  refine qS_cvI qd_87_67 (qml_6_141 w) rfl qtm_89 (hpc_17 _ _) (Nat.le_of_ble_eq_true rfl) rfl (Nat.le_of_ble_eq_true rfl) H (fun r8 s8 H => ?_) (fun x s1 H => Or.inr ⟨x, rfl, H⟩)
  refine qS_aload_n qd_87_70 rfl ?_
  refine qS_getfield (v := .ref 1) qd_87_71 (qfl_6_9 w) (hpc_17 _ _) rfl ?_
  refine qS_cvI qd_87_74 (qml_6_57 w) rfl qtm_21 (hpc_1 _ _) (Nat.le_of_ble_eq_true rfl) rfl (Nat.le_of_ble_eq_true rfl) H (fun r9 s9 H => ?_) (fun x s1 H => Or.inr ⟨x, rfl, H⟩)
  refine qS_iconst qd_87_77 ?_
  refine qS_isub (a := r9) (b := 2) qd_87_78 ?_
  refine qS_cvV qd_87_79 (qml_6_45 w) rfl qtm_20 (hpc_1 _ _) (Nat.le_of_ble_eq_true rfl) rfl (Nat.le_of_ble_eq_true rfl) H (fun s10 H => ?_) (fun x s1 H => Or.inr ⟨x, rfl, H⟩)
  refine qS_aload_n qd_87_82 rfl ?_
  refine qS_getfield (v := .ref 22) qd_87_83 (qfl_6_35 w) (hpc_17 _ _) rfl ?_
  refine qS_iload_n qd_87_86 rfl ?_
  refine qS_iload_n qd_87_87 rfl ?_
  refine qS_iload qd_87_88 rfl ?_
  refine qS_csI qd_87_90 (qml_6_117 w) rfl (Nat.le_of_ble_eq_true rfl) rfl (Nat.le_of_ble_eq_true rfl) H (fun r11 s11 H => ?_) (fun x s1 H => Or.inr ⟨x, rfl, H⟩)
  refine qS_istore (a := [(4, qI r7), (3, qI (r6 - 2)), (0, .ref 17)]) qd_87_93 (Nat.le_of_ble_eq_true rfl) (zsub_c rfl (zsub_c rfl (zsub_c rfl zsub_n))) rfl ?_
  refine qS_aload_n qd_87_95 rfl ?_
  refine qS_getfield (v := .ref 3) qd_87_96 (qfl_6_15 w) (hpc_17 _ _) rfl ?_
  refine qS_iload qd_87_99 rfl ?_
  refine qS_cvI qd_87_101 (qml_6_145 w) rfl qtm_37 (hpc_3 _ _) (Nat.le_of_ble_eq_true rfl) rfl (Nat.le_of_ble_eq_true rfl) H (fun r12 s12 H => ?_) (fun x s1 H => Or.inr ⟨x, rfl, H⟩)
  refine qS_istore (a := [(5, qI r11), (4, qI r7), (3, qI (r6 - 2)), (0, .ref 17)]) qd_87_104 (Nat.le_of_ble_eq_true rfl) (zsub_c rfl (zsub_c rfl (zsub_c rfl (zsub_c rfl zsub_n)))) rfl ?_
  refine qS_aload_n qd_87_106 rfl ?_
  refine qS_getfield (v := .ref 22) qd_87_107 (qfl_6_35 w) (hpc_17 _ _) rfl ?_
  refine qS_iload qd_87_110 rfl ?_
  refine qS_iconst qd_87_112 ?_
  refine qS_aload_n qd_87_113 rfl ?_
  refine qS_getfield (v := .ref 3) qd_87_114 (qfl_6_15 w) (hpc_17 _ _) rfl ?_
  refine qS_getfield (v := .ref 6) qd_87_117 (qfl_6_148 w) (hpc_3 _ _) rfl ?_
  refine qS_iload qd_87_120 rfl ?_
  refine qS_aload_n qd_87_122 rfl ?_
  refine qS_getfield (v := .ref 3) qd_87_123 (qfl_6_15 w) (hpc_17 _ _) rfl ?_
  refine qS_iload qd_87_126 rfl ?_
  refine qS_cvI qd_87_128 (qml_6_152 w) rfl qtm_38 (hpc_3 _ _) (Nat.le_of_ble_eq_true rfl) rfl (Nat.le_of_ble_eq_true rfl) H (fun r13 s13 H => ?_) (fun x s1 H => Or.inr ⟨x, rfl, H⟩)
  refine qS_csI qd_87_131 (qml_6_155 w) rfl (Nat.le_of_ble_eq_true rfl) rfl (Nat.le_of_ble_eq_true rfl) H (fun r14 s14 H => ?_) (fun x s1 H => Or.inr ⟨x, rfl, H⟩)
  refine qS_cvV qd_87_134 (qml_6_127 w) rfl qtm_27 (hpc_22 _ _) (Nat.le_of_ble_eq_true rfl) rfl (Nat.le_of_ble_eq_true rfl) H (fun s15 H => ?_) (fun x s1 H => Or.inr ⟨x, rfl, H⟩)
  refine qS_aload_n qd_87_137 rfl ?_
  refine qS_getfield (v := .ref 1) qd_87_138 (qfl_6_9 w) (hpc_17 _ _) rfl ?_
  refine qS_aload_n qd_87_141 rfl ?_
  refine qS_aload_n qd_87_142 rfl ?_
  refine qS_getfield (v := .ref 22) qd_87_143 (qfl_6_35 w) (hpc_17 _ _) rfl ?_
  refine qS_iload qd_87_146 rfl ?_
  refine qS_cvI qd_87_148 (qml_6_131 w) rfl qtm_67 (hpc_17 _ _) (Nat.le_of_ble_eq_true rfl) rfl (Nat.le_of_ble_eq_true rfl) H (fun r16 s16 H => ?_) (fun x s1 H => Or.inr ⟨x, rfl, H⟩)
  obtain ⟨h151a, H1, H2⟩ := H
  refine qS_if0 qd_87_151 rfl (zcnd_ne (a := r16) (b := 0) h151a ⟨by decide, by decide⟩ (fun t => qR w _ _ t _ _ _ _) (fun hc => ?_) (fun hc => ?_))
  · have H := H1 hc; clear H1 H2 hc
    refine qS_iconst qd_87_154 ?_
    refine qS_goto qd_87_155 rfl ?_
    exact qS_sub (zsub_c rfl (zsub_c rfl zsub_n)) H
  · have H := H2 hc; clear H1 H2 hc
    refine qS_iconst qd_87_158 ?_
    exact qS_sub (zsub_c rfl (zsub_c rfl zsub_n)) H
set_option maxRecDepth 100000 in
theorem k87_159 {w : qE} {s : qS} {v3 : Int} {v5 : Int} {k1 : Int} {f : Int → qS → Prop} {g : Nat → qS → Prop}  (H : qW w 1 20 [.ref 1, qI k1, qI v3] s (qPV (fun s17 => f v5 s17) g)) : qR w 7 qm87 159 [(3, qI v3), (5, qI v5)] [qI k1, .ref 1] s (qPI f g) := by
  refine qS_iload_n qd_87_159 rfl ?_
  refine qS_cvV qd_87_160 (qml_6_45 w) rfl qtm_20 (hpc_1 _ _) (Nat.le_of_ble_eq_true rfl) rfl (Nat.le_of_ble_eq_true rfl) H (fun s17 H => ?_) (fun x s1 H => Or.inr ⟨x, rfl, H⟩)
  refine qS_iload qd_87_163 rfl ?_
  exact qS_ireturn qd_87_165 rfl (Or.inl ⟨_, rfl, H⟩)
set_option maxRecDepth 100000 in
theorem k88 {w : qE} {s : qS} {p0 : Int} {f : Int → qS → Prop} {g : Nat → qS → Prop}  (H : Rg (qand p0 1024) ∧ (qand p0 1024 = 0 → qR w 1 qm88 13 [(0, qI p0)] [qI 0] s (qPI f g)) ∧ (qand p0 1024 ≠ 0 → qR w 1 qm88 13 [(0, qI p0)] [qI 1] s (qPI f g))) : qW w 2 88 [qI p0] s (qPI f g) := by
  refine qW.of (M := qm88) (l := [(0, qI p0)]) qtm_88 rfl (Nat.le_of_ble_eq_true rfl) (zsub_c rfl zsub_n) ?_
  refine qS_iload_n qd_88_0 rfl ?_
  refine qS_sipush qd_88_1 (by decide) ?_
  refine qS_iand (a := p0) (b := 1024) qd_88_4 ?_
  obtain ⟨h5a, H1, H2⟩ := H
  refine qS_if0 qd_88_5 rfl (zcnd_eq (a := qand p0 1024) (b := 0) h5a ⟨by decide, by decide⟩ (fun t => qR w _ _ t _ _ _ _) (fun hc => ?_) (fun hc => ?_))
  · have H := H1 hc; clear H1 H2 hc
    refine qS_iconst qd_88_12 ?_
    exact qS_sub (zsub_c rfl zsub_n) H
  · have H := H2 hc; clear H1 H2 hc
    refine qS_iconst qd_88_8 ?_
    refine qS_goto qd_88_9 rfl ?_
    exact qS_sub (zsub_c rfl zsub_n) H
set_option maxRecDepth 100000 in
theorem k88_13 {w : qE} {s : qS} {v0 : Int} {k0 : Int} {f : Int → qS → Prop} {g : Nat → qS → Prop}  (H : Rg (qand v0 314) ∧ (qand v0 314 = 0 → qR w 1 qm88 27 [(0, qI v0), (1, qI k0)] [qI 0] s (qPI f g)) ∧ (qand v0 314 ≠ 0 → qR w 1 qm88 27 [(0, qI v0), (1, qI k0)] [qI 1] s (qPI f g))) : qR w 1 qm88 13 [(0, qI v0)] [qI k0] s (qPI f g) := by
  refine qS_istore_n (a := [(0, qI v0)]) qd_88_13 (Nat.le_of_ble_eq_true rfl) (zsub_c rfl zsub_n) rfl ?_
  refine qS_iload_n qd_88_14 rfl ?_
  refine qS_sipush qd_88_15 (by decide) ?_
  refine qS_iand (a := v0) (b := 314) qd_88_18 ?_
  obtain ⟨h19a, H1, H2⟩ := H
  refine qS_if0 qd_88_19 rfl (zcnd_eq (a := qand v0 314) (b := 0) h19a ⟨by decide, by decide⟩ (fun t => qR w _ _ t _ _ _ _) (fun hc => ?_) (fun hc => ?_))
  · have H := H1 hc; clear H1 H2 hc
    refine qS_iconst qd_88_26 ?_
    exact qS_sub (zsub_c rfl (zsub_c rfl zsub_n)) H
  · have H := H2 hc; clear H1 H2 hc
    refine qS_iconst qd_88_22 ?_
    refine qS_goto qd_88_23 rfl ?_
    exact qS_sub (zsub_c rfl (zsub_c rfl zsub_n)) H
set_option maxRecDepth 100000 in
theorem k88_27 {w : qE} {s : qS} {v0 : Int} {v1 : Int} {k0 : Int} {f : Int → qS → Prop} {g : Nat → qS → Prop}  (H : qW w 1 205 [qI (qand v0 7)] s (qPI (fun r1 s1 => Rg r1 ∧ (1 < r1 → qR w 1 qm88 51 [] [] s1 (qPI f g)) ∧ (r1 ≤ 1 → Rg v1 ∧ (v1 = 0 → qR w 1 qm88 47 [] [] s1 (qPI f g)) ∧ (v1 ≠ 0 → Rg k0 ∧ (k0 = 0 → qR w 1 qm88 47 [] [] s1 (qPI f g)) ∧ (k0 ≠ 0 → qR w 1 qm88 51 [] [] s1 (qPI f g))))) g)) : qR w 1 qm88 27 [(0, qI v0), (1, qI v1)] [qI k0] s (qPI f g) := by
  refine qS_istore_n (a := [(0, qI v0), (1, qI v1)]) qd_88_27 (Nat.le_of_ble_eq_true rfl) (zsub_c rfl (zsub_c rfl zsub_n)) rfl ?_
  refine qS_iload_n qd_88_28 rfl ?_
  refine qS_bipush qd_88_29 (by decide) ?_
  refine qS_iand (a := v0) (b := 7) qd_88_31 ?_
  refine qS_csI qd_88_32 (qml_6_159 w) rfl (Nat.le_of_ble_eq_true rfl) rfl (Nat.le_of_ble_eq_true rfl) H (fun r1 s1 H => ?_) (fun x s1 H => Or.inr ⟨x, rfl, H⟩)
  refine qS_iconst qd_88_35 ?_
  obtain ⟨h36a, H1, H2⟩ := H
  refine qS_icmp qd_88_36 rfl (zcnd_gt (a := r1) (b := 1) h36a ⟨by decide, by decide⟩ (fun t => qR w _ _ t _ _ _ _) (fun hc => ?_) (fun hc => ?_))
  · have H := H1 hc; clear H1 H2 hc
    exact qS_sub zsub_n H
  · have H := H2 hc; clear H1 H2 hc
    refine qS_iload_n qd_88_39 rfl ?_
    obtain ⟨h40a, H1, H2⟩ := H
    refine qS_if0 qd_88_40 rfl (zcnd_eq (a := v1) (b := 0) h40a ⟨by decide, by decide⟩ (fun t => qR w _ _ t _ _ _ _) (fun hc => ?_) (fun hc => ?_))
    · have H := H1 hc; clear H1 H2 hc
      exact qS_sub zsub_n H
    · have H := H2 hc; clear H1 H2 hc
      refine qS_iload_n qd_88_43 rfl ?_
      obtain ⟨h44a, H1, H2⟩ := H
      refine qS_if0 qd_88_44 rfl (zcnd_ne (a := k0) (b := 0) h44a ⟨by decide, by decide⟩ (fun t => qR w _ _ t _ _ _ _) (fun hc => ?_) (fun hc => ?_))
      · have H := H1 hc; clear H1 H2 hc
        exact qS_sub zsub_n H
      · have H := H2 hc; clear H1 H2 hc
        exact qS_sub zsub_n H
set_option maxRecDepth 100000 in
theorem k88_47 {w : qE} {s : qS}  {f : Int → qS → Prop} {g : Nat → qS → Prop}  (H : qR w 1 qm88 52 [] [qI 1] s (qPI f g)) : qR w 1 qm88 47 [] [] s (qPI f g) := by
  refine qS_iconst qd_88_47 ?_
  refine qS_goto qd_88_48 rfl ?_
  exact qS_sub zsub_n H
set_option maxRecDepth 100000 in
theorem k88_51 {w : qE} {s : qS}  {f : Int → qS → Prop} {g : Nat → qS → Prop}  (H : qR w 1 qm88 52 [] [qI 0] s (qPI f g)) : qR w 1 qm88 51 [] [] s (qPI f g) := by
  refine qS_iconst qd_88_51 ?_
  exact qS_sub zsub_n H
set_option maxRecDepth 100000 in
theorem k88_52 {w : qE} {s : qS} {k0 : Int} {f : Int → qS → Prop} {g : Nat → qS → Prop}  (H : ((k0 = 0 ∨ k0 = 1) ∧ f k0 s)) : qR w 1 qm88 52 [] [qI k0] s (qPI f g) := by
  exact qS_zreturn qd_88_52 rfl H.1 (Or.inl ⟨_, rfl, H.2⟩)
set_option maxRecDepth 100000 in
theorem k89 {w : qE} {s : qS} {p0 : Int} {p1 : Int} {f : Int → qS → Prop} {g : Nat → qS → Prop}  (H : qW w 2 51 [.ref 3, qI p0, qI 128] s (qPI (fun r1 s1 => Rg r1 ∧ (r1 = 0 → qW w 2 49 [.ref 3, qI p1] s1 (qPI (fun r2 s2 => qW w 3 65 [.ref 3, qI p1, qI (r2 - 1)] s2 (qPI (fun r3 s3 => qW w 2 51 [.ref 3, qI p0, qI 64] s3 (qPI (fun r4 s4 => Rg r4 ∧ (r4 = 0 → qR w 6 qm89 63 [] [] s4 (qPI f g)) ∧ (r4 ≠ 0 → Rg r3 ∧ (r3 = 86 → qR w 6 qm89 63 [] [] s4 (qPI f g)) ∧ (r3 ≠ 86 → qR w 6 qm89 68 [] [qI 0] s4 (qPI f g)))) g)) g)) g)) ∧ (r1 ≠ 0 → qW w 6 72 [.ref 3, qI p1, .retAddr 108] s1 (qPI (fun r5 s5 => ((r5 = 0 ∨ r5 = 1) ∧ f r5 s5)) g))) g)) : qW w 7 89 [.ref 17, qI p0, qI p1] s (qPI f g) := by
  refine qW.of (M := qm89) (l := [(0, .ref 17), (1, qI p0), (2, qI p1)]) qtm_89 rfl (Nat.le_of_ble_eq_true rfl) (zsub_c rfl (zsub_c rfl (zsub_c rfl zsub_n))) ?_
  refine qS_aload_n qd_89_0 rfl ?_
  refine qS_getfield (v := .ref 3) qd_89_1 (qfl_6_15 w) (hpc_17 _ _) rfl ?_
  refine qS_iload_n qd_89_4 rfl ?_
  refine qS_sipush qd_89_5 (by decide) ?_
  refine qS_cvI qd_89_8 (qml_6_164 w) rfl qtm_51 (hpc_3 _ _) (Nat.le_of_ble_eq_true rfl) rfl (Nat.le_of_ble_eq_true rfl) H (fun r1 s1 H => ?_) (fun x s1 H => Or.inr ⟨x, rfl, H⟩)
  obtain ⟨h11a, H1, H2⟩ := H
  refine qS_if0 qd_89_11 rfl (zcnd_eq (a := r1) (b := 0) h11a ⟨by decide, by decide⟩ (fun t => qR w _ _ t _ _ _ _) (fun hc => ?_) (fun hc => ?_))
  · have H := H1 hc; clear H1 H2 hc
    refine qS_aload_n qd_89_25 rfl ?_
    refine qS_getfield (v := .ref 3) qd_89_26 (qfl_6_15 w) (hpc_17 _ _) rfl ?_
    refine qS_iload_n qd_89_29 rfl ?_
    refine qS_aload_n qd_89_30 rfl ?_
    refine qS_getfield (v := .ref 3) qd_89_31 (qfl_6_15 w) (hpc_17 _ _) rfl ?_
    refine qS_iload_n qd_89_34 rfl ?_
    refine qS_cvI qd_89_35 (qml_6_172 w) rfl qtm_49 (hpc_3 _ _) (Nat.le_of_ble_eq_true rfl) rfl (Nat.le_of_ble_eq_true rfl) H (fun r2 s2 H => ?_) (fun x s1 H => Or.inr ⟨x, rfl, H⟩)
    refine qS_iconst qd_89_38 ?_
    refine qS_isub (a := r2) (b := 1) qd_89_39 ?_
    refine qS_cvI qd_89_40 (qml_6_121 w) rfl qtm_65 (hpc_3 _ _) (Nat.le_of_ble_eq_true rfl) rfl (Nat.le_of_ble_eq_true rfl) H (fun r3 s3 H => ?_) (fun x s1 H => Or.inr ⟨x, rfl, H⟩)
    refine qS_istore_n (a := [(0, .ref 17), (1, qI p0)]) qd_89_43 (Nat.le_of_ble_eq_true rfl) (zsub_c rfl (zsub_c rfl zsub_n)) rfl ?_
    refine qS_aload_n qd_89_44 rfl ?_
    refine qS_getfield (v := .ref 3) qd_89_45 (qfl_6_15 w) (hpc_17 _ _) rfl ?_
    refine qS_iload_n qd_89_48 rfl ?_
    refine qS_bipush qd_89_49 (by decide) ?_
    refine qS_cvI qd_89_51 (qml_6_164 w) rfl qtm_51 (hpc_3 _ _) (Nat.le_of_ble_eq_true rfl) rfl (Nat.le_of_ble_eq_true rfl) H (fun r4 s4 H => ?_) (fun x s1 H => Or.inr ⟨x, rfl, H⟩)
    obtain ⟨h54a, H1, H2⟩ := H
    refine qS_if0 qd_89_54 rfl (zcnd_eq (a := r4) (b := 0) h54a ⟨by decide, by decide⟩ (fun t => qR w _ _ t _ _ _ _) (fun hc => ?_) (fun hc => ?_))
    · have H := H1 hc; clear H1 H2 hc
      exact qS_sub zsub_n H
    · have H := H2 hc; clear H1 H2 hc
      refine qS_iload_n qd_89_57 rfl ?_
      refine qS_bipush qd_89_58 (by decide) ?_
      obtain ⟨h60a, H1, H2⟩ := H
      refine qS_icmp qd_89_60 rfl (zcnd_ne (a := r3) (b := 86) h60a ⟨by decide, by decide⟩ (fun t => qR w _ _ t _ _ _ _) (fun hc => ?_) (fun hc => ?_))
      · have H := H1 hc; clear H1 H2 hc
        exact qS_sub zsub_n H
      · have H := H2 hc; clear H1 H2 hc
        refine qS_iconst qd_89_67 ?_
        exact qS_sub zsub_n H
  · have H := H2 hc; clear H1 H2 hc
    refine qS_aload_n qd_89_14 rfl ?_
    refine qS_getfield (v := .ref 3) qd_89_15 (qfl_6_15 w) (hpc_17 _ _) rfl ?_
    refine qS_iload_n qd_89_18 rfl ?_
    refine qS_ex (st' := [.retAddr 108, qI p1, .ref 3]) qd_89_19 rfl rfl (fun _ => rfl) (fun _ => rfl) (fun _ => rfl) rfl (fun _ => rfl) rfl (fun _ => rfl) rfl rfl ?_
    refine qS_cvI qd_89_21 (qml_6_168 w) rfl qtm_72 (hpc_3 _ _) (Nat.le_of_ble_eq_true rfl) rfl (Nat.le_of_ble_eq_true rfl) H (fun r5 s5 H => ?_) (fun x s1 H => Or.inr ⟨x, rfl, H⟩)
    exact qS_zreturn qd_89_24 rfl H.1 (Or.inl ⟨_, rfl, H.2⟩)
set_option maxRecDepth 100000 in
theorem k89_63 {w : qE} {s : qS}  {f : Int → qS → Prop} {g : Nat → qS → Prop}  (H : qR w 6 qm89 68 [] [qI 1] s (qPI f g)) : qR w 6 qm89 63 [] [] s (qPI f g) := by
  refine qS_iconst qd_89_63 ?_
  refine qS_goto qd_89_64 rfl ?_
  exact qS_sub zsub_n H
set_option maxRecDepth 100000 in
theorem k89_68 {w : qE} {s : qS} {k0 : Int} {f : Int → qS → Prop} {g : Nat → qS → Prop}  (H : ((k0 = 0 ∨ k0 = 1) ∧ f k0 s)) : qR w 6 qm89 68 [] [qI k0] s (qPI f g) := by
  exact qS_zreturn qd_89_68 rfl H.1 (Or.inl ⟨_, rfl, H.2⟩)
