/-! what the code does, in numbers: printed by a program of mine (wip/whole/gen_blocks.py, emit.py) -/
set_option maxRecDepth 100000 in
theorem k41 {w : qE} {s : qS} {p1 : Int} {p2 : Int} {p3 : Nat} {f : Int → qS → Prop} {g : Nat → qS → Prop}  (H : (qsk p3 = some 14 ∧ qW w 2 206 [.retAddr p3] s (qPI (fun r1 s1 => Rg (p2 - p1) ∧ Rg r1 ∧ (p2 - p1 = r1 → qR w 4 qm41 15 [(0, .ref 6), (1, qI p1), (3, .retAddr p3), (4, qI 0)] [] s1 (qPI f g)) ∧ (p2 - p1 ≠ r1 → f 0 s1)) g))) : qW w 5 41 [.ref 6, qI p1, qI p2, .retAddr p3] s (qPI f g) := by
  refine qW.of (M := qm41) (l := [(0, .ref 6), (1, qI p1), (2, qI p2), (3, .retAddr p3)]) qtm_41 rfl (Nat.le_of_ble_eq_true rfl) (zsub_c rfl (zsub_c rfl (zsub_c rfl (zsub_c rfl zsub_n)))) ?_
  refine qS_iload_n qd_41_0 rfl ?_
  refine qS_iload_n qd_41_1 rfl ?_
  refine qS_isub (a := p2) (b := p1) qd_41_2 ?_
  refine qS_oload_n qd_41_3 rfl ?_
  obtain ⟨hk1, H⟩ := H
  refine qS_coI qd_41_4 (qml_9_44 w) rfl qtm_206 hk1 (Nat.le_of_ble_eq_true rfl) rfl (Nat.le_of_ble_eq_true rfl) H (fun r1 s1 H => ?_) (fun x s1 H => Or.inr ⟨x, rfl, H⟩)
  obtain ⟨h7a, h7b, H1, H2⟩ := H
  refine qS_icmp qd_41_7 rfl (zcnd_eq (a := p2 - p1) (b := r1) h7a h7b (fun t => qR w _ _ t _ _ _ _) (fun hc => ?_) (fun hc => ?_))
  · have H := H1 hc; clear H1 H2 hc
    refine qS_iconst qd_41_12 ?_
    refine qS_istore (a := [(0, .ref 6), (1, qI p1), (3, .retAddr p3)]) qd_41_13 (Nat.le_of_ble_eq_true rfl) (zsub_c rfl (zsub_c rfl (zsub_c rfl zsub_n))) rfl ?_
    exact qS_sub (zsub_c rfl (zsub_c rfl (zsub_c rfl (zsub_c rfl zsub_n)))) H
  · have H := H2 hc; clear H1 H2 hc
    refine qS_iconst qd_41_10 ?_
    exact qS_zreturn qd_41_11 rfl (Or.inl rfl) (Or.inl ⟨_, rfl, H⟩)
set_option maxRecDepth 100000 in
theorem k41_15 {w : qE} {s : qS} {v1 : Int} {v3 : Nat} {v4 : Int} {f : Int → qS → Prop} {g : Nat → qS → Prop}  (H : (qsk v3 = some 14 ∧ qW w 2 206 [.retAddr v3] s (qPI (fun r2 s2 => Rg v4 ∧ Rg r2 ∧ (v4 < r2 → (0 ≤ v1 + v4 ∧ v1 + v4 < 500 ∧ ((qsk v3 = some 14 ∧ qW w 4 208 [.retAddr v3, qI v4] s2 (qPI (fun r3 s3 => Rg (s2 6 (v1 + v4)) ∧ Rg r3 ∧ (s2 6 (v1 + v4) = r3 → qR w 4 qm41 15 [(0, .ref 6), (1, qI v1), (3, .retAddr v3), (4, qI (v4 + 1))] [] s3 (qPI f g)) ∧ (s2 6 (v1 + v4) ≠ r3 → f 0 s3)) g))))) ∧ (r2 ≤ v4 → f 1 s2)) g))) : qR w 4 qm41 15 [(0, .ref 6), (1, qI v1), (3, .retAddr v3), (4, qI v4)] [] s (qPI f g) := by
  refine qS_iload qd_41_15 rfl ?_
  refine qS_oload_n qd_41_17 rfl ?_
  obtain ⟨hk2, H⟩ := H
  refine qS_coI qd_41_18 (qml_9_44 w) rfl qtm_206 hk2 (Nat.le_of_ble_eq_true rfl) rfl (Nat.le_of_ble_eq_true rfl) H (fun r2 s2 H => ?_) (fun x s1 H => Or.inr ⟨x, rfl, H⟩)
  obtain ⟨h21a, h21b, H1, H2⟩ := H
  refine qS_icmp qd_41_21 rfl (zcnd_ge (a := v4) (b := r2) h21a h21b (fun t => qR w _ _ t _ _ _ _) (fun hc => ?_) (fun hc => ?_))
  · have H := H1 hc; clear H1 H2 hc
    refine qS_aload_n qd_41_24 rfl ?_
    refine qS_iload_n qd_41_25 rfl ?_
    refine qS_iload qd_41_26 rfl ?_
    refine qS_iadd (a := v1) (b := v4) qd_41_28 ?_
    obtain ⟨hl, hu, H⟩ := H
    refine qS_iaload (a := 6) (i := v1 + v4) qd_41_29 (Nat.le_of_ble_eq_true rfl) hl hu ?_
    refine qS_oload_n qd_41_30 rfl ?_
    refine qS_iload qd_41_31 rfl ?_
    obtain ⟨hk3, H⟩ := H
    refine qS_coI qd_41_33 (qml_9_50 w) rfl qtm_208 hk3 (Nat.le_of_ble_eq_true rfl) rfl (Nat.le_of_ble_eq_true rfl) H (fun r3 s3 H => ?_) (fun x s1 H => Or.inr ⟨x, rfl, H⟩)
    obtain ⟨h36a, h36b, H1, H2⟩ := H
    refine qS_icmp qd_41_36 rfl (zcnd_eq (a := s2 6 (v1 + v4)) (b := r3) h36a h36b (fun t => qR w _ _ t _ _ _ _) (fun hc => ?_) (fun hc => ?_))
    · have H := H1 hc; clear H1 H2 hc
      refine qS_iinc (v := v4) (a := [(0, .ref 6), (1, qI v1), (3, .retAddr v3)]) qd_41_41 (Nat.le_of_ble_eq_true rfl) rfl (zsub_c rfl (zsub_c rfl (zsub_c rfl zsub_n))) rfl ?_
      refine qS_goto qd_41_44 rfl ?_
      exact qS_sub (zsub_c rfl (zsub_c rfl (zsub_c rfl (zsub_c rfl zsub_n)))) H
    · have H := H2 hc; clear H1 H2 hc
      refine qS_iconst qd_41_39 ?_
      exact qS_zreturn qd_41_40 rfl (Or.inl rfl) (Or.inl ⟨_, rfl, H⟩)
  · have H := H2 hc; clear H1 H2 hc
    refine qS_iconst qd_41_47 ?_
    exact qS_zreturn qd_41_48 rfl (Or.inr rfl) (Or.inl ⟨_, rfl, H⟩)
set_option maxRecDepth 100000 in
theorem k42 {w : qE} {s : qS} {p1 : Int} {p2 : Int} {f : Int → qS → Prop} {g : Nat → qS → Prop}  (H : qR w 0 qm42 5 [(0, .ref 6), (2, qI p2), (3, qI 1), (4, qI p1)] [] s (qPI f g)) : qW w 1 42 [.ref 6, qI p1, qI p2] s (qPI f g) := by
  refine qW.of (M := qm42) (l := [(0, .ref 6), (1, qI p1), (2, qI p2)]) qtm_42 rfl (Nat.le_of_ble_eq_true rfl) (zsub_c rfl (zsub_c rfl (zsub_c rfl zsub_n))) ?_
  refine qS_iconst qd_42_0 ?_
  refine qS_istore_n (a := [(0, .ref 6), (1, qI p1), (2, qI p2)]) qd_42_1 (Nat.le_of_ble_eq_true rfl) (zsub_c rfl (zsub_c rfl (zsub_c rfl zsub_n))) rfl ?_
  refine qS_iload_n qd_42_2 rfl ?_
  refine qS_istore (a := [(3, qI 1), (0, .ref 6), (2, qI p2)]) qd_42_3 (Nat.le_of_ble_eq_true rfl) (zsub_c rfl (zsub_c rfl (zsub_c rfl zsub_n))) rfl ?_
  exact qS_sub (zsub_c rfl (zsub_c rfl (zsub_c rfl (zsub_c rfl zsub_n)))) H
set_option maxRecDepth 100000 in
theorem k42_5 {w : qE} {s : qS} {v2 : Int} {v3 : Int} {v4 : Int} {f : Int → qS → Prop} {g : Nat → qS → Prop}  (H : Rg v4 ∧ Rg v2 ∧ (v4 < v2 → (0 ≤ v4 ∧ v4 < 500 ∧ (Rg (s 6 v4) ∧ (s 6 v4 = 46 → qR w 0 qm42 51 [] [] s (qPI f g)) ∧ (s 6 v4 ≠ 46 → (0 ≤ v4 ∧ v4 < 500 ∧ ((s 6 v4 = 59 → qR w 0 qm42 51 [] [] s (qPI f g)) ∧ (s 6 v4 ≠ 59 → (0 ≤ v4 ∧ v4 < 500 ∧ ((s 6 v4 = 91 → qR w 0 qm42 51 [] [] s (qPI f g)) ∧ (s 6 v4 ≠ 91 → Rg v3 ∧ (v3 = 0 → qR w 0 qm42 53 [(0, .ref 6), (2, qI v2), (4, qI v4)] [] s (qPI f g)) ∧ (v3 ≠ 0 → (0 ≤ v4 ∧ v4 < 500 ∧ ((s 6 v4 = 47 → qR w 0 qm42 51 [] [] s (qPI f g)) ∧ (s 6 v4 ≠ 47 → qR w 0 qm42 53 [(0, .ref 6), (2, qI v2), (4, qI v4)] [] s (qPI f g))))))))))))))) ∧ (v2 ≤ v4 → Rg v3 ∧ (v3 = 0 → qR w 0 qm42 83 [] [qI 1] s (qPI f g)) ∧ (v3 ≠ 0 → qR w 0 qm42 83 [] [qI 0] s (qPI f g)))) : qR w 0 qm42 5 [(0, .ref 6), (2, qI v2), (3, qI v3), (4, qI v4)] [] s (qPI f g) := by
  refine qS_iload qd_42_5 rfl ?_
  refine qS_iload_n qd_42_7 rfl ?_
  obtain ⟨h8a, h8b, H1, H2⟩ := H
  refine qS_icmp qd_42_8 rfl (zcnd_ge (a := v4) (b := v2) h8a h8b (fun t => qR w _ _ t _ _ _ _) (fun hc => ?_) (fun hc => ?_))
  · have H := H1 hc; clear H1 H2 hc
    refine qS_aload_n qd_42_11 rfl ?_
    refine qS_iload qd_42_12 rfl ?_
    obtain ⟨hl, hu, H⟩ := H
    refine qS_iaload (a := 6) (i := v4) qd_42_14 (Nat.le_of_ble_eq_true rfl) hl hu ?_
    refine qS_bipush qd_42_15 (by decide) ?_
    obtain ⟨h17a, H1, H2⟩ := H
    refine qS_icmp qd_42_17 rfl (zcnd_eq (a := s 6 v4) (b := 46) h17a ⟨by decide, by decide⟩ (fun t => qR w _ _ t _ _ _ _) (fun hc => ?_) (fun hc => ?_))
    · have H := H1 hc; clear H1 H2 hc
      exact qS_sub zsub_n H
    · have H := H2 hc; clear H1 H2 hc
      refine qS_aload_n qd_42_20 rfl ?_
      refine qS_iload qd_42_21 rfl ?_
      obtain ⟨hl, hu, H⟩ := H
      refine qS_iaload (a := 6) (i := v4) qd_42_23 (Nat.le_of_ble_eq_true rfl) hl hu ?_
      refine qS_bipush qd_42_24 (by decide) ?_
      obtain ⟨H1, H2⟩ := H
      refine qS_icmp qd_42_26 rfl (zcnd_eq (a := s 6 v4) (b := 59) h17a ⟨by decide, by decide⟩ (fun t => qR w _ _ t _ _ _ _) (fun hc => ?_) (fun hc => ?_))
      · have H := H1 hc; clear H1 H2 hc
        exact qS_sub zsub_n H
      · have H := H2 hc; clear H1 H2 hc
        refine qS_aload_n qd_42_29 rfl ?_
        refine qS_iload qd_42_30 rfl ?_
        obtain ⟨hl, hu, H⟩ := H
        refine qS_iaload (a := 6) (i := v4) qd_42_32 (Nat.le_of_ble_eq_true rfl) hl hu ?_
        refine qS_bipush qd_42_33 (by decide) ?_
        obtain ⟨H1, H2⟩ := H
        refine qS_icmp qd_42_35 rfl (zcnd_eq (a := s 6 v4) (b := 91) h17a ⟨by decide, by decide⟩ (fun t => qR w _ _ t _ _ _ _) (fun hc => ?_) (fun hc => ?_))
        · have H := H1 hc; clear H1 H2 hc
          exact qS_sub zsub_n H
        · have H := H2 hc; clear H1 H2 hc
          refine qS_iload_n qd_42_38 rfl ?_
          obtain ⟨h39a, H1, H2⟩ := H
          refine qS_if0 qd_42_39 rfl (zcnd_eq (a := v3) (b := 0) h39a ⟨by decide, by decide⟩ (fun t => qR w _ _ t _ _ _ _) (fun hc => ?_) (fun hc => ?_))
          · have H := H1 hc; clear H1 H2 hc
            exact qS_sub (zsub_c rfl (zsub_c rfl (zsub_c rfl zsub_n))) H
          · have H := H2 hc; clear H1 H2 hc
            refine qS_aload_n qd_42_42 rfl ?_
            refine qS_iload qd_42_43 rfl ?_
            obtain ⟨hl, hu, H⟩ := H
            refine qS_iaload (a := 6) (i := v4) qd_42_45 (Nat.le_of_ble_eq_true rfl) hl hu ?_
            refine qS_bipush qd_42_46 (by decide) ?_
            obtain ⟨H1, H2⟩ := H
            refine qS_icmp qd_42_48 rfl (zcnd_ne (a := s 6 v4) (b := 47) h17a ⟨by decide, by decide⟩ (fun t => qR w _ _ t _ _ _ _) (fun hc => ?_) (fun hc => ?_))
            · have H := H1 hc; clear H1 H2 hc
              exact qS_sub zsub_n H
            · have H := H2 hc; clear H1 H2 hc
              exact qS_sub (zsub_c rfl (zsub_c rfl (zsub_c rfl zsub_n))) H
  · have H := H2 hc; clear H1 H2 hc
    refine qS_iload_n qd_42_74 rfl ?_
    obtain ⟨h75a, H1, H2⟩ := H
    refine qS_if0 qd_42_75 rfl (zcnd_ne (a := v3) (b := 0) h75a ⟨by decide, by decide⟩ (fun t => qR w _ _ t _ _ _ _) (fun hc => ?_) (fun hc => ?_))
    · have H := H1 hc; clear H1 H2 hc
      refine qS_iconst qd_42_78 ?_
      refine qS_goto qd_42_79 rfl ?_
      exact qS_sub zsub_n H
    · have H := H2 hc; clear H1 H2 hc
      refine qS_iconst qd_42_82 ?_
      exact qS_sub zsub_n H
set_option maxRecDepth 100000 in
theorem k42_51 {w : qE} {s : qS}  {f : Int → qS → Prop} {g : Nat → qS → Prop}  (H : f 0 s) : qR w 0 qm42 51 [] [] s (qPI f g) := by
  refine qS_iconst qd_42_51 ?_
  exact qS_zreturn qd_42_52 rfl (Or.inl rfl) (Or.inl ⟨_, rfl, H⟩)
set_option maxRecDepth 100000 in
theorem k42_53 {w : qE} {s : qS} {v2 : Int} {v4 : Int} {f : Int → qS → Prop} {g : Nat → qS → Prop}  (H : (0 ≤ v4 ∧ v4 < 500 ∧ (Rg (s 6 v4) ∧ (s 6 v4 = 47 → qR w 0 qm42 67 [(0, .ref 6), (2, qI v2), (4, qI v4)] [qI 1] s (qPI f g)) ∧ (s 6 v4 ≠ 47 → qR w 0 qm42 67 [(0, .ref 6), (2, qI v2), (4, qI v4)] [qI 0] s (qPI f g))))) : qR w 0 qm42 53 [(0, .ref 6), (2, qI v2), (4, qI v4)] [] s (qPI f g) := by
  refine qS_aload_n qd_42_53 rfl ?_
  refine qS_iload qd_42_54 rfl ?_
  obtain ⟨hl, hu, H⟩ := H
  refine qS_iaload (a := 6) (i := v4) qd_42_56 (Nat.le_of_ble_eq_true rfl) hl hu ?_
  refine qS_bipush qd_42_57 (by decide) ?_
  obtain ⟨h59a, H1, H2⟩ := H
  refine qS_icmp qd_42_59 rfl (zcnd_ne (a := s 6 v4) (b := 47) h59a ⟨by decide, by decide⟩ (fun t => qR w _ _ t _ _ _ _) (fun hc => ?_) (fun hc => ?_))
  · have H := H1 hc; clear H1 H2 hc
    refine qS_iconst qd_42_62 ?_
    refine qS_goto qd_42_63 rfl ?_
    exact qS_sub (zsub_c rfl (zsub_c rfl (zsub_c rfl zsub_n))) H
  · have H := H2 hc; clear H1 H2 hc
    refine qS_iconst qd_42_66 ?_
    exact qS_sub (zsub_c rfl (zsub_c rfl (zsub_c rfl zsub_n))) H
set_option maxRecDepth 100000 in
theorem k42_83 {w : qE} {s : qS} {k0 : Int} {f : Int → qS → Prop} {g : Nat → qS → Prop}  (H : ((k0 = 0 ∨ k0 = 1) ∧ f k0 s)) : qR w 0 qm42 83 [] [qI k0] s (qPI f g) := by
  exact qS_zreturn qd_42_83 rfl H.1 (Or.inl ⟨_, rfl, H.2⟩)
set_option maxRecDepth 100000 in
theorem k42_67 {w : qE} {s : qS} {v2 : Int} {v4 : Int} {k0 : Int} {f : Int → qS → Prop} {g : Nat → qS → Prop}  (H : qR w 0 qm42 5 [(0, .ref 6), (2, qI v2), (3, qI k0), (4, qI (v4 + 1))] [] s (qPI f g)) : qR w 0 qm42 67 [(0, .ref 6), (2, qI v2), (4, qI v4)] [qI k0] s (qPI f g) := by
  refine qS_istore_n (a := [(0, .ref 6), (2, qI v2), (4, qI v4)]) qd_42_67 (Nat.le_of_ble_eq_true rfl) (zsub_c rfl (zsub_c rfl (zsub_c rfl zsub_n))) rfl ?_
  refine qS_iinc (v := v4) (a := [(3, qI k0), (0, .ref 6), (2, qI v2)]) qd_42_68 (Nat.le_of_ble_eq_true rfl) rfl (zsub_c rfl (zsub_c rfl (zsub_c rfl zsub_n))) rfl ?_
  refine qS_goto qd_42_71 rfl ?_
  exact qS_sub (zsub_c rfl (zsub_c rfl (zsub_c rfl (zsub_c rfl zsub_n)))) H
set_option maxRecDepth 100000 in
theorem k43 {w : qE} {s : qS} {p1 : Int} {p2 : Int} {f : Int → qS → Prop} {g : Nat → qS → Prop}  (H : qR w 1 qm43 2 [(0, .ref 6), (2, qI p2), (3, qI p1)] [] s (qPI f g)) : qW w 2 43 [.ref 6, qI p1, qI p2] s (qPI f g) := by
  refine qW.of (M := qm43) (l := [(0, .ref 6), (1, qI p1), (2, qI p2)]) qtm_43 rfl (Nat.le_of_ble_eq_true rfl) (zsub_c rfl (zsub_c rfl (zsub_c rfl zsub_n))) ?_
  refine qS_iload_n qd_43_0 rfl ?_
  refine qS_istore_n (a := [(0, .ref 6), (2, qI p2)]) qd_43_1 (Nat.le_of_ble_eq_true rfl) (zsub_c rfl (zsub_c rfl zsub_n)) rfl ?_
  exact qS_sub (zsub_c rfl (zsub_c rfl (zsub_c rfl zsub_n))) H
set_option maxRecDepth 100000 in
theorem k43_2 {w : qE} {s : qS} {v2 : Int} {v3 : Int} {f : Int → qS → Prop} {g : Nat → qS → Prop}  (H : Rg v3 ∧ Rg v2 ∧ (v3 < v2 → (0 ≤ v3 ∧ v3 < 500 ∧ (Rg (s 6 v3) ∧ (s 6 v3 = 91 → qR w 1 qm43 2 [(0, .ref 6), (2, qI v2), (3, qI (v3 + 1))] [] s (qPI f g)) ∧ (s 6 v3 ≠ 91 → qR w 1 qm43 21 [(0, .ref 6), (2, qI v2), (3, qI v3)] [] s (qPI f g))))) ∧ (v2 ≤ v3 → qR w 1 qm43 21 [(0, .ref 6), (2, qI v2), (3, qI v3)] [] s (qPI f g))) : qR w 1 qm43 2 [(0, .ref 6), (2, qI v2), (3, qI v3)] [] s (qPI f g) := by
  refine qS_iload_n qd_43_2 rfl ?_
  refine qS_iload_n qd_43_3 rfl ?_
  obtain ⟨h4a, h4b, H1, H2⟩ := H
  refine qS_icmp qd_43_4 rfl (zcnd_ge (a := v3) (b := v2) h4a h4b (fun t => qR w _ _ t _ _ _ _) (fun hc => ?_) (fun hc => ?_))
  · have H := H1 hc; clear H1 H2 hc
    refine qS_aload_n qd_43_7 rfl ?_
    refine qS_iload_n qd_43_8 rfl ?_
    obtain ⟨hl, hu, H⟩ := H
    refine qS_iaload (a := 6) (i := v3) qd_43_9 (Nat.le_of_ble_eq_true rfl) hl hu ?_
    refine qS_bipush qd_43_10 (by decide) ?_
    obtain ⟨h12a, H1, H2⟩ := H
    refine qS_icmp qd_43_12 rfl (zcnd_ne (a := s 6 v3) (b := 91) h12a ⟨by decide, by decide⟩ (fun t => qR w _ _ t _ _ _ _) (fun hc => ?_) (fun hc => ?_))
    · have H := H1 hc; clear H1 H2 hc
      refine qS_iinc (v := v3) (a := [(0, .ref 6), (2, qI v2)]) qd_43_15 (Nat.le_of_ble_eq_true rfl) rfl (zsub_c rfl (zsub_c rfl zsub_n)) rfl ?_
      refine qS_goto qd_43_18 rfl ?_
      exact qS_sub (zsub_c rfl (zsub_c rfl (zsub_c rfl zsub_n))) H
    · have H := H2 hc; clear H1 H2 hc
      exact qS_sub (zsub_c rfl (zsub_c rfl (zsub_c rfl zsub_n))) H
  · have H := H2 hc; clear H1 H2 hc
    exact qS_sub (zsub_c rfl (zsub_c rfl (zsub_c rfl zsub_n))) H
set_option maxRecDepth 100000 in
theorem k43_21 {w : qE} {s : qS} {v2 : Int} {v3 : Int} {f : Int → qS → Prop} {g : Nat → qS → Prop}  (H : Rg v3 ∧ Rg v2 ∧ (v3 < v2 → (0 ≤ v3 ∧ v3 < 500 ∧ (Rg (s 6 v3) ∧ (s 6 v3 = 76 → qR w 1 qm43 58 [(0, .ref 6), (2, qI v2), (3, qI v3), (4, qI (v3 + 1))] [] s (qPI f g)) ∧ (s 6 v3 ≠ 76 → (0 ≤ v3 ∧ v3 < 500 ∧ (qW w 1 44 [qI (s 6 v3)] s (qPI (fun r1 s1 => Rg r1 ∧ (r1 = 0 → qR w 1 qm43 52 [] [qI ((-1))] s1 (qPI f g)) ∧ (r1 ≠ 0 → qR w 1 qm43 52 [] [qI (v3 + 1)] s1 (qPI f g))) g))))))) ∧ (v2 ≤ v3 → f ((-1)) s)) : qR w 1 qm43 21 [(0, .ref 6), (2, qI v2), (3, qI v3)] [] s (qPI f g) := by
  refine qS_iload_n qd_43_21 rfl ?_
  refine qS_iload_n qd_43_22 rfl ?_
  obtain ⟨h23a, h23b, H1, H2⟩ := H
  refine qS_icmp qd_43_23 rfl (zcnd_lt (a := v3) (b := v2) h23a h23b (fun t => qR w _ _ t _ _ _ _) (fun hc => ?_) (fun hc => ?_))
  · have H := H1 hc; clear H1 H2 hc
    refine qS_aload_n qd_43_28 rfl ?_
    refine qS_iload_n qd_43_29 rfl ?_
    obtain ⟨hl, hu, H⟩ := H
    refine qS_iaload (a := 6) (i := v3) qd_43_30 (Nat.le_of_ble_eq_true rfl) hl hu ?_
    refine qS_bipush qd_43_31 (by decide) ?_
    obtain ⟨h33a, H1, H2⟩ := H
    refine qS_icmp qd_43_33 rfl (zcnd_eq (a := s 6 v3) (b := 76) h33a ⟨by decide, by decide⟩ (fun t => qR w _ _ t _ _ _ _) (fun hc => ?_) (fun hc => ?_))
    · have H := H1 hc; clear H1 H2 hc
      refine qS_iload_n qd_43_53 rfl ?_
      refine qS_iconst qd_43_54 ?_
      refine qS_iadd (a := v3) (b := 1) qd_43_55 ?_
      refine qS_istore (a := [(0, .ref 6), (2, qI v2), (3, qI v3)]) qd_43_56 (Nat.le_of_ble_eq_true rfl) (zsub_c rfl (zsub_c rfl (zsub_c rfl zsub_n))) rfl ?_
      exact qS_sub (zsub_c rfl (zsub_c rfl (zsub_c rfl (zsub_c rfl zsub_n)))) H
    · have H := H2 hc; clear H1 H2 hc
      refine qS_aload_n qd_43_36 rfl ?_
      refine qS_iload_n qd_43_37 rfl ?_
      obtain ⟨hl, hu, H⟩ := H
      refine qS_iaload (a := 6) (i := v3) qd_43_38 (Nat.le_of_ble_eq_true rfl) hl hu ?_
      refine qS_csI qd_43_39 (qml_9_32 w) rfl (Nat.le_of_ble_eq_true rfl) rfl (Nat.le_of_ble_eq_true rfl) H (fun r1 s1 H => ?_) (fun x s1 H => Or.inr ⟨x, rfl, H⟩)
      obtain ⟨h42a, H1, H2⟩ := H
      refine qS_if0 qd_43_42 rfl (zcnd_eq (a := r1) (b := 0) h42a ⟨by decide, by decide⟩ (fun t => qR w _ _ t _ _ _ _) (fun hc => ?_) (fun hc => ?_))
      · have H := H1 hc; clear H1 H2 hc
        refine qS_iconst qd_43_51 ?_
        exact qS_sub zsub_n H
      · have H := H2 hc; clear H1 H2 hc
        refine qS_iload_n qd_43_45 rfl ?_
        refine qS_iconst qd_43_46 ?_
        refine qS_iadd (a := v3) (b := 1) qd_43_47 ?_
        refine qS_goto qd_43_48 rfl ?_
        exact qS_sub zsub_n H
  · have H := H2 hc; clear H1 H2 hc
    refine qS_iconst qd_43_26 ?_
    exact qS_ireturn qd_43_27 rfl (Or.inl ⟨_, rfl, H⟩)
set_option maxRecDepth 100000 in
theorem k43_52 {w : qE} {s : qS} {k0 : Int} {f : Int → qS → Prop} {g : Nat → qS → Prop}  (H : f k0 s) : qR w 1 qm43 52 [] [qI k0] s (qPI f g) := by
  exact qS_ireturn qd_43_52 rfl (Or.inl ⟨_, rfl, H⟩)
set_option maxRecDepth 100000 in
theorem k43_58 {w : qE} {s : qS} {v2 : Int} {v3 : Int} {v4 : Int} {f : Int → qS → Prop} {g : Nat → qS → Prop}  (H : Rg v4 ∧ Rg v2 ∧ (v4 < v2 → (0 ≤ v4 ∧ v4 < 500 ∧ (Rg (s 6 v4) ∧ (s 6 v4 = 59 → qR w 1 qm43 79 [(0, .ref 6), (2, qI v2), (3, qI v3), (4, qI v4)] [] s (qPI f g)) ∧ (s 6 v4 ≠ 59 → qR w 1 qm43 58 [(0, .ref 6), (2, qI v2), (3, qI v3), (4, qI (v4 + 1))] [] s (qPI f g))))) ∧ (v2 ≤ v4 → qR w 1 qm43 79 [(0, .ref 6), (2, qI v2), (3, qI v3), (4, qI v4)] [] s (qPI f g))) : qR w 1 qm43 58 [(0, .ref 6), (2, qI v2), (3, qI v3), (4, qI v4)] [] s (qPI f g) := by
  refine qS_iload qd_43_58 rfl ?_
  refine qS_iload_n qd_43_60 rfl ?_
  obtain ⟨h61a, h61b, H1, H2⟩ := H
  refine qS_icmp qd_43_61 rfl (zcnd_ge (a := v4) (b := v2) h61a h61b (fun t => qR w _ _ t _ _ _ _) (fun hc => ?_) (fun hc => ?_))
  · have H := H1 hc; clear H1 H2 hc
    refine qS_aload_n qd_43_64 rfl ?_
    refine qS_iload qd_43_65 rfl ?_
    obtain ⟨hl, hu, H⟩ := H
    refine qS_iaload (a := 6) (i := v4) qd_43_67 (Nat.le_of_ble_eq_true rfl) hl hu ?_
    refine qS_bipush qd_43_68 (by decide) ?_
    obtain ⟨h70a, H1, H2⟩ := H
    refine qS_icmp qd_43_70 rfl (zcnd_eq (a := s 6 v4) (b := 59) h70a ⟨by decide, by decide⟩ (fun t => qR w _ _ t _ _ _ _) (fun hc => ?_) (fun hc => ?_))
    · have H := H1 hc; clear H1 H2 hc
      exact qS_sub (zsub_c rfl (zsub_c rfl (zsub_c rfl (zsub_c rfl zsub_n)))) H
    · have H := H2 hc; clear H1 H2 hc
      refine qS_iinc (v := v4) (a := [(0, .ref 6), (2, qI v2), (3, qI v3)]) qd_43_73 (Nat.le_of_ble_eq_true rfl) rfl (zsub_c rfl (zsub_c rfl (zsub_c rfl zsub_n))) rfl ?_
      refine qS_goto qd_43_76 rfl ?_
      exact qS_sub (zsub_c rfl (zsub_c rfl (zsub_c rfl (zsub_c rfl zsub_n)))) H
  · have H := H2 hc; clear H1 H2 hc
    exact qS_sub (zsub_c rfl (zsub_c rfl (zsub_c rfl (zsub_c rfl zsub_n)))) H
set_option maxRecDepth 100000 in
theorem k43_79 {w : qE} {s : qS} {v2 : Int} {v3 : Int} {v4 : Int} {f : Int → qS → Prop} {g : Nat → qS → Prop}  (H : Rg v4 ∧ Rg v2 ∧ (v4 < v2 → qW w 1 42 [.ref 6, qI (v3 + 1), qI v4] s (qPI (fun r2 s2 => Rg r2 ∧ (r2 = 0 → qR w 1 qm43 104 [] [] s2 (qPI f g)) ∧ (r2 ≠ 0 → qR w 1 qm43 105 [] [qI (v4 + 1)] s2 (qPI f g))) g)) ∧ (v2 ≤ v4 → qR w 1 qm43 104 [] [] s (qPI f g))) : qR w 1 qm43 79 [(0, .ref 6), (2, qI v2), (3, qI v3), (4, qI v4)] [] s (qPI f g) := by
  refine qS_iload qd_43_79 rfl ?_
  refine qS_iload_n qd_43_81 rfl ?_
  obtain ⟨h82a, h82b, H1, H2⟩ := H
  refine qS_icmp qd_43_82 rfl (zcnd_ge (a := v4) (b := v2) h82a h82b (fun t => qR w _ _ t _ _ _ _) (fun hc => ?_) (fun hc => ?_))
  · have H := H1 hc; clear H1 H2 hc
    refine qS_aload_n qd_43_85 rfl ?_
    refine qS_iload_n qd_43_86 rfl ?_
    refine qS_iconst qd_43_87 ?_
    refine qS_iadd (a := v3) (b := 1) qd_43_88 ?_
    refine qS_iload qd_43_89 rfl ?_
    refine qS_csI qd_43_91 (qml_9_15 w) rfl (Nat.le_of_ble_eq_true rfl) rfl (Nat.le_of_ble_eq_true rfl) H (fun r2 s2 H => ?_) (fun x s1 H => Or.inr ⟨x, rfl, H⟩)
    obtain ⟨h94a, H1, H2⟩ := H
    refine qS_if0 qd_43_94 rfl (zcnd_eq (a := r2) (b := 0) h94a ⟨by decide, by decide⟩ (fun t => qR w _ _ t _ _ _ _) (fun hc => ?_) (fun hc => ?_))
    · have H := H1 hc; clear H1 H2 hc
      exact qS_sub zsub_n H
    · have H := H2 hc; clear H1 H2 hc
      refine qS_iload qd_43_97 rfl ?_
      refine qS_iconst qd_43_99 ?_
      refine qS_iadd (a := v4) (b := 1) qd_43_100 ?_
      refine qS_goto qd_43_101 rfl ?_
      exact qS_sub zsub_n H
  · have H := H2 hc; clear H1 H2 hc
    exact qS_sub zsub_n H
set_option maxRecDepth 100000 in
theorem k43_104 {w : qE} {s : qS}  {f : Int → qS → Prop} {g : Nat → qS → Prop}  (H : qR w 1 qm43 105 [] [qI ((-1))] s (qPI f g)) : qR w 1 qm43 104 [] [] s (qPI f g) := by
  refine qS_iconst qd_43_104 ?_
  exact qS_sub zsub_n H
set_option maxRecDepth 100000 in
theorem k43_105 {w : qE} {s : qS} {k0 : Int} {f : Int → qS → Prop} {g : Nat → qS → Prop}  (H : f k0 s) : qR w 1 qm43 105 [] [qI k0] s (qPI f g) := by
  exact qS_ireturn qd_43_105 rfl (Or.inl ⟨_, rfl, H⟩)
set_option maxRecDepth 100000 in
theorem k44 {w : qE} {s : qS} {p0 : Int} {f : Int → qS → Prop} {g : Nat → qS → Prop}  (H : Rg p0 ∧ ((p0 = 66 ∨ p0 = 67 ∨ p0 = 68 ∨ p0 = 70 ∨ p0 = 73 ∨ p0 = 74 ∨ p0 = 83 ∨ p0 = 90) → f 1 s) ∧ (p0 ≠ 66 → p0 ≠ 67 → p0 ≠ 68 → p0 ≠ 70 → p0 ≠ 73 → p0 ≠ 74 → p0 ≠ 83 → p0 ≠ 90 → f 0 s)) : qW w 1 44 [qI p0] s (qPI f g) := by
  refine qW.of (M := qm44) (l := [(0, qI p0)]) qtm_44 rfl (Nat.le_of_ble_eq_true rfl) (zsub_c rfl zsub_n) ?_
  refine qS_iload_n qd_44_0 rfl ?_
  obtain ⟨h1a, H1, Hd⟩ := H
  by_cases hc0 : p0 = 66 ∨ p0 = 67 ∨ p0 = 68 ∨ p0 = 70 ∨ p0 = 73 ∨ p0 = 74 ∨ p0 = 83 ∨ p0 = 90
  · refine qS_tsw qd_44_1 (t := 116) h1a (by rcases hc0 with hq | hq | hq | hq | hq | hq | hq | hq <;> (rw [hq]; rfl)) ?_
    have H := H1 hc0
    refine qS_iconst qd_44_116 ?_
    exact qS_zreturn qd_44_117 rfl (Or.inr rfl) (Or.inl ⟨_, rfl, H⟩)
  refine qS_tsw qd_44_1 (t := 118) h1a (by
    by_cases hz : p0 < 66 ∨ 90 < p0
    · unfold ztsw; rw [if_pos hz]; rfl
    · have hz2 : p0 = 69 ∨ p0 = 71 ∨ p0 = 72 ∨ p0 = 75 ∨ p0 = 76 ∨ p0 = 77 ∨ p0 = 78 ∨ p0 = 79 ∨ p0 = 80 ∨ p0 = 81 ∨ p0 = 82 ∨ p0 = 84 ∨ p0 = 85 ∨ p0 = 86 ∨ p0 = 87 ∨ p0 = 88 ∨ p0 = 89 := by omega
      rcases hz2 with hq | hq | hq | hq | hq | hq | hq | hq | hq | hq | hq | hq | hq | hq | hq | hq | hq <;> (rw [hq]; rfl)) ?_
  have H := Hd (by omega) (by omega) (by omega) (by omega) (by omega) (by omega) (by omega) (by omega)
  refine qS_iconst qd_44_118 ?_
  exact qS_zreturn qd_44_119 rfl (Or.inl rfl) (Or.inl ⟨_, rfl, H⟩)
set_option maxRecDepth 100000 in
theorem k45 {w : qE} {s : qS} {p1 : Int} {p2 : Int} {f : Int → qS → Prop} {g : Nat → qS → Prop}  (H : Rg p1 ∧ Rg p2 ∧ (p1 < p2 → (0 ≤ p1 ∧ p1 < 500 ∧ (Rg (s 6 p1) ∧ (s 6 p1 = 40 → qW w 3 46 [.ref 6, qI p1, qI p2] s (qPI (fun r1 s1 => Rg r1 ∧ (r1 = (-1) → f 0 s1) ∧ (r1 ≠ (-1) → qW w 5 41 [.ref 6, qI (r1 + 1), qI p2, .retAddr 104] s1 (qPI (fun r2 s2 => Rg r2 ∧ (r2 = 0 → qW w 2 43 [.ref 6, qI (r1 + 1), qI p2] s2 (qPI (fun r3 s3 => Rg r3 ∧ (r3 = p2 → qR w 5 qm45 54 [] [] s3 (qPI f g)) ∧ (r3 ≠ p2 → qR w 5 qm45 59 [] [qI 0] s3 (qPI f g))) g)) ∧ (r2 ≠ 0 → qR w 5 qm45 54 [] [] s2 (qPI f g))) g))) g)) ∧ (s 6 p1 ≠ 40 → qR w 5 qm45 13 [] [] s (qPI f g))))) ∧ (p2 ≤ p1 → qR w 5 qm45 13 [] [] s (qPI f g))) : qW w 6 45 [.ref 6, qI p1, qI p2] s (qPI f g) := by
  refine qW.of (M := qm45) (l := [(0, .ref 6), (1, qI p1), (2, qI p2)]) qtm_45 rfl (Nat.le_of_ble_eq_true rfl) (zsub_c rfl (zsub_c rfl (zsub_c rfl zsub_n))) ?_
  refine qS_iload_n qd_45_0 rfl ?_
  refine qS_iload_n qd_45_1 rfl ?_
  obtain ⟨h2a, h2b, H1, H2⟩ := H
  refine qS_icmp qd_45_2 rfl (zcnd_ge (a := p1) (b := p2) h2a h2b (fun t => qR w _ _ t _ _ _ _) (fun hc => ?_) (fun hc => ?_))
  · have H := H1 hc; clear H1 H2 hc
    refine qS_aload_n qd_45_5 rfl ?_
    refine qS_iload_n qd_45_6 rfl ?_
    obtain ⟨hl, hu, H⟩ := H
    refine qS_iaload (a := 6) (i := p1) qd_45_7 (Nat.le_of_ble_eq_true rfl) hl hu ?_
    refine qS_bipush qd_45_8 (by decide) ?_
    obtain ⟨h10a, H1, H2⟩ := H
    refine qS_icmp qd_45_10 rfl (zcnd_eq (a := s 6 p1) (b := 40) h10a ⟨by decide, by decide⟩ (fun t => qR w _ _ t _ _ _ _) (fun hc => ?_) (fun hc => ?_))
    · have H := H1 hc; clear H1 H2 hc
      refine qS_aload_n qd_45_15 rfl ?_
      refine qS_iload_n qd_45_16 rfl ?_
      refine qS_iload_n qd_45_17 rfl ?_
      refine qS_csI qd_45_18 (qml_9_36 w) rfl (Nat.le_of_ble_eq_true rfl) rfl (Nat.le_of_ble_eq_true rfl) H (fun r1 s1 H => ?_) (fun x s1 H => Or.inr ⟨x, rfl, H⟩)
      refine qS_istore_n (a := [(0, .ref 6), (2, qI p2)]) qd_45_21 (Nat.le_of_ble_eq_true rfl) (zsub_c rfl (zsub_c rfl zsub_n)) rfl ?_
      refine qS_iload_n qd_45_22 rfl ?_
      refine qS_iconst qd_45_23 ?_
      obtain ⟨h24a, H1, H2⟩ := H
      refine qS_icmp qd_45_24 rfl (zcnd_ne (a := r1) (b := (-1)) h24a ⟨by decide, by decide⟩ (fun t => qR w _ _ t _ _ _ _) (fun hc => ?_) (fun hc => ?_))
      · have H := H1 hc; clear H1 H2 hc
        refine qS_iconst qd_45_27 ?_
        exact qS_zreturn qd_45_28 rfl (Or.inl rfl) (Or.inl ⟨_, rfl, H⟩)
      · have H := H2 hc; clear H1 H2 hc
        refine qS_aload_n qd_45_29 rfl ?_
        refine qS_iload_n qd_45_30 rfl ?_
        refine qS_iconst qd_45_31 ?_
        refine qS_iadd (a := r1) (b := 1) qd_45_32 ?_
        refine qS_iload_n qd_45_33 rfl ?_
        refine qS_ex (st' := [.retAddr 104, qI p2, qI (r1 + 1), .ref 6]) qd_45_34 rfl rfl (fun _ => rfl) (fun _ => rfl) (fun _ => rfl) rfl (fun _ => rfl) rfl (fun _ => rfl) rfl rfl ?_
        refine qS_csI qd_45_36 (qml_9_26 w) rfl (Nat.le_of_ble_eq_true rfl) rfl (Nat.le_of_ble_eq_true rfl) H (fun r2 s2 H => ?_) (fun x s1 H => Or.inr ⟨x, rfl, H⟩)
        obtain ⟨h39a, H1, H2⟩ := H
        refine qS_if0 qd_45_39 rfl (zcnd_ne (a := r2) (b := 0) h39a ⟨by decide, by decide⟩ (fun t => qR w _ _ t _ _ _ _) (fun hc => ?_) (fun hc => ?_))
        · have H := H1 hc; clear H1 H2 hc
          refine qS_aload_n qd_45_42 rfl ?_
          refine qS_iload_n qd_45_43 rfl ?_
          refine qS_iconst qd_45_44 ?_
          refine qS_iadd (a := r1) (b := 1) qd_45_45 ?_
          refine qS_iload_n qd_45_46 rfl ?_
          refine qS_csI qd_45_47 (qml_9_19 w) rfl (Nat.le_of_ble_eq_true rfl) rfl (Nat.le_of_ble_eq_true rfl) H (fun r3 s3 H => ?_) (fun x s1 H => Or.inr ⟨x, rfl, H⟩)
          refine qS_iload_n qd_45_50 rfl ?_
          obtain ⟨h51a, H1, H2⟩ := H
          refine qS_icmp qd_45_51 rfl (zcnd_ne (a := r3) (b := p2) h51a h2b (fun t => qR w _ _ t _ _ _ _) (fun hc => ?_) (fun hc => ?_))
          · have H := H1 hc; clear H1 H2 hc
            exact qS_sub zsub_n H
          · have H := H2 hc; clear H1 H2 hc
            refine qS_iconst qd_45_58 ?_
            exact qS_sub zsub_n H
        · have H := H2 hc; clear H1 H2 hc
          exact qS_sub zsub_n H
    · have H := H2 hc; clear H1 H2 hc
      exact qS_sub zsub_n H
  · have H := H2 hc; clear H1 H2 hc
    exact qS_sub zsub_n H
set_option maxRecDepth 100000 in
theorem k45_13 {w : qE} {s : qS}  {f : Int → qS → Prop} {g : Nat → qS → Prop}  (H : f 0 s) : qR w 5 qm45 13 [] [] s (qPI f g) := by
  refine qS_iconst qd_45_13 ?_
  exact qS_zreturn qd_45_14 rfl (Or.inl rfl) (Or.inl ⟨_, rfl, H⟩)
set_option maxRecDepth 100000 in
theorem k45_54 {w : qE} {s : qS}  {f : Int → qS → Prop} {g : Nat → qS → Prop}  (H : qR w 5 qm45 59 [] [qI 1] s (qPI f g)) : qR w 5 qm45 54 [] [] s (qPI f g) := by
  refine qS_iconst qd_45_54 ?_
  refine qS_goto qd_45_55 rfl ?_
  exact qS_sub zsub_n H
set_option maxRecDepth 100000 in
theorem k45_59 {w : qE} {s : qS} {k0 : Int} {f : Int → qS → Prop} {g : Nat → qS → Prop}  (H : ((k0 = 0 ∨ k0 = 1) ∧ f k0 s)) : qR w 5 qm45 59 [] [qI k0] s (qPI f g) := by
  exact qS_zreturn qd_45_59 rfl H.1 (Or.inl ⟨_, rfl, H.2⟩)
set_option maxRecDepth 100000 in
theorem k46 {w : qE} {s : qS} {p1 : Int} {p2 : Int} {f : Int → qS → Prop} {g : Nat → qS → Prop}  (H : qR w 2 qm46 7 [(0, .ref 6), (2, qI p2), (3, qI (p1 + 1)), (4, qI 0)] [] s (qPI f g)) : qW w 3 46 [.ref 6, qI p1, qI p2] s (qPI f g) := by
  refine qW.of (M := qm46) (l := [(0, .ref 6), (1, qI p1), (2, qI p2)]) qtm_46 rfl (Nat.le_of_ble_eq_true rfl) (zsub_c rfl (zsub_c rfl (zsub_c rfl zsub_n))) ?_
  refine qS_iload_n qd_46_0 rfl ?_
  refine qS_iconst qd_46_1 ?_
  refine qS_iadd (a := p1) (b := 1) qd_46_2 ?_
  refine qS_istore_n (a := [(0, .ref 6), (2, qI p2)]) qd_46_3 (Nat.le_of_ble_eq_true rfl) (zsub_c rfl (zsub_c rfl zsub_n)) rfl ?_
  refine qS_iconst qd_46_4 ?_
  refine qS_istore (a := [(3, qI (p1 + 1)), (0, .ref 6), (2, qI p2)]) qd_46_5 (Nat.le_of_ble_eq_true rfl) (zsub_c rfl (zsub_c rfl (zsub_c rfl zsub_n))) rfl ?_
  exact qS_sub (zsub_c rfl (zsub_c rfl (zsub_c rfl (zsub_c rfl zsub_n)))) H
set_option maxRecDepth 100000 in
theorem k46_7 {w : qE} {s : qS} {v2 : Int} {v3 : Int} {v4 : Int} {f : Int → qS → Prop} {g : Nat → qS → Prop}  (H : Rg v4 ∧ (v4 < 500 → Rg v3 ∧ Rg v2 ∧ (v3 < v2 → (0 ≤ v3 ∧ v3 < 500 ∧ (Rg (s 6 v3) ∧ (s 6 v3 = 41 → qR w 2 qm46 48 [(2, qI v2), (3, qI v3)] [] s (qPI f g)) ∧ (s 6 v3 ≠ 41 → qW w 2 43 [.ref 6, qI v3, qI v2] s (qPI (fun r1 s1 => Rg r1 ∧ (r1 = (-1) → f ((-1)) s1) ∧ (r1 ≠ (-1) → qR w 2 qm46 7 [(0, .ref 6), (2, qI v2), (3, qI r1), (4, qI (v4 + 1))] [] s1 (qPI f g))) g))))) ∧ (v2 ≤ v3 → qR w 2 qm46 48 [(2, qI v2), (3, qI v3)] [] s (qPI f g))) ∧ (500 ≤ v4 → qR w 2 qm46 48 [(2, qI v2), (3, qI v3)] [] s (qPI f g))) : qR w 2 qm46 7 [(0, .ref 6), (2, qI v2), (3, qI v3), (4, qI v4)] [] s (qPI f g) := by
  refine qS_iload qd_46_7 rfl ?_
  refine qS_sipush qd_46_9 (by decide) ?_
  obtain ⟨h12a, H1, H2⟩ := H
  refine qS_icmp qd_46_12 rfl (zcnd_ge (a := v4) (b := 500) h12a ⟨by decide, by decide⟩ (fun t => qR w _ _ t _ _ _ _) (fun hc => ?_) (fun hc => ?_))
  · have H := H1 hc; clear H1 H2 hc
    refine qS_iload_n qd_46_15 rfl ?_
    refine qS_iload_n qd_46_16 rfl ?_
    obtain ⟨h17a, h17b, H1, H2⟩ := H
    refine qS_icmp qd_46_17 rfl (zcnd_ge (a := v3) (b := v2) h17a h17b (fun t => qR w _ _ t _ _ _ _) (fun hc => ?_) (fun hc => ?_))
    · have H := H1 hc; clear H1 H2 hc
      refine qS_aload_n qd_46_20 rfl ?_
      refine qS_iload_n qd_46_21 rfl ?_
      obtain ⟨hl, hu, H⟩ := H
      refine qS_iaload (a := 6) (i := v3) qd_46_22 (Nat.le_of_ble_eq_true rfl) hl hu ?_
      refine qS_bipush qd_46_23 (by decide) ?_
      obtain ⟨h25a, H1, H2⟩ := H
      refine qS_icmp qd_46_25 rfl (zcnd_eq (a := s 6 v3) (b := 41) h25a ⟨by decide, by decide⟩ (fun t => qR w _ _ t _ _ _ _) (fun hc => ?_) (fun hc => ?_))
      · have H := H1 hc; clear H1 H2 hc
        exact qS_sub (zsub_c rfl (zsub_c rfl zsub_n)) H
      · have H := H2 hc; clear H1 H2 hc
        refine qS_aload_n qd_46_28 rfl ?_
        refine qS_iload_n qd_46_29 rfl ?_
        refine qS_iload_n qd_46_30 rfl ?_
        refine qS_csI qd_46_31 (qml_9_19 w) rfl (Nat.le_of_ble_eq_true rfl) rfl (Nat.le_of_ble_eq_true rfl) H (fun r1 s1 H => ?_) (fun x s1 H => Or.inr ⟨x, rfl, H⟩)
        refine qS_istore_n (a := [(0, .ref 6), (2, qI v2), (4, qI v4)]) qd_46_34 (Nat.le_of_ble_eq_true rfl) (zsub_c rfl (zsub_c rfl (zsub_c rfl zsub_n))) rfl ?_
        refine qS_iload_n qd_46_35 rfl ?_
        refine qS_iconst qd_46_36 ?_
        obtain ⟨h37a, H1, H2⟩ := H
        refine qS_icmp qd_46_37 rfl (zcnd_ne (a := r1) (b := (-1)) h37a ⟨by decide, by decide⟩ (fun t => qR w _ _ t _ _ _ _) (fun hc => ?_) (fun hc => ?_))
        · have H := H1 hc; clear H1 H2 hc
          refine qS_iconst qd_46_40 ?_
          exact qS_ireturn qd_46_41 rfl (Or.inl ⟨_, rfl, H⟩)
        · have H := H2 hc; clear H1 H2 hc
          refine qS_iinc (v := v4) (a := [(3, qI r1), (0, .ref 6), (2, qI v2)]) qd_46_42 (Nat.le_of_ble_eq_true rfl) rfl (zsub_c rfl (zsub_c rfl (zsub_c rfl zsub_n))) rfl ?_
          refine qS_goto qd_46_45 rfl ?_
          exact qS_sub (zsub_c rfl (zsub_c rfl (zsub_c rfl (zsub_c rfl zsub_n)))) H
    · have H := H2 hc; clear H1 H2 hc
      exact qS_sub (zsub_c rfl (zsub_c rfl zsub_n)) H
  · have H := H2 hc; clear H1 H2 hc
    exact qS_sub (zsub_c rfl (zsub_c rfl zsub_n)) H
set_option maxRecDepth 100000 in
theorem k46_48 {w : qE} {s : qS} {v2 : Int} {v3 : Int} {f : Int → qS → Prop} {g : Nat → qS → Prop}  (H : Rg v3 ∧ Rg v2 ∧ (v3 < v2 → qR w 2 qm46 58 [] [qI v3] s (qPI f g)) ∧ (v2 ≤ v3 → qR w 2 qm46 58 [] [qI ((-1))] s (qPI f g))) : qR w 2 qm46 48 [(2, qI v2), (3, qI v3)] [] s (qPI f g) := by
  refine qS_iload_n qd_46_48 rfl ?_
  refine qS_iload_n qd_46_49 rfl ?_
  obtain ⟨h50a, h50b, H1, H2⟩ := H
  refine qS_icmp qd_46_50 rfl (zcnd_ge (a := v3) (b := v2) h50a h50b (fun t => qR w _ _ t _ _ _ _) (fun hc => ?_) (fun hc => ?_))
  · have H := H1 hc; clear H1 H2 hc
    refine qS_iload_n qd_46_53 rfl ?_
    refine qS_goto qd_46_54 rfl ?_
    exact qS_sub zsub_n H
  · have H := H2 hc; clear H1 H2 hc
    refine qS_iconst qd_46_57 ?_
    exact qS_sub zsub_n H
set_option maxRecDepth 100000 in
theorem k46_58 {w : qE} {s : qS} {k0 : Int} {f : Int → qS → Prop} {g : Nat → qS → Prop}  (H : f k0 s) : qR w 2 qm46 58 [] [qI k0] s (qPI f g) := by
  exact qS_ireturn qd_46_58 rfl (Or.inl ⟨_, rfl, H⟩)
set_option maxRecDepth 100000 in
theorem k47 {w : qE} {s : qS}  {f : qS → Prop} {g : Nat → qS → Prop}  (H : qR w 5 qm47 2 [(0, .ref 7), (1, qI 1)] [] s (qPV f g)) : qW w 6 47 [.ref 7] s (qPV f g) := by
  refine qW.of (M := qm47) (l := [(0, .ref 7)]) qtm_47 rfl (Nat.le_of_ble_eq_true rfl) (zsub_c rfl zsub_n) ?_
  refine qS_iconst qd_47_0 ?_
  refine qS_istore_n (a := [(0, .ref 7)]) qd_47_1 (Nat.le_of_ble_eq_true rfl) (zsub_c rfl zsub_n) rfl ?_
  exact qS_sub (zsub_c rfl (zsub_c rfl zsub_n)) H
set_option maxRecDepth 100000 in
theorem k47_2 {w : qE} {s : qS} {v1 : Int} {f : qS → Prop} {g : Nat → qS → Prop}  (H : qW w 1 34 [.ref 4] s (qPI (fun r1 s1 => Rg v1 ∧ Rg r1 ∧ (v1 < r1 → qW w 5 48 [.ref 7, qI v1] s1 (qPI (fun r2 s2 => qW w 1 36 [.ref 4, qI v1, qI 3] s2 (qPI (fun r3 s3 => qW w 1 20 [.ref 1, qI r2, qI r3] s3 (qPV (fun s4 => qR w 5 qm47 2 [(0, .ref 7), (1, qI (v1 + 1))] [] s4 (qPV f g)) g)) g)) g)) ∧ (r1 ≤ v1 → f s1)) g)) : qR w 5 qm47 2 [(0, .ref 7), (1, qI v1)] [] s (qPV f g) := by
  refine qS_iload_n qd_47_2 rfl ?_
  refine qS_aload_n qd_47_3 rfl ?_
  refine qS_getfield (v := .ref 3) qd_47_4 (qfl_4_15 w) (hpc_7 _ _) rfl ?_
  refine qS_getfield (v := .ref 4) qd_47_7 (qfl_4_19 w) (hpc_3 _ _) rfl ?_
  refine qS_cvI qd_47_10 (qml_4_25 w) rfl qtm_34 (hpc_4 _ _) (Nat.le_of_ble_eq_true rfl) rfl (Nat.le_of_ble_eq_true rfl) H (fun r1 s1 H => ?_) (fun x s1 H => Or.inr ⟨x, rfl, H⟩)
  obtain ⟨h13a, h13b, H1, H2⟩ := H
  refine qS_icmp qd_47_13 rfl (zcnd_ge (a := v1) (b := r1) h13a h13b (fun t => qR w _ _ t _ _ _ _) (fun hc => ?_) (fun hc => ?_))
  · have H := H1 hc; clear H1 H2 hc
    refine qS_aload_n qd_47_16 rfl ?_
    refine qS_getfield (v := .ref 1) qd_47_17 (qfl_4_9 w) (hpc_7 _ _) rfl ?_
    refine qS_aload_n qd_47_20 rfl ?_
    refine qS_iload_n qd_47_21 rfl ?_
    refine qS_cvI qd_47_22 (qml_4_31 w) rfl qtm_48 (hpc_7 _ _) (Nat.le_of_ble_eq_true rfl) rfl (Nat.le_of_ble_eq_true rfl) H (fun r2 s2 H => ?_) (fun x s1 H => Or.inr ⟨x, rfl, H⟩)
    refine qS_aload_n qd_47_25 rfl ?_
    refine qS_getfield (v := .ref 3) qd_47_26 (qfl_4_15 w) (hpc_7 _ _) rfl ?_
    refine qS_getfield (v := .ref 4) qd_47_29 (qfl_4_19 w) (hpc_3 _ _) rfl ?_
    refine qS_iload_n qd_47_32 rfl ?_
    refine qS_iconst qd_47_33 ?_
    refine qS_cvI qd_47_34 (qml_4_35 w) rfl qtm_36 (hpc_4 _ _) (Nat.le_of_ble_eq_true rfl) rfl (Nat.le_of_ble_eq_true rfl) H (fun r3 s3 H => ?_) (fun x s1 H => Or.inr ⟨x, rfl, H⟩)
    refine qS_cvV qd_47_37 (qml_4_39 w) rfl qtm_20 (hpc_1 _ _) (Nat.le_of_ble_eq_true rfl) rfl (Nat.le_of_ble_eq_true rfl) H (fun s4 H => ?_) (fun x s1 H => Or.inr ⟨x, rfl, H⟩)
    refine qS_iinc (v := v1) (a := [(0, .ref 7)]) qd_47_40 (Nat.le_of_ble_eq_true rfl) rfl (zsub_c rfl zsub_n) rfl ?_
    refine qS_goto qd_47_43 rfl ?_
    exact qS_sub (zsub_c rfl (zsub_c rfl zsub_n)) H
  · have H := H2 hc; clear H1 H2 hc
    exact qS_vreturn qd_47_46 rfl (Or.inl ⟨rfl, H⟩)
set_option maxRecDepth 100000 in
theorem k48 {w : qE} {s : qS} {p0 : Int} {f : Int → qS → Prop} {g : Nat → qS → Prop}  (H : qW w 2 49 [.ref 3, qI p0] s (qPI (fun r1 s1 => qW w 2 50 [.ref 3, qI p0] s1 (qPI (fun r2 s2 => qW w 2 35 [.ref 3, qI p0] s2 (qPI (fun r3 s3 => Rg r3 ∧ (r3 = 7 → qW w 2 51 [.ref 3, qI r1, qI 8] s3 (qPI (fun r4 s4 => ((r4 = 0 ∨ r4 = 1) ∧ f r4 s4)) g)) ∧ (r3 = 8 → qW w 2 35 [.ref 3, qI r1] s3 (qPI (fun r5 s5 => Rg r5 ∧ (r5 = 1 → qR w 4 qm48 116 [] [qI 1] s5 (qPI f g)) ∧ (r5 ≠ 1 → qR w 4 qm48 116 [] [qI 0] s5 (qPI f g))) g)) ∧ (r3 = 9 → qW w 2 35 [.ref 3, qI r1] s3 (qPI (fun r6 s6 => Rg r6 ∧ (r6 = 7 → qW w 3 52 [.ref 7, qI r2, qI 16] s6 (qPI (fun r7 s7 => Rg r7 ∧ (r7 = 0 → qR w 4 qm48 155 [] [] s7 (qPI f g)) ∧ (r7 ≠ 0 → qR w 4 qm48 156 [] [qI 1] s7 (qPI f g))) g)) ∧ (r6 ≠ 7 → qR w 4 qm48 155 [] [] s6 (qPI f g))) g)) ∧ ((r3 = 10 ∨ r3 = 11) → qW w 2 35 [.ref 3, qI r1] s3 (qPI (fun r8 s8 => Rg r8 ∧ (r8 = 7 → qW w 4 53 [.ref 7, qI r2] s8 (qPI (fun r9 s9 => Rg r9 ∧ (r9 = 0 → qR w 4 qm48 182 [] [] s9 (qPI f g)) ∧ (r9 ≠ 0 → qR w 4 qm48 183 [] [qI 1] s9 (qPI f g))) g)) ∧ (r8 ≠ 7 → qR w 4 qm48 182 [] [] s8 (qPI f g))) g)) ∧ (r3 = 12 → qW w 3 54 [.ref 7, qI r1, qI r2] s3 (qPI (fun r10 s10 => ((r10 = 0 ∨ r10 = 1) ∧ f r10 s10)) g)) ∧ (r3 = 15 → qW w 2 35 [.ref 3, qI r2] s3 (qPI (fun r11 s11 => qW w 1 55 [qI r1, qI r11] s11 (qPI (fun r12 s12 => ((r12 = 0 ∨ r12 = 1) ∧ f r12 s12)) g)) g)) ∧ (r3 = 16 → qW w 2 51 [.ref 3, qI r1, qI 32] s3 (qPI (fun r13 s13 => ((r13 = 0 ∨ r13 = 1) ∧ f r13 s13)) g)) ∧ (r3 = 17 → qW w 3 52 [.ref 7, qI r2, qI 16] s3 (qPI (fun r14 s14 => ((r14 = 0 ∨ r14 = 1) ∧ f r14 s14)) g)) ∧ (r3 = 18 → qW w 3 52 [.ref 7, qI r2, qI 32] s3 (qPI (fun r15 s15 => ((r15 = 0 ∨ r15 = 1) ∧ f r15 s15)) g)) ∧ (r3 ≠ 7 → r3 ≠ 8 → r3 ≠ 9 → r3 ≠ 10 → r3 ≠ 11 → r3 ≠ 12 → r3 ≠ 15 → r3 ≠ 16 → r3 ≠ 17 → r3 ≠ 18 → f 1 s3)) g)) g)) g)) : qW w 5 48 [.ref 7, qI p0] s (qPI f g) := by
  refine qW.of (M := qm48) (l := [(0, .ref 7), (1, qI p0)]) qtm_48 rfl (Nat.le_of_ble_eq_true rfl) (zsub_c rfl (zsub_c rfl zsub_n)) ?_
  refine qS_aload_n qd_48_0 rfl ?_
  refine qS_getfield (v := .ref 3) qd_48_1 (qfl_4_15 w) (hpc_7 _ _) rfl ?_
  refine qS_iload_n qd_48_4 rfl ?_
  refine qS_cvI qd_48_5 (qml_4_49 w) rfl qtm_49 (hpc_3 _ _) (Nat.le_of_ble_eq_true rfl) rfl (Nat.le_of_ble_eq_true rfl) H (fun r1 s1 H => ?_) (fun x s1 H => Or.inr ⟨x, rfl, H⟩)
  refine qS_istore_n (a := [(0, .ref 7), (1, qI p0)]) qd_48_8 (Nat.le_of_ble_eq_true rfl) (zsub_c rfl (zsub_c rfl zsub_n)) rfl ?_
  refine qS_aload_n qd_48_9 rfl ?_
  refine qS_getfield (v := .ref 3) qd_48_10 (qfl_4_15 w) (hpc_7 _ _) rfl ?_
  refine qS_iload_n qd_48_13 rfl ?_
  refine qS_cvI qd_48_14 (qml_4_52 w) rfl qtm_50 (hpc_3 _ _) (Nat.le_of_ble_eq_true rfl) rfl (Nat.le_of_ble_eq_true rfl) H (fun r2 s2 H => ?_) (fun x s1 H => Or.inr ⟨x, rfl, H⟩)
  refine qS_istore_n (a := [(2, qI r1), (0, .ref 7), (1, qI p0)]) qd_48_17 (Nat.le_of_ble_eq_true rfl) (zsub_c rfl (zsub_c rfl (zsub_c rfl zsub_n))) rfl ?_
  refine qS_aload_n qd_48_18 rfl ?_
  refine qS_getfield (v := .ref 3) qd_48_19 (qfl_4_15 w) (hpc_7 _ _) rfl ?_
  refine qS_iload_n qd_48_22 rfl ?_
  refine qS_cvI qd_48_23 (qml_4_45 w) rfl qtm_35 (hpc_3 _ _) (Nat.le_of_ble_eq_true rfl) rfl (Nat.le_of_ble_eq_true rfl) H (fun r3 s3 H => ?_) (fun x s1 H => Or.inr ⟨x, rfl, H⟩)
  obtain ⟨h26a, H1, H2, H3, H4, H5, H6, H7, H8, H9, Hd⟩ := H
  by_cases hc0 : r3 = 7
  · refine qS_tsw qd_48_26 (t := 88) h26a (by rw [hc0]; rfl) ?_
    have H := H1 hc0
    refine qS_aload_n qd_48_88 rfl ?_
    refine qS_getfield (v := .ref 3) qd_48_89 (qfl_4_15 w) (hpc_7 _ _) rfl ?_
    refine qS_iload_n qd_48_92 rfl ?_
    refine qS_bipush qd_48_93 (by decide) ?_
    refine qS_cvI qd_48_95 (qml_4_57 w) rfl qtm_51 (hpc_3 _ _) (Nat.le_of_ble_eq_true rfl) rfl (Nat.le_of_ble_eq_true rfl) H (fun r4 s4 H => ?_) (fun x s1 H => Or.inr ⟨x, rfl, H⟩)
    exact qS_zreturn qd_48_98 rfl H.1 (Or.inl ⟨_, rfl, H.2⟩)
  by_cases hc1 : r3 = 8
  · refine qS_tsw qd_48_26 (t := 99) h26a (by rw [hc1]; rfl) ?_
    have H := H2 hc1
    refine qS_aload_n qd_48_99 rfl ?_
    refine qS_getfield (v := .ref 3) qd_48_100 (qfl_4_15 w) (hpc_7 _ _) rfl ?_
    refine qS_iload_n qd_48_103 rfl ?_
    refine qS_cvI qd_48_104 (qml_4_45 w) rfl qtm_35 (hpc_3 _ _) (Nat.le_of_ble_eq_true rfl) rfl (Nat.le_of_ble_eq_true rfl) H (fun r5 s5 H => ?_) (fun x s1 H => Or.inr ⟨x, rfl, H⟩)
    refine qS_iconst qd_48_107 ?_
    obtain ⟨h108a, H1, H2⟩ := H
    refine qS_icmp qd_48_108 rfl (zcnd_ne (a := r5) (b := 1) h108a ⟨by decide, by decide⟩ (fun t => qR w _ _ t _ _ _ _) (fun hc => ?_) (fun hc => ?_))
    · have H := H1 hc; clear H1 H2 hc
      refine qS_iconst qd_48_111 ?_
      refine qS_goto qd_48_112 rfl ?_
      exact qS_sub zsub_n H
    · have H := H2 hc; clear H1 H2 hc
      refine qS_iconst qd_48_115 ?_
      exact qS_sub zsub_n H
  by_cases hc2 : r3 = 9
  · refine qS_tsw qd_48_26 (t := 128) h26a (by rw [hc2]; rfl) ?_
    have H := H3 hc2
    refine qS_aload_n qd_48_128 rfl ?_
    refine qS_getfield (v := .ref 3) qd_48_129 (qfl_4_15 w) (hpc_7 _ _) rfl ?_
    refine qS_iload_n qd_48_132 rfl ?_
    refine qS_cvI qd_48_133 (qml_4_45 w) rfl qtm_35 (hpc_3 _ _) (Nat.le_of_ble_eq_true rfl) rfl (Nat.le_of_ble_eq_true rfl) H (fun r6 s6 H => ?_) (fun x s1 H => Or.inr ⟨x, rfl, H⟩)
    refine qS_bipush qd_48_136 (by decide) ?_
    obtain ⟨h138a, H1, H2⟩ := H
    refine qS_icmp qd_48_138 rfl (zcnd_ne (a := r6) (b := 7) h138a ⟨by decide, by decide⟩ (fun t => qR w _ _ t _ _ _ _) (fun hc => ?_) (fun hc => ?_))
    · have H := H1 hc; clear H1 H2 hc
      refine qS_aload_n qd_48_141 rfl ?_
      refine qS_iload_n qd_48_142 rfl ?_
      refine qS_bipush qd_48_143 (by decide) ?_
      refine qS_cvI qd_48_145 (qml_4_61 w) rfl qtm_52 (hpc_7 _ _) (Nat.le_of_ble_eq_true rfl) rfl (Nat.le_of_ble_eq_true rfl) H (fun r7 s7 H => ?_) (fun x s1 H => Or.inr ⟨x, rfl, H⟩)
      obtain ⟨h148a, H1, H2⟩ := H
      refine qS_if0 qd_48_148 rfl (zcnd_eq (a := r7) (b := 0) h148a ⟨by decide, by decide⟩ (fun t => qR w _ _ t _ _ _ _) (fun hc => ?_) (fun hc => ?_))
      · have H := H1 hc; clear H1 H2 hc
        exact qS_sub zsub_n H
      · have H := H2 hc; clear H1 H2 hc
        refine qS_iconst qd_48_151 ?_
        refine qS_goto qd_48_152 rfl ?_
        exact qS_sub zsub_n H
    · have H := H2 hc; clear H1 H2 hc
      exact qS_sub zsub_n H
  by_cases hc3 : r3 = 10 ∨ r3 = 11
  · refine qS_tsw qd_48_26 (t := 157) h26a (by rcases hc3 with hq | hq <;> (rw [hq]; rfl)) ?_
    have H := H4 hc3
    refine qS_aload_n qd_48_157 rfl ?_
    refine qS_getfield (v := .ref 3) qd_48_158 (qfl_4_15 w) (hpc_7 _ _) rfl ?_
    refine qS_iload_n qd_48_161 rfl ?_
    refine qS_cvI qd_48_162 (qml_4_45 w) rfl qtm_35 (hpc_3 _ _) (Nat.le_of_ble_eq_true rfl) rfl (Nat.le_of_ble_eq_true rfl) H (fun r8 s8 H => ?_) (fun x s1 H => Or.inr ⟨x, rfl, H⟩)
    refine qS_bipush qd_48_165 (by decide) ?_
    obtain ⟨h167a, H1, H2⟩ := H
    refine qS_icmp qd_48_167 rfl (zcnd_ne (a := r8) (b := 7) h167a ⟨by decide, by decide⟩ (fun t => qR w _ _ t _ _ _ _) (fun hc => ?_) (fun hc => ?_))
    · have H := H1 hc; clear H1 H2 hc
      refine qS_aload_n qd_48_170 rfl ?_
      refine qS_iload_n qd_48_171 rfl ?_
      refine qS_cvI qd_48_172 (qml_4_64 w) rfl qtm_53 (hpc_7 _ _) (Nat.le_of_ble_eq_true rfl) rfl (Nat.le_of_ble_eq_true rfl) H (fun r9 s9 H => ?_) (fun x s1 H => Or.inr ⟨x, rfl, H⟩)
      obtain ⟨h175a, H1, H2⟩ := H
      refine qS_if0 qd_48_175 rfl (zcnd_eq (a := r9) (b := 0) h175a ⟨by decide, by decide⟩ (fun t => qR w _ _ t _ _ _ _) (fun hc => ?_) (fun hc => ?_))
      · have H := H1 hc; clear H1 H2 hc
        exact qS_sub zsub_n H
      · have H := H2 hc; clear H1 H2 hc
        refine qS_iconst qd_48_178 ?_
        refine qS_goto qd_48_179 rfl ?_
        exact qS_sub zsub_n H
    · have H := H2 hc; clear H1 H2 hc
      exact qS_sub zsub_n H
  by_cases hc4 : r3 = 12
  · refine qS_tsw qd_48_26 (t := 184) h26a (by rw [hc4]; rfl) ?_
    have H := H5 hc4
    refine qS_aload_n qd_48_184 rfl ?_
    refine qS_iload_n qd_48_185 rfl ?_
    refine qS_iload_n qd_48_186 rfl ?_
    refine qS_cvI qd_48_187 (qml_4_67 w) rfl qtm_54 (hpc_7 _ _) (Nat.le_of_ble_eq_true rfl) rfl (Nat.le_of_ble_eq_true rfl) H (fun r10 s10 H => ?_) (fun x s1 H => Or.inr ⟨x, rfl, H⟩)
    exact qS_zreturn qd_48_190 rfl H.1 (Or.inl ⟨_, rfl, H.2⟩)
  by_cases hc5 : r3 = 15
  · refine qS_tsw qd_48_26 (t := 207) h26a (by rw [hc5]; rfl) ?_
    have H := H6 hc5
    refine qS_iload_n qd_48_207 rfl ?_
    refine qS_aload_n qd_48_208 rfl ?_
    refine qS_getfield (v := .ref 3) qd_48_209 (qfl_4_15 w) (hpc_7 _ _) rfl ?_
    refine qS_iload_n qd_48_212 rfl ?_
    refine qS_cvI qd_48_213 (qml_4_45 w) rfl qtm_35 (hpc_3 _ _) (Nat.le_of_ble_eq_true rfl) rfl (Nat.le_of_ble_eq_true rfl) H (fun r11 s11 H => ?_) (fun x s1 H => Or.inr ⟨x, rfl, H⟩)
    refine qS_csI qd_48_216 (qml_4_70 w) rfl (Nat.le_of_ble_eq_true rfl) rfl (Nat.le_of_ble_eq_true rfl) H (fun r12 s12 H => ?_) (fun x s1 H => Or.inr ⟨x, rfl, H⟩)
    exact qS_zreturn qd_48_219 rfl H.1 (Or.inl ⟨_, rfl, H.2⟩)
  by_cases hc6 : r3 = 16
  · refine qS_tsw qd_48_26 (t := 117) h26a (by rw [hc6]; rfl) ?_
    have H := H7 hc6
    refine qS_aload_n qd_48_117 rfl ?_
    refine qS_getfield (v := .ref 3) qd_48_118 (qfl_4_15 w) (hpc_7 _ _) rfl ?_
    refine qS_iload_n qd_48_121 rfl ?_
    refine qS_bipush qd_48_122 (by decide) ?_
    refine qS_cvI qd_48_124 (qml_4_57 w) rfl qtm_51 (hpc_3 _ _) (Nat.le_of_ble_eq_true rfl) rfl (Nat.le_of_ble_eq_true rfl) H (fun r13 s13 H => ?_) (fun x s1 H => Or.inr ⟨x, rfl, H⟩)
    exact qS_zreturn qd_48_127 rfl H.1 (Or.inl ⟨_, rfl, H.2⟩)
  by_cases hc7 : r3 = 17
  · refine qS_tsw qd_48_26 (t := 191) h26a (by rw [hc7]; rfl) ?_
    have H := H8 hc7
    refine qS_aload_n qd_48_191 rfl ?_
    refine qS_iload_n qd_48_192 rfl ?_
    refine qS_bipush qd_48_193 (by decide) ?_
    refine qS_cvI qd_48_195 (qml_4_61 w) rfl qtm_52 (hpc_7 _ _) (Nat.le_of_ble_eq_true rfl) rfl (Nat.le_of_ble_eq_true rfl) H (fun r14 s14 H => ?_) (fun x s1 H => Or.inr ⟨x, rfl, H⟩)
    exact qS_zreturn qd_48_198 rfl H.1 (Or.inl ⟨_, rfl, H.2⟩)
  by_cases hc8 : r3 = 18
  · refine qS_tsw qd_48_26 (t := 199) h26a (by rw [hc8]; rfl) ?_
    have H := H9 hc8
    refine qS_aload_n qd_48_199 rfl ?_
    refine qS_iload_n qd_48_200 rfl ?_
    refine qS_bipush qd_48_201 (by decide) ?_
    refine qS_cvI qd_48_203 (qml_4_61 w) rfl qtm_52 (hpc_7 _ _) (Nat.le_of_ble_eq_true rfl) rfl (Nat.le_of_ble_eq_true rfl) H (fun r15 s15 H => ?_) (fun x s1 H => Or.inr ⟨x, rfl, H⟩)
    exact qS_zreturn qd_48_206 rfl H.1 (Or.inl ⟨_, rfl, H.2⟩)
  refine qS_tsw qd_48_26 (t := 220) h26a (by
    by_cases hz : r3 < 7 ∨ 18 < r3
    · unfold ztsw; rw [if_pos hz]; rfl
    · have hz2 : r3 = 13 ∨ r3 = 14 := by omega
      rcases hz2 with hq | hq <;> (rw [hq]; rfl)) ?_
  have H := Hd (by omega) (by omega) (by omega) (by omega) (by omega) (by omega) (by omega) (by omega) (by omega) (by omega)
  refine qS_iconst qd_48_220 ?_
  exact qS_zreturn qd_48_221 rfl (Or.inr rfl) (Or.inl ⟨_, rfl, H⟩)
set_option maxRecDepth 100000 in
theorem k48_116 {w : qE} {s : qS} {k0 : Int} {f : Int → qS → Prop} {g : Nat → qS → Prop}  (H : ((k0 = 0 ∨ k0 = 1) ∧ f k0 s)) : qR w 4 qm48 116 [] [qI k0] s (qPI f g) := by
  exact qS_zreturn qd_48_116 rfl H.1 (Or.inl ⟨_, rfl, H.2⟩)
set_option maxRecDepth 100000 in
theorem k48_155 {w : qE} {s : qS}  {f : Int → qS → Prop} {g : Nat → qS → Prop}  (H : qR w 4 qm48 156 [] [qI 0] s (qPI f g)) : qR w 4 qm48 155 [] [] s (qPI f g) := by
  refine qS_iconst qd_48_155 ?_
  exact qS_sub zsub_n H
set_option maxRecDepth 100000 in
theorem k48_156 {w : qE} {s : qS} {k0 : Int} {f : Int → qS → Prop} {g : Nat → qS → Prop}  (H : ((k0 = 0 ∨ k0 = 1) ∧ f k0 s)) : qR w 4 qm48 156 [] [qI k0] s (qPI f g) := by
  exact qS_zreturn qd_48_156 rfl H.1 (Or.inl ⟨_, rfl, H.2⟩)
set_option maxRecDepth 100000 in
theorem k48_182 {w : qE} {s : qS}  {f : Int → qS → Prop} {g : Nat → qS → Prop}  (H : qR w 4 qm48 183 [] [qI 0] s (qPI f g)) : qR w 4 qm48 182 [] [] s (qPI f g) := by
  refine qS_iconst qd_48_182 ?_
  exact qS_sub zsub_n H
set_option maxRecDepth 100000 in
theorem k48_183 {w : qE} {s : qS} {k0 : Int} {f : Int → qS → Prop} {g : Nat → qS → Prop}  (H : ((k0 = 0 ∨ k0 = 1) ∧ f k0 s)) : qR w 4 qm48 183 [] [qI k0] s (qPI f g) := by
  exact qS_zreturn qd_48_183 rfl H.1 (Or.inl ⟨_, rfl, H.2⟩)
set_option maxRecDepth 100000 in
theorem k49 {w : qE} {s : qS} {p0 : Int} {f : Int → qS → Prop} {g : Nat → qS → Prop}  (H : qW w 1 36 [.ref 4, qI p0, qI 1] s (qPI (fun r1 s1 => f r1 s1) g)) : qW w 2 49 [.ref 3, qI p0] s (qPI f g) := by
  refine qW.of (M := qm49) (l := [(0, .ref 3), (1, qI p0)]) qtm_49 rfl (Nat.le_of_ble_eq_true rfl) (zsub_c rfl (zsub_c rfl zsub_n)) ?_
  refine qS_aload_n qd_49_0 rfl ?_
  refine qS_getfield (v := .ref 4) qd_49_1 (qfl_2_20 w) (hpc_3 _ _) rfl ?_
  refine qS_iload_n qd_49_4 rfl ?_
  refine qS_iconst qd_49_5 ?_
  refine qS_cvI qd_49_6 (qml_2_93 w) rfl qtm_36 (hpc_4 _ _) (Nat.le_of_ble_eq_true rfl) rfl (Nat.le_of_ble_eq_true rfl) H (fun r1 s1 H => ?_) (fun x s1 H => Or.inr ⟨x, rfl, H⟩)
  exact qS_ireturn qd_49_9 rfl (Or.inl ⟨_, rfl, H⟩)
set_option maxRecDepth 100000 in
theorem k50 {w : qE} {s : qS} {p0 : Int} {f : Int → qS → Prop} {g : Nat → qS → Prop}  (H : qW w 1 36 [.ref 4, qI p0, qI 2] s (qPI (fun r1 s1 => f r1 s1) g)) : qW w 2 50 [.ref 3, qI p0] s (qPI f g) := by
  refine qW.of (M := qm50) (l := [(0, .ref 3), (1, qI p0)]) qtm_50 rfl (Nat.le_of_ble_eq_true rfl) (zsub_c rfl (zsub_c rfl zsub_n)) ?_
  refine qS_aload_n qd_50_0 rfl ?_
  refine qS_getfield (v := .ref 4) qd_50_1 (qfl_2_20 w) (hpc_3 _ _) rfl ?_
  refine qS_iload_n qd_50_4 rfl ?_
  refine qS_iconst qd_50_5 ?_
  refine qS_cvI qd_50_6 (qml_2_93 w) rfl qtm_36 (hpc_4 _ _) (Nat.le_of_ble_eq_true rfl) rfl (Nat.le_of_ble_eq_true rfl) H (fun r1 s1 H => ?_) (fun x s1 H => Or.inr ⟨x, rfl, H⟩)
  exact qS_ireturn qd_50_9 rfl (Or.inl ⟨_, rfl, H⟩)
set_option maxRecDepth 100000 in
theorem k51 {w : qE} {s : qS} {p0 : Int} {p1 : Int} {f : Int → qS → Prop} {g : Nat → qS → Prop}  (H : qW w 1 36 [.ref 4, qI p0, qI 0] s (qPI (fun r1 s1 => Rg r1 ∧ (r1 = 1 → qW w 1 36 [.ref 4, qI p0, qI 5] s1 (qPI (fun r2 s2 => Rg (qand r2 p1) ∧ (qand r2 p1 = 0 → qR w 1 qm51 31 [] [] s2 (qPI f g)) ∧ (qand r2 p1 ≠ 0 → qR w 1 qm51 32 [] [qI 1] s2 (qPI f g))) g)) ∧ (r1 ≠ 1 → qR w 1 qm51 31 [] [] s1 (qPI f g))) g)) : qW w 2 51 [.ref 3, qI p0, qI p1] s (qPI f g) := by
  refine qW.of (M := qm51) (l := [(0, .ref 3), (1, qI p0), (2, qI p1)]) qtm_51 rfl (Nat.le_of_ble_eq_true rfl) (zsub_c rfl (zsub_c rfl (zsub_c rfl zsub_n))) ?_
  refine qS_aload_n qd_51_0 rfl ?_
  refine qS_getfield (v := .ref 4) qd_51_1 (qfl_2_20 w) (hpc_3 _ _) rfl ?_
  refine qS_iload_n qd_51_4 rfl ?_
  refine qS_iconst qd_51_5 ?_
  refine qS_cvI qd_51_6 (qml_2_93 w) rfl qtm_36 (hpc_4 _ _) (Nat.le_of_ble_eq_true rfl) rfl (Nat.le_of_ble_eq_true rfl) H (fun r1 s1 H => ?_) (fun x s1 H => Or.inr ⟨x, rfl, H⟩)
  refine qS_iconst qd_51_9 ?_
  obtain ⟨h10a, H1, H2⟩ := H
  refine qS_icmp qd_51_10 rfl (zcnd_ne (a := r1) (b := 1) h10a ⟨by decide, by decide⟩ (fun t => qR w _ _ t _ _ _ _) (fun hc => ?_) (fun hc => ?_))
  · have H := H1 hc; clear H1 H2 hc
    refine qS_aload_n qd_51_13 rfl ?_
    refine qS_getfield (v := .ref 4) qd_51_14 (qfl_2_20 w) (hpc_3 _ _) rfl ?_
    refine qS_iload_n qd_51_17 rfl ?_
    refine qS_iconst qd_51_18 ?_
    refine qS_cvI qd_51_19 (qml_2_93 w) rfl qtm_36 (hpc_4 _ _) (Nat.le_of_ble_eq_true rfl) rfl (Nat.le_of_ble_eq_true rfl) H (fun r2 s2 H => ?_) (fun x s1 H => Or.inr ⟨x, rfl, H⟩)
    refine qS_iload_n qd_51_22 rfl ?_
    refine qS_iand (a := r2) (b := p1) qd_51_23 ?_
    obtain ⟨h24a, H1, H2⟩ := H
    refine qS_if0 qd_51_24 rfl (zcnd_eq (a := qand r2 p1) (b := 0) h24a ⟨by decide, by decide⟩ (fun t => qR w _ _ t _ _ _ _) (fun hc => ?_) (fun hc => ?_))
    · have H := H1 hc; clear H1 H2 hc
      exact qS_sub zsub_n H
    · have H := H2 hc; clear H1 H2 hc
      refine qS_iconst qd_51_27 ?_
      refine qS_goto qd_51_28 rfl ?_
      exact qS_sub zsub_n H
  · have H := H2 hc; clear H1 H2 hc
    exact qS_sub zsub_n H
set_option maxRecDepth 100000 in
theorem k51_31 {w : qE} {s : qS}  {f : Int → qS → Prop} {g : Nat → qS → Prop}  (H : qR w 1 qm51 32 [] [qI 0] s (qPI f g)) : qR w 1 qm51 31 [] [] s (qPI f g) := by
  refine qS_iconst qd_51_31 ?_
  exact qS_sub zsub_n H
set_option maxRecDepth 100000 in
theorem k51_32 {w : qE} {s : qS} {k0 : Int} {f : Int → qS → Prop} {g : Nat → qS → Prop}  (H : ((k0 = 0 ∨ k0 = 1) ∧ f k0 s)) : qR w 1 qm51 32 [] [qI k0] s (qPI f g) := by
  exact qS_zreturn qd_51_32 rfl H.1 (Or.inl ⟨_, rfl, H.2⟩)
set_option maxRecDepth 100000 in
theorem k52 {w : qE} {s : qS} {p0 : Int} {p1 : Int} {f : Int → qS → Prop} {g : Nat → qS → Prop}  (H : qW w 2 35 [.ref 3, qI p0] s (qPI (fun r1 s1 => Rg r1 ∧ (r1 = 12 → qW w 2 50 [.ref 3, qI p0] s1 (qPI (fun r2 s2 => qW w 2 51 [.ref 3, qI r2, qI p1] s2 (qPI (fun r3 s3 => Rg r3 ∧ (r3 = 0 → qR w 2 qm52 36 [] [] s3 (qPI f g)) ∧ (r3 ≠ 0 → qR w 2 qm52 37 [] [qI 1] s3 (qPI f g))) g)) g)) ∧ (r1 ≠ 12 → qR w 2 qm52 36 [] [] s1 (qPI f g))) g)) : qW w 3 52 [.ref 7, qI p0, qI p1] s (qPI f g) := by
  refine qW.of (M := qm52) (l := [(0, .ref 7), (1, qI p0), (2, qI p1)]) qtm_52 rfl (Nat.le_of_ble_eq_true rfl) (zsub_c rfl (zsub_c rfl (zsub_c rfl zsub_n))) ?_
  refine qS_aload_n qd_52_0 rfl ?_
  refine qS_getfield (v := .ref 3) qd_52_1 (qfl_4_15 w) (hpc_7 _ _) rfl ?_
  refine qS_iload_n qd_52_4 rfl ?_
  refine qS_cvI qd_52_5 (qml_4_45 w) rfl qtm_35 (hpc_3 _ _) (Nat.le_of_ble_eq_true rfl) rfl (Nat.le_of_ble_eq_true rfl) H (fun r1 s1 H => ?_) (fun x s1 H => Or.inr ⟨x, rfl, H⟩)
  refine qS_bipush qd_52_8 (by decide) ?_
  obtain ⟨h10a, H1, H2⟩ := H
  refine qS_icmp qd_52_10 rfl (zcnd_ne (a := r1) (b := 12) h10a ⟨by decide, by decide⟩ (fun t => qR w _ _ t _ _ _ _) (fun hc => ?_) (fun hc => ?_))
  · have H := H1 hc; clear H1 H2 hc
    refine qS_aload_n qd_52_13 rfl ?_
    refine qS_getfield (v := .ref 3) qd_52_14 (qfl_4_15 w) (hpc_7 _ _) rfl ?_
    refine qS_aload_n qd_52_17 rfl ?_
    refine qS_getfield (v := .ref 3) qd_52_18 (qfl_4_15 w) (hpc_7 _ _) rfl ?_
    refine qS_iload_n qd_52_21 rfl ?_
    refine qS_cvI qd_52_22 (qml_4_52 w) rfl qtm_50 (hpc_3 _ _) (Nat.le_of_ble_eq_true rfl) rfl (Nat.le_of_ble_eq_true rfl) H (fun r2 s2 H => ?_) (fun x s1 H => Or.inr ⟨x, rfl, H⟩)
    refine qS_iload_n qd_52_25 rfl ?_
    refine qS_cvI qd_52_26 (qml_4_57 w) rfl qtm_51 (hpc_3 _ _) (Nat.le_of_ble_eq_true rfl) rfl (Nat.le_of_ble_eq_true rfl) H (fun r3 s3 H => ?_) (fun x s1 H => Or.inr ⟨x, rfl, H⟩)
    obtain ⟨h29a, H1, H2⟩ := H
    refine qS_if0 qd_52_29 rfl (zcnd_eq (a := r3) (b := 0) h29a ⟨by decide, by decide⟩ (fun t => qR w _ _ t _ _ _ _) (fun hc => ?_) (fun hc => ?_))
    · have H := H1 hc; clear H1 H2 hc
      exact qS_sub zsub_n H
    · have H := H2 hc; clear H1 H2 hc
      refine qS_iconst qd_52_32 ?_
      refine qS_goto qd_52_33 rfl ?_
      exact qS_sub zsub_n H
  · have H := H2 hc; clear H1 H2 hc
    exact qS_sub zsub_n H
set_option maxRecDepth 100000 in
theorem k52_36 {w : qE} {s : qS}  {f : Int → qS → Prop} {g : Nat → qS → Prop}  (H : qR w 2 qm52 37 [] [qI 0] s (qPI f g)) : qR w 2 qm52 36 [] [] s (qPI f g) := by
  refine qS_iconst qd_52_36 ?_
  exact qS_sub zsub_n H
set_option maxRecDepth 100000 in
theorem k52_37 {w : qE} {s : qS} {k0 : Int} {f : Int → qS → Prop} {g : Nat → qS → Prop}  (H : ((k0 = 0 ∨ k0 = 1) ∧ f k0 s)) : qR w 2 qm52 37 [] [qI k0] s (qPI f g) := by
  exact qS_zreturn qd_52_37 rfl H.1 (Or.inl ⟨_, rfl, H.2⟩)
set_option maxRecDepth 100000 in
theorem k53 {w : qE} {s : qS} {p0 : Int} {f : Int → qS → Prop} {g : Nat → qS → Prop}  (H : qW w 2 49 [.ref 3, qI p0] s (qPI (fun r1 s1 => qW w 3 52 [.ref 7, qI p0, qI 32] s1 (qPI (fun r2 s2 => Rg r2 ∧ (r2 = 0 → qR w 3 qm53 49 [] [] s2 (qPI f g)) ∧ (r2 ≠ 0 → qW w 2 51 [.ref 3, qI r1, qI 2] s2 (qPI (fun r3 s3 => Rg r3 ∧ (r3 = 0 → qR w 3 qm53 49 [] [] s3 (qPI f g)) ∧ (r3 ≠ 0 → qW w 2 51 [.ref 3, qI r1, qI 128] s3 (qPI (fun r4 s4 => Rg r4 ∧ (r4 = 0 → qR w 3 qm53 50 [] [qI 1] s4 (qPI f g)) ∧ (r4 ≠ 0 → qR w 3 qm53 49 [] [] s4 (qPI f g))) g))) g))) g)) g)) : qW w 4 53 [.ref 7, qI p0] s (qPI f g) := by
  refine qW.of (M := qm53) (l := [(0, .ref 7), (1, qI p0)]) qtm_53 rfl (Nat.le_of_ble_eq_true rfl) (zsub_c rfl (zsub_c rfl zsub_n)) ?_
  refine qS_aload_n qd_53_0 rfl ?_
  refine qS_getfield (v := .ref 3) qd_53_1 (qfl_4_15 w) (hpc_7 _ _) rfl ?_
  refine qS_iload_n qd_53_4 rfl ?_
  refine qS_cvI qd_53_5 (qml_4_49 w) rfl qtm_49 (hpc_3 _ _) (Nat.le_of_ble_eq_true rfl) rfl (Nat.le_of_ble_eq_true rfl) H (fun r1 s1 H => ?_) (fun x s1 H => Or.inr ⟨x, rfl, H⟩)
  refine qS_istore_n (a := [(0, .ref 7), (1, qI p0)]) qd_53_8 (Nat.le_of_ble_eq_true rfl) (zsub_c rfl (zsub_c rfl zsub_n)) rfl ?_
  refine qS_aload_n qd_53_9 rfl ?_
  refine qS_iload_n qd_53_10 rfl ?_
  refine qS_bipush qd_53_11 (by decide) ?_
  refine qS_cvI qd_53_13 (qml_4_61 w) rfl qtm_52 (hpc_7 _ _) (Nat.le_of_ble_eq_true rfl) rfl (Nat.le_of_ble_eq_true rfl) H (fun r2 s2 H => ?_) (fun x s1 H => Or.inr ⟨x, rfl, H⟩)
  obtain ⟨h16a, H1, H2⟩ := H
  refine qS_if0 qd_53_16 rfl (zcnd_eq (a := r2) (b := 0) h16a ⟨by decide, by decide⟩ (fun t => qR w _ _ t _ _ _ _) (fun hc => ?_) (fun hc => ?_))
  · have H := H1 hc; clear H1 H2 hc
    exact qS_sub zsub_n H
  · have H := H2 hc; clear H1 H2 hc
    refine qS_aload_n qd_53_19 rfl ?_
    refine qS_getfield (v := .ref 3) qd_53_20 (qfl_4_15 w) (hpc_7 _ _) rfl ?_
    refine qS_iload_n qd_53_23 rfl ?_
    refine qS_iconst qd_53_24 ?_
    refine qS_cvI qd_53_25 (qml_4_57 w) rfl qtm_51 (hpc_3 _ _) (Nat.le_of_ble_eq_true rfl) rfl (Nat.le_of_ble_eq_true rfl) H (fun r3 s3 H => ?_) (fun x s1 H => Or.inr ⟨x, rfl, H⟩)
    obtain ⟨h28a, H1, H2⟩ := H
    refine qS_if0 qd_53_28 rfl (zcnd_eq (a := r3) (b := 0) h28a ⟨by decide, by decide⟩ (fun t => qR w _ _ t _ _ _ _) (fun hc => ?_) (fun hc => ?_))
    · have H := H1 hc; clear H1 H2 hc
      exact qS_sub zsub_n H
    · have H := H2 hc; clear H1 H2 hc
      refine qS_aload_n qd_53_31 rfl ?_
      refine qS_getfield (v := .ref 3) qd_53_32 (qfl_4_15 w) (hpc_7 _ _) rfl ?_
      refine qS_iload_n qd_53_35 rfl ?_
      refine qS_sipush qd_53_36 (by decide) ?_
      refine qS_cvI qd_53_39 (qml_4_57 w) rfl qtm_51 (hpc_3 _ _) (Nat.le_of_ble_eq_true rfl) rfl (Nat.le_of_ble_eq_true rfl) H (fun r4 s4 H => ?_) (fun x s1 H => Or.inr ⟨x, rfl, H⟩)
      obtain ⟨h42a, H1, H2⟩ := H
      refine qS_if0 qd_53_42 rfl (zcnd_ne (a := r4) (b := 0) h42a ⟨by decide, by decide⟩ (fun t => qR w _ _ t _ _ _ _) (fun hc => ?_) (fun hc => ?_))
      · have H := H1 hc; clear H1 H2 hc
        refine qS_iconst qd_53_45 ?_
        refine qS_goto qd_53_46 rfl ?_
        exact qS_sub zsub_n H
      · have H := H2 hc; clear H1 H2 hc
        exact qS_sub zsub_n H
set_option maxRecDepth 100000 in
theorem k53_49 {w : qE} {s : qS}  {f : Int → qS → Prop} {g : Nat → qS → Prop}  (H : qR w 3 qm53 50 [] [qI 0] s (qPI f g)) : qR w 3 qm53 49 [] [] s (qPI f g) := by
  refine qS_iconst qd_53_49 ?_
  exact qS_sub zsub_n H
set_option maxRecDepth 100000 in
theorem k53_50 {w : qE} {s : qS} {k0 : Int} {f : Int → qS → Prop} {g : Nat → qS → Prop}  (H : ((k0 = 0 ∨ k0 = 1) ∧ f k0 s)) : qR w 3 qm53 50 [] [qI k0] s (qPI f g) := by
  exact qS_zreturn qd_53_50 rfl H.1 (Or.inl ⟨_, rfl, H.2⟩)
set_option maxRecDepth 100000 in
theorem k54 {w : qE} {s : qS} {p0 : Int} {p1 : Int} {f : Int → qS → Prop} {g : Nat → qS → Prop}  (H : qW w 2 51 [.ref 3, qI p0, qI 3] s (qPI (fun r1 s1 => Rg r1 ∧ (r1 = 0 → qR w 2 qm54 29 [] [] s1 (qPI f g)) ∧ (r1 ≠ 0 → qW w 2 51 [.ref 3, qI p1, qI 48] s1 (qPI (fun r2 s2 => Rg r2 ∧ (r2 = 0 → qR w 2 qm54 29 [] [] s2 (qPI f g)) ∧ (r2 ≠ 0 → qR w 2 qm54 30 [] [qI 1] s2 (qPI f g))) g))) g)) : qW w 3 54 [.ref 7, qI p0, qI p1] s (qPI f g) := by
  refine qW.of (M := qm54) (l := [(0, .ref 7), (1, qI p0), (2, qI p1)]) qtm_54 rfl (Nat.le_of_ble_eq_true rfl) (zsub_c rfl (zsub_c rfl (zsub_c rfl zsub_n))) ?_
  refine qS_aload_n qd_54_0 rfl ?_
  refine qS_getfield (v := .ref 3) qd_54_1 (qfl_4_15 w) (hpc_7 _ _) rfl ?_
  refine qS_iload_n qd_54_4 rfl ?_
  refine qS_iconst qd_54_5 ?_
  refine qS_cvI qd_54_6 (qml_4_57 w) rfl qtm_51 (hpc_3 _ _) (Nat.le_of_ble_eq_true rfl) rfl (Nat.le_of_ble_eq_true rfl) H (fun r1 s1 H => ?_) (fun x s1 H => Or.inr ⟨x, rfl, H⟩)
  obtain ⟨h9a, H1, H2⟩ := H
  refine qS_if0 qd_54_9 rfl (zcnd_eq (a := r1) (b := 0) h9a ⟨by decide, by decide⟩ (fun t => qR w _ _ t _ _ _ _) (fun hc => ?_) (fun hc => ?_))
  · have H := H1 hc; clear H1 H2 hc
    exact qS_sub zsub_n H
  · have H := H2 hc; clear H1 H2 hc
    refine qS_aload_n qd_54_12 rfl ?_
    refine qS_getfield (v := .ref 3) qd_54_13 (qfl_4_15 w) (hpc_7 _ _) rfl ?_
    refine qS_iload_n qd_54_16 rfl ?_
    refine qS_bipush qd_54_17 (by decide) ?_
    refine qS_cvI qd_54_19 (qml_4_57 w) rfl qtm_51 (hpc_3 _ _) (Nat.le_of_ble_eq_true rfl) rfl (Nat.le_of_ble_eq_true rfl) H (fun r2 s2 H => ?_) (fun x s1 H => Or.inr ⟨x, rfl, H⟩)
    obtain ⟨h22a, H1, H2⟩ := H
    refine qS_if0 qd_54_22 rfl (zcnd_eq (a := r2) (b := 0) h22a ⟨by decide, by decide⟩ (fun t => qR w _ _ t _ _ _ _) (fun hc => ?_) (fun hc => ?_))
    · have H := H1 hc; clear H1 H2 hc
      exact qS_sub zsub_n H
    · have H := H2 hc; clear H1 H2 hc
      refine qS_iconst qd_54_25 ?_
      refine qS_goto qd_54_26 rfl ?_
      exact qS_sub zsub_n H
set_option maxRecDepth 100000 in
theorem k54_29 {w : qE} {s : qS}  {f : Int → qS → Prop} {g : Nat → qS → Prop}  (H : qR w 2 qm54 30 [] [qI 0] s (qPI f g)) : qR w 2 qm54 29 [] [] s (qPI f g) := by
  refine qS_iconst qd_54_29 ?_
  exact qS_sub zsub_n H
set_option maxRecDepth 100000 in
theorem k54_30 {w : qE} {s : qS} {k0 : Int} {f : Int → qS → Prop} {g : Nat → qS → Prop}  (H : ((k0 = 0 ∨ k0 = 1) ∧ f k0 s)) : qR w 2 qm54 30 [] [qI k0] s (qPI f g) := by
  exact qS_zreturn qd_54_30 rfl H.1 (Or.inl ⟨_, rfl, H.2⟩)
set_option maxRecDepth 100000 in
theorem k55 {w : qE} {s : qS} {p0 : Int} {p1 : Int} {f : Int → qS → Prop} {g : Nat → qS → Prop}  (H : Rg p0 ∧ ((p0 = 1 ∨ p0 = 2 ∨ p0 = 3 ∨ p0 = 4) → Rg p1 ∧ (p1 = 9 → qR w 0 qm55 63 [] [qI 1] s (qPI f g)) ∧ (p1 ≠ 9 → qR w 0 qm55 63 [] [qI 0] s (qPI f g))) ∧ ((p0 = 5 ∨ p0 = 8) → Rg p1 ∧ (p1 = 10 → qR w 0 qm55 75 [] [qI 1] s (qPI f g)) ∧ (p1 ≠ 10 → qR w 0 qm55 75 [] [qI 0] s (qPI f g))) ∧ ((p0 = 6 ∨ p0 = 7) → Rg p1 ∧ (p1 = 10 → qR w 0 qm55 88 [] [] s (qPI f g)) ∧ (p1 ≠ 10 → (p1 = 11 → qR w 0 qm55 88 [] [] s (qPI f g)) ∧ (p1 ≠ 11 → qR w 0 qm55 93 [] [qI 0] s (qPI f g)))) ∧ (p0 = 9 → Rg p1 ∧ (p1 = 11 → qR w 0 qm55 105 [] [qI 1] s (qPI f g)) ∧ (p1 ≠ 11 → qR w 0 qm55 105 [] [qI 0] s (qPI f g))) ∧ (p0 ≠ 1 → p0 ≠ 2 → p0 ≠ 3 → p0 ≠ 4 → p0 ≠ 5 → p0 ≠ 6 → p0 ≠ 7 → p0 ≠ 8 → p0 ≠ 9 → f 0 s)) : qW w 1 55 [qI p0, qI p1] s (qPI f g) := by
  refine qW.of (M := qm55) (l := [(0, qI p0), (1, qI p1)]) qtm_55 rfl (Nat.le_of_ble_eq_true rfl) (zsub_c rfl (zsub_c rfl zsub_n)) ?_
  refine qS_iload_n qd_55_0 rfl ?_
  obtain ⟨h1a, H1, H2, H3, H4, Hd⟩ := H
  by_cases hc0 : p0 = 1 ∨ p0 = 2 ∨ p0 = 3 ∨ p0 = 4
  · refine qS_tsw qd_55_1 (t := 52) h1a (by rcases hc0 with hq | hq | hq | hq <;> (rw [hq]; rfl)) ?_
    have H := H1 hc0
    refine qS_iload_n qd_55_52 rfl ?_
    refine qS_bipush qd_55_53 (by decide) ?_
    obtain ⟨h55a, H1, H2⟩ := H
    refine qS_icmp qd_55_55 rfl (zcnd_ne (a := p1) (b := 9) h55a ⟨by decide, by decide⟩ (fun t => qR w _ _ t _ _ _ _) (fun hc => ?_) (fun hc => ?_))
    · have H := H1 hc; clear H1 H2 hc
      refine qS_iconst qd_55_58 ?_
      refine qS_goto qd_55_59 rfl ?_
      exact qS_sub zsub_n H
    · have H := H2 hc; clear H1 H2 hc
      refine qS_iconst qd_55_62 ?_
      exact qS_sub zsub_n H
  by_cases hc1 : p0 = 5 ∨ p0 = 8
  · refine qS_tsw qd_55_1 (t := 64) h1a (by rcases hc1 with hq | hq <;> (rw [hq]; rfl)) ?_
    have H := H2 hc1
    refine qS_iload_n qd_55_64 rfl ?_
    refine qS_bipush qd_55_65 (by decide) ?_
    obtain ⟨h67a, H1, H2⟩ := H
    refine qS_icmp qd_55_67 rfl (zcnd_ne (a := p1) (b := 10) h67a ⟨by decide, by decide⟩ (fun t => qR w _ _ t _ _ _ _) (fun hc => ?_) (fun hc => ?_))
    · have H := H1 hc; clear H1 H2 hc
      refine qS_iconst qd_55_70 ?_
      refine qS_goto qd_55_71 rfl ?_
      exact qS_sub zsub_n H
    · have H := H2 hc; clear H1 H2 hc
      refine qS_iconst qd_55_74 ?_
      exact qS_sub zsub_n H
  by_cases hc2 : p0 = 6 ∨ p0 = 7
  · refine qS_tsw qd_55_1 (t := 76) h1a (by rcases hc2 with hq | hq <;> (rw [hq]; rfl)) ?_
    have H := H3 hc2
    refine qS_iload_n qd_55_76 rfl ?_
    refine qS_bipush qd_55_77 (by decide) ?_
    obtain ⟨h79a, H1, H2⟩ := H
    refine qS_icmp qd_55_79 rfl (zcnd_eq (a := p1) (b := 10) h79a ⟨by decide, by decide⟩ (fun t => qR w _ _ t _ _ _ _) (fun hc => ?_) (fun hc => ?_))
    · have H := H1 hc; clear H1 H2 hc
      exact qS_sub zsub_n H
    · have H := H2 hc; clear H1 H2 hc
      refine qS_iload_n qd_55_82 rfl ?_
      refine qS_bipush qd_55_83 (by decide) ?_
      obtain ⟨H1, H2⟩ := H
      refine qS_icmp qd_55_85 rfl (zcnd_ne (a := p1) (b := 11) h79a ⟨by decide, by decide⟩ (fun t => qR w _ _ t _ _ _ _) (fun hc => ?_) (fun hc => ?_))
      · have H := H1 hc; clear H1 H2 hc
        exact qS_sub zsub_n H
      · have H := H2 hc; clear H1 H2 hc
        refine qS_iconst qd_55_92 ?_
        exact qS_sub zsub_n H
  by_cases hc3 : p0 = 9
  · refine qS_tsw qd_55_1 (t := 94) h1a (by rw [hc3]; rfl) ?_
    have H := H4 hc3
    refine qS_iload_n qd_55_94 rfl ?_
    refine qS_bipush qd_55_95 (by decide) ?_
    obtain ⟨h97a, H1, H2⟩ := H
    refine qS_icmp qd_55_97 rfl (zcnd_ne (a := p1) (b := 11) h97a ⟨by decide, by decide⟩ (fun t => qR w _ _ t _ _ _ _) (fun hc => ?_) (fun hc => ?_))
    · have H := H1 hc; clear H1 H2 hc
      refine qS_iconst qd_55_100 ?_
      refine qS_goto qd_55_101 rfl ?_
      exact qS_sub zsub_n H
    · have H := H2 hc; clear H1 H2 hc
      refine qS_iconst qd_55_104 ?_
      exact qS_sub zsub_n H
  refine qS_tsw qd_55_1 (t := 106) h1a (by unfold ztsw; rw [if_pos (by omega)]; rfl) ?_
  have H := Hd (by omega) (by omega) (by omega) (by omega) (by omega) (by omega) (by omega) (by omega) (by omega)
  refine qS_iconst qd_55_106 ?_
  exact qS_zreturn qd_55_107 rfl (Or.inl rfl) (Or.inl ⟨_, rfl, H⟩)
set_option maxRecDepth 100000 in
theorem k55_63 {w : qE} {s : qS} {k0 : Int} {f : Int → qS → Prop} {g : Nat → qS → Prop}  (H : ((k0 = 0 ∨ k0 = 1) ∧ f k0 s)) : qR w 0 qm55 63 [] [qI k0] s (qPI f g) := by
  exact qS_zreturn qd_55_63 rfl H.1 (Or.inl ⟨_, rfl, H.2⟩)
set_option maxRecDepth 100000 in
theorem k55_75 {w : qE} {s : qS} {k0 : Int} {f : Int → qS → Prop} {g : Nat → qS → Prop}  (H : ((k0 = 0 ∨ k0 = 1) ∧ f k0 s)) : qR w 0 qm55 75 [] [qI k0] s (qPI f g) := by
  exact qS_zreturn qd_55_75 rfl H.1 (Or.inl ⟨_, rfl, H.2⟩)
set_option maxRecDepth 100000 in
theorem k55_88 {w : qE} {s : qS}  {f : Int → qS → Prop} {g : Nat → qS → Prop}  (H : qR w 0 qm55 93 [] [qI 1] s (qPI f g)) : qR w 0 qm55 88 [] [] s (qPI f g) := by
  refine qS_iconst qd_55_88 ?_
  refine qS_goto qd_55_89 rfl ?_
  exact qS_sub zsub_n H
set_option maxRecDepth 100000 in
theorem k55_93 {w : qE} {s : qS} {k0 : Int} {f : Int → qS → Prop} {g : Nat → qS → Prop}  (H : ((k0 = 0 ∨ k0 = 1) ∧ f k0 s)) : qR w 0 qm55 93 [] [qI k0] s (qPI f g) := by
  exact qS_zreturn qd_55_93 rfl H.1 (Or.inl ⟨_, rfl, H.2⟩)
set_option maxRecDepth 100000 in
theorem k55_105 {w : qE} {s : qS} {k0 : Int} {f : Int → qS → Prop} {g : Nat → qS → Prop}  (H : ((k0 = 0 ∨ k0 = 1) ∧ f k0 s)) : qR w 0 qm55 105 [] [qI k0] s (qPI f g) := by
  exact qS_zreturn qd_55_105 rfl H.1 (Or.inl ⟨_, rfl, H.2⟩)
set_option maxRecDepth 100000 in
theorem k56 {w : qE} {s : qS}  {f : qS → Prop} {g : Nat → qS → Prop}  (H : qW w 1 19 [.ref 1, qI 2] s (qPI (fun r1 s1 => qW w 1 57 [qI r1] (qset s1 17 8 r1) (qPI (fun r2 s2 => qW w 1 21 [.ref 1] s2 (qPI (fun r3 s3 => qW w 1 20 [.ref 1, qI r2, qI (r3 - 2)] s3 (qPV (fun s4 => qW w 4 58 [.ref 17] s4 (qPI (fun r5 s5 => qW w 1 19 [.ref 1, qI 2] (qset s5 17 9 r5) (qPI (fun r6 s6 => Rg r6 ∧ (r6 = 0 → Rg (qand (s6 17 8) 512) ∧ (qand (s6 17 8) 512 = 0 → qR w 4 qm56 92 [(0, .ref 17)] [qI 1] (qset s6 17 10 r6) (qPV f g)) ∧ (qand (s6 17 8) 512 ≠ 0 → qR w 4 qm56 92 [(0, .ref 17)] [qI 0] (qset s6 17 10 r6) (qPV f g))) ∧ (r6 ≠ 0 → qW w 3 59 [.ref 3, qI r6] (qset s6 17 10 r6) (qPI (fun r7 s7 => qR w 4 qm56 92 [(0, .ref 17)] [qI r7] s7 (qPV f g)) g))) g)) g)) g)) g)) g)) g)) : qW w 5 56 [.ref 17] s (qPV f g) := by
  refine qW.of (M := qm56) (l := [(0, .ref 17)]) qtm_56 rfl (Nat.le_of_ble_eq_true rfl) (zsub_c rfl zsub_n) ?_
  refine qS_aload_n qd_56_0 rfl ?_
  refine qS_aload_n qd_56_1 rfl ?_
  refine qS_getfield (v := .ref 1) qd_56_2 (qfl_6_9 w) (hpc_17 _ _) rfl ?_
  refine qS_iconst qd_56_5 ?_
  refine qS_cvI qd_56_6 (qml_6_38 w) rfl qtm_19 (hpc_1 _ _) (Nat.le_of_ble_eq_true rfl) rfl (Nat.le_of_ble_eq_true rfl) H (fun r1 s1 H => ?_) (fun x s1 H => Or.inr ⟨x, rfl, H⟩)
  refine qS_putfield (s1 := qset s1 17 8 r1) qd_56_9 (qfl_6_64 w) (hpc_17 _ _) (Nat.le_of_ble_eq_true rfl) rfl rfl rfl (hps_17_8 _ _ _) ?_
  refine qS_aload_n qd_56_12 rfl ?_
  refine qS_getfield (v := .ref 1) qd_56_13 (qfl_6_9 w) (hpc_17 _ _) rfl ?_
  refine qS_aload_n qd_56_16 rfl ?_
  refine qS_getfield (v := qI r1) qd_56_17 (qfl_6_64 w) (hpc_17 _ _) rfl ?_
  refine qS_csI qd_56_20 (qml_6_67 w) rfl (Nat.le_of_ble_eq_true rfl) rfl (Nat.le_of_ble_eq_true rfl) H (fun r2 s2 H => ?_) (fun x s1 H => Or.inr ⟨x, rfl, H⟩)
  refine qS_aload_n qd_56_23 rfl ?_
  refine qS_getfield (v := .ref 1) qd_56_24 (qfl_6_9 w) (hpc_17 _ _) rfl ?_
  refine qS_cvI qd_56_27 (qml_6_57 w) rfl qtm_21 (hpc_1 _ _) (Nat.le_of_ble_eq_true rfl) rfl (Nat.le_of_ble_eq_true rfl) H (fun r3 s3 H => ?_) (fun x s1 H => Or.inr ⟨x, rfl, H⟩)
  refine qS_iconst qd_56_30 ?_
  refine qS_isub (a := r3) (b := 2) qd_56_31 ?_
  refine qS_cvV qd_56_32 (qml_6_45 w) rfl qtm_20 (hpc_1 _ _) (Nat.le_of_ble_eq_true rfl) rfl (Nat.le_of_ble_eq_true rfl) H (fun s4 H => ?_) (fun x s1 H => Or.inr ⟨x, rfl, H⟩)
  refine qS_aload_n qd_56_35 rfl ?_
  refine qS_aload_n qd_56_36 rfl ?_
  refine qS_cvI qd_56_37 (qml_6_71 w) rfl qtm_58 (hpc_17 _ _) (Nat.le_of_ble_eq_true rfl) rfl (Nat.le_of_ble_eq_true rfl) H (fun r5 s5 H => ?_) (fun x s1 H => Or.inr ⟨x, rfl, H⟩)
  refine qS_putfield (s1 := qset s5 17 9 r5) qd_56_40 (qfl_6_74 w) (hpc_17 _ _) (Nat.le_of_ble_eq_true rfl) rfl rfl rfl (hps_17_9 _ _ _) ?_
  refine qS_aload_n qd_56_43 rfl ?_
  refine qS_aload_n qd_56_44 rfl ?_
  refine qS_getfield (v := .ref 1) qd_56_45 (qfl_6_9 w) (hpc_17 _ _) rfl ?_
  refine qS_iconst qd_56_48 ?_
  refine qS_cvI qd_56_49 (qml_6_38 w) rfl qtm_19 (hpc_1 _ _) (Nat.le_of_ble_eq_true rfl) rfl (Nat.le_of_ble_eq_true rfl) H (fun r6 s6 H => ?_) (fun x s1 H => Or.inr ⟨x, rfl, H⟩)
  refine qS_putfield (s1 := qset s6 17 10 r6) qd_56_52 (qfl_6_77 w) (hpc_17 _ _) (Nat.le_of_ble_eq_true rfl) rfl rfl rfl (hps_17_10 _ _ _) ?_
  refine qS_aload_n qd_56_55 rfl ?_
  refine qS_getfield (v := qI r6) qd_56_56 (qfl_6_77 w) (hpc_17 _ _) rfl ?_
  obtain ⟨h59a, H1, H2⟩ := H
  refine qS_if0 qd_56_59 rfl (zcnd_ne (a := r6) (b := 0) h59a ⟨by decide, by decide⟩ (fun t => qR w _ _ t _ _ _ _) (fun hc => ?_) (fun hc => ?_))
  · have H := H1 hc; clear H1 H2 hc
    refine qS_aload_n qd_56_62 rfl ?_
    refine qS_getfield (v := qI (s6 17 8)) qd_56_63 (qfl_6_64 w) (hpc_17 _ _) rfl ?_
    refine qS_sipush qd_56_66 (by decide) ?_
    refine qS_iand (a := s6 17 8) (b := 512) qd_56_69 ?_
    obtain ⟨h70a, H1, H2⟩ := H
    refine qS_if0 qd_56_70 rfl (zcnd_ne (a := qand (s6 17 8) 512) (b := 0) h70a ⟨by decide, by decide⟩ (fun t => qR w _ _ t _ _ _ _) (fun hc => ?_) (fun hc => ?_))
    · have H := H1 hc; clear H1 H2 hc
      refine qS_iconst qd_56_73 ?_
      refine qS_goto qd_56_74 rfl ?_
      exact qS_sub (zsub_c rfl zsub_n) H
    · have H := H2 hc; clear H1 H2 hc
      refine qS_iconst qd_56_77 ?_
      refine qS_goto qd_56_78 rfl ?_
      exact qS_sub (zsub_c rfl zsub_n) H
  · have H := H2 hc; clear H1 H2 hc
    refine qS_aload_n qd_56_81 rfl ?_
    refine qS_getfield (v := .ref 3) qd_56_82 (qfl_6_15 w) (hpc_17 _ _) rfl ?_
    refine qS_aload_n qd_56_85 rfl ?_
    refine qS_getfield (v := qI r6) qd_56_86 (qfl_6_77 w) (hpc_17 _ _) rfl ?_
    refine qS_cvI qd_56_89 (qml_6_80 w) rfl qtm_59 (hpc_3 _ _) (Nat.le_of_ble_eq_true rfl) rfl (Nat.le_of_ble_eq_true rfl) H (fun r7 s7 H => ?_) (fun x s1 H => Or.inr ⟨x, rfl, H⟩)
    exact qS_sub (zsub_c rfl zsub_n) H
set_option maxRecDepth 100000 in
theorem k56_92 {w : qE} {s : qS} {k0 : Int} {f : qS → Prop} {g : Nat → qS → Prop}  (H : qW w 1 21 [.ref 1] s (qPI (fun r8 s8 => qW w 1 20 [.ref 1, qI k0, qI (r8 - 2)] s8 (qPV (fun s9 => qW w 1 24 [.ref 18] s9 (qPV (fun s10 => qW w 1 19 [.ref 1, qI 2] s10 (qPI (fun r11 s11 => qR w 4 qm56 128 [(0, .ref 17), (2, qI r11), (3, qI 0)] [] s11 (qPV f g)) g)) g)) g)) g)) : qR w 4 qm56 92 [(0, .ref 17)] [qI k0] s (qPV f g) := by
  refine qS_istore_n (a := [(0, .ref 17)]) qd_56_92 (Nat.le_of_ble_eq_true rfl) (zsub_c rfl zsub_n) rfl ?_
  refine qS_aload_n qd_56_93 rfl ?_
  refine qS_getfield (v := .ref 1) qd_56_94 (qfl_6_9 w) (hpc_17 _ _) rfl ?_
  refine qS_iload_n qd_56_97 rfl ?_
  refine qS_aload_n qd_56_98 rfl ?_
  refine qS_getfield (v := .ref 1) qd_56_99 (qfl_6_9 w) (hpc_17 _ _) rfl ?_
  refine qS_cvI qd_56_102 (qml_6_57 w) rfl qtm_21 (hpc_1 _ _) (Nat.le_of_ble_eq_true rfl) rfl (Nat.le_of_ble_eq_true rfl) H (fun r8 s8 H => ?_) (fun x s1 H => Or.inr ⟨x, rfl, H⟩)
  refine qS_iconst qd_56_105 ?_
  refine qS_isub (a := r8) (b := 2) qd_56_106 ?_
  refine qS_cvV qd_56_107 (qml_6_45 w) rfl qtm_20 (hpc_1 _ _) (Nat.le_of_ble_eq_true rfl) rfl (Nat.le_of_ble_eq_true rfl) H (fun s9 H => ?_) (fun x s1 H => Or.inr ⟨x, rfl, H⟩)
  refine qS_aload_n qd_56_110 rfl ?_
  refine qS_getfield (v := .ref 18) qd_56_111 (qfl_6_28 w) (hpc_17 _ _) rfl ?_
  refine qS_cvV qd_56_114 (qml_6_85 w) rfl qtm_24 (hpc_18 _ _) (Nat.le_of_ble_eq_true rfl) rfl (Nat.le_of_ble_eq_true rfl) H (fun s10 H => ?_) (fun x s1 H => Or.inr ⟨x, rfl, H⟩)
  refine qS_aload_n qd_56_117 rfl ?_
  refine qS_getfield (v := .ref 1) qd_56_118 (qfl_6_9 w) (hpc_17 _ _) rfl ?_
  refine qS_iconst qd_56_121 ?_
  refine qS_cvI qd_56_122 (qml_6_38 w) rfl qtm_19 (hpc_1 _ _) (Nat.le_of_ble_eq_true rfl) rfl (Nat.le_of_ble_eq_true rfl) H (fun r11 s11 H => ?_) (fun x s1 H => Or.inr ⟨x, rfl, H⟩)
  refine qS_istore_n (a := [(0, .ref 17)]) qd_56_125 (Nat.le_of_ble_eq_true rfl) (zsub_c rfl zsub_n) rfl ?_
  refine qS_iconst qd_56_126 ?_
  refine qS_istore_n (a := [(2, qI r11), (0, .ref 17)]) qd_56_127 (Nat.le_of_ble_eq_true rfl) (zsub_c rfl (zsub_c rfl zsub_n)) rfl ?_
  exact qS_sub (zsub_c rfl (zsub_c rfl (zsub_c rfl zsub_n))) H
set_option maxRecDepth 100000 in
theorem k56_128 {w : qE} {s : qS} {v2 : Int} {v3 : Int} {f : qS → Prop} {g : Nat → qS → Prop}  (H : Rg v3 ∧ Rg v2 ∧ (v3 < v2 → qW w 4 58 [.ref 17] s (qPI (fun r12 s12 => qW w 3 25 [.ref 18, qI r12] s12 (qPI (fun r13 s13 => qR w 4 qm56 128 [(0, .ref 17), (2, qI v2), (3, qI (v3 + 1))] [] s13 (qPV f g)) g)) g)) ∧ (v2 ≤ v3 → f s)) : qR w 4 qm56 128 [(0, .ref 17), (2, qI v2), (3, qI v3)] [] s (qPV f g) := by
  refine qS_iload_n qd_56_128 rfl ?_
  refine qS_iload_n qd_56_129 rfl ?_
  obtain ⟨h130a, h130b, H1, H2⟩ := H
  refine qS_icmp qd_56_130 rfl (zcnd_ge (a := v3) (b := v2) h130a h130b (fun t => qR w _ _ t _ _ _ _) (fun hc => ?_) (fun hc => ?_))
  · have H := H1 hc; clear H1 H2 hc
    refine qS_aload_n qd_56_133 rfl ?_
    refine qS_getfield (v := .ref 18) qd_56_134 (qfl_6_28 w) (hpc_17 _ _) rfl ?_
    refine qS_aload_n qd_56_137 rfl ?_
    refine qS_cvI qd_56_138 (qml_6_71 w) rfl qtm_58 (hpc_17 _ _) (Nat.le_of_ble_eq_true rfl) rfl (Nat.le_of_ble_eq_true rfl) H (fun r12 s12 H => ?_) (fun x s1 H => Or.inr ⟨x, rfl, H⟩)
    refine qS_cvI qd_56_141 (qml_6_88 w) rfl qtm_25 (hpc_18 _ _) (Nat.le_of_ble_eq_true rfl) rfl (Nat.le_of_ble_eq_true rfl) H (fun r13 s13 H => ?_) (fun x s1 H => Or.inr ⟨x, rfl, H⟩)
    refine qS_pop qd_56_144 rfl ?_
    refine qS_iinc (v := v3) (a := [(0, .ref 17), (2, qI v2)]) qd_56_145 (Nat.le_of_ble_eq_true rfl) rfl (zsub_c rfl (zsub_c rfl zsub_n)) rfl ?_
    refine qS_goto qd_56_148 rfl ?_
    exact qS_sub (zsub_c rfl (zsub_c rfl (zsub_c rfl zsub_n))) H
  · have H := H2 hc; clear H1 H2 hc
    exact qS_vreturn qd_56_151 rfl (Or.inl ⟨rfl, H⟩)
set_option maxRecDepth 100000 in
theorem k57 {w : qE} {s : qS} {p0 : Int} {f : Int → qS → Prop} {g : Nat → qS → Prop}  (H : Rg (qand p0 16) ∧ (qand p0 16 = 0 → qR w 0 qm57 12 [(0, qI p0)] [qI 0] s (qPI f g)) ∧ (qand p0 16 ≠ 0 → qR w 0 qm57 12 [(0, qI p0)] [qI 1] s (qPI f g))) : qW w 1 57 [qI p0] s (qPI f g) := by
  refine qW.of (M := qm57) (l := [(0, qI p0)]) qtm_57 rfl (Nat.le_of_ble_eq_true rfl) (zsub_c rfl zsub_n) ?_
  refine qS_iload_n qd_57_0 rfl ?_
  refine qS_bipush qd_57_1 (by decide) ?_
  refine qS_iand (a := p0) (b := 16) qd_57_3 ?_
  obtain ⟨h4a, H1, H2⟩ := H
  refine qS_if0 qd_57_4 rfl (zcnd_eq (a := qand p0 16) (b := 0) h4a ⟨by decide, by decide⟩ (fun t => qR w _ _ t _ _ _ _) (fun hc => ?_) (fun hc => ?_))
  · have H := H1 hc; clear H1 H2 hc
    refine qS_iconst qd_57_11 ?_
    exact qS_sub (zsub_c rfl zsub_n) H
  · have H := H2 hc; clear H1 H2 hc
    refine qS_iconst qd_57_7 ?_
    refine qS_goto qd_57_8 rfl ?_
    exact qS_sub (zsub_c rfl zsub_n) H
set_option maxRecDepth 100000 in
theorem k57_12 {w : qE} {s : qS} {v0 : Int} {k0 : Int} {f : Int → qS → Prop} {g : Nat → qS → Prop}  (H : Rg (qand v0 1024) ∧ (qand v0 1024 = 0 → qR w 0 qm57 26 [(0, qI v0), (1, qI k0)] [qI 0] s (qPI f g)) ∧ (qand v0 1024 ≠ 0 → qR w 0 qm57 26 [(0, qI v0), (1, qI k0)] [qI 1] s (qPI f g))) : qR w 0 qm57 12 [(0, qI v0)] [qI k0] s (qPI f g) := by
  refine qS_istore_n (a := [(0, qI v0)]) qd_57_12 (Nat.le_of_ble_eq_true rfl) (zsub_c rfl zsub_n) rfl ?_
  refine qS_iload_n qd_57_13 rfl ?_
  refine qS_sipush qd_57_14 (by decide) ?_
  refine qS_iand (a := v0) (b := 1024) qd_57_17 ?_
  obtain ⟨h18a, H1, H2⟩ := H
  refine qS_if0 qd_57_18 rfl (zcnd_eq (a := qand v0 1024) (b := 0) h18a ⟨by decide, by decide⟩ (fun t => qR w _ _ t _ _ _ _) (fun hc => ?_) (fun hc => ?_))
  · have H := H1 hc; clear H1 H2 hc
    refine qS_iconst qd_57_25 ?_
    exact qS_sub (zsub_c rfl (zsub_c rfl zsub_n)) H
  · have H := H2 hc; clear H1 H2 hc
    refine qS_iconst qd_57_21 ?_
    refine qS_goto qd_57_22 rfl ?_
    exact qS_sub (zsub_c rfl (zsub_c rfl zsub_n)) H
set_option maxRecDepth 100000 in
theorem k57_26 {w : qE} {s : qS} {v0 : Int} {v1 : Int} {k0 : Int} {f : Int → qS → Prop} {g : Nat → qS → Prop}  (H : Rg (qand v0 512) ∧ (qand v0 512 = 0 → Rg k0 ∧ (k0 = 0 → qR w 0 qm57 57 [] [] s (qPI f g)) ∧ (k0 ≠ 0 → Rg v1 ∧ (v1 = 0 → qR w 0 qm57 57 [] [] s (qPI f g)) ∧ (v1 ≠ 0 → qR w 0 qm57 62 [] [qI 0] s (qPI f g)))) ∧ (qand v0 512 ≠ 0 → Rg k0 ∧ (k0 = 0 → qR w 0 qm57 47 [] [] s (qPI f g)) ∧ (k0 ≠ 0 → Rg v1 ∧ (v1 = 0 → qR w 0 qm57 48 [] [qI 1] s (qPI f g)) ∧ (v1 ≠ 0 → qR w 0 qm57 47 [] [] s (qPI f g))))) : qR w 0 qm57 26 [(0, qI v0), (1, qI v1)] [qI k0] s (qPI f g) := by
  refine qS_istore_n (a := [(0, qI v0), (1, qI v1)]) qd_57_26 (Nat.le_of_ble_eq_true rfl) (zsub_c rfl (zsub_c rfl zsub_n)) rfl ?_
  refine qS_iload_n qd_57_27 rfl ?_
  refine qS_sipush qd_57_28 (by decide) ?_
  refine qS_iand (a := v0) (b := 512) qd_57_31 ?_
  obtain ⟨h32a, H1, H2⟩ := H
  refine qS_if0 qd_57_32 rfl (zcnd_eq (a := qand v0 512) (b := 0) h32a ⟨by decide, by decide⟩ (fun t => qR w _ _ t _ _ _ _) (fun hc => ?_) (fun hc => ?_))
  · have H := H1 hc; clear H1 H2 hc
    refine qS_iload_n qd_57_49 rfl ?_
    obtain ⟨h50a, H1, H2⟩ := H
    refine qS_if0 qd_57_50 rfl (zcnd_eq (a := k0) (b := 0) h50a ⟨by decide, by decide⟩ (fun t => qR w _ _ t _ _ _ _) (fun hc => ?_) (fun hc => ?_))
    · have H := H1 hc; clear H1 H2 hc
      exact qS_sub zsub_n H
    · have H := H2 hc; clear H1 H2 hc
      refine qS_iload_n qd_57_53 rfl ?_
      obtain ⟨h54a, H1, H2⟩ := H
      refine qS_if0 qd_57_54 rfl (zcnd_ne (a := v1) (b := 0) h54a ⟨by decide, by decide⟩ (fun t => qR w _ _ t _ _ _ _) (fun hc => ?_) (fun hc => ?_))
      · have H := H1 hc; clear H1 H2 hc
        exact qS_sub zsub_n H
      · have H := H2 hc; clear H1 H2 hc
        refine qS_iconst qd_57_61 ?_
        exact qS_sub zsub_n H
  · have H := H2 hc; clear H1 H2 hc
    refine qS_iload_n qd_57_35 rfl ?_
    obtain ⟨h36a, H1, H2⟩ := H
    refine qS_if0 qd_57_36 rfl (zcnd_eq (a := k0) (b := 0) h36a ⟨by decide, by decide⟩ (fun t => qR w _ _ t _ _ _ _) (fun hc => ?_) (fun hc => ?_))
    · have H := H1 hc; clear H1 H2 hc
      exact qS_sub zsub_n H
    · have H := H2 hc; clear H1 H2 hc
      refine qS_iload_n qd_57_39 rfl ?_
      obtain ⟨h40a, H1, H2⟩ := H
      refine qS_if0 qd_57_40 rfl (zcnd_ne (a := v1) (b := 0) h40a ⟨by decide, by decide⟩ (fun t => qR w _ _ t _ _ _ _) (fun hc => ?_) (fun hc => ?_))
      · have H := H1 hc; clear H1 H2 hc
        refine qS_iconst qd_57_43 ?_
        refine qS_goto qd_57_44 rfl ?_
        exact qS_sub zsub_n H
      · have H := H2 hc; clear H1 H2 hc
        exact qS_sub zsub_n H
set_option maxRecDepth 100000 in
theorem k57_47 {w : qE} {s : qS}  {f : Int → qS → Prop} {g : Nat → qS → Prop}  (H : qR w 0 qm57 48 [] [qI 0] s (qPI f g)) : qR w 0 qm57 47 [] [] s (qPI f g) := by
  refine qS_iconst qd_57_47 ?_
  exact qS_sub zsub_n H
set_option maxRecDepth 100000 in
theorem k57_48 {w : qE} {s : qS} {k0 : Int} {f : Int → qS → Prop} {g : Nat → qS → Prop}  (H : ((k0 = 0 ∨ k0 = 1) ∧ f k0 s)) : qR w 0 qm57 48 [] [qI k0] s (qPI f g) := by
  exact qS_zreturn qd_57_48 rfl H.1 (Or.inl ⟨_, rfl, H.2⟩)
set_option maxRecDepth 100000 in
theorem k57_57 {w : qE} {s : qS}  {f : Int → qS → Prop} {g : Nat → qS → Prop}  (H : qR w 0 qm57 62 [] [qI 1] s (qPI f g)) : qR w 0 qm57 57 [] [] s (qPI f g) := by
  refine qS_iconst qd_57_57 ?_
  refine qS_goto qd_57_58 rfl ?_
  exact qS_sub zsub_n H
set_option maxRecDepth 100000 in
theorem k57_62 {w : qE} {s : qS} {k0 : Int} {f : Int → qS → Prop} {g : Nat → qS → Prop}  (H : ((k0 = 0 ∨ k0 = 1) ∧ f k0 s)) : qR w 0 qm57 62 [] [qI k0] s (qPI f g) := by
  exact qS_zreturn qd_57_62 rfl H.1 (Or.inl ⟨_, rfl, H.2⟩)
set_option maxRecDepth 100000 in
theorem k58 {w : qE} {s : qS}  {f : Int → qS → Prop} {g : Nat → qS → Prop}  (H : qW w 1 19 [.ref 1, qI 2] s (qPI (fun r1 s1 => qW w 3 59 [.ref 3, qI r1] s1 (qPI (fun r2 s2 => qW w 1 21 [.ref 1] s2 (qPI (fun r3 s3 => qW w 1 20 [.ref 1, qI r2, qI (r3 - 2)] s3 (qPV (fun s4 => f r1 s4) g)) g)) g)) g)) : qW w 4 58 [.ref 17] s (qPI f g) := by
  refine qW.of (M := qm58) (l := [(0, .ref 17)]) qtm_58 rfl (Nat.le_of_ble_eq_true rfl) (zsub_c rfl zsub_n) ?_
  refine qS_aload_n qd_58_0 rfl ?_
  refine qS_getfield (v := .ref 1) qd_58_1 (qfl_6_9 w) (hpc_17 _ _) rfl ?_
  refine qS_iconst qd_58_4 ?_
  refine qS_cvI qd_58_5 (qml_6_38 w) rfl qtm_19 (hpc_1 _ _) (Nat.le_of_ble_eq_true rfl) rfl (Nat.le_of_ble_eq_true rfl) H (fun r1 s1 H => ?_) (fun x s1 H => Or.inr ⟨x, rfl, H⟩)
  refine qS_istore_n (a := [(0, .ref 17)]) qd_58_8 (Nat.le_of_ble_eq_true rfl) (zsub_c rfl zsub_n) rfl ?_
  refine qS_aload_n qd_58_9 rfl ?_
  refine qS_getfield (v := .ref 1) qd_58_10 (qfl_6_9 w) (hpc_17 _ _) rfl ?_
  refine qS_aload_n qd_58_13 rfl ?_
  refine qS_getfield (v := .ref 3) qd_58_14 (qfl_6_15 w) (hpc_17 _ _) rfl ?_
  refine qS_iload_n qd_58_17 rfl ?_
  refine qS_cvI qd_58_18 (qml_6_80 w) rfl qtm_59 (hpc_3 _ _) (Nat.le_of_ble_eq_true rfl) rfl (Nat.le_of_ble_eq_true rfl) H (fun r2 s2 H => ?_) (fun x s1 H => Or.inr ⟨x, rfl, H⟩)
  refine qS_aload_n qd_58_21 rfl ?_
  refine qS_getfield (v := .ref 1) qd_58_22 (qfl_6_9 w) (hpc_17 _ _) rfl ?_
  refine qS_cvI qd_58_25 (qml_6_57 w) rfl qtm_21 (hpc_1 _ _) (Nat.le_of_ble_eq_true rfl) rfl (Nat.le_of_ble_eq_true rfl) H (fun r3 s3 H => ?_) (fun x s1 H => Or.inr ⟨x, rfl, H⟩)
  refine qS_iconst qd_58_28 ?_
  refine qS_isub (a := r3) (b := 2) qd_58_29 ?_
  refine qS_cvV qd_58_30 (qml_6_45 w) rfl qtm_20 (hpc_1 _ _) (Nat.le_of_ble_eq_true rfl) rfl (Nat.le_of_ble_eq_true rfl) H (fun s4 H => ?_) (fun x s1 H => Or.inr ⟨x, rfl, H⟩)
  refine qS_iload_n qd_58_33 rfl ?_
  exact qS_ireturn qd_58_34 rfl (Or.inl ⟨_, rfl, H⟩)
set_option maxRecDepth 100000 in
theorem k59 {w : qE} {s : qS} {p0 : Int} {f : Int → qS → Prop} {g : Nat → qS → Prop}  (H : qW w 2 35 [.ref 3, qI p0] s (qPI (fun r1 s1 => Rg r1 ∧ (r1 = 7 → qW w 2 49 [.ref 3, qI p0] s1 (qPI (fun r2 s2 => qW w 2 51 [.ref 3, qI r2, qI 4] s2 (qPI (fun r3 s3 => Rg r3 ∧ (r3 = 0 → qR w 2 qm59 27 [] [] s3 (qPI f g)) ∧ (r3 ≠ 0 → qR w 2 qm59 28 [] [qI 1] s3 (qPI f g))) g)) g)) ∧ (r1 ≠ 7 → qR w 2 qm59 27 [] [] s1 (qPI f g))) g)) : qW w 3 59 [.ref 3, qI p0] s (qPI f g) := by
  refine qW.of (M := qm59) (l := [(0, .ref 3), (1, qI p0)]) qtm_59 rfl (Nat.le_of_ble_eq_true rfl) (zsub_c rfl (zsub_c rfl zsub_n)) ?_
  refine qS_aload_n qd_59_0 rfl ?_
  refine qS_iload_n qd_59_1 rfl ?_
  refine qS_cvI qd_59_2 (qml_2_78 w) rfl qtm_35 (hpc_3 _ _) (Nat.le_of_ble_eq_true rfl) rfl (Nat.le_of_ble_eq_true rfl) H (fun r1 s1 H => ?_) (fun x s1 H => Or.inr ⟨x, rfl, H⟩)
  refine qS_bipush qd_59_5 (by decide) ?_
  obtain ⟨h7a, H1, H2⟩ := H
  refine qS_icmp qd_59_7 rfl (zcnd_ne (a := r1) (b := 7) h7a ⟨by decide, by decide⟩ (fun t => qR w _ _ t _ _ _ _) (fun hc => ?_) (fun hc => ?_))
  · have H := H1 hc; clear H1 H2 hc
    refine qS_aload_n qd_59_10 rfl ?_
    refine qS_aload_n qd_59_11 rfl ?_
    refine qS_iload_n qd_59_12 rfl ?_
    refine qS_cvI qd_59_13 (qml_2_101 w) rfl qtm_49 (hpc_3 _ _) (Nat.le_of_ble_eq_true rfl) rfl (Nat.le_of_ble_eq_true rfl) H (fun r2 s2 H => ?_) (fun x s1 H => Or.inr ⟨x, rfl, H⟩)
    refine qS_iconst qd_59_16 ?_
    refine qS_cvI qd_59_17 (qml_2_97 w) rfl qtm_51 (hpc_3 _ _) (Nat.le_of_ble_eq_true rfl) rfl (Nat.le_of_ble_eq_true rfl) H (fun r3 s3 H => ?_) (fun x s1 H => Or.inr ⟨x, rfl, H⟩)
    obtain ⟨h20a, H1, H2⟩ := H
    refine qS_if0 qd_59_20 rfl (zcnd_eq (a := r3) (b := 0) h20a ⟨by decide, by decide⟩ (fun t => qR w _ _ t _ _ _ _) (fun hc => ?_) (fun hc => ?_))
    · have H := H1 hc; clear H1 H2 hc
      exact qS_sub zsub_n H
    · have H := H2 hc; clear H1 H2 hc
      refine qS_iconst qd_59_23 ?_
      refine qS_goto qd_59_24 rfl ?_
      exact qS_sub zsub_n H
  · have H := H2 hc; clear H1 H2 hc
    exact qS_sub zsub_n H
set_option maxRecDepth 100000 in
theorem k59_27 {w : qE} {s : qS}  {f : Int → qS → Prop} {g : Nat → qS → Prop}  (H : qR w 2 qm59 28 [] [qI 0] s (qPI f g)) : qR w 2 qm59 27 [] [] s (qPI f g) := by
  refine qS_iconst qd_59_27 ?_
  exact qS_sub zsub_n H
set_option maxRecDepth 100000 in
theorem k59_28 {w : qE} {s : qS} {k0 : Int} {f : Int → qS → Prop} {g : Nat → qS → Prop}  (H : ((k0 = 0 ∨ k0 = 1) ∧ f k0 s)) : qR w 2 qm59 28 [] [qI k0] s (qPI f g) := by
  exact qS_zreturn qd_59_28 rfl H.1 (Or.inl ⟨_, rfl, H.2⟩)
set_option maxRecDepth 100000 in
theorem k60 {w : qE} {s : qS}  {f : qS → Prop} {g : Nat → qS → Prop}  (H : qW w 1 24 [.ref 20] s (qPV (fun s1 => qW w 1 19 [.ref 1, qI 2] s1 (qPI (fun r2 s2 => qR w 8 qm60 18 [(0, .ref 17), (1, qI r2), (2, qI 0)] [] s2 (qPV f g)) g)) g)) : qW w 9 60 [.ref 17] s (qPV f g) := by
  refine qW.of (M := qm60) (l := [(0, .ref 17)]) qtm_60 rfl (Nat.le_of_ble_eq_true rfl) (zsub_c rfl zsub_n) ?_
  refine qS_aload_n qd_60_0 rfl ?_
  refine qS_getfield (v := .ref 20) qd_60_1 (qfl_6_32 w) (hpc_17 _ _) rfl ?_
  refine qS_cvV qd_60_4 (qml_6_85 w) rfl qtm_24 (hpc_20 _ _) (Nat.le_of_ble_eq_true rfl) rfl (Nat.le_of_ble_eq_true rfl) H (fun s1 H => ?_) (fun x s1 H => Or.inr ⟨x, rfl, H⟩)
  refine qS_aload_n qd_60_7 rfl ?_
  refine qS_getfield (v := .ref 1) qd_60_8 (qfl_6_9 w) (hpc_17 _ _) rfl ?_
  refine qS_iconst qd_60_11 ?_
  refine qS_cvI qd_60_12 (qml_6_38 w) rfl qtm_19 (hpc_1 _ _) (Nat.le_of_ble_eq_true rfl) rfl (Nat.le_of_ble_eq_true rfl) H (fun r2 s2 H => ?_) (fun x s1 H => Or.inr ⟨x, rfl, H⟩)
  refine qS_istore_n (a := [(0, .ref 17)]) qd_60_15 (Nat.le_of_ble_eq_true rfl) (zsub_c rfl zsub_n) rfl ?_
  refine qS_iconst qd_60_16 ?_
  refine qS_istore_n (a := [(1, qI r2), (0, .ref 17)]) qd_60_17 (Nat.le_of_ble_eq_true rfl) (zsub_c rfl (zsub_c rfl zsub_n)) rfl ?_
  exact qS_sub (zsub_c rfl (zsub_c rfl (zsub_c rfl zsub_n))) H
set_option maxRecDepth 100000 in
theorem k60_18 {w : qE} {s : qS} {v1 : Int} {v2 : Int} {f : qS → Prop} {g : Nat → qS → Prop}  (H : Rg v2 ∧ Rg v1 ∧ (v2 < v1 → qW w 5 61 [.ref 17] s (qPI (fun r3 s3 => qW w 1 36 [.ref 20, qI r3, qI 2] s3 (qPI (fun r4 s4 => qW w 8 69 [.ref 8, qI 1, qI r4] s4 (qPI (fun r5 s5 => qW w 2 85 [.ref 17, .ref 20, qI r3, qI r5] s5 (qPV (fun s6 => qR w 8 qm60 18 [(0, .ref 17), (1, qI v1), (2, qI (v2 + 1))] [] s6 (qPV f g)) g)) g)) g)) g)) ∧ (v1 ≤ v2 → f s)) : qR w 8 qm60 18 [(0, .ref 17), (1, qI v1), (2, qI v2)] [] s (qPV f g) := by
  refine qS_iload_n qd_60_18 rfl ?_
  refine qS_iload_n qd_60_19 rfl ?_
  obtain ⟨h20a, h20b, H1, H2⟩ := H
  refine qS_icmp qd_60_20 rfl (zcnd_ge (a := v2) (b := v1) h20a h20b (fun t => qR w _ _ t _ _ _ _) (fun hc => ?_) (fun hc => ?_))
  · have H := H1 hc; clear H1 H2 hc
    refine qS_aload_n qd_60_23 rfl ?_
    refine qS_cvI qd_60_24 (qml_6_91 w) rfl qtm_61 (hpc_17 _ _) (Nat.le_of_ble_eq_true rfl) rfl (Nat.le_of_ble_eq_true rfl) H (fun r3 s3 H => ?_) (fun x s1 H => Or.inr ⟨x, rfl, H⟩)
    refine qS_istore_n (a := [(0, .ref 17), (1, qI v1), (2, qI v2)]) qd_60_27 (Nat.le_of_ble_eq_true rfl) (zsub_c rfl (zsub_c rfl (zsub_c rfl zsub_n))) rfl ?_
    refine qS_aload_n qd_60_28 rfl ?_
    refine qS_getfield (v := .ref 8) qd_60_29 (qfl_6_19 w) (hpc_17 _ _) rfl ?_
    refine qS_iconst qd_60_32 ?_
    refine qS_aload_n qd_60_33 rfl ?_
    refine qS_getfield (v := .ref 20) qd_60_34 (qfl_6_32 w) (hpc_17 _ _) rfl ?_
    refine qS_iload_n qd_60_37 rfl ?_
    refine qS_iconst qd_60_38 ?_
    refine qS_cvI qd_60_39 (qml_6_96 w) rfl qtm_36 (hpc_20 _ _) (Nat.le_of_ble_eq_true rfl) rfl (Nat.le_of_ble_eq_true rfl) H (fun r4 s4 H => ?_) (fun x s1 H => Or.inr ⟨x, rfl, H⟩)
    refine qS_cvI qd_60_42 (qml_6_100 w) rfl qtm_69 (hpc_8 _ _) (Nat.le_of_ble_eq_true rfl) rfl (Nat.le_of_ble_eq_true rfl) H (fun r5 s5 H => ?_) (fun x s1 H => Or.inr ⟨x, rfl, H⟩)
    refine qS_istore (a := [(3, qI r3), (0, .ref 17), (1, qI v1), (2, qI v2)]) qd_60_45 (Nat.le_of_ble_eq_true rfl) (zsub_c rfl (zsub_c rfl (zsub_c rfl (zsub_c rfl zsub_n)))) rfl ?_
    refine qS_aload_n qd_60_47 rfl ?_
    refine qS_aload_n qd_60_48 rfl ?_
    refine qS_getfield (v := .ref 20) qd_60_49 (qfl_6_32 w) (hpc_17 _ _) rfl ?_
    refine qS_iload_n qd_60_52 rfl ?_
    refine qS_iload qd_60_53 rfl ?_
    refine qS_cvV qd_60_55 (qml_6_105 w) rfl qtm_85 (hpc_17 _ _) (Nat.le_of_ble_eq_true rfl) rfl (Nat.le_of_ble_eq_true rfl) H (fun s6 H => ?_) (fun x s1 H => Or.inr ⟨x, rfl, H⟩)
    refine qS_iinc (v := v2) (a := [(0, .ref 17), (1, qI v1)]) qd_60_58 (Nat.le_of_ble_eq_true rfl) rfl (zsub_c rfl (zsub_c rfl zsub_n)) rfl ?_
    refine qS_goto qd_60_61 rfl ?_
    exact qS_sub (zsub_c rfl (zsub_c rfl (zsub_c rfl zsub_n))) H
  · have H := H2 hc; clear H1 H2 hc
    exact qS_vreturn qd_60_64 rfl (Or.inl ⟨rfl, H⟩)
set_option maxRecDepth 100000 in
theorem k61 {w : qE} {s : qS}  {f : Int → qS → Prop} {g : Nat → qS → Prop}  (H : qW w 1 19 [.ref 1, qI 2] s (qPI (fun r1 s1 => qW w 2 62 [qI r1] s1 (qPI (fun r2 s2 => qW w 1 21 [.ref 1] s2 (qPI (fun r3 s3 => qW w 1 20 [.ref 1, qI r2, qI (r3 - 2)] s3 (qPV (fun s4 => qW w 3 63 [.ref 3, qI 1] s4 (qPI (fun r5 s5 => qW w 1 21 [.ref 1] s5 (qPI (fun r6 s6 => qW w 3 63 [.ref 3, qI 16] s6 (qPI (fun r7 s7 => qW w 4 64 [.ref 20, qI r1, qI r5, qI r7] s7 (qPI (fun r8 s8 => qW w 3 65 [.ref 3, qI r7, qI 0] s8 (qPI (fun r9 s9 => qW w 1 66 [qI r9] s9 (qPI (fun r10 s10 => Rg r10 ∧ (r10 = 0 → qR w 4 qm61 100 [(0, .ref 17), (3, qI (r6 - 2)), (5, qI r8)] [qI 1, qI 4, qI r8, .ref 20] s10 (qPI f g)) ∧ (r10 ≠ 0 → qR w 4 qm61 100 [(0, .ref 17), (3, qI (r6 - 2)), (5, qI r8)] [qI 2, qI 4, qI r8, .ref 20] s10 (qPI f g))) g)) g)) g)) g)) g)) g)) g)) g)) g)) g)) : qW w 5 61 [.ref 17] s (qPI f g) := by
  refine qW.of (M := qm61) (l := [(0, .ref 17)]) qtm_61 rfl (Nat.le_of_ble_eq_true rfl) (zsub_c rfl zsub_n) ?_
  refine qS_aload_n qd_61_0 rfl ?_
  refine qS_getfield (v := .ref 1) qd_61_1 (qfl_6_9 w) (hpc_17 _ _) rfl ?_
  refine qS_iconst qd_61_4 ?_
  refine qS_cvI qd_61_5 (qml_6_38 w) rfl qtm_19 (hpc_1 _ _) (Nat.le_of_ble_eq_true rfl) rfl (Nat.le_of_ble_eq_true rfl) H (fun r1 s1 H => ?_) (fun x s1 H => Or.inr ⟨x, rfl, H⟩)
  refine qS_istore_n (a := [(0, .ref 17)]) qd_61_8 (Nat.le_of_ble_eq_true rfl) (zsub_c rfl zsub_n) rfl ?_
  refine qS_aload_n qd_61_9 rfl ?_
  refine qS_getfield (v := .ref 1) qd_61_10 (qfl_6_9 w) (hpc_17 _ _) rfl ?_
  refine qS_iload_n qd_61_13 rfl ?_
  refine qS_csI qd_61_14 (qml_6_109 w) rfl (Nat.le_of_ble_eq_true rfl) rfl (Nat.le_of_ble_eq_true rfl) H (fun r2 s2 H => ?_) (fun x s1 H => Or.inr ⟨x, rfl, H⟩)
  refine qS_aload_n qd_61_17 rfl ?_
  refine qS_getfield (v := .ref 1) qd_61_18 (qfl_6_9 w) (hpc_17 _ _) rfl ?_
  refine qS_cvI qd_61_21 (qml_6_57 w) rfl qtm_21 (hpc_1 _ _) (Nat.le_of_ble_eq_true rfl) rfl (Nat.le_of_ble_eq_true rfl) H (fun r3 s3 H => ?_) (fun x s1 H => Or.inr ⟨x, rfl, H⟩)
  refine qS_iconst qd_61_24 ?_
  refine qS_isub (a := r3) (b := 2) qd_61_25 ?_
  refine qS_cvV qd_61_26 (qml_6_45 w) rfl qtm_20 (hpc_1 _ _) (Nat.le_of_ble_eq_true rfl) rfl (Nat.le_of_ble_eq_true rfl) H (fun s4 H => ?_) (fun x s1 H => Or.inr ⟨x, rfl, H⟩)
  refine qS_aload_n qd_61_29 rfl ?_
  refine qS_getfield (v := .ref 3) qd_61_30 (qfl_6_15 w) (hpc_17 _ _) rfl ?_
  refine qS_iconst qd_61_33 ?_
  refine qS_cvI qd_61_34 (qml_6_114 w) rfl qtm_63 (hpc_3 _ _) (Nat.le_of_ble_eq_true rfl) rfl (Nat.le_of_ble_eq_true rfl) H (fun r5 s5 H => ?_) (fun x s1 H => Or.inr ⟨x, rfl, H⟩)
  refine qS_istore_n (a := [(1, qI r1), (0, .ref 17)]) qd_61_37 (Nat.le_of_ble_eq_true rfl) (zsub_c rfl (zsub_c rfl zsub_n)) rfl ?_
  refine qS_aload_n qd_61_38 rfl ?_
  refine qS_getfield (v := .ref 1) qd_61_39 (qfl_6_9 w) (hpc_17 _ _) rfl ?_
  refine qS_cvI qd_61_42 (qml_6_57 w) rfl qtm_21 (hpc_1 _ _) (Nat.le_of_ble_eq_true rfl) rfl (Nat.le_of_ble_eq_true rfl) H (fun r6 s6 H => ?_) (fun x s1 H => Or.inr ⟨x, rfl, H⟩)
  refine qS_iconst qd_61_45 ?_
  refine qS_isub (a := r6) (b := 2) qd_61_46 ?_
  refine qS_istore_n (a := [(2, qI r5), (1, qI r1), (0, .ref 17)]) qd_61_47 (Nat.le_of_ble_eq_true rfl) (zsub_c rfl (zsub_c rfl (zsub_c rfl zsub_n))) rfl ?_
  refine qS_aload_n qd_61_48 rfl ?_
  refine qS_getfield (v := .ref 3) qd_61_49 (qfl_6_15 w) (hpc_17 _ _) rfl ?_
  refine qS_bipush qd_61_52 (by decide) ?_
  refine qS_cvI qd_61_54 (qml_6_114 w) rfl qtm_63 (hpc_3 _ _) (Nat.le_of_ble_eq_true rfl) rfl (Nat.le_of_ble_eq_true rfl) H (fun r7 s7 H => ?_) (fun x s1 H => Or.inr ⟨x, rfl, H⟩)
  refine qS_istore (a := [(3, qI (r6 - 2)), (2, qI r5), (1, qI r1), (0, .ref 17)]) qd_61_57 (Nat.le_of_ble_eq_true rfl) (zsub_c rfl (zsub_c rfl (zsub_c rfl (zsub_c rfl zsub_n)))) rfl ?_
  refine qS_aload_n qd_61_59 rfl ?_
  refine qS_getfield (v := .ref 20) qd_61_60 (qfl_6_32 w) (hpc_17 _ _) rfl ?_
  refine qS_iload_n qd_61_63 rfl ?_
  refine qS_iload_n qd_61_64 rfl ?_
  refine qS_iload qd_61_65 rfl ?_
  refine qS_csI qd_61_67 (qml_6_117 w) rfl (Nat.le_of_ble_eq_true rfl) rfl (Nat.le_of_ble_eq_true rfl) H (fun r8 s8 H => ?_) (fun x s1 H => Or.inr ⟨x, rfl, H⟩)
  refine qS_istore (a := [(4, qI r7), (3, qI (r6 - 2)), (0, .ref 17)]) qd_61_70 (Nat.le_of_ble_eq_true rfl) (zsub_c rfl (zsub_c rfl (zsub_c rfl zsub_n))) rfl ?_
  refine qS_aload_n qd_61_72 rfl ?_
  refine qS_getfield (v := .ref 20) qd_61_73 (qfl_6_32 w) (hpc_17 _ _) rfl ?_
  refine qS_iload qd_61_76 rfl ?_
  refine qS_iconst qd_61_78 ?_
  refine qS_aload_n qd_61_79 rfl ?_
  refine qS_getfield (v := .ref 3) qd_61_80 (qfl_6_15 w) (hpc_17 _ _) rfl ?_
  refine qS_iload qd_61_83 rfl ?_
  refine qS_iconst qd_61_85 ?_
  refine qS_cvI qd_61_86 (qml_6_121 w) rfl qtm_65 (hpc_3 _ _) (Nat.le_of_ble_eq_true rfl) rfl (Nat.le_of_ble_eq_true rfl) H (fun r9 s9 H => ?_) (fun x s1 H => Or.inr ⟨x, rfl, H⟩)
  refine qS_csI qd_61_89 (qml_6_124 w) rfl (Nat.le_of_ble_eq_true rfl) rfl (Nat.le_of_ble_eq_true rfl) H (fun r10 s10 H => ?_) (fun x s1 H => Or.inr ⟨x, rfl, H⟩)
  obtain ⟨h92a, H1, H2⟩ := H
  refine qS_if0 qd_61_92 rfl (zcnd_eq (a := r10) (b := 0) h92a ⟨by decide, by decide⟩ (fun t => qR w _ _ t _ _ _ _) (fun hc => ?_) (fun hc => ?_))
  · have H := H1 hc; clear H1 H2 hc
    refine qS_iconst qd_61_99 ?_
    exact qS_sub (zsub_c rfl (zsub_c rfl (zsub_c rfl zsub_n))) H
  · have H := H2 hc; clear H1 H2 hc
    refine qS_iconst qd_61_95 ?_
    refine qS_goto qd_61_96 rfl ?_
    exact qS_sub (zsub_c rfl (zsub_c rfl (zsub_c rfl zsub_n))) H
set_option maxRecDepth 100000 in
theorem k61_100 {w : qE} {s : qS} {v3 : Int} {v5 : Int} {k3 : Int} {k2 : Int} {k1 : Int} {f : Int → qS → Prop} {g : Nat → qS → Prop}  (H : qW w 1 27 [.ref 20, qI k1, qI k2, qI k3] s (qPV (fun s11 => qW w 4 67 [.ref 17, .ref 20, qI v5] s11 (qPI (fun r12 s12 => Rg r12 ∧ (r12 = 0 → qR w 4 qm61 125 [(3, qI v3), (5, qI v5)] [qI 1, .ref 1] s12 (qPI f g)) ∧ (r12 ≠ 0 → qR w 4 qm61 125 [(3, qI v3), (5, qI v5)] [qI 0, .ref 1] s12 (qPI f g))) g)) g)) : qR w 4 qm61 100 [(0, .ref 17), (3, qI v3), (5, qI v5)] [qI k3, qI k2, qI k1, .ref 20] s (qPI f g) := by
  refine qS_cvV qd_61_100 (qml_6_127 w) rfl qtm_27 (hpc_20 _ _) (Nat.le_of_ble_eq_true rfl) rfl (Nat.le_of_ble_eq_true rfl) H (fun s11 H => ?_) (fun x s1 H => Or.inr ⟨x, rfl, H⟩)
  refine qS_aload_n qd_61_103 rfl ?_
  refine qS_getfield (v := .ref 1) qd_61_104 (qfl_6_9 w) (hpc_17 _ _) rfl ?_
  refine qS_aload_n qd_61_107 rfl ?_
  refine qS_aload_n qd_61_108 rfl ?_
  refine qS_getfield (v := .ref 20) qd_61_109 (qfl_6_32 w) (hpc_17 _ _) rfl ?_
  refine qS_iload qd_61_112 rfl ?_
  refine qS_cvI qd_61_114 (qml_6_131 w) rfl qtm_67 (hpc_17 _ _) (Nat.le_of_ble_eq_true rfl) rfl (Nat.le_of_ble_eq_true rfl) H (fun r12 s12 H => ?_) (fun x s1 H => Or.inr ⟨x, rfl, H⟩)
  obtain ⟨h117a, H1, H2⟩ := H
  refine qS_if0 qd_61_117 rfl (zcnd_ne (a := r12) (b := 0) h117a ⟨by decide, by decide⟩ (fun t => qR w _ _ t _ _ _ _) (fun hc => ?_) (fun hc => ?_))
  · have H := H1 hc; clear H1 H2 hc
    refine qS_iconst qd_61_120 ?_
    refine qS_goto qd_61_121 rfl ?_
    exact qS_sub (zsub_c rfl (zsub_c rfl zsub_n)) H
  · have H := H2 hc; clear H1 H2 hc
    refine qS_iconst qd_61_124 ?_
    exact qS_sub (zsub_c rfl (zsub_c rfl zsub_n)) H
set_option maxRecDepth 100000 in
theorem k61_125 {w : qE} {s : qS} {v3 : Int} {v5 : Int} {k1 : Int} {f : Int → qS → Prop} {g : Nat → qS → Prop}  (H : qW w 1 20 [.ref 1, qI k1, qI v3] s (qPV (fun s13 => f v5 s13) g)) : qR w 4 qm61 125 [(3, qI v3), (5, qI v5)] [qI k1, .ref 1] s (qPI f g) := by
  refine qS_iload_n qd_61_125 rfl ?_
  refine qS_cvV qd_61_126 (qml_6_45 w) rfl qtm_20 (hpc_1 _ _) (Nat.le_of_ble_eq_true rfl) rfl (Nat.le_of_ble_eq_true rfl) H (fun s13 H => ?_) (fun x s1 H => Or.inr ⟨x, rfl, H⟩)
  refine qS_iload qd_61_129 rfl ?_
  exact qS_ireturn qd_61_131 rfl (Or.inl ⟨_, rfl, H⟩)
set_option maxRecDepth 100000 in
theorem k62 {w : qE} {s : qS} {p0 : Int} {f : Int → qS → Prop} {g : Nat → qS → Prop}  (H : Rg (qand p0 16) ∧ (qand p0 16 = 0 → qR w 1 qm62 18 [(0, qI p0)] [] s (qPI f g)) ∧ (qand p0 16 ≠ 0 → Rg (qand p0 64) ∧ (qand p0 64 = 0 → qR w 1 qm62 18 [(0, qI p0)] [] s (qPI f g)) ∧ (qand p0 64 ≠ 0 → qR w 1 qm62 19 [(0, qI p0)] [qI 1] s (qPI f g)))) : qW w 2 62 [qI p0] s (qPI f g) := by
  refine qW.of (M := qm62) (l := [(0, qI p0)]) qtm_62 rfl (Nat.le_of_ble_eq_true rfl) (zsub_c rfl zsub_n) ?_
  refine qS_iload_n qd_62_0 rfl ?_
  refine qS_bipush qd_62_1 (by decide) ?_
  refine qS_iand (a := p0) (b := 16) qd_62_3 ?_
  obtain ⟨h4a, H1, H2⟩ := H
  refine qS_if0 qd_62_4 rfl (zcnd_eq (a := qand p0 16) (b := 0) h4a ⟨by decide, by decide⟩ (fun t => qR w _ _ t _ _ _ _) (fun hc => ?_) (fun hc => ?_))
  · have H := H1 hc; clear H1 H2 hc
    exact qS_sub (zsub_c rfl zsub_n) H
  · have H := H2 hc; clear H1 H2 hc
    refine qS_iload_n qd_62_7 rfl ?_
    refine qS_bipush qd_62_8 (by decide) ?_
    refine qS_iand (a := p0) (b := 64) qd_62_10 ?_
    obtain ⟨h11a, H1, H2⟩ := H
    refine qS_if0 qd_62_11 rfl (zcnd_eq (a := qand p0 64) (b := 0) h11a ⟨by decide, by decide⟩ (fun t => qR w _ _ t _ _ _ _) (fun hc => ?_) (fun hc => ?_))
    · have H := H1 hc; clear H1 H2 hc
      exact qS_sub (zsub_c rfl zsub_n) H
    · have H := H2 hc; clear H1 H2 hc
      refine qS_iconst qd_62_14 ?_
      refine qS_goto qd_62_15 rfl ?_
      exact qS_sub (zsub_c rfl zsub_n) H
set_option maxRecDepth 100000 in
theorem k62_18 {w : qE} {s : qS} {v0 : Int} {f : Int → qS → Prop} {g : Nat → qS → Prop}  (H : qR w 1 qm62 19 [(0, qI v0)] [qI 0] s (qPI f g)) : qR w 1 qm62 18 [(0, qI v0)] [] s (qPI f g) := by
  refine qS_iconst qd_62_18 ?_
  exact qS_sub (zsub_c rfl zsub_n) H
set_option maxRecDepth 100000 in
theorem k62_19 {w : qE} {s : qS} {v0 : Int} {k0 : Int} {f : Int → qS → Prop} {g : Nat → qS → Prop}  (H : qW w 1 205 [qI (qand v0 7)] s (qPI (fun r1 s1 => Rg r1 ∧ (1 < r1 → qR w 1 qm62 39 [] [] s1 (qPI f g)) ∧ (r1 ≤ 1 → Rg k0 ∧ (k0 = 0 → qR w 1 qm62 40 [] [qI 1] s1 (qPI f g)) ∧ (k0 ≠ 0 → qR w 1 qm62 39 [] [] s1 (qPI f g)))) g)) : qR w 1 qm62 19 [(0, qI v0)] [qI k0] s (qPI f g) := by
  refine qS_istore_n (a := [(0, qI v0)]) qd_62_19 (Nat.le_of_ble_eq_true rfl) (zsub_c rfl zsub_n) rfl ?_
  refine qS_iload_n qd_62_20 rfl ?_
  refine qS_bipush qd_62_21 (by decide) ?_
  refine qS_iand (a := v0) (b := 7) qd_62_23 ?_
  refine qS_csI qd_62_24 (qml_6_159 w) rfl (Nat.le_of_ble_eq_true rfl) rfl (Nat.le_of_ble_eq_true rfl) H (fun r1 s1 H => ?_) (fun x s1 H => Or.inr ⟨x, rfl, H⟩)
  refine qS_iconst qd_62_27 ?_
  obtain ⟨h28a, H1, H2⟩ := H
  refine qS_icmp qd_62_28 rfl (zcnd_gt (a := r1) (b := 1) h28a ⟨by decide, by decide⟩ (fun t => qR w _ _ t _ _ _ _) (fun hc => ?_) (fun hc => ?_))
  · have H := H1 hc; clear H1 H2 hc
    exact qS_sub zsub_n H
  · have H := H2 hc; clear H1 H2 hc
    refine qS_iload_n qd_62_31 rfl ?_
    obtain ⟨h32a, H1, H2⟩ := H
    refine qS_if0 qd_62_32 rfl (zcnd_ne (a := k0) (b := 0) h32a ⟨by decide, by decide⟩ (fun t => qR w _ _ t _ _ _ _) (fun hc => ?_) (fun hc => ?_))
    · have H := H1 hc; clear H1 H2 hc
      refine qS_iconst qd_62_35 ?_
      refine qS_goto qd_62_36 rfl ?_
      exact qS_sub zsub_n H
    · have H := H2 hc; clear H1 H2 hc
      exact qS_sub zsub_n H
set_option maxRecDepth 100000 in
theorem k62_39 {w : qE} {s : qS}  {f : Int → qS → Prop} {g : Nat → qS → Prop}  (H : qR w 1 qm62 40 [] [qI 0] s (qPI f g)) : qR w 1 qm62 39 [] [] s (qPI f g) := by
  refine qS_iconst qd_62_39 ?_
  exact qS_sub zsub_n H
set_option maxRecDepth 100000 in
theorem k62_40 {w : qE} {s : qS} {k0 : Int} {f : Int → qS → Prop} {g : Nat → qS → Prop}  (H : ((k0 = 0 ∨ k0 = 1) ∧ f k0 s)) : qR w 1 qm62 40 [] [qI k0] s (qPI f g) := by
  exact qS_zreturn qd_62_40 rfl H.1 (Or.inl ⟨_, rfl, H.2⟩)
set_option maxRecDepth 100000 in
theorem k63 {w : qE} {s : qS} {p0 : Int} {f : Int → qS → Prop} {g : Nat → qS → Prop}  (H : qW w 1 19 [.ref 1, qI 2] s (qPI (fun r1 s1 => qW w 2 51 [.ref 3, qI r1, qI p0] s1 (qPI (fun r2 s2 => qW w 1 21 [.ref 1] s2 (qPI (fun r3 s3 => qW w 1 20 [.ref 1, qI r2, qI (r3 - 2)] s3 (qPV (fun s4 => f r1 s4) g)) g)) g)) g)) : qW w 3 63 [.ref 3, qI p0] s (qPI f g) := by
  refine qW.of (M := qm63) (l := [(0, .ref 3), (1, qI p0)]) qtm_63 rfl (Nat.le_of_ble_eq_true rfl) (zsub_c rfl (zsub_c rfl zsub_n)) ?_
  refine qS_aload_n qd_63_0 rfl ?_
  refine qS_getfield (v := .ref 1) qd_63_1 (qfl_2_9 w) (hpc_3 _ _) rfl ?_
  refine qS_iconst qd_63_4 ?_
  refine qS_cvI qd_63_5 (qml_2_35 w) rfl qtm_19 (hpc_1 _ _) (Nat.le_of_ble_eq_true rfl) rfl (Nat.le_of_ble_eq_true rfl) H (fun r1 s1 H => ?_) (fun x s1 H => Or.inr ⟨x, rfl, H⟩)
  refine qS_istore_n (a := [(0, .ref 3), (1, qI p0)]) qd_63_8 (Nat.le_of_ble_eq_true rfl) (zsub_c rfl (zsub_c rfl zsub_n)) rfl ?_
  refine qS_aload_n qd_63_9 rfl ?_
  refine qS_getfield (v := .ref 1) qd_63_10 (qfl_2_9 w) (hpc_3 _ _) rfl ?_
  refine qS_aload_n qd_63_13 rfl ?_
  refine qS_iload_n qd_63_14 rfl ?_
  refine qS_iload_n qd_63_15 rfl ?_
  refine qS_cvI qd_63_16 (qml_2_97 w) rfl qtm_51 (hpc_3 _ _) (Nat.le_of_ble_eq_true rfl) rfl (Nat.le_of_ble_eq_true rfl) H (fun r2 s2 H => ?_) (fun x s1 H => Or.inr ⟨x, rfl, H⟩)
  refine qS_aload_n qd_63_19 rfl ?_
  refine qS_getfield (v := .ref 1) qd_63_20 (qfl_2_9 w) (hpc_3 _ _) rfl ?_
  refine qS_cvI qd_63_23 (qml_2_41 w) rfl qtm_21 (hpc_1 _ _) (Nat.le_of_ble_eq_true rfl) rfl (Nat.le_of_ble_eq_true rfl) H (fun r3 s3 H => ?_) (fun x s1 H => Or.inr ⟨x, rfl, H⟩)
  refine qS_iconst qd_63_26 ?_
  refine qS_isub (a := r3) (b := 2) qd_63_27 ?_
  refine qS_cvV qd_63_28 (qml_2_45 w) rfl qtm_20 (hpc_1 _ _) (Nat.le_of_ble_eq_true rfl) rfl (Nat.le_of_ble_eq_true rfl) H (fun s4 H => ?_) (fun x s1 H => Or.inr ⟨x, rfl, H⟩)
  refine qS_iload_n qd_63_31 rfl ?_
  exact qS_ireturn qd_63_32 rfl (Or.inl ⟨_, rfl, H⟩)
set_option maxRecDepth 100000 in
theorem k64 {w : qE} {s : qS} {t : Nat} {p1 : Int} {p2 : Int} {p3 : Int} {f : Int → qS → Prop} {g : Nat → qS → Prop} (ht : 0 < qwid t) (H : qW w 3 25 [.ref t, qI p1] s (qPI (fun r1 s1 => qW w 1 27 [.ref t, qI r1, qI 1, qI p2] s1 (qPV (fun s2 => qW w 1 27 [.ref t, qI r1, qI 2, qI p3] s2 (qPV (fun s3 => f r1 s3) g)) g)) g)) : qW w 4 64 [.ref t, qI p1, qI p2, qI p3] s (qPI f g) := by
  refine qW.of (M := qm64) (l := [(0, .ref t), (1, qI p1), (2, qI p2), (3, qI p3)]) qtm_64 rfl (Nat.le_of_ble_eq_true rfl) (zsub_c rfl (zsub_c rfl (zsub_c rfl (zsub_c rfl zsub_n)))) ?_
  refine qS_aload_n qd_64_0 rfl ?_
  refine qS_iload_n qd_64_1 rfl ?_
  refine qS_cvI qd_64_2 (qml_6_88 w) rfl qtm_25 (hp_tab _ _ t ht) (Nat.le_of_ble_eq_true rfl) rfl (Nat.le_of_ble_eq_true rfl) H (fun r1 s1 H => ?_) (fun x s1 H => Or.inr ⟨x, rfl, H⟩)
  refine qS_istore (a := [(0, .ref t), (2, qI p2), (3, qI p3)]) qd_64_5 (Nat.le_of_ble_eq_true rfl) (zsub_c rfl (zsub_c rfl (zsub_c rfl zsub_n))) rfl ?_
  refine qS_aload_n qd_64_7 rfl ?_
  refine qS_iload qd_64_8 rfl ?_
  refine qS_iconst qd_64_10 ?_
  refine qS_iload_n qd_64_11 rfl ?_
  refine qS_cvV qd_64_12 (qml_6_127 w) rfl qtm_27 (hp_tab _ _ t ht) (Nat.le_of_ble_eq_true rfl) rfl (Nat.le_of_ble_eq_true rfl) H (fun s2 H => ?_) (fun x s1 H => Or.inr ⟨x, rfl, H⟩)
  refine qS_aload_n qd_64_15 rfl ?_
  refine qS_iload qd_64_16 rfl ?_
  refine qS_iconst qd_64_18 ?_
  refine qS_iload_n qd_64_19 rfl ?_
  refine qS_cvV qd_64_20 (qml_6_127 w) rfl qtm_27 (hp_tab _ _ t ht) (Nat.le_of_ble_eq_true rfl) rfl (Nat.le_of_ble_eq_true rfl) H (fun s3 H => ?_) (fun x s1 H => Or.inr ⟨x, rfl, H⟩)
  refine qS_iload qd_64_23 rfl ?_
  exact qS_ireturn qd_64_25 rfl (Or.inl ⟨_, rfl, H⟩)
set_option maxRecDepth 100000 in
theorem k65 {w : qE} {s : qS} {p0 : Int} {p1 : Int} {f : Int → qS → Prop} {g : Nat → qS → Prop}  (H : qW w 2 35 [.ref 3, qI p0] s (qPI (fun r1 s1 => Rg r1 ∧ (r1 = 1 → Rg p1 ∧ (p1 < (-1) → qR w 2 qm65 23 [] [] s1 (qPI f g)) ∧ ((-1) ≤ p1 → qW w 2 49 [.ref 3, qI p0] s1 (qPI (fun r2 s2 => Rg r2 ∧ (p1 < r2 → (p1 = (-1) → qW w 2 49 [.ref 3, qI p0] s2 (qPI (fun r3 s3 => qR w 2 qm65 51 [] [qI r3] s3 (qPI f g)) g)) ∧ (p1 ≠ (-1) → qW w 2 37 [.ref 3, qI p0] s2 (qPI (fun r4 s4 => (0 ≤ r4 + p1 ∧ r4 + p1 < 500 ∧ (qR w 2 qm65 51 [] [qI (s4 6 (r4 + p1))] s4 (qPI f g)))) g))) ∧ (r2 ≤ p1 → qR w 2 qm65 23 [] [] s2 (qPI f g))) g))) ∧ (r1 ≠ 1 → qR w 2 qm65 23 [] [] s1 (qPI f g))) g)) : qW w 3 65 [.ref 3, qI p0, qI p1] s (qPI f g) := by
  refine qW.of (M := qm65) (l := [(0, .ref 3), (1, qI p0), (2, qI p1)]) qtm_65 rfl (Nat.le_of_ble_eq_true rfl) (zsub_c rfl (zsub_c rfl (zsub_c rfl zsub_n))) ?_
  refine qS_aload_n qd_65_0 rfl ?_
  refine qS_iload_n qd_65_1 rfl ?_
  refine qS_cvI qd_65_2 (qml_2_78 w) rfl qtm_35 (hpc_3 _ _) (Nat.le_of_ble_eq_true rfl) rfl (Nat.le_of_ble_eq_true rfl) H (fun r1 s1 H => ?_) (fun x s1 H => Or.inr ⟨x, rfl, H⟩)
  refine qS_iconst qd_65_5 ?_
  obtain ⟨h6a, H1, H2⟩ := H
  refine qS_icmp qd_65_6 rfl (zcnd_ne (a := r1) (b := 1) h6a ⟨by decide, by decide⟩ (fun t => qR w _ _ t _ _ _ _) (fun hc => ?_) (fun hc => ?_))
  · have H := H1 hc; clear H1 H2 hc
    refine qS_iload_n qd_65_9 rfl ?_
    refine qS_iconst qd_65_10 ?_
    obtain ⟨h11a, H1, H2⟩ := H
    refine qS_icmp qd_65_11 rfl (zcnd_lt (a := p1) (b := (-1)) h11a ⟨by decide, by decide⟩ (fun t => qR w _ _ t _ _ _ _) (fun hc => ?_) (fun hc => ?_))
    · have H := H1 hc; clear H1 H2 hc
      exact qS_sub zsub_n H
    · have H := H2 hc; clear H1 H2 hc
      refine qS_iload_n qd_65_14 rfl ?_
      refine qS_aload_n qd_65_15 rfl ?_
      refine qS_iload_n qd_65_16 rfl ?_
      refine qS_cvI qd_65_17 (qml_2_101 w) rfl qtm_49 (hpc_3 _ _) (Nat.le_of_ble_eq_true rfl) rfl (Nat.le_of_ble_eq_true rfl) H (fun r2 s2 H => ?_) (fun x s1 H => Or.inr ⟨x, rfl, H⟩)
      obtain ⟨h20b, H1, H2⟩ := H
      refine qS_icmp qd_65_20 rfl (zcnd_lt (a := p1) (b := r2) h11a h20b (fun t => qR w _ _ t _ _ _ _) (fun hc => ?_) (fun hc => ?_))
      · have H := H1 hc; clear H1 H2 hc
        refine qS_iload_n qd_65_26 rfl ?_
        refine qS_iconst qd_65_27 ?_
        obtain ⟨H1, H2⟩ := H
        refine qS_icmp qd_65_28 rfl (zcnd_ne (a := p1) (b := (-1)) h11a ⟨by decide, by decide⟩ (fun t => qR w _ _ t _ _ _ _) (fun hc => ?_) (fun hc => ?_))
        · have H := H1 hc; clear H1 H2 hc
          refine qS_aload_n qd_65_31 rfl ?_
          refine qS_iload_n qd_65_32 rfl ?_
          refine qS_cvI qd_65_33 (qml_2_101 w) rfl qtm_49 (hpc_3 _ _) (Nat.le_of_ble_eq_true rfl) rfl (Nat.le_of_ble_eq_true rfl) H (fun r3 s3 H => ?_) (fun x s1 H => Or.inr ⟨x, rfl, H⟩)
          refine qS_goto qd_65_36 rfl ?_
          exact qS_sub zsub_n H
        · have H := H2 hc; clear H1 H2 hc
          refine qS_aload_n qd_65_39 rfl ?_
          refine qS_getfield (v := .ref 6) qd_65_40 (qfl_2_24 w) (hpc_3 _ _) rfl ?_
          refine qS_aload_n qd_65_43 rfl ?_
          refine qS_iload_n qd_65_44 rfl ?_
          refine qS_cvI qd_65_45 (qml_2_81 w) rfl qtm_37 (hpc_3 _ _) (Nat.le_of_ble_eq_true rfl) rfl (Nat.le_of_ble_eq_true rfl) H (fun r4 s4 H => ?_) (fun x s1 H => Or.inr ⟨x, rfl, H⟩)
          refine qS_iload_n qd_65_48 rfl ?_
          refine qS_iadd (a := r4) (b := p1) qd_65_49 ?_
          obtain ⟨hl, hu, H⟩ := H
          refine qS_iaload (a := 6) (i := r4 + p1) qd_65_50 (Nat.le_of_ble_eq_true rfl) hl hu ?_
          exact qS_sub zsub_n H
      · have H := H2 hc; clear H1 H2 hc
        exact qS_sub zsub_n H
  · have H := H2 hc; clear H1 H2 hc
    exact qS_sub zsub_n H
set_option maxRecDepth 100000 in
theorem k65_23 {w : qE} {s : qS}  {f : Int → qS → Prop} {g : Nat → qS → Prop}  (H : f ((-2)) s) : qR w 2 qm65 23 [] [] s (qPI f g) := by
  refine qS_bipush qd_65_23 (by decide) ?_
  exact qS_ireturn qd_65_25 rfl (Or.inl ⟨_, rfl, H⟩)
set_option maxRecDepth 100000 in
theorem k65_51 {w : qE} {s : qS} {k0 : Int} {f : Int → qS → Prop} {g : Nat → qS → Prop}  (H : f k0 s) : qR w 2 qm65 51 [] [qI k0] s (qPI f g) := by
  exact qS_ireturn qd_65_51 rfl (Or.inl ⟨_, rfl, H⟩)
set_option maxRecDepth 100000 in
theorem k66 {w : qE} {s : qS} {p0 : Int} {f : Int → qS → Prop} {g : Nat → qS → Prop}  (H : Rg p0 ∧ (p0 = 74 → qR w 0 qm66 12 [] [] s (qPI f g)) ∧ (p0 ≠ 74 → (p0 = 68 → qR w 0 qm66 12 [] [] s (qPI f g)) ∧ (p0 ≠ 68 → qR w 0 qm66 17 [] [qI 0] s (qPI f g)))) : qW w 1 66 [qI p0] s (qPI f g) := by
  refine qW.of (M := qm66) (l := [(0, qI p0)]) qtm_66 rfl (Nat.le_of_ble_eq_true rfl) (zsub_c rfl zsub_n) ?_
  refine qS_iload_n qd_66_0 rfl ?_
  refine qS_bipush qd_66_1 (by decide) ?_
  obtain ⟨h3a, H1, H2⟩ := H
  refine qS_icmp qd_66_3 rfl (zcnd_eq (a := p0) (b := 74) h3a ⟨by decide, by decide⟩ (fun t => qR w _ _ t _ _ _ _) (fun hc => ?_) (fun hc => ?_))
  · have H := H1 hc; clear H1 H2 hc
    exact qS_sub zsub_n H
  · have H := H2 hc; clear H1 H2 hc
    refine qS_iload_n qd_66_6 rfl ?_
    refine qS_bipush qd_66_7 (by decide) ?_
    obtain ⟨H1, H2⟩ := H
    refine qS_icmp qd_66_9 rfl (zcnd_ne (a := p0) (b := 68) h3a ⟨by decide, by decide⟩ (fun t => qR w _ _ t _ _ _ _) (fun hc => ?_) (fun hc => ?_))
    · have H := H1 hc; clear H1 H2 hc
      exact qS_sub zsub_n H
    · have H := H2 hc; clear H1 H2 hc
      refine qS_iconst qd_66_16 ?_
      exact qS_sub zsub_n H
set_option maxRecDepth 100000 in
theorem k66_12 {w : qE} {s : qS}  {f : Int → qS → Prop} {g : Nat → qS → Prop}  (H : qR w 0 qm66 17 [] [qI 1] s (qPI f g)) : qR w 0 qm66 12 [] [] s (qPI f g) := by
  refine qS_iconst qd_66_12 ?_
  refine qS_goto qd_66_13 rfl ?_
  exact qS_sub zsub_n H
set_option maxRecDepth 100000 in
theorem k66_17 {w : qE} {s : qS} {k0 : Int} {f : Int → qS → Prop} {g : Nat → qS → Prop}  (H : ((k0 = 0 ∨ k0 = 1) ∧ f k0 s)) : qR w 0 qm66 17 [] [qI k0] s (qPI f g) := by
  exact qS_zreturn qd_66_17 rfl H.1 (Or.inl ⟨_, rfl, H.2⟩)
set_option maxRecDepth 100000 in
theorem k67 {w : qE} {s : qS} {t : Nat} {p1 : Int} {f : Int → qS → Prop} {g : Nat → qS → Prop} (ht : 0 < qwid t) (H : qW w 1 36 [.ref t, qI p1, qI 1] s (qPI (fun r1 s1 => qW w 1 36 [.ref t, qI p1, qI 2] s1 (qPI (fun r2 s2 => qR w 3 qm67 18 [(0, .ref 17), (1, .ref t), (2, qI p1), (3, qI r1), (4, qI r2), (5, qI 0)] [] s2 (qPI f g)) g)) g)) : qW w 4 67 [.ref 17, .ref t, qI p1] s (qPI f g) := by
  refine qW.of (M := qm67) (l := [(0, .ref 17), (1, .ref t), (2, qI p1)]) qtm_67 rfl (Nat.le_of_ble_eq_true rfl) (zsub_c rfl (zsub_c rfl (zsub_c rfl zsub_n))) ?_
  refine qS_aload_n qd_67_0 rfl ?_
  refine qS_iload_n qd_67_1 rfl ?_
  refine qS_iconst qd_67_2 ?_
  refine qS_cvI qd_67_3 (qml_6_96 w) rfl qtm_36 (hp_tab _ _ t ht) (Nat.le_of_ble_eq_true rfl) rfl (Nat.le_of_ble_eq_true rfl) H (fun r1 s1 H => ?_) (fun x s1 H => Or.inr ⟨x, rfl, H⟩)
  refine qS_istore_n (a := [(0, .ref 17), (1, .ref t), (2, qI p1)]) qd_67_6 (Nat.le_of_ble_eq_true rfl) (zsub_c rfl (zsub_c rfl (zsub_c rfl zsub_n))) rfl ?_
  refine qS_aload_n qd_67_7 rfl ?_
  refine qS_iload_n qd_67_8 rfl ?_
  refine qS_iconst qd_67_9 ?_
  refine qS_cvI qd_67_10 (qml_6_96 w) rfl qtm_36 (hp_tab _ _ t ht) (Nat.le_of_ble_eq_true rfl) rfl (Nat.le_of_ble_eq_true rfl) H (fun r2 s2 H => ?_) (fun x s1 H => Or.inr ⟨x, rfl, H⟩)
  refine qS_istore (a := [(3, qI r1), (0, .ref 17), (1, .ref t), (2, qI p1)]) qd_67_13 (Nat.le_of_ble_eq_true rfl) (zsub_c rfl (zsub_c rfl (zsub_c rfl (zsub_c rfl zsub_n)))) rfl ?_
  refine qS_iconst qd_67_15 ?_
  refine qS_istore (a := [(4, qI r2), (3, qI r1), (0, .ref 17), (1, .ref t), (2, qI p1)]) qd_67_16 (Nat.le_of_ble_eq_true rfl) (zsub_c rfl (zsub_c rfl (zsub_c rfl (zsub_c rfl (zsub_c rfl zsub_n))))) rfl ?_
  exact qS_sub (zsub_c rfl (zsub_c rfl (zsub_c rfl (zsub_c rfl (zsub_c rfl (zsub_c rfl zsub_n)))))) H
set_option maxRecDepth 100000 in
theorem k67_18 {w : qE} {s : qS} {t : Nat} {v2 : Int} {v3 : Int} {v4 : Int} {v5 : Int} {f : Int → qS → Prop} {g : Nat → qS → Prop} (ht : 0 < qwid t) (H : Rg v5 ∧ Rg v2 ∧ (v5 < v2 → qW w 1 36 [.ref t, qI v5, qI 1] s (qPI (fun r3 s3 => qW w 3 68 [.ref 3, qI r3, qI v3] s3 (qPI (fun r4 s4 => Rg r4 ∧ (r4 = 0 → qR w 3 qm67 63 [(0, .ref 17), (1, .ref t), (2, qI v2), (3, qI v3), (4, qI v4), (5, qI v5)] [] s4 (qPI f g)) ∧ (r4 ≠ 0 → qW w 1 36 [.ref t, qI v5, qI 2] s4 (qPI (fun r5 s5 => qW w 3 68 [.ref 3, qI r5, qI v4] s5 (qPI (fun r6 s6 => Rg r6 ∧ (r6 = 0 → qR w 3 qm67 63 [(0, .ref 17), (1, .ref t), (2, qI v2), (3, qI v3), (4, qI v4), (5, qI v5)] [] s6 (qPI f g)) ∧ (r6 ≠ 0 → f 1 s6)) g)) g))) g)) g)) ∧ (v2 ≤ v5 → f 0 s)) : qR w 3 qm67 18 [(0, .ref 17), (1, .ref t), (2, qI v2), (3, qI v3), (4, qI v4), (5, qI v5)] [] s (qPI f g) := by
  refine qS_iload qd_67_18 rfl ?_
  refine qS_iload_n qd_67_20 rfl ?_
  obtain ⟨h21a, h21b, H1, H2⟩ := H
  refine qS_icmp qd_67_21 rfl (zcnd_ge (a := v5) (b := v2) h21a h21b (fun t => qR w _ _ t _ _ _ _) (fun hc => ?_) (fun hc => ?_))
  · have H := H1 hc; clear H1 H2 hc
    refine qS_aload_n qd_67_24 rfl ?_
    refine qS_getfield (v := .ref 3) qd_67_25 (qfl_6_15 w) (hpc_17 _ _) rfl ?_
    refine qS_aload_n qd_67_28 rfl ?_
    refine qS_iload qd_67_29 rfl ?_
    refine qS_iconst qd_67_31 ?_
    refine qS_cvI qd_67_32 (qml_6_96 w) rfl qtm_36 (hp_tab _ _ t ht) (Nat.le_of_ble_eq_true rfl) rfl (Nat.le_of_ble_eq_true rfl) H (fun r3 s3 H => ?_) (fun x s1 H => Or.inr ⟨x, rfl, H⟩)
    refine qS_iload_n qd_67_35 rfl ?_
    refine qS_cvI qd_67_36 (qml_6_184 w) rfl qtm_68 (hpc_3 _ _) (Nat.le_of_ble_eq_true rfl) rfl (Nat.le_of_ble_eq_true rfl) H (fun r4 s4 H => ?_) (fun x s1 H => Or.inr ⟨x, rfl, H⟩)
    obtain ⟨h39a, H1, H2⟩ := H
    refine qS_if0 qd_67_39 rfl (zcnd_eq (a := r4) (b := 0) h39a ⟨by decide, by decide⟩ (fun t => qR w _ _ t _ _ _ _) (fun hc => ?_) (fun hc => ?_))
    · have H := H1 hc; clear H1 H2 hc
      exact qS_sub (zsub_c rfl (zsub_c rfl (zsub_c rfl (zsub_c rfl (zsub_c rfl (zsub_c rfl zsub_n)))))) H
    · have H := H2 hc; clear H1 H2 hc
      refine qS_aload_n qd_67_42 rfl ?_
      refine qS_getfield (v := .ref 3) qd_67_43 (qfl_6_15 w) (hpc_17 _ _) rfl ?_
      refine qS_aload_n qd_67_46 rfl ?_
      refine qS_iload qd_67_47 rfl ?_
      refine qS_iconst qd_67_49 ?_
      refine qS_cvI qd_67_50 (qml_6_96 w) rfl qtm_36 (hp_tab _ _ t ht) (Nat.le_of_ble_eq_true rfl) rfl (Nat.le_of_ble_eq_true rfl) H (fun r5 s5 H => ?_) (fun x s1 H => Or.inr ⟨x, rfl, H⟩)
      refine qS_iload qd_67_53 rfl ?_
      refine qS_cvI qd_67_55 (qml_6_184 w) rfl qtm_68 (hpc_3 _ _) (Nat.le_of_ble_eq_true rfl) rfl (Nat.le_of_ble_eq_true rfl) H (fun r6 s6 H => ?_) (fun x s1 H => Or.inr ⟨x, rfl, H⟩)
      obtain ⟨h58a, H1, H2⟩ := H
      refine qS_if0 qd_67_58 rfl (zcnd_eq (a := r6) (b := 0) h58a ⟨by decide, by decide⟩ (fun t => qR w _ _ t _ _ _ _) (fun hc => ?_) (fun hc => ?_))
      · have H := H1 hc; clear H1 H2 hc
        exact qS_sub (zsub_c rfl (zsub_c rfl (zsub_c rfl (zsub_c rfl (zsub_c rfl (zsub_c rfl zsub_n)))))) H
      · have H := H2 hc; clear H1 H2 hc
        refine qS_iconst qd_67_61 ?_
        exact qS_zreturn qd_67_62 rfl (Or.inr rfl) (Or.inl ⟨_, rfl, H⟩)
  · have H := H2 hc; clear H1 H2 hc
    refine qS_iconst qd_67_69 ?_
    exact qS_zreturn qd_67_70 rfl (Or.inl rfl) (Or.inl ⟨_, rfl, H⟩)
set_option maxRecDepth 100000 in
theorem k67_63 {w : qE} {s : qS} {t : Nat} {v2 : Int} {v3 : Int} {v4 : Int} {v5 : Int} {f : Int → qS → Prop} {g : Nat → qS → Prop} (ht : 0 < qwid t) (H : qR w 3 qm67 18 [(0, .ref 17), (1, .ref t), (2, qI v2), (3, qI v3), (4, qI v4), (5, qI (v5 + 1))] [] s (qPI f g)) : qR w 3 qm67 63 [(0, .ref 17), (1, .ref t), (2, qI v2), (3, qI v3), (4, qI v4), (5, qI v5)] [] s (qPI f g) := by
  refine qS_iinc (v := v5) (a := [(0, .ref 17), (1, .ref t), (2, qI v2), (3, qI v3), (4, qI v4)]) qd_67_63 (Nat.le_of_ble_eq_true rfl) rfl (zsub_c rfl (zsub_c rfl (zsub_c rfl (zsub_c rfl (zsub_c rfl zsub_n))))) rfl ?_
  refine qS_goto qd_67_66 rfl ?_
  exact qS_sub (zsub_c rfl (zsub_c rfl (zsub_c rfl (zsub_c rfl (zsub_c rfl (zsub_c rfl zsub_n)))))) H
