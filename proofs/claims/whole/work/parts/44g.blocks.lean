/-! what the code does, in numbers: printed by a program of mine (wip/whole/gen_blocks.py, emit.py) -/
set_option maxRecDepth 100000 in
theorem k159 {w : qE} {s : qS} {p0 : Int} {f : Int → qS → Prop} {g : Nat → qS → Prop}  (H : qW w 3 131 [.ref 25] s (qPI (fun r1 s1 => qW w 1 134 [.ref 25] s1 (qPI (fun r2 s2 => Rg r2 ∧ (r2 = 0 → qR w 4 qm159 39 [(3, qI r1)] [] s2 (qPI f g)) ∧ (r2 ≠ 0 → Rg p0 ∧ (p0 = 0 → qR w 4 qm159 25 [(0, .ref 25), (2, qI (s 25 5)), (3, qI r1)] [] s2 (qPI f g)) ∧ (p0 ≠ 0 → Rg r1 ∧ (r1 = 0 → qR w 4 qm159 39 [(3, qI r1)] [] s2 (qPI f g)) ∧ (r1 ≠ 0 → qR w 4 qm159 25 [(0, .ref 25), (2, qI (s 25 5)), (3, qI r1)] [] s2 (qPI f g))))) g)) g)) : qW w 5 159 [.ref 25, qI p0] s (qPI f g) := by
  refine qW.of (M := qm159) (l := [(0, .ref 25), (1, qI p0)]) qtm_159 rfl (Nat.le_of_ble_eq_true rfl) (zsub_c rfl (zsub_c rfl zsub_n)) ?_
  refine qS_aload_n qd_159_0 rfl ?_
  refine qS_getfield (v := qI (s 25 5)) qd_159_1 (qfl_8_70 w) (hpc_25 _ _) rfl ?_
  refine qS_istore_n (a := [(0, .ref 25), (1, qI p0)]) qd_159_4 (Nat.le_of_ble_eq_true rfl) (zsub_c rfl (zsub_c rfl zsub_n)) rfl ?_
  refine qS_aload_n qd_159_5 rfl ?_
  refine qS_cvI qd_159_6 (qml_8_88 w) rfl qtm_131 (hpc_25 _ _) (Nat.le_of_ble_eq_true rfl) rfl (Nat.le_of_ble_eq_true rfl) H (fun r1 s1 H => ?_) (fun x s1 H => Or.inr ⟨x, rfl, H⟩)
  refine qS_istore_n (a := [(2, qI (s 25 5)), (0, .ref 25), (1, qI p0)]) qd_159_9 (Nat.le_of_ble_eq_true rfl) (zsub_c rfl (zsub_c rfl (zsub_c rfl zsub_n))) rfl ?_
  refine qS_aload_n qd_159_10 rfl ?_
  refine qS_cvI qd_159_11 (qml_8_80 w) rfl qtm_134 (hpc_25 _ _) (Nat.le_of_ble_eq_true rfl) rfl (Nat.le_of_ble_eq_true rfl) H (fun r2 s2 H => ?_) (fun x s1 H => Or.inr ⟨x, rfl, H⟩)
  obtain ⟨h14a, H1, H2⟩ := H
  refine qS_if0 qd_159_14 rfl (zcnd_eq (a := r2) (b := 0) h14a ⟨by decide, by decide⟩ (fun t => qR w _ _ t _ _ _ _) (fun hc => ?_) (fun hc => ?_))
  · have H := H1 hc; clear H1 H2 hc
    exact qS_sub (zsub_c rfl zsub_n) H
  · have H := H2 hc; clear H1 H2 hc
    refine qS_iload_n qd_159_17 rfl ?_
    obtain ⟨h18a, H1, H2⟩ := H
    refine qS_if0 qd_159_18 rfl (zcnd_eq (a := p0) (b := 0) h18a ⟨by decide, by decide⟩ (fun t => qR w _ _ t _ _ _ _) (fun hc => ?_) (fun hc => ?_))
    · have H := H1 hc; clear H1 H2 hc
      exact qS_sub (zsub_c rfl (zsub_c rfl (zsub_c rfl zsub_n))) H
    · have H := H2 hc; clear H1 H2 hc
      refine qS_iload_n qd_159_21 rfl ?_
      obtain ⟨h22a, H1, H2⟩ := H
      refine qS_if0 qd_159_22 rfl (zcnd_eq (a := r1) (b := 0) h22a ⟨by decide, by decide⟩ (fun t => qR w _ _ t _ _ _ _) (fun hc => ?_) (fun hc => ?_))
      · have H := H1 hc; clear H1 H2 hc
        exact qS_sub (zsub_c rfl zsub_n) H
      · have H := H2 hc; clear H1 H2 hc
        exact qS_sub (zsub_c rfl (zsub_c rfl (zsub_c rfl zsub_n))) H
set_option maxRecDepth 100000 in
theorem k159_25 {w : qE} {s : qS} {v2 : Int} {v3 : Int} {f : Int → qS → Prop} {g : Nat → qS → Prop}  (H : qW w 4 160 [.ref 25, qI v3] s (qPI (fun r3 s3 => Rg r3 ∧ (r3 = 0 → qW w 1 133 [.ref 25, qI v2] s3 (qPI (fun r4 s4 => qR w 4 qm159 39 [(3, qI v3)] [] s4 (qPI f g)) g)) ∧ (r3 ≠ 0 → qR w 4 qm159 39 [(3, qI v3)] [] s3 (qPI f g))) g)) : qR w 4 qm159 25 [(0, .ref 25), (2, qI v2), (3, qI v3)] [] s (qPI f g) := by
  refine qS_aload_n qd_159_25 rfl ?_
  refine qS_iload_n qd_159_26 rfl ?_
  refine qS_cvI qd_159_27 (qml_8_171 w) rfl qtm_160 (hpc_25 _ _) (Nat.le_of_ble_eq_true rfl) rfl (Nat.le_of_ble_eq_true rfl) H (fun r3 s3 H => ?_) (fun x s1 H => Or.inr ⟨x, rfl, H⟩)
  obtain ⟨h30a, H1, H2⟩ := H
  refine qS_if0 qd_159_30 rfl (zcnd_ne (a := r3) (b := 0) h30a ⟨by decide, by decide⟩ (fun t => qR w _ _ t _ _ _ _) (fun hc => ?_) (fun hc => ?_))
  · have H := H1 hc; clear H1 H2 hc
    refine qS_aload_n qd_159_33 rfl ?_
    refine qS_iload_n qd_159_34 rfl ?_
    refine qS_cvI qd_159_35 (qml_8_76 w) rfl qtm_133 (hpc_25 _ _) (Nat.le_of_ble_eq_true rfl) rfl (Nat.le_of_ble_eq_true rfl) H (fun r4 s4 H => ?_) (fun x s1 H => Or.inr ⟨x, rfl, H⟩)
    refine qS_pop qd_159_38 rfl ?_
    exact qS_sub (zsub_c rfl zsub_n) H
  · have H := H2 hc; clear H1 H2 hc
    exact qS_sub (zsub_c rfl zsub_n) H
set_option maxRecDepth 100000 in
theorem k159_39 {w : qE} {s : qS} {v3 : Int} {f : Int → qS → Prop} {g : Nat → qS → Prop}  (H : f v3 s) : qR w 4 qm159 39 [(3, qI v3)] [] s (qPI f g) := by
  refine qS_iload_n qd_159_39 rfl ?_
  exact qS_ireturn qd_159_40 rfl (Or.inl ⟨_, rfl, H⟩)
set_option maxRecDepth 100000 in
theorem k160 {w : qE} {s : qS} {p0 : Int} {f : Int → qS → Prop} {g : Nat → qS → Prop}  (H : qW w 2 139 [.ref 25, qI p0] s (qPI (fun r1 s1 => Rg r1 ∧ (r1 = 7 → qW w 2 141 [.ref 25, qI p0] s1 (qPI (fun r2 s2 => qW w 3 150 [.ref 25, qI r2, qI 0, qI 0] s2 (qPI (fun r3 s3 => Rg r3 ∧ (0 < r3 → qR w 3 qm160 29 [] [qI 1] s3 (qPI f g)) ∧ (r3 ≤ 0 → qR w 3 qm160 28 [] [] s3 (qPI f g))) g)) g)) ∧ (r1 ≠ 7 → qR w 3 qm160 28 [] [] s1 (qPI f g))) g)) : qW w 4 160 [.ref 25, qI p0] s (qPI f g) := by
  refine qW.of (M := qm160) (l := [(0, .ref 25), (1, qI p0)]) qtm_160 rfl (Nat.le_of_ble_eq_true rfl) (zsub_c rfl (zsub_c rfl zsub_n)) ?_
  refine qS_aload_n qd_160_0 rfl ?_
  refine qS_iload_n qd_160_1 rfl ?_
  refine qS_cvI qd_160_2 (qml_8_137 w) rfl qtm_139 (hpc_25 _ _) (Nat.le_of_ble_eq_true rfl) rfl (Nat.le_of_ble_eq_true rfl) H (fun r1 s1 H => ?_) (fun x s1 H => Or.inr ⟨x, rfl, H⟩)
  refine qS_bipush qd_160_5 (by decide) ?_
  obtain ⟨h7a, H1, H2⟩ := H
  refine qS_icmp qd_160_7 rfl (zcnd_ne (a := r1) (b := 7) h7a ⟨by decide, by decide⟩ (fun t => qR w _ _ t _ _ _ _) (fun hc => ?_) (fun hc => ?_))
  · have H := H1 hc; clear H1 H2 hc
    refine qS_aload_n qd_160_10 rfl ?_
    refine qS_aload_n qd_160_11 rfl ?_
    refine qS_iload_n qd_160_12 rfl ?_
    refine qS_cvI qd_160_13 (qml_8_149 w) rfl qtm_141 (hpc_25 _ _) (Nat.le_of_ble_eq_true rfl) rfl (Nat.le_of_ble_eq_true rfl) H (fun r2 s2 H => ?_) (fun x s1 H => Or.inr ⟨x, rfl, H⟩)
    refine qS_iconst qd_160_16 ?_
    refine qS_iconst qd_160_17 ?_
    refine qS_cvI qd_160_18 (qml_8_121 w) rfl qtm_150 (hpc_25 _ _) (Nat.le_of_ble_eq_true rfl) rfl (Nat.le_of_ble_eq_true rfl) H (fun r3 s3 H => ?_) (fun x s1 H => Or.inr ⟨x, rfl, H⟩)
    obtain ⟨h21a, H1, H2⟩ := H
    refine qS_if0 qd_160_21 rfl (zcnd_le (a := r3) (b := 0) h21a ⟨by decide, by decide⟩ (fun t => qR w _ _ t _ _ _ _) (fun hc => ?_) (fun hc => ?_))
    · have H := H1 hc; clear H1 H2 hc
      refine qS_iconst qd_160_24 ?_
      refine qS_goto qd_160_25 rfl ?_
      exact qS_sub zsub_n H
    · have H := H2 hc; clear H1 H2 hc
      exact qS_sub zsub_n H
  · have H := H2 hc; clear H1 H2 hc
    exact qS_sub zsub_n H
set_option maxRecDepth 100000 in
theorem k160_28 {w : qE} {s : qS}  {f : Int → qS → Prop} {g : Nat → qS → Prop}  (H : qR w 3 qm160 29 [] [qI 0] s (qPI f g)) : qR w 3 qm160 28 [] [] s (qPI f g) := by
  refine qS_iconst qd_160_28 ?_
  exact qS_sub zsub_n H
set_option maxRecDepth 100000 in
theorem k160_29 {w : qE} {s : qS} {k0 : Int} {f : Int → qS → Prop} {g : Nat → qS → Prop}  (H : ((k0 = 0 ∨ k0 = 1) ∧ f k0 s)) : qR w 3 qm160 29 [] [qI k0] s (qPI f g) := by
  exact qS_zreturn qd_160_29 rfl H.1 (Or.inl ⟨_, rfl, H.2⟩)
set_option maxRecDepth 100000 in
theorem k161 {w : qE} {s : qS} {p0 : Int} {f : qS → Prop} {g : Nat → qS → Prop}  (H : qW w 3 131 [.ref 25] s (qPI (fun r1 s1 => Rg p0 ∧ (p0 = 0 → qR w 9 qm161 15 [(0, .ref 25), (1, qI p0), (2, qI r1)] [qI 0] s1 (qPV f g)) ∧ (p0 ≠ 0 → qR w 9 qm161 15 [(0, .ref 25), (1, qI p0), (2, qI r1)] [qI 80] s1 (qPV f g))) g)) : qW w 10 161 [.ref 25, qI p0] s (qPV f g) := by
  refine qW.of (M := qm161) (l := [(0, .ref 25), (1, qI p0)]) qtm_161 rfl (Nat.le_of_ble_eq_true rfl) (zsub_c rfl (zsub_c rfl zsub_n)) ?_
  refine qS_aload_n qd_161_0 rfl ?_
  refine qS_cvI qd_161_1 (qml_8_88 w) rfl qtm_131 (hpc_25 _ _) (Nat.le_of_ble_eq_true rfl) rfl (Nat.le_of_ble_eq_true rfl) H (fun r1 s1 H => ?_) (fun x s1 H => Or.inr ⟨x, rfl, H⟩)
  refine qS_istore_n (a := [(0, .ref 25), (1, qI p0)]) qd_161_4 (Nat.le_of_ble_eq_true rfl) (zsub_c rfl (zsub_c rfl zsub_n)) rfl ?_
  refine qS_iload_n qd_161_5 rfl ?_
  obtain ⟨h6a, H1, H2⟩ := H
  refine qS_if0 qd_161_6 rfl (zcnd_eq (a := p0) (b := 0) h6a ⟨by decide, by decide⟩ (fun t => qR w _ _ t _ _ _ _) (fun hc => ?_) (fun hc => ?_))
  · have H := H1 hc; clear H1 H2 hc
    refine qS_iconst qd_161_14 ?_
    exact qS_sub (zsub_c rfl (zsub_c rfl (zsub_c rfl zsub_n))) H
  · have H := H2 hc; clear H1 H2 hc
    refine qS_bipush qd_161_9 (by decide) ?_
    refine qS_goto qd_161_11 rfl ?_
    exact qS_sub (zsub_c rfl (zsub_c rfl (zsub_c rfl zsub_n))) H
set_option maxRecDepth 100000 in
theorem k161_15 {w : qE} {s : qS} {v1 : Int} {v2 : Int} {k0 : Int} {f : qS → Prop} {g : Nat → qS → Prop}  (H : qR w 9 qm161 19 [(0, .ref 25), (1, qI v1), (2, qI v2), (3, qI k0), (4, qI 0)] [] s (qPV f g)) : qR w 9 qm161 15 [(0, .ref 25), (1, qI v1), (2, qI v2)] [qI k0] s (qPV f g) := by
  refine qS_istore_n (a := [(0, .ref 25), (1, qI v1), (2, qI v2)]) qd_161_15 (Nat.le_of_ble_eq_true rfl) (zsub_c rfl (zsub_c rfl (zsub_c rfl zsub_n))) rfl ?_
  refine qS_iconst qd_161_16 ?_
  refine qS_istore (a := [(3, qI k0), (0, .ref 25), (1, qI v1), (2, qI v2)]) qd_161_17 (Nat.le_of_ble_eq_true rfl) (zsub_c rfl (zsub_c rfl (zsub_c rfl (zsub_c rfl zsub_n)))) rfl ?_
  exact qS_sub (zsub_c rfl (zsub_c rfl (zsub_c rfl (zsub_c rfl (zsub_c rfl zsub_n))))) H
set_option maxRecDepth 100000 in
theorem k161_19 {w : qE} {s : qS} {v1 : Int} {v2 : Int} {v3 : Int} {v4 : Int} {f : qS → Prop} {g : Nat → qS → Prop}  (H : Rg v4 ∧ Rg v2 ∧ (v4 < v2 → qW w 1 134 [.ref 25] s (qPI (fun r2 s2 => Rg r2 ∧ (r2 = 0 → qR w 9 qm161 48 [(0, .ref 25), (1, qI v1), (2, qI v2)] [] s2 (qPV f g)) ∧ (r2 ≠ 0 → qW w 9 162 [.ref 25, qI v1, qI v3, qI (v3 + v4)] s2 (qPV (fun s3 => qR w 9 qm161 19 [(0, .ref 25), (1, qI v1), (2, qI v2), (3, qI v3), (4, qI (v4 + 1))] [] s3 (qPV f g)) g))) g)) ∧ (v2 ≤ v4 → qR w 9 qm161 48 [(0, .ref 25), (1, qI v1), (2, qI v2)] [] s (qPV f g))) : qR w 9 qm161 19 [(0, .ref 25), (1, qI v1), (2, qI v2), (3, qI v3), (4, qI v4)] [] s (qPV f g) := by
  refine qS_iload qd_161_19 rfl ?_
  refine qS_iload_n qd_161_21 rfl ?_
  obtain ⟨h22a, h22b, H1, H2⟩ := H
  refine qS_icmp qd_161_22 rfl (zcnd_ge (a := v4) (b := v2) h22a h22b (fun t => qR w _ _ t _ _ _ _) (fun hc => ?_) (fun hc => ?_))
  · have H := H1 hc; clear H1 H2 hc
    refine qS_aload_n qd_161_25 rfl ?_
    refine qS_cvI qd_161_26 (qml_8_80 w) rfl qtm_134 (hpc_25 _ _) (Nat.le_of_ble_eq_true rfl) rfl (Nat.le_of_ble_eq_true rfl) H (fun r2 s2 H => ?_) (fun x s1 H => Or.inr ⟨x, rfl, H⟩)
    obtain ⟨h29a, H1, H2⟩ := H
    refine qS_if0 qd_161_29 rfl (zcnd_eq (a := r2) (b := 0) h29a ⟨by decide, by decide⟩ (fun t => qR w _ _ t _ _ _ _) (fun hc => ?_) (fun hc => ?_))
    · have H := H1 hc; clear H1 H2 hc
      exact qS_sub (zsub_c rfl (zsub_c rfl (zsub_c rfl zsub_n))) H
    · have H := H2 hc; clear H1 H2 hc
      refine qS_aload_n qd_161_32 rfl ?_
      refine qS_iload_n qd_161_33 rfl ?_
      refine qS_iload_n qd_161_34 rfl ?_
      refine qS_iload_n qd_161_35 rfl ?_
      refine qS_iload qd_161_36 rfl ?_
      refine qS_iadd (a := v3) (b := v4) qd_161_38 ?_
      refine qS_cvV qd_161_39 (qml_8_193 w) rfl qtm_162 (hpc_25 _ _) (Nat.le_of_ble_eq_true rfl) rfl (Nat.le_of_ble_eq_true rfl) H (fun s3 H => ?_) (fun x s1 H => Or.inr ⟨x, rfl, H⟩)
      refine qS_iinc (v := v4) (a := [(0, .ref 25), (1, qI v1), (2, qI v2), (3, qI v3)]) qd_161_42 (Nat.le_of_ble_eq_true rfl) rfl (zsub_c rfl (zsub_c rfl (zsub_c rfl (zsub_c rfl zsub_n)))) rfl ?_
      refine qS_goto qd_161_45 rfl ?_
      exact qS_sub (zsub_c rfl (zsub_c rfl (zsub_c rfl (zsub_c rfl (zsub_c rfl zsub_n))))) H
  · have H := H2 hc; clear H1 H2 hc
    exact qS_sub (zsub_c rfl (zsub_c rfl (zsub_c rfl zsub_n))) H
set_option maxRecDepth 100000 in
theorem k161_48 {w : qE} {s : qS} {v1 : Int} {v2 : Int} {f : qS → Prop} {g : Nat → qS → Prop}  (H : Rg v1 ∧ (v1 = 0 → qR w 9 qm161 61 [(0, .ref 25), (2, qI v2)] [qI 0, .ref 35] s (qPV f g)) ∧ (v1 ≠ 0 → qR w 9 qm161 61 [(0, .ref 25), (2, qI v2)] [qI 1, .ref 35] s (qPV f g))) : qR w 9 qm161 48 [(0, .ref 25), (1, qI v1), (2, qI v2)] [] s (qPV f g) := by
  refine qS_aload_n qd_161_48 rfl ?_
  refine qS_getfield (v := .ref 35) qd_161_49 (qfl_8_41 w) (hpc_25 _ _) rfl ?_
  refine qS_iload_n qd_161_52 rfl ?_
  obtain ⟨h53a, H1, H2⟩ := H
  refine qS_if0 qd_161_53 rfl (zcnd_eq (a := v1) (b := 0) h53a ⟨by decide, by decide⟩ (fun t => qR w _ _ t _ _ _ _) (fun hc => ?_) (fun hc => ?_))
  · have H := H1 hc; clear H1 H2 hc
    refine qS_iconst qd_161_60 ?_
    exact qS_sub (zsub_c rfl (zsub_c rfl zsub_n)) H
  · have H := H2 hc; clear H1 H2 hc
    refine qS_iconst qd_161_56 ?_
    refine qS_goto qd_161_57 rfl ?_
    exact qS_sub (zsub_c rfl (zsub_c rfl zsub_n)) H
set_option maxRecDepth 100000 in
theorem k161_61 {w : qE} {s : qS} {v2 : Int} {k1 : Int} {f : qS → Prop} {g : Nat → qS → Prop}  (H : qW w 1 134 [.ref 25] s (qPI (fun r4 s4 => Rg r4 ∧ (r4 = 0 → qR w 9 qm161 73 [] [qI 0, qI k1, .ref 35] s4 (qPV f g)) ∧ (r4 ≠ 0 → qR w 9 qm161 73 [] [qI v2, qI k1, .ref 35] s4 (qPV f g))) g)) : qR w 9 qm161 61 [(0, .ref 25), (2, qI v2)] [qI k1, .ref 35] s (qPV f g) := by
  refine qS_aload_n qd_161_61 rfl ?_
  refine qS_cvI qd_161_62 (qml_8_80 w) rfl qtm_134 (hpc_25 _ _) (Nat.le_of_ble_eq_true rfl) rfl (Nat.le_of_ble_eq_true rfl) H (fun r4 s4 H => ?_) (fun x s1 H => Or.inr ⟨x, rfl, H⟩)
  obtain ⟨h65a, H1, H2⟩ := H
  refine qS_if0 qd_161_65 rfl (zcnd_eq (a := r4) (b := 0) h65a ⟨by decide, by decide⟩ (fun t => qR w _ _ t _ _ _ _) (fun hc => ?_) (fun hc => ?_))
  · have H := H1 hc; clear H1 H2 hc
    refine qS_iconst qd_161_72 ?_
    exact qS_sub zsub_n H
  · have H := H2 hc; clear H1 H2 hc
    refine qS_iload_n qd_161_68 rfl ?_
    refine qS_goto qd_161_69 rfl ?_
    exact qS_sub zsub_n H
set_option maxRecDepth 100000 in
theorem k161_73 {w : qE} {s : qS} {k2 : Int} {k1 : Int} {f : qS → Prop} {g : Nat → qS → Prop}  (H : (0 ≤ k1 ∧ k1 < 2 ∧ (f (qset s 35 k1 k2)))) : qR w 9 qm161 73 [] [qI k2, qI k1, .ref 35] s (qPV f g) := by
  obtain ⟨hl, hu, H⟩ := H
  refine qS_iastore (a := 35) (i := k1) (v := k2) qd_161_73 (Nat.le_of_ble_eq_true rfl) hl hu ?_
  exact qS_vreturn qd_161_74 rfl (Or.inl ⟨rfl, H⟩)
set_option maxRecDepth 100000 in
theorem k162 {w : qE} {s : qS} {p0 : Int} {p1 : Int} {p2 : Int} {f : qS → Prop} {g : Nat → qS → Prop}  (H : qW w 3 131 [.ref 25] s (qPI (fun r1 s1 => Rg (qand r1 1024) ∧ (qand r1 1024 = 0 → qR w 8 qm162 32 [(0, .ref 25), (1, qI p0), (2, qI p1), (3, qI p2), (4, qI (s 25 5)), (5, qI r1)] [qI 0] s1 (qPV f g)) ∧ (qand r1 1024 ≠ 0 → qR w 8 qm162 32 [(0, .ref 25), (1, qI p0), (2, qI p1), (3, qI p2), (4, qI (s 25 5)), (5, qI r1)] [qI 1] s1 (qPV f g))) g)) : qW w 9 162 [.ref 25, qI p0, qI p1, qI p2] s (qPV f g) := by
  refine qW.of (M := qm162) (l := [(0, .ref 25), (1, qI p0), (2, qI p1), (3, qI p2)]) qtm_162 rfl (Nat.le_of_ble_eq_true rfl) (zsub_c rfl (zsub_c rfl (zsub_c rfl (zsub_c rfl zsub_n)))) ?_
  refine qS_aload_n qd_162_0 rfl ?_
  refine qS_getfield (v := qI (s 25 5)) qd_162_1 (qfl_8_70 w) (hpc_25 _ _) rfl ?_
  refine qS_istore (a := [(0, .ref 25), (1, qI p0), (2, qI p1), (3, qI p2)]) qd_162_4 (Nat.le_of_ble_eq_true rfl) (zsub_c rfl (zsub_c rfl (zsub_c rfl (zsub_c rfl zsub_n)))) rfl ?_
  refine qS_aload_n qd_162_6 rfl ?_
  refine qS_cvI qd_162_7 (qml_8_88 w) rfl qtm_131 (hpc_25 _ _) (Nat.le_of_ble_eq_true rfl) rfl (Nat.le_of_ble_eq_true rfl) H (fun r1 s1 H => ?_) (fun x s1 H => Or.inr ⟨x, rfl, H⟩)
  refine qS_istore (a := [(4, qI (s 25 5)), (0, .ref 25), (1, qI p0), (2, qI p1), (3, qI p2)]) qd_162_10 (Nat.le_of_ble_eq_true rfl) (zsub_c rfl (zsub_c rfl (zsub_c rfl (zsub_c rfl (zsub_c rfl zsub_n))))) rfl ?_
  refine qS_iconst qd_162_12 ?_
  refine qS_istore (a := [(5, qI r1), (4, qI (s 25 5)), (0, .ref 25), (1, qI p0), (2, qI p1), (3, qI p2)]) qd_162_13 (Nat.le_of_ble_eq_true rfl) (zsub_c rfl (zsub_c rfl (zsub_c rfl (zsub_c rfl (zsub_c rfl (zsub_c rfl zsub_n)))))) rfl ?_
  refine qS_iconst qd_162_15 ?_
  refine qS_istore (a := [(5, qI r1), (4, qI (s 25 5)), (0, .ref 25), (1, qI p0), (2, qI p1), (3, qI p2)]) qd_162_16 (Nat.le_of_ble_eq_true rfl) (zsub_c rfl (zsub_c rfl (zsub_c rfl (zsub_c rfl (zsub_c rfl (zsub_c rfl zsub_n)))))) rfl ?_
  refine qS_iload qd_162_18 rfl ?_
  refine qS_sipush qd_162_20 (by decide) ?_
  refine qS_iand (a := r1) (b := 1024) qd_162_23 ?_
  obtain ⟨h24a, H1, H2⟩ := H
  refine qS_if0 qd_162_24 rfl (zcnd_eq (a := qand r1 1024) (b := 0) h24a ⟨by decide, by decide⟩ (fun t => qR w _ _ t _ _ _ _) (fun hc => ?_) (fun hc => ?_))
  · have H := H1 hc; clear H1 H2 hc
    refine qS_iconst qd_162_31 ?_
    exact qS_sub (zsub_c rfl (zsub_c rfl (zsub_c rfl (zsub_c rfl (zsub_c rfl (zsub_c rfl zsub_n)))))) H
  · have H := H2 hc; clear H1 H2 hc
    refine qS_iconst qd_162_27 ?_
    refine qS_goto qd_162_28 rfl ?_
    exact qS_sub (zsub_c rfl (zsub_c rfl (zsub_c rfl (zsub_c rfl (zsub_c rfl (zsub_c rfl zsub_n)))))) H
set_option maxRecDepth 100000 in
theorem k162_32 {w : qE} {s : qS} {v1 : Int} {v2 : Int} {v3 : Int} {v4 : Int} {v5 : Int} {k0 : Int} {f : qS → Prop} {g : Nat → qS → Prop}  (H : qW w 1 134 [.ref 25] s (qPI (fun r2 s2 => Rg r2 ∧ (r2 = 0 → qR w 8 qm162 88 [(0, .ref 25), (1, qI v1), (2, qI v2), (3, qI v3), (4, qI v4), (5, qI v5)] [] s2 (qPV f g)) ∧ (r2 ≠ 0 → qW w 1 163 [qI v5] s2 (qPI (fun r3 s3 => Rg r3 ∧ (1 < r3 → qR w 8 qm162 81 [(0, .ref 25), (1, qI v1), (2, qI v2), (3, qI v3), (4, qI v4), (5, qI v5)] [] s3 (qPV f g)) ∧ (r3 ≤ 1 → Rg v1 ∧ (v1 = 0 → Rg (qand v5 80) ∧ (qand v5 80 = 80 → qR w 8 qm162 81 [(0, .ref 25), (1, qI v1), (2, qI v2), (3, qI v3), (4, qI v4), (5, qI v5)] [] s3 (qPV f g)) ∧ (qand v5 80 ≠ 80 → qR w 8 qm162 88 [(0, .ref 25), (1, qI v1), (2, qI v2), (3, qI v3), (4, qI v4), (5, qI v5)] [] s3 (qPV f g))) ∧ (v1 ≠ 0 → Rg k0 ∧ (k0 = 0 → qR w 8 qm162 88 [(0, .ref 25), (1, qI v1), (2, qI v2), (3, qI v3), (4, qI v4), (5, qI v5)] [] s3 (qPV f g)) ∧ (k0 ≠ 0 → Rg (qand v5 314) ∧ (qand v5 314 = 0 → qR w 8 qm162 88 [(0, .ref 25), (1, qI v1), (2, qI v2), (3, qI v3), (4, qI v4), (5, qI v5)] [] s3 (qPV f g)) ∧ (qand v5 314 ≠ 0 → qR w 8 qm162 81 [(0, .ref 25), (1, qI v1), (2, qI v2), (3, qI v3), (4, qI v4), (5, qI v5)] [] s3 (qPV f g)))))) g))) g)) : qR w 8 qm162 32 [(0, .ref 25), (1, qI v1), (2, qI v2), (3, qI v3), (4, qI v4), (5, qI v5)] [qI k0] s (qPV f g) := by
  refine qS_istore (a := [(0, .ref 25), (1, qI v1), (2, qI v2), (3, qI v3), (4, qI v4), (5, qI v5)]) qd_162_32 (Nat.le_of_ble_eq_true rfl) (zsub_c rfl (zsub_c rfl (zsub_c rfl (zsub_c rfl (zsub_c rfl (zsub_c rfl zsub_n)))))) rfl ?_
  refine qS_aload_n qd_162_34 rfl ?_
  refine qS_cvI qd_162_35 (qml_8_80 w) rfl qtm_134 (hpc_25 _ _) (Nat.le_of_ble_eq_true rfl) rfl (Nat.le_of_ble_eq_true rfl) H (fun r2 s2 H => ?_) (fun x s1 H => Or.inr ⟨x, rfl, H⟩)
  obtain ⟨h38a, H1, H2⟩ := H
  refine qS_if0 qd_162_38 rfl (zcnd_eq (a := r2) (b := 0) h38a ⟨by decide, by decide⟩ (fun t => qR w _ _ t _ _ _ _) (fun hc => ?_) (fun hc => ?_))
  · have H := H1 hc; clear H1 H2 hc
    exact qS_sub (zsub_c rfl (zsub_c rfl (zsub_c rfl (zsub_c rfl (zsub_c rfl (zsub_c rfl zsub_n)))))) H
  · have H := H2 hc; clear H1 H2 hc
    refine qS_iload qd_162_41 rfl ?_
    refine qS_csI qd_162_43 (qml_8_197 w) rfl (Nat.le_of_ble_eq_true rfl) rfl (Nat.le_of_ble_eq_true rfl) H (fun r3 s3 H => ?_) (fun x s1 H => Or.inr ⟨x, rfl, H⟩)
    refine qS_iconst qd_162_46 ?_
    obtain ⟨h47a, H1, H2⟩ := H
    refine qS_icmp qd_162_47 rfl (zcnd_gt (a := r3) (b := 1) h47a ⟨by decide, by decide⟩ (fun t => qR w _ _ t _ _ _ _) (fun hc => ?_) (fun hc => ?_))
    · have H := H1 hc; clear H1 H2 hc
      exact qS_sub (zsub_c rfl (zsub_c rfl (zsub_c rfl (zsub_c rfl (zsub_c rfl (zsub_c rfl zsub_n)))))) H
    · have H := H2 hc; clear H1 H2 hc
      refine qS_iload_n qd_162_50 rfl ?_
      obtain ⟨h51a, H1, H2⟩ := H
      refine qS_if0 qd_162_51 rfl (zcnd_eq (a := v1) (b := 0) h51a ⟨by decide, by decide⟩ (fun t => qR w _ _ t _ _ _ _) (fun hc => ?_) (fun hc => ?_))
      · have H := H1 hc; clear H1 H2 hc
        refine qS_iload qd_162_71 rfl ?_
        refine qS_bipush qd_162_73 (by decide) ?_
        refine qS_iand (a := v5) (b := 80) qd_162_75 ?_
        refine qS_bipush qd_162_76 (by decide) ?_
        obtain ⟨h78a, H1, H2⟩ := H
        refine qS_icmp qd_162_78 rfl (zcnd_ne (a := qand v5 80) (b := 80) h78a ⟨by decide, by decide⟩ (fun t => qR w _ _ t _ _ _ _) (fun hc => ?_) (fun hc => ?_))
        · have H := H1 hc; clear H1 H2 hc
          exact qS_sub (zsub_c rfl (zsub_c rfl (zsub_c rfl (zsub_c rfl (zsub_c rfl (zsub_c rfl zsub_n)))))) H
        · have H := H2 hc; clear H1 H2 hc
          exact qS_sub (zsub_c rfl (zsub_c rfl (zsub_c rfl (zsub_c rfl (zsub_c rfl (zsub_c rfl zsub_n)))))) H
      · have H := H2 hc; clear H1 H2 hc
        refine qS_iload qd_162_54 rfl ?_
        obtain ⟨h56a, H1, H2⟩ := H
        refine qS_if0 qd_162_56 rfl (zcnd_eq (a := k0) (b := 0) h56a ⟨by decide, by decide⟩ (fun t => qR w _ _ t _ _ _ _) (fun hc => ?_) (fun hc => ?_))
        · have H := H1 hc; clear H1 H2 hc
          exact qS_sub (zsub_c rfl (zsub_c rfl (zsub_c rfl (zsub_c rfl (zsub_c rfl (zsub_c rfl zsub_n)))))) H
        · have H := H2 hc; clear H1 H2 hc
          refine qS_iload qd_162_59 rfl ?_
          refine qS_sipush qd_162_61 (by decide) ?_
          refine qS_iand (a := v5) (b := 314) qd_162_64 ?_
          obtain ⟨h65a, H1, H2⟩ := H
          refine qS_if0 qd_162_65 rfl (zcnd_eq (a := qand v5 314) (b := 0) h65a ⟨by decide, by decide⟩ (fun t => qR w _ _ t _ _ _ _) (fun hc => ?_) (fun hc => ?_))
          · have H := H1 hc; clear H1 H2 hc
            exact qS_sub (zsub_c rfl (zsub_c rfl (zsub_c rfl (zsub_c rfl (zsub_c rfl (zsub_c rfl zsub_n)))))) H
          · have H := H2 hc; clear H1 H2 hc
            refine qS_goto qd_162_68 rfl ?_
            exact qS_sub (zsub_c rfl (zsub_c rfl (zsub_c rfl (zsub_c rfl (zsub_c rfl (zsub_c rfl zsub_n)))))) H
set_option maxRecDepth 100000 in
theorem k162_81 {w : qE} {s : qS} {v1 : Int} {v2 : Int} {v3 : Int} {v4 : Int} {v5 : Int} {f : qS → Prop} {g : Nat → qS → Prop}  (H : qW w 1 133 [.ref 25, qI v4] s (qPI (fun r4 s4 => qR w 8 qm162 88 [(0, .ref 25), (1, qI v1), (2, qI v2), (3, qI v3), (4, qI v4), (5, qI v5)] [] s4 (qPV f g)) g)) : qR w 8 qm162 81 [(0, .ref 25), (1, qI v1), (2, qI v2), (3, qI v3), (4, qI v4), (5, qI v5)] [] s (qPV f g) := by
  refine qS_aload_n qd_162_81 rfl ?_
  refine qS_iload qd_162_82 rfl ?_
  refine qS_cvI qd_162_84 (qml_8_76 w) rfl qtm_133 (hpc_25 _ _) (Nat.le_of_ble_eq_true rfl) rfl (Nat.le_of_ble_eq_true rfl) H (fun r4 s4 H => ?_) (fun x s1 H => Or.inr ⟨x, rfl, H⟩)
  refine qS_pop qd_162_87 rfl ?_
  exact qS_sub (zsub_c rfl (zsub_c rfl (zsub_c rfl (zsub_c rfl (zsub_c rfl (zsub_c rfl zsub_n)))))) H
set_option maxRecDepth 100000 in
theorem k162_88 {w : qE} {s : qS} {v1 : Int} {v2 : Int} {v3 : Int} {v4 : Int} {v5 : Int} {f : qS → Prop} {g : Nat → qS → Prop}  (H : qW w 3 131 [.ref 25] s (qPI (fun r5 s5 => qW w 1 134 [.ref 25] s5 (qPI (fun r6 s6 => Rg r6 ∧ (r6 = 0 → qR w 8 qm162 144 [(0, .ref 25), (1, qI v1), (2, qI v2), (3, qI v3), (4, qI v4), (5, qI v5), (6, qI r5)] [] s6 (qPV f g)) ∧ (r6 ≠ 0 → qW w 3 144 [.ref 25, qI r5] s6 (qPI (fun r7 s7 => Rg r7 ∧ (r7 = 0 → qR w 8 qm162 135 [(0, .ref 25), (1, qI v1), (2, qI v2), (3, qI v3), (4, qI v4), (5, qI v5), (6, qI r5)] [] s7 (qPV f g)) ∧ (r7 ≠ 0 → Rg v1 ∧ (v1 = 0 → qW w 3 157 [.ref 25, qI r5] s7 (qPI (fun r8 s8 => Rg r8 ∧ (r8 = 0 → qR w 8 qm162 135 [(0, .ref 25), (1, qI v1), (2, qI v2), (3, qI v3), (4, qI v4), (5, qI v5), (6, qI r5)] [] s8 (qPV f g)) ∧ (r8 ≠ 0 → qR w 8 qm162 144 [(0, .ref 25), (1, qI v1), (2, qI v2), (3, qI v3), (4, qI v4), (5, qI v5), (6, qI r5)] [] s8 (qPV f g))) g)) ∧ (v1 ≠ 0 → qW w 4 154 [.ref 25, qI r5] s7 (qPI (fun r9 s9 => Rg r9 ∧ (r9 = 0 → qR w 8 qm162 135 [(0, .ref 25), (1, qI v1), (2, qI v2), (3, qI v3), (4, qI v4), (5, qI v5), (6, qI r5)] [] s9 (qPV f g)) ∧ (r9 ≠ 0 → qR w 8 qm162 144 [(0, .ref 25), (1, qI v1), (2, qI v2), (3, qI v3), (4, qI v4), (5, qI v5), (6, qI r5)] [] s9 (qPV f g))) g)))) g))) g)) g)) : qR w 8 qm162 88 [(0, .ref 25), (1, qI v1), (2, qI v2), (3, qI v3), (4, qI v4), (5, qI v5)] [] s (qPV f g) := by
  refine qS_aload_n qd_162_88 rfl ?_
  refine qS_cvI qd_162_89 (qml_8_88 w) rfl qtm_131 (hpc_25 _ _) (Nat.le_of_ble_eq_true rfl) rfl (Nat.le_of_ble_eq_true rfl) H (fun r5 s5 H => ?_) (fun x s1 H => Or.inr ⟨x, rfl, H⟩)
  refine qS_istore (a := [(0, .ref 25), (1, qI v1), (2, qI v2), (3, qI v3), (4, qI v4), (5, qI v5)]) qd_162_92 (Nat.le_of_ble_eq_true rfl) (zsub_c rfl (zsub_c rfl (zsub_c rfl (zsub_c rfl (zsub_c rfl (zsub_c rfl zsub_n)))))) rfl ?_
  refine qS_aload_n qd_162_94 rfl ?_
  refine qS_cvI qd_162_95 (qml_8_80 w) rfl qtm_134 (hpc_25 _ _) (Nat.le_of_ble_eq_true rfl) rfl (Nat.le_of_ble_eq_true rfl) H (fun r6 s6 H => ?_) (fun x s1 H => Or.inr ⟨x, rfl, H⟩)
  obtain ⟨h98a, H1, H2⟩ := H
  refine qS_if0 qd_162_98 rfl (zcnd_eq (a := r6) (b := 0) h98a ⟨by decide, by decide⟩ (fun t => qR w _ _ t _ _ _ _) (fun hc => ?_) (fun hc => ?_))
  · have H := H1 hc; clear H1 H2 hc
    exact qS_sub (zsub_c rfl (zsub_c rfl (zsub_c rfl (zsub_c rfl (zsub_c rfl (zsub_c rfl (zsub_c rfl zsub_n))))))) H
  · have H := H2 hc; clear H1 H2 hc
    refine qS_aload_n qd_162_101 rfl ?_
    refine qS_iload qd_162_102 rfl ?_
    refine qS_cvI qd_162_104 (qml_8_143 w) rfl qtm_144 (hpc_25 _ _) (Nat.le_of_ble_eq_true rfl) rfl (Nat.le_of_ble_eq_true rfl) H (fun r7 s7 H => ?_) (fun x s1 H => Or.inr ⟨x, rfl, H⟩)
    obtain ⟨h107a, H1, H2⟩ := H
    refine qS_if0 qd_162_107 rfl (zcnd_eq (a := r7) (b := 0) h107a ⟨by decide, by decide⟩ (fun t => qR w _ _ t _ _ _ _) (fun hc => ?_) (fun hc => ?_))
    · have H := H1 hc; clear H1 H2 hc
      exact qS_sub (zsub_c rfl (zsub_c rfl (zsub_c rfl (zsub_c rfl (zsub_c rfl (zsub_c rfl (zsub_c rfl zsub_n))))))) H
    · have H := H2 hc; clear H1 H2 hc
      refine qS_iload_n qd_162_110 rfl ?_
      obtain ⟨h111a, H1, H2⟩ := H
      refine qS_if0 qd_162_111 rfl (zcnd_eq (a := v1) (b := 0) h111a ⟨by decide, by decide⟩ (fun t => qR w _ _ t _ _ _ _) (fun hc => ?_) (fun hc => ?_))
      · have H := H1 hc; clear H1 H2 hc
        refine qS_aload_n qd_162_126 rfl ?_
        refine qS_iload qd_162_127 rfl ?_
        refine qS_cvI qd_162_129 (qml_8_115 w) rfl qtm_157 (hpc_25 _ _) (Nat.le_of_ble_eq_true rfl) rfl (Nat.le_of_ble_eq_true rfl) H (fun r8 s8 H => ?_) (fun x s1 H => Or.inr ⟨x, rfl, H⟩)
        obtain ⟨h132a, H1, H2⟩ := H
        refine qS_if0 qd_162_132 rfl (zcnd_ne (a := r8) (b := 0) h132a ⟨by decide, by decide⟩ (fun t => qR w _ _ t _ _ _ _) (fun hc => ?_) (fun hc => ?_))
        · have H := H1 hc; clear H1 H2 hc
          exact qS_sub (zsub_c rfl (zsub_c rfl (zsub_c rfl (zsub_c rfl (zsub_c rfl (zsub_c rfl (zsub_c rfl zsub_n))))))) H
        · have H := H2 hc; clear H1 H2 hc
          exact qS_sub (zsub_c rfl (zsub_c rfl (zsub_c rfl (zsub_c rfl (zsub_c rfl (zsub_c rfl (zsub_c rfl zsub_n))))))) H
      · have H := H2 hc; clear H1 H2 hc
        refine qS_aload_n qd_162_114 rfl ?_
        refine qS_iload qd_162_115 rfl ?_
        refine qS_cvI qd_162_117 (qml_8_165 w) rfl qtm_154 (hpc_25 _ _) (Nat.le_of_ble_eq_true rfl) rfl (Nat.le_of_ble_eq_true rfl) H (fun r9 s9 H => ?_) (fun x s1 H => Or.inr ⟨x, rfl, H⟩)
        obtain ⟨h120a, H1, H2⟩ := H
        refine qS_if0 qd_162_120 rfl (zcnd_eq (a := r9) (b := 0) h120a ⟨by decide, by decide⟩ (fun t => qR w _ _ t _ _ _ _) (fun hc => ?_) (fun hc => ?_))
        · have H := H1 hc; clear H1 H2 hc
          exact qS_sub (zsub_c rfl (zsub_c rfl (zsub_c rfl (zsub_c rfl (zsub_c rfl (zsub_c rfl (zsub_c rfl zsub_n))))))) H
        · have H := H2 hc; clear H1 H2 hc
          refine qS_goto qd_162_123 rfl ?_
          exact qS_sub (zsub_c rfl (zsub_c rfl (zsub_c rfl (zsub_c rfl (zsub_c rfl (zsub_c rfl (zsub_c rfl zsub_n))))))) H
set_option maxRecDepth 100000 in
theorem k162_135 {w : qE} {s : qS} {v1 : Int} {v2 : Int} {v3 : Int} {v4 : Int} {v5 : Int} {v6 : Int} {f : qS → Prop} {g : Nat → qS → Prop}  (H : qW w 1 133 [.ref 25, qI (v4 + 2)] s (qPI (fun r10 s10 => qR w 8 qm162 144 [(0, .ref 25), (1, qI v1), (2, qI v2), (3, qI v3), (4, qI v4), (5, qI v5), (6, qI v6)] [] s10 (qPV f g)) g)) : qR w 8 qm162 135 [(0, .ref 25), (1, qI v1), (2, qI v2), (3, qI v3), (4, qI v4), (5, qI v5), (6, qI v6)] [] s (qPV f g) := by
  refine qS_aload_n qd_162_135 rfl ?_
  refine qS_iload qd_162_136 rfl ?_
  refine qS_iconst qd_162_138 ?_
  refine qS_iadd (a := v4) (b := 2) qd_162_139 ?_
  refine qS_cvI qd_162_140 (qml_8_76 w) rfl qtm_133 (hpc_25 _ _) (Nat.le_of_ble_eq_true rfl) rfl (Nat.le_of_ble_eq_true rfl) H (fun r10 s10 H => ?_) (fun x s1 H => Or.inr ⟨x, rfl, H⟩)
  refine qS_pop qd_162_143 rfl ?_
  exact qS_sub (zsub_c rfl (zsub_c rfl (zsub_c rfl (zsub_c rfl (zsub_c rfl (zsub_c rfl (zsub_c rfl zsub_n))))))) H
set_option maxRecDepth 100000 in
theorem k162_144 {w : qE} {s : qS} {v1 : Int} {v2 : Int} {v3 : Int} {v4 : Int} {v5 : Int} {v6 : Int} {f : qS → Prop} {g : Nat → qS → Prop}  (H : qW w 3 131 [.ref 25] s (qPI (fun r11 s11 => qW w 1 134 [.ref 25] s11 (qPI (fun r12 s12 => Rg r12 ∧ (r12 = 0 → qR w 8 qm162 187 [(0, .ref 25), (1, qI v1), (2, qI v2), (3, qI v3), (4, qI v4), (5, qI v5), (6, qI v6), (7, qI r11)] [] s12 (qPV f g)) ∧ (r12 ≠ 0 → qW w 3 144 [.ref 25, qI r11] s12 (qPI (fun r13 s13 => Rg r13 ∧ (r13 = 0 → qR w 8 qm162 178 [(0, .ref 25), (1, qI v1), (2, qI v2), (3, qI v3), (4, qI v4), (5, qI v5), (6, qI v6), (7, qI r11)] [] s13 (qPV f g)) ∧ (r13 ≠ 0 → qW w 6 164 [.ref 25, qI v1, qI v6, qI r11] s13 (qPI (fun r14 s14 => Rg r14 ∧ (r14 = 0 → qR w 8 qm162 178 [(0, .ref 25), (1, qI v1), (2, qI v2), (3, qI v3), (4, qI v4), (5, qI v5), (6, qI v6), (7, qI r11)] [] s14 (qPV f g)) ∧ (r14 ≠ 0 → qR w 8 qm162 187 [(0, .ref 25), (1, qI v1), (2, qI v2), (3, qI v3), (4, qI v4), (5, qI v5), (6, qI v6), (7, qI r11)] [] s14 (qPV f g))) g))) g))) g)) g)) : qR w 8 qm162 144 [(0, .ref 25), (1, qI v1), (2, qI v2), (3, qI v3), (4, qI v4), (5, qI v5), (6, qI v6)] [] s (qPV f g) := by
  refine qS_aload_n qd_162_144 rfl ?_
  refine qS_cvI qd_162_145 (qml_8_88 w) rfl qtm_131 (hpc_25 _ _) (Nat.le_of_ble_eq_true rfl) rfl (Nat.le_of_ble_eq_true rfl) H (fun r11 s11 H => ?_) (fun x s1 H => Or.inr ⟨x, rfl, H⟩)
  refine qS_istore (a := [(0, .ref 25), (1, qI v1), (2, qI v2), (3, qI v3), (4, qI v4), (5, qI v5), (6, qI v6)]) qd_162_148 (Nat.le_of_ble_eq_true rfl) (zsub_c rfl (zsub_c rfl (zsub_c rfl (zsub_c rfl (zsub_c rfl (zsub_c rfl (zsub_c rfl zsub_n))))))) rfl ?_
  refine qS_aload_n qd_162_150 rfl ?_
  refine qS_cvI qd_162_151 (qml_8_80 w) rfl qtm_134 (hpc_25 _ _) (Nat.le_of_ble_eq_true rfl) rfl (Nat.le_of_ble_eq_true rfl) H (fun r12 s12 H => ?_) (fun x s1 H => Or.inr ⟨x, rfl, H⟩)
  obtain ⟨h154a, H1, H2⟩ := H
  refine qS_if0 qd_162_154 rfl (zcnd_eq (a := r12) (b := 0) h154a ⟨by decide, by decide⟩ (fun t => qR w _ _ t _ _ _ _) (fun hc => ?_) (fun hc => ?_))
  · have H := H1 hc; clear H1 H2 hc
    exact qS_sub (zsub_c rfl (zsub_c rfl (zsub_c rfl (zsub_c rfl (zsub_c rfl (zsub_c rfl (zsub_c rfl (zsub_c rfl zsub_n)))))))) H
  · have H := H2 hc; clear H1 H2 hc
    refine qS_aload_n qd_162_157 rfl ?_
    refine qS_iload qd_162_158 rfl ?_
    refine qS_cvI qd_162_160 (qml_8_143 w) rfl qtm_144 (hpc_25 _ _) (Nat.le_of_ble_eq_true rfl) rfl (Nat.le_of_ble_eq_true rfl) H (fun r13 s13 H => ?_) (fun x s1 H => Or.inr ⟨x, rfl, H⟩)
    obtain ⟨h163a, H1, H2⟩ := H
    refine qS_if0 qd_162_163 rfl (zcnd_eq (a := r13) (b := 0) h163a ⟨by decide, by decide⟩ (fun t => qR w _ _ t _ _ _ _) (fun hc => ?_) (fun hc => ?_))
    · have H := H1 hc; clear H1 H2 hc
      exact qS_sub (zsub_c rfl (zsub_c rfl (zsub_c rfl (zsub_c rfl (zsub_c rfl (zsub_c rfl (zsub_c rfl (zsub_c rfl zsub_n)))))))) H
    · have H := H2 hc; clear H1 H2 hc
      refine qS_aload_n qd_162_166 rfl ?_
      refine qS_iload_n qd_162_167 rfl ?_
      refine qS_iload qd_162_168 rfl ?_
      refine qS_iload qd_162_170 rfl ?_
      refine qS_cvI qd_162_172 (qml_8_200 w) rfl qtm_164 (hpc_25 _ _) (Nat.le_of_ble_eq_true rfl) rfl (Nat.le_of_ble_eq_true rfl) H (fun r14 s14 H => ?_) (fun x s1 H => Or.inr ⟨x, rfl, H⟩)
      obtain ⟨h175a, H1, H2⟩ := H
      refine qS_if0 qd_162_175 rfl (zcnd_ne (a := r14) (b := 0) h175a ⟨by decide, by decide⟩ (fun t => qR w _ _ t _ _ _ _) (fun hc => ?_) (fun hc => ?_))
      · have H := H1 hc; clear H1 H2 hc
        exact qS_sub (zsub_c rfl (zsub_c rfl (zsub_c rfl (zsub_c rfl (zsub_c rfl (zsub_c rfl (zsub_c rfl (zsub_c rfl zsub_n)))))))) H
      · have H := H2 hc; clear H1 H2 hc
        exact qS_sub (zsub_c rfl (zsub_c rfl (zsub_c rfl (zsub_c rfl (zsub_c rfl (zsub_c rfl (zsub_c rfl (zsub_c rfl zsub_n)))))))) H
set_option maxRecDepth 100000 in
theorem k162_178 {w : qE} {s : qS} {v1 : Int} {v2 : Int} {v3 : Int} {v4 : Int} {v5 : Int} {v6 : Int} {v7 : Int} {f : qS → Prop} {g : Nat → qS → Prop}  (H : qW w 1 133 [.ref 25, qI (v4 + 4)] s (qPI (fun r15 s15 => qR w 8 qm162 187 [(0, .ref 25), (1, qI v1), (2, qI v2), (3, qI v3), (4, qI v4), (5, qI v5), (6, qI v6), (7, qI v7)] [] s15 (qPV f g)) g)) : qR w 8 qm162 178 [(0, .ref 25), (1, qI v1), (2, qI v2), (3, qI v3), (4, qI v4), (5, qI v5), (6, qI v6), (7, qI v7)] [] s (qPV f g) := by
  refine qS_aload_n qd_162_178 rfl ?_
  refine qS_iload qd_162_179 rfl ?_
  refine qS_iconst qd_162_181 ?_
  refine qS_iadd (a := v4) (b := 4) qd_162_182 ?_
  refine qS_cvI qd_162_183 (qml_8_76 w) rfl qtm_133 (hpc_25 _ _) (Nat.le_of_ble_eq_true rfl) rfl (Nat.le_of_ble_eq_true rfl) H (fun r15 s15 H => ?_) (fun x s1 H => Or.inr ⟨x, rfl, H⟩)
  refine qS_pop qd_162_186 rfl ?_
  exact qS_sub (zsub_c rfl (zsub_c rfl (zsub_c rfl (zsub_c rfl (zsub_c rfl (zsub_c rfl (zsub_c rfl (zsub_c rfl zsub_n)))))))) H
set_option maxRecDepth 100000 in
theorem k162_187 {w : qE} {s : qS} {v1 : Int} {v2 : Int} {v3 : Int} {v4 : Int} {v5 : Int} {v6 : Int} {v7 : Int} {f : qS → Prop} {g : Nat → qS → Prop}  (H : qW w 1 134 [.ref 25] s (qPI (fun r16 s16 => Rg r16 ∧ (r16 = 0 → f s16) ∧ (r16 ≠ 0 → qR w 8 qm162 198 [(0, .ref 25), (1, qI v1), (3, qI v3), (4, qI v4), (5, qI v5), (6, qI v6), (7, qI v7), (9, qI v2)] [] s16 (qPV f g))) g)) : qR w 8 qm162 187 [(0, .ref 25), (1, qI v1), (2, qI v2), (3, qI v3), (4, qI v4), (5, qI v5), (6, qI v6), (7, qI v7)] [] s (qPV f g) := by
  refine qS_aload_n qd_162_187 rfl ?_
  refine qS_cvI qd_162_188 (qml_8_80 w) rfl qtm_134 (hpc_25 _ _) (Nat.le_of_ble_eq_true rfl) rfl (Nat.le_of_ble_eq_true rfl) H (fun r16 s16 H => ?_) (fun x s1 H => Or.inr ⟨x, rfl, H⟩)
  obtain ⟨h191a, H1, H2⟩ := H
  refine qS_if0 qd_162_191 rfl (zcnd_ne (a := r16) (b := 0) h191a ⟨by decide, by decide⟩ (fun t => qR w _ _ t _ _ _ _) (fun hc => ?_) (fun hc => ?_))
  · have H := H1 hc; clear H1 H2 hc
    exact qS_vreturn qd_162_194 rfl (Or.inl ⟨rfl, H⟩)
  · have H := H2 hc; clear H1 H2 hc
    refine qS_iload_n qd_162_195 rfl ?_
    refine qS_istore (a := [(0, .ref 25), (1, qI v1), (3, qI v3), (4, qI v4), (5, qI v5), (6, qI v6), (7, qI v7)]) qd_162_196 (Nat.le_of_ble_eq_true rfl) (zsub_c rfl (zsub_c rfl (zsub_c rfl (zsub_c rfl (zsub_c rfl (zsub_c rfl (zsub_c rfl zsub_n))))))) rfl ?_
    exact qS_sub (zsub_c rfl (zsub_c rfl (zsub_c rfl (zsub_c rfl (zsub_c rfl (zsub_c rfl (zsub_c rfl (zsub_c rfl zsub_n)))))))) H
set_option maxRecDepth 100000 in
theorem k162_198 {w : qE} {s : qS} {v1 : Int} {v3 : Int} {v4 : Int} {v5 : Int} {v6 : Int} {v7 : Int} {v9 : Int} {f : qS → Prop} {g : Nat → qS → Prop}  (H : Rg v9 ∧ Rg v3 ∧ (v9 < v3 → (0 ≤ v9 ∧ v9 < 160 ∧ (qW w 1 142 [.ref 25, qI ((s 30 v9) + 2)] s (qPI (fun r17 s17 => qW w 3 165 [.ref 25, qI r17, qI v6] s17 (qPI (fun r18 s18 => Rg r18 ∧ (r18 = 0 → qR w 8 qm162 257 [(0, .ref 25), (1, qI v1), (3, qI v3), (4, qI v4), (5, qI v5), (6, qI v6), (7, qI v7), (9, qI v9)] [] s18 (qPV f g)) ∧ (r18 ≠ 0 → (0 ≤ v9 ∧ v9 < 160 ∧ (qW w 1 142 [.ref 25, qI ((s18 30 v9) + 4)] s18 (qPI (fun r19 s19 => qW w 3 165 [.ref 25, qI r19, qI v7] s19 (qPI (fun r20 s20 => Rg r20 ∧ (r20 = 0 → qR w 8 qm162 257 [(0, .ref 25), (1, qI v1), (3, qI v3), (4, qI v4), (5, qI v5), (6, qI v6), (7, qI v7), (9, qI v9)] [] s20 (qPV f g)) ∧ (r20 ≠ 0 → qW w 1 133 [.ref 25, qI (v4 + 2)] s20 (qPI (fun r21 s21 => qR w 8 qm162 257 [(0, .ref 25), (1, qI v1), (3, qI v3), (4, qI v4), (5, qI v5), (6, qI v6), (7, qI v7), (9, qI v9)] [] s21 (qPV f g)) g))) g)) g))))) g)) g)))) ∧ (v3 ≤ v9 → (0 ≤ v3 ∧ v3 < 160 ∧ ((0 ≤ v3 ∧ v3 < 160 ∧ ((0 ≤ v3 ∧ v3 < 160 ∧ ((0 ≤ v3 ∧ v3 < 160 ∧ (Rg v1 ∧ (v1 = 0 → qR w 8 qm162 309 [(0, .ref 25), (1, qI v1), (3, qI v3), (4, qI v4), (5, qI v5)] [qI 0, .ref 25, qI v3, .ref 31] (qset (qset (qset (qset s 30 v3 v4) 32 v3 ((-2))) 33 v3 ((-2))) 34 v3 0) (qPV f g)) ∧ (v1 ≠ 0 → qR w 8 qm162 309 [(0, .ref 25), (1, qI v1), (3, qI v3), (4, qI v4), (5, qI v5)] [qI 1, .ref 25, qI v3, .ref 31] (qset (qset (qset (qset s 30 v3 v4) 32 v3 ((-2))) 33 v3 ((-2))) 34 v3 0) (qPV f g)))))))))))) : qR w 8 qm162 198 [(0, .ref 25), (1, qI v1), (3, qI v3), (4, qI v4), (5, qI v5), (6, qI v6), (7, qI v7), (9, qI v9)] [] s (qPV f g) := by
  refine qS_iload qd_162_198 rfl ?_
  refine qS_iload_n qd_162_200 rfl ?_
  obtain ⟨h201a, h201b, H1, H2⟩ := H
  refine qS_icmp qd_162_201 rfl (zcnd_ge (a := v9) (b := v3) h201a h201b (fun t => qR w _ _ t _ _ _ _) (fun hc => ?_) (fun hc => ?_))
  · have H := H1 hc; clear H1 H2 hc
    refine qS_aload_n qd_162_204 rfl ?_
    refine qS_aload_n qd_162_205 rfl ?_
    refine qS_aload_n qd_162_206 rfl ?_
    refine qS_getfield (v := .ref 30) qd_162_207 (qfl_8_26 w) (hpc_25 _ _) rfl ?_
    refine qS_iload qd_162_210 rfl ?_
    obtain ⟨hl, hu, H⟩ := H
    refine qS_iaload (a := 30) (i := v9) qd_162_212 (Nat.le_of_ble_eq_true rfl) hl hu ?_
    refine qS_iconst qd_162_213 ?_
    refine qS_iadd (a := s 30 v9) (b := 2) qd_162_214 ?_
    refine qS_cvI qd_162_215 (qml_8_91 w) rfl qtm_142 (hpc_25 _ _) (Nat.le_of_ble_eq_true rfl) rfl (Nat.le_of_ble_eq_true rfl) H (fun r17 s17 H => ?_) (fun x s1 H => Or.inr ⟨x, rfl, H⟩)
    refine qS_iload qd_162_218 rfl ?_
    refine qS_cvI qd_162_220 (qml_8_204 w) rfl qtm_165 (hpc_25 _ _) (Nat.le_of_ble_eq_true rfl) rfl (Nat.le_of_ble_eq_true rfl) H (fun r18 s18 H => ?_) (fun x s1 H => Or.inr ⟨x, rfl, H⟩)
    obtain ⟨h223a, H1, H2⟩ := H
    refine qS_if0 qd_162_223 rfl (zcnd_eq (a := r18) (b := 0) h223a ⟨by decide, by decide⟩ (fun t => qR w _ _ t _ _ _ _) (fun hc => ?_) (fun hc => ?_))
    · have H := H1 hc; clear H1 H2 hc
      exact qS_sub (zsub_c rfl (zsub_c rfl (zsub_c rfl (zsub_c rfl (zsub_c rfl (zsub_c rfl (zsub_c rfl (zsub_c rfl zsub_n)))))))) H
    · have H := H2 hc; clear H1 H2 hc
      refine qS_aload_n qd_162_226 rfl ?_
      refine qS_aload_n qd_162_227 rfl ?_
      refine qS_aload_n qd_162_228 rfl ?_
      refine qS_getfield (v := .ref 30) qd_162_229 (qfl_8_26 w) (hpc_25 _ _) rfl ?_
      refine qS_iload qd_162_232 rfl ?_
      obtain ⟨hl, hu, H⟩ := H
      refine qS_iaload (a := 30) (i := v9) qd_162_234 (Nat.le_of_ble_eq_true rfl) hl hu ?_
      refine qS_iconst qd_162_235 ?_
      refine qS_iadd (a := s18 30 v9) (b := 4) qd_162_236 ?_
      refine qS_cvI qd_162_237 (qml_8_91 w) rfl qtm_142 (hpc_25 _ _) (Nat.le_of_ble_eq_true rfl) rfl (Nat.le_of_ble_eq_true rfl) H (fun r19 s19 H => ?_) (fun x s1 H => Or.inr ⟨x, rfl, H⟩)
      refine qS_iload qd_162_240 rfl ?_
      refine qS_cvI qd_162_242 (qml_8_204 w) rfl qtm_165 (hpc_25 _ _) (Nat.le_of_ble_eq_true rfl) rfl (Nat.le_of_ble_eq_true rfl) H (fun r20 s20 H => ?_) (fun x s1 H => Or.inr ⟨x, rfl, H⟩)
      obtain ⟨h245a, H1, H2⟩ := H
      refine qS_if0 qd_162_245 rfl (zcnd_eq (a := r20) (b := 0) h245a ⟨by decide, by decide⟩ (fun t => qR w _ _ t _ _ _ _) (fun hc => ?_) (fun hc => ?_))
      · have H := H1 hc; clear H1 H2 hc
        exact qS_sub (zsub_c rfl (zsub_c rfl (zsub_c rfl (zsub_c rfl (zsub_c rfl (zsub_c rfl (zsub_c rfl (zsub_c rfl zsub_n)))))))) H
      · have H := H2 hc; clear H1 H2 hc
        refine qS_aload_n qd_162_248 rfl ?_
        refine qS_iload qd_162_249 rfl ?_
        refine qS_iconst qd_162_251 ?_
        refine qS_iadd (a := v4) (b := 2) qd_162_252 ?_
        refine qS_cvI qd_162_253 (qml_8_76 w) rfl qtm_133 (hpc_25 _ _) (Nat.le_of_ble_eq_true rfl) rfl (Nat.le_of_ble_eq_true rfl) H (fun r21 s21 H => ?_) (fun x s1 H => Or.inr ⟨x, rfl, H⟩)
        refine qS_pop qd_162_256 rfl ?_
        exact qS_sub (zsub_c rfl (zsub_c rfl (zsub_c rfl (zsub_c rfl (zsub_c rfl (zsub_c rfl (zsub_c rfl (zsub_c rfl zsub_n)))))))) H
  · have H := H2 hc; clear H1 H2 hc
    refine qS_aload_n qd_162_263 rfl ?_
    refine qS_getfield (v := .ref 30) qd_162_264 (qfl_8_26 w) (hpc_25 _ _) rfl ?_
    refine qS_iload_n qd_162_267 rfl ?_
    refine qS_iload qd_162_268 rfl ?_
    obtain ⟨hl, hu, H⟩ := H
    refine qS_iastore (a := 30) (i := v3) (v := v4) qd_162_270 (Nat.le_of_ble_eq_true rfl) hl hu ?_
    refine qS_aload_n qd_162_271 rfl ?_
    refine qS_getfield (v := .ref 32) qd_162_272 (qfl_8_32 w) (hpc_25 _ _) rfl ?_
    refine qS_iload_n qd_162_275 rfl ?_
    refine qS_bipush qd_162_276 (by decide) ?_
    obtain ⟨hl, hu, H⟩ := H
    refine qS_iastore (a := 32) (i := v3) (v := (-2)) qd_162_278 (Nat.le_of_ble_eq_true rfl) hl hu ?_
    refine qS_aload_n qd_162_279 rfl ?_
    refine qS_getfield (v := .ref 33) qd_162_280 (qfl_8_35 w) (hpc_25 _ _) rfl ?_
    refine qS_iload_n qd_162_283 rfl ?_
    refine qS_bipush qd_162_284 (by decide) ?_
    obtain ⟨hl, hu, H⟩ := H
    refine qS_iastore (a := 33) (i := v3) (v := (-2)) qd_162_286 (Nat.le_of_ble_eq_true rfl) hl hu ?_
    refine qS_aload_n qd_162_287 rfl ?_
    refine qS_getfield (v := .ref 34) qd_162_288 (qfl_8_38 w) (hpc_25 _ _) rfl ?_
    refine qS_iload_n qd_162_291 rfl ?_
    refine qS_iconst qd_162_292 ?_
    obtain ⟨hl, hu, H⟩ := H
    refine qS_iastore (a := 34) (i := v3) (v := 0) qd_162_293 (Nat.le_of_ble_eq_true rfl) hl hu ?_
    refine qS_aload_n qd_162_294 rfl ?_
    refine qS_getfield (v := .ref 31) qd_162_295 (qfl_8_29 w) (hpc_25 _ _) rfl ?_
    refine qS_iload_n qd_162_298 rfl ?_
    refine qS_aload_n qd_162_299 rfl ?_
    refine qS_iload_n qd_162_300 rfl ?_
    obtain ⟨h301a, H1, H2⟩ := H
    refine qS_if0 qd_162_301 rfl (zcnd_eq (a := v1) (b := 0) h301a ⟨by decide, by decide⟩ (fun t => qR w _ _ t _ _ _ _) (fun hc => ?_) (fun hc => ?_))
    · have H := H1 hc; clear H1 H2 hc
      refine qS_iconst qd_162_308 ?_
      exact qS_sub (zsub_c rfl (zsub_c rfl (zsub_c rfl (zsub_c rfl (zsub_c rfl zsub_n))))) H
    · have H := H2 hc; clear H1 H2 hc
      refine qS_iconst qd_162_304 ?_
      refine qS_goto qd_162_305 rfl ?_
      exact qS_sub (zsub_c rfl (zsub_c rfl (zsub_c rfl (zsub_c rfl (zsub_c rfl zsub_n))))) H
set_option maxRecDepth 100000 in
theorem k162_257 {w : qE} {s : qS} {v1 : Int} {v3 : Int} {v4 : Int} {v5 : Int} {v6 : Int} {v7 : Int} {v9 : Int} {f : qS → Prop} {g : Nat → qS → Prop}  (H : qR w 8 qm162 198 [(0, .ref 25), (1, qI v1), (3, qI v3), (4, qI v4), (5, qI v5), (6, qI v6), (7, qI v7), (9, qI (v9 + 1))] [] s (qPV f g)) : qR w 8 qm162 257 [(0, .ref 25), (1, qI v1), (3, qI v3), (4, qI v4), (5, qI v5), (6, qI v6), (7, qI v7), (9, qI v9)] [] s (qPV f g) := by
  refine qS_iinc (v := v9) (a := [(0, .ref 25), (1, qI v1), (3, qI v3), (4, qI v4), (5, qI v5), (6, qI v6), (7, qI v7)]) qd_162_257 (Nat.le_of_ble_eq_true rfl) rfl (zsub_c rfl (zsub_c rfl (zsub_c rfl (zsub_c rfl (zsub_c rfl (zsub_c rfl (zsub_c rfl zsub_n))))))) rfl ?_
  refine qS_goto qd_162_260 rfl ?_
  exact qS_sub (zsub_c rfl (zsub_c rfl (zsub_c rfl (zsub_c rfl (zsub_c rfl (zsub_c rfl (zsub_c rfl (zsub_c rfl zsub_n)))))))) H
set_option maxRecDepth 100000 in
theorem k162_309 {w : qE} {s : qS} {v1 : Int} {v3 : Int} {v4 : Int} {v5 : Int} {k3 : Int} {k1 : Int} {f : qS → Prop} {g : Nat → qS → Prop}  (H : qW w 8 166 [.ref 25, qI k3, qI v3] s (qPI (fun r22 s22 => (0 ≤ k1 ∧ k1 < 160 ∧ (qW w 1 134 [.ref 25] (qset s22 31 k1 r22) (qPI (fun r23 s23 => Rg r23 ∧ (r23 = 0 → qR w 8 qm162 355 [] [] s23 (qPV f g)) ∧ (r23 ≠ 0 → Rg v1 ∧ (v1 = 0 → qR w 8 qm162 355 [] [] s23 (qPV f g)) ∧ (v1 ≠ 0 → Rg (qand v5 1280) ∧ (qand v5 1280 = 0 → qR w 8 qm162 345 [(0, .ref 25), (4, qI v4)] [qI 0, qI (s23 39 1)] s23 (qPV f g)) ∧ (qand v5 1280 ≠ 0 → qR w 8 qm162 345 [(0, .ref 25), (4, qI v4)] [qI 1, qI (s23 39 1)] s23 (qPV f g))))) g)))) g)) : qR w 8 qm162 309 [(0, .ref 25), (1, qI v1), (3, qI v3), (4, qI v4), (5, qI v5)] [qI k3, .ref 25, qI k1, .ref 31] s (qPV f g) := by
  refine qS_iload_n qd_162_309 rfl ?_
  refine qS_cvI qd_162_310 (qml_8_207 w) rfl qtm_166 (hpc_25 _ _) (Nat.le_of_ble_eq_true rfl) rfl (Nat.le_of_ble_eq_true rfl) H (fun r22 s22 H => ?_) (fun x s1 H => Or.inr ⟨x, rfl, H⟩)
  obtain ⟨hl, hu, H⟩ := H
  refine qS_iastore (a := 31) (i := k1) (v := r22) qd_162_313 (Nat.le_of_ble_eq_true rfl) hl hu ?_
  refine qS_aload_n qd_162_314 rfl ?_
  refine qS_cvI qd_162_315 (qml_8_80 w) rfl qtm_134 (hpc_25 _ _) (Nat.le_of_ble_eq_true rfl) rfl (Nat.le_of_ble_eq_true rfl) H (fun r23 s23 H => ?_) (fun x s1 H => Or.inr ⟨x, rfl, H⟩)
  obtain ⟨h318a, H1, H2⟩ := H
  refine qS_if0 qd_162_318 rfl (zcnd_eq (a := r23) (b := 0) h318a ⟨by decide, by decide⟩ (fun t => qR w _ _ t _ _ _ _) (fun hc => ?_) (fun hc => ?_))
  · have H := H1 hc; clear H1 H2 hc
    exact qS_sub zsub_n H
  · have H := H2 hc; clear H1 H2 hc
    refine qS_iload_n qd_162_321 rfl ?_
    obtain ⟨h322a, H1, H2⟩ := H
    refine qS_if0 qd_162_322 rfl (zcnd_eq (a := v1) (b := 0) h322a ⟨by decide, by decide⟩ (fun t => qR w _ _ t _ _ _ _) (fun hc => ?_) (fun hc => ?_))
    · have H := H1 hc; clear H1 H2 hc
      exact qS_sub zsub_n H
    · have H := H2 hc; clear H1 H2 hc
      refine qS_aload_n qd_162_325 rfl ?_
      refine qS_getfield (v := .ref 39) qd_162_326 (qfl_8_53 w) (hpc_25 _ _) rfl ?_
      refine qS_iconst qd_162_329 ?_
      refine qS_baload (i := 1) qd_162_330 (by decide) (by decide) ?_
      refine qS_iload qd_162_331 rfl ?_
      refine qS_sipush qd_162_333 (by decide) ?_
      refine qS_iand (a := v5) (b := 1280) qd_162_336 ?_
      obtain ⟨h337a, H1, H2⟩ := H
      refine qS_if0 qd_162_337 rfl (zcnd_eq (a := qand v5 1280) (b := 0) h337a ⟨by decide, by decide⟩ (fun t => qR w _ _ t _ _ _ _) (fun hc => ?_) (fun hc => ?_))
      · have H := H1 hc; clear H1 H2 hc
        refine qS_iconst qd_162_344 ?_
        exact qS_sub (zsub_c rfl (zsub_c rfl zsub_n)) H
      · have H := H2 hc; clear H1 H2 hc
        refine qS_iconst qd_162_340 ?_
        refine qS_goto qd_162_341 rfl ?_
        exact qS_sub (zsub_c rfl (zsub_c rfl zsub_n)) H
set_option maxRecDepth 100000 in
theorem k162_345 {w : qE} {s : qS} {v4 : Int} {k1 : Int} {k0 : Int} {f : qS → Prop} {g : Nat → qS → Prop}  (H : Rg k0 ∧ Rg k1 ∧ (k0 = k1 → qW w 1 133 [.ref 25, qI v4] s (qPI (fun r24 s24 => qR w 8 qm162 355 [] [] s24 (qPV f g)) g)) ∧ (k0 ≠ k1 → qR w 8 qm162 355 [] [] s (qPV f g))) : qR w 8 qm162 345 [(0, .ref 25), (4, qI v4)] [qI k1, qI k0] s (qPV f g) := by
  obtain ⟨h345a, h345b, H1, H2⟩ := H
  refine qS_icmp qd_162_345 rfl (zcnd_ne (a := k0) (b := k1) h345a h345b (fun t => qR w _ _ t _ _ _ _) (fun hc => ?_) (fun hc => ?_))
  · have H := H1 hc; clear H1 H2 hc
    refine qS_aload_n qd_162_348 rfl ?_
    refine qS_iload qd_162_349 rfl ?_
    refine qS_cvI qd_162_351 (qml_8_76 w) rfl qtm_133 (hpc_25 _ _) (Nat.le_of_ble_eq_true rfl) rfl (Nat.le_of_ble_eq_true rfl) H (fun r24 s24 H => ?_) (fun x s1 H => Or.inr ⟨x, rfl, H⟩)
    refine qS_pop qd_162_354 rfl ?_
    exact qS_sub zsub_n H
  · have H := H2 hc; clear H1 H2 hc
    exact qS_sub zsub_n H
set_option maxRecDepth 100000 in
theorem k162_355 {w : qE} {s : qS}  {f : qS → Prop} {g : Nat → qS → Prop}  (H : f s) : qR w 8 qm162 355 [] [] s (qPV f g) := by
  exact qS_vreturn qd_162_355 rfl (Or.inl ⟨rfl, H⟩)
set_option maxRecDepth 100000 in
theorem k163 {w : qE} {s : qS} {p0 : Int} {f : Int → qS → Prop} {g : Nat → qS → Prop}  (H : f (((qand p0 1) + (qand (qshr p0 1) 1)) + (qand (qshr p0 2) 1)) s) : qW w 1 163 [qI p0] s (qPI f g) := by
  refine qW.of (M := qm163) (l := [(0, qI p0)]) qtm_163 rfl (Nat.le_of_ble_eq_true rfl) (zsub_c rfl zsub_n) ?_
  refine qS_iload_n qd_163_0 rfl ?_
  refine qS_iconst qd_163_1 ?_
  refine qS_iand (a := p0) (b := 1) qd_163_2 ?_
  refine qS_iload_n qd_163_3 rfl ?_
  refine qS_iconst qd_163_4 ?_
  refine qS_ishr (a := p0) (b := 1) qd_163_5 ?_
  refine qS_iconst qd_163_6 ?_
  refine qS_iand (a := qshr p0 1) (b := 1) qd_163_7 ?_
  refine qS_iadd (a := qand p0 1) (b := qand (qshr p0 1) 1) qd_163_8 ?_
  refine qS_iload_n qd_163_9 rfl ?_
  refine qS_iconst qd_163_10 ?_
  refine qS_ishr (a := p0) (b := 2) qd_163_11 ?_
  refine qS_iconst qd_163_12 ?_
  refine qS_iand (a := qshr p0 2) (b := 1) qd_163_13 ?_
  refine qS_iadd (a := (qand p0 1) + (qand (qshr p0 1) 1)) (b := qand (qshr p0 2) 1) qd_163_14 ?_
  exact qS_ireturn qd_163_15 rfl (Or.inl ⟨_, rfl, H⟩)
set_option maxRecDepth 100000 in
theorem k164 {w : qE} {s : qS} {p0 : Int} {p1 : Int} {p2 : Int} {f : Int → qS → Prop} {g : Nat → qS → Prop}  (H : Rg p0 ∧ (p0 = 0 → qW w 5 147 [.ref 25, qI p2] s (qPI (fun r1 s1 => ((r1 = 0 ∨ r1 = 1) ∧ f r1 s1)) g)) ∧ (p0 ≠ 0 → qW w 5 152 [.ref 25, qI p2] s (qPI (fun r2 s2 => Rg r2 ∧ (r2 = 0 → f 0 s2) ∧ (r2 ≠ 0 → qW w 2 146 [.ref 25, qI p2, qI ((s2 25 28) + 1)] s2 (qPI (fun r3 s3 => Rg r3 ∧ (r3 = 86 → qR w 5 qm164 41 [(0, .ref 25), (2, qI p1)] [qI 1] s3 (qPI f g)) ∧ (r3 ≠ 86 → qR w 5 qm164 41 [(0, .ref 25), (2, qI p1)] [qI 0] s3 (qPI f g))) g))) g))) : qW w 6 164 [.ref 25, qI p0, qI p1, qI p2] s (qPI f g) := by
  refine qW.of (M := qm164) (l := [(0, .ref 25), (1, qI p0), (2, qI p1), (3, qI p2)]) qtm_164 rfl (Nat.le_of_ble_eq_true rfl) (zsub_c rfl (zsub_c rfl (zsub_c rfl (zsub_c rfl zsub_n)))) ?_
  refine qS_iload_n qd_164_0 rfl ?_
  obtain ⟨h1a, H1, H2⟩ := H
  refine qS_if0 qd_164_1 rfl (zcnd_ne (a := p0) (b := 0) h1a ⟨by decide, by decide⟩ (fun t => qR w _ _ t _ _ _ _) (fun hc => ?_) (fun hc => ?_))
  · have H := H1 hc; clear H1 H2 hc
    refine qS_aload_n qd_164_4 rfl ?_
    refine qS_iload_n qd_164_5 rfl ?_
    refine qS_cvI qd_164_6 (qml_8_134 w) rfl qtm_147 (hpc_25 _ _) (Nat.le_of_ble_eq_true rfl) rfl (Nat.le_of_ble_eq_true rfl) H (fun r1 s1 H => ?_) (fun x s1 H => Or.inr ⟨x, rfl, H⟩)
    exact qS_zreturn qd_164_9 rfl H.1 (Or.inl ⟨_, rfl, H.2⟩)
  · have H := H2 hc; clear H1 H2 hc
    refine qS_aload_n qd_164_10 rfl ?_
    refine qS_iload_n qd_164_11 rfl ?_
    refine qS_cvI qd_164_12 (qml_8_146 w) rfl qtm_152 (hpc_25 _ _) (Nat.le_of_ble_eq_true rfl) rfl (Nat.le_of_ble_eq_true rfl) H (fun r2 s2 H => ?_) (fun x s1 H => Or.inr ⟨x, rfl, H⟩)
    obtain ⟨h15a, H1, H2⟩ := H
    refine qS_if0 qd_164_15 rfl (zcnd_ne (a := r2) (b := 0) h15a ⟨by decide, by decide⟩ (fun t => qR w _ _ t _ _ _ _) (fun hc => ?_) (fun hc => ?_))
    · have H := H1 hc; clear H1 H2 hc
      refine qS_iconst qd_164_18 ?_
      exact qS_zreturn qd_164_19 rfl (Or.inl rfl) (Or.inl ⟨_, rfl, H⟩)
    · have H := H2 hc; clear H1 H2 hc
      refine qS_aload_n qd_164_20 rfl ?_
      refine qS_iload_n qd_164_21 rfl ?_
      refine qS_aload_n qd_164_22 rfl ?_
      refine qS_getfield (v := qI (s2 25 28)) qd_164_23 (qfl_8_131 w) (hpc_25 _ _) rfl ?_
      refine qS_iconst qd_164_26 ?_
      refine qS_iadd (a := s2 25 28) (b := 1) qd_164_27 ?_
      refine qS_cvI qd_164_28 (qml_8_107 w) rfl qtm_146 (hpc_25 _ _) (Nat.le_of_ble_eq_true rfl) rfl (Nat.le_of_ble_eq_true rfl) H (fun r3 s3 H => ?_) (fun x s1 H => Or.inr ⟨x, rfl, H⟩)
      refine qS_bipush qd_164_31 (by decide) ?_
      obtain ⟨h33a, H1, H2⟩ := H
      refine qS_icmp qd_164_33 rfl (zcnd_ne (a := r3) (b := 86) h33a ⟨by decide, by decide⟩ (fun t => qR w _ _ t _ _ _ _) (fun hc => ?_) (fun hc => ?_))
      · have H := H1 hc; clear H1 H2 hc
        refine qS_iconst qd_164_36 ?_
        refine qS_goto qd_164_37 rfl ?_
        exact qS_sub (zsub_c rfl (zsub_c rfl zsub_n)) H
      · have H := H2 hc; clear H1 H2 hc
        refine qS_iconst qd_164_40 ?_
        exact qS_sub (zsub_c rfl (zsub_c rfl zsub_n)) H
set_option maxRecDepth 100000 in
theorem k164_41 {w : qE} {s : qS} {v2 : Int} {k0 : Int} {f : Int → qS → Prop} {g : Nat → qS → Prop}  (H : qW w 3 155 [.ref 25, qI v2, qI 10] s (qPI (fun r4 s4 => Rg r4 ∧ (r4 = 0 → Rg k0 ∧ (k0 = 0 → qW w 3 155 [.ref 25, qI v2, qI 9] s4 (qPI (fun r5 s5 => Rg r5 ∧ (r5 = 0 → qR w 5 qm164 89 [] [] s5 (qPI f g)) ∧ (r5 ≠ 0 → qR w 5 qm164 94 [] [qI 0] s5 (qPI f g))) g)) ∧ (k0 ≠ 0 → qR w 5 qm164 89 [] [] s4 (qPI f g))) ∧ (r4 ≠ 0 → Rg k0 ∧ (k0 = 0 → qR w 5 qm164 70 [] [] s4 (qPI f g)) ∧ (k0 ≠ 0 → Rg (s4 25 28) ∧ (s4 25 28 = 1 → qR w 5 qm164 94 [] [qI 1] s4 (qPI f g)) ∧ (s4 25 28 ≠ 1 → qR w 5 qm164 70 [] [] s4 (qPI f g))))) g)) : qR w 5 qm164 41 [(0, .ref 25), (2, qI v2)] [qI k0] s (qPI f g) := by
  refine qS_istore (a := [(0, .ref 25), (2, qI v2)]) qd_164_41 (Nat.le_of_ble_eq_true rfl) (zsub_c rfl (zsub_c rfl zsub_n)) rfl ?_
  refine qS_aload_n qd_164_43 rfl ?_
  refine qS_iload_n qd_164_44 rfl ?_
  refine qS_bipush qd_164_45 (by decide) ?_
  refine qS_cvI qd_164_47 (qml_8_111 w) rfl qtm_155 (hpc_25 _ _) (Nat.le_of_ble_eq_true rfl) rfl (Nat.le_of_ble_eq_true rfl) H (fun r4 s4 H => ?_) (fun x s1 H => Or.inr ⟨x, rfl, H⟩)
  obtain ⟨h50a, H1, H2⟩ := H
  refine qS_if0 qd_164_50 rfl (zcnd_eq (a := r4) (b := 0) h50a ⟨by decide, by decide⟩ (fun t => qR w _ _ t _ _ _ _) (fun hc => ?_) (fun hc => ?_))
  · have H := H1 hc; clear H1 H2 hc
    refine qS_iload qd_164_74 rfl ?_
    obtain ⟨h76a, H1, H2⟩ := H
    refine qS_if0 qd_164_76 rfl (zcnd_ne (a := k0) (b := 0) h76a ⟨by decide, by decide⟩ (fun t => qR w _ _ t _ _ _ _) (fun hc => ?_) (fun hc => ?_))
    · have H := H1 hc; clear H1 H2 hc
      refine qS_aload_n qd_164_79 rfl ?_
      refine qS_iload_n qd_164_80 rfl ?_
      refine qS_bipush qd_164_81 (by decide) ?_
      refine qS_cvI qd_164_83 (qml_8_111 w) rfl qtm_155 (hpc_25 _ _) (Nat.le_of_ble_eq_true rfl) rfl (Nat.le_of_ble_eq_true rfl) H (fun r5 s5 H => ?_) (fun x s1 H => Or.inr ⟨x, rfl, H⟩)
      obtain ⟨h86a, H1, H2⟩ := H
      refine qS_if0 qd_164_86 rfl (zcnd_ne (a := r5) (b := 0) h86a ⟨by decide, by decide⟩ (fun t => qR w _ _ t _ _ _ _) (fun hc => ?_) (fun hc => ?_))
      · have H := H1 hc; clear H1 H2 hc
        exact qS_sub zsub_n H
      · have H := H2 hc; clear H1 H2 hc
        refine qS_iconst qd_164_93 ?_
        exact qS_sub zsub_n H
    · have H := H2 hc; clear H1 H2 hc
      exact qS_sub zsub_n H
  · have H := H2 hc; clear H1 H2 hc
    refine qS_iload qd_164_53 rfl ?_
    obtain ⟨h55a, H1, H2⟩ := H
    refine qS_if0 qd_164_55 rfl (zcnd_eq (a := k0) (b := 0) h55a ⟨by decide, by decide⟩ (fun t => qR w _ _ t _ _ _ _) (fun hc => ?_) (fun hc => ?_))
    · have H := H1 hc; clear H1 H2 hc
      exact qS_sub zsub_n H
    · have H := H2 hc; clear H1 H2 hc
      refine qS_aload_n qd_164_58 rfl ?_
      refine qS_getfield (v := qI (s4 25 28)) qd_164_59 (qfl_8_131 w) (hpc_25 _ _) rfl ?_
      refine qS_iconst qd_164_62 ?_
      obtain ⟨h63a, H1, H2⟩ := H
      refine qS_icmp qd_164_63 rfl (zcnd_ne (a := s4 25 28) (b := 1) h63a ⟨by decide, by decide⟩ (fun t => qR w _ _ t _ _ _ _) (fun hc => ?_) (fun hc => ?_))
      · have H := H1 hc; clear H1 H2 hc
        refine qS_iconst qd_164_66 ?_
        refine qS_goto qd_164_67 rfl ?_
        exact qS_sub zsub_n H
      · have H := H2 hc; clear H1 H2 hc
        exact qS_sub zsub_n H
set_option maxRecDepth 100000 in
theorem k164_70 {w : qE} {s : qS}  {f : Int → qS → Prop} {g : Nat → qS → Prop}  (H : qR w 5 qm164 94 [] [qI 0] s (qPI f g)) : qR w 5 qm164 70 [] [] s (qPI f g) := by
  refine qS_iconst qd_164_70 ?_
  refine qS_goto qd_164_71 rfl ?_
  exact qS_sub zsub_n H
set_option maxRecDepth 100000 in
theorem k164_89 {w : qE} {s : qS}  {f : Int → qS → Prop} {g : Nat → qS → Prop}  (H : qR w 5 qm164 94 [] [qI 1] s (qPI f g)) : qR w 5 qm164 89 [] [] s (qPI f g) := by
  refine qS_iconst qd_164_89 ?_
  refine qS_goto qd_164_90 rfl ?_
  exact qS_sub zsub_n H
set_option maxRecDepth 100000 in
theorem k164_94 {w : qE} {s : qS} {k0 : Int} {f : Int → qS → Prop} {g : Nat → qS → Prop}  (H : ((k0 = 0 ∨ k0 = 1) ∧ f k0 s)) : qR w 5 qm164 94 [] [qI k0] s (qPI f g) := by
  exact qS_zreturn qd_164_94 rfl H.1 (Or.inl ⟨_, rfl, H.2⟩)
set_option maxRecDepth 100000 in
theorem k165 {w : qE} {s : qS} {p0 : Int} {p1 : Int} {f : Int → qS → Prop} {g : Nat → qS → Prop}  (H : qW w 2 151 [.ref 25, qI p0] s (qPI (fun r1 s1 => qW w 2 151 [.ref 25, qI p1] s1 (qPI (fun r2 s2 => Rg r1 ∧ Rg r2 ∧ (r1 = r2 → qR w 2 qm165 20 [(0, .ref 25), (1, qI p0), (2, qI p1), (3, qI r1), (4, qI 0)] [] s2 (qPI f g)) ∧ (r1 ≠ r2 → f 0 s2)) g)) g)) : qW w 3 165 [.ref 25, qI p0, qI p1] s (qPI f g) := by
  refine qW.of (M := qm165) (l := [(0, .ref 25), (1, qI p0), (2, qI p1)]) qtm_165 rfl (Nat.le_of_ble_eq_true rfl) (zsub_c rfl (zsub_c rfl (zsub_c rfl zsub_n))) ?_
  refine qS_aload_n qd_165_0 rfl ?_
  refine qS_iload_n qd_165_1 rfl ?_
  refine qS_cvI qd_165_2 (qml_8_104 w) rfl qtm_151 (hpc_25 _ _) (Nat.le_of_ble_eq_true rfl) rfl (Nat.le_of_ble_eq_true rfl) H (fun r1 s1 H => ?_) (fun x s1 H => Or.inr ⟨x, rfl, H⟩)
  refine qS_istore_n (a := [(0, .ref 25), (1, qI p0), (2, qI p1)]) qd_165_5 (Nat.le_of_ble_eq_true rfl) (zsub_c rfl (zsub_c rfl (zsub_c rfl zsub_n))) rfl ?_
  refine qS_iload_n qd_165_6 rfl ?_
  refine qS_aload_n qd_165_7 rfl ?_
  refine qS_iload_n qd_165_8 rfl ?_
  refine qS_cvI qd_165_9 (qml_8_104 w) rfl qtm_151 (hpc_25 _ _) (Nat.le_of_ble_eq_true rfl) rfl (Nat.le_of_ble_eq_true rfl) H (fun r2 s2 H => ?_) (fun x s1 H => Or.inr ⟨x, rfl, H⟩)
  obtain ⟨h12a, h12b, H1, H2⟩ := H
  refine qS_icmp qd_165_12 rfl (zcnd_eq (a := r1) (b := r2) h12a h12b (fun t => qR w _ _ t _ _ _ _) (fun hc => ?_) (fun hc => ?_))
  · have H := H1 hc; clear H1 H2 hc
    refine qS_iconst qd_165_17 ?_
    refine qS_istore (a := [(3, qI r1), (0, .ref 25), (1, qI p0), (2, qI p1)]) qd_165_18 (Nat.le_of_ble_eq_true rfl) (zsub_c rfl (zsub_c rfl (zsub_c rfl (zsub_c rfl zsub_n)))) rfl ?_
    exact qS_sub (zsub_c rfl (zsub_c rfl (zsub_c rfl (zsub_c rfl (zsub_c rfl zsub_n))))) H
  · have H := H2 hc; clear H1 H2 hc
    refine qS_iconst qd_165_15 ?_
    exact qS_zreturn qd_165_16 rfl (Or.inl rfl) (Or.inl ⟨_, rfl, H⟩)
set_option maxRecDepth 100000 in
theorem k165_20 {w : qE} {s : qS} {v1 : Int} {v2 : Int} {v3 : Int} {v4 : Int} {f : Int → qS → Prop} {g : Nat → qS → Prop}  (H : Rg v4 ∧ Rg v3 ∧ (v4 < v3 → qW w 2 146 [.ref 25, qI v1, qI v4] s (qPI (fun r3 s3 => qW w 2 146 [.ref 25, qI v2, qI v4] s3 (qPI (fun r4 s4 => Rg r3 ∧ Rg r4 ∧ (r3 = r4 → qR w 2 qm165 20 [(0, .ref 25), (1, qI v1), (2, qI v2), (3, qI v3), (4, qI (v4 + 1))] [] s4 (qPI f g)) ∧ (r3 ≠ r4 → f 0 s4)) g)) g)) ∧ (v3 ≤ v4 → f 1 s)) : qR w 2 qm165 20 [(0, .ref 25), (1, qI v1), (2, qI v2), (3, qI v3), (4, qI v4)] [] s (qPI f g) := by
  refine qS_iload qd_165_20 rfl ?_
  refine qS_iload_n qd_165_22 rfl ?_
  obtain ⟨h23a, h23b, H1, H2⟩ := H
  refine qS_icmp qd_165_23 rfl (zcnd_ge (a := v4) (b := v3) h23a h23b (fun t => qR w _ _ t _ _ _ _) (fun hc => ?_) (fun hc => ?_))
  · have H := H1 hc; clear H1 H2 hc
    refine qS_aload_n qd_165_26 rfl ?_
    refine qS_iload_n qd_165_27 rfl ?_
    refine qS_iload qd_165_28 rfl ?_
    refine qS_cvI qd_165_30 (qml_8_107 w) rfl qtm_146 (hpc_25 _ _) (Nat.le_of_ble_eq_true rfl) rfl (Nat.le_of_ble_eq_true rfl) H (fun r3 s3 H => ?_) (fun x s1 H => Or.inr ⟨x, rfl, H⟩)
    refine qS_aload_n qd_165_33 rfl ?_
    refine qS_iload_n qd_165_34 rfl ?_
    refine qS_iload qd_165_35 rfl ?_
    refine qS_cvI qd_165_37 (qml_8_107 w) rfl qtm_146 (hpc_25 _ _) (Nat.le_of_ble_eq_true rfl) rfl (Nat.le_of_ble_eq_true rfl) H (fun r4 s4 H => ?_) (fun x s1 H => Or.inr ⟨x, rfl, H⟩)
    obtain ⟨h40a, h40b, H1, H2⟩ := H
    refine qS_icmp qd_165_40 rfl (zcnd_eq (a := r3) (b := r4) h40a h40b (fun t => qR w _ _ t _ _ _ _) (fun hc => ?_) (fun hc => ?_))
    · have H := H1 hc; clear H1 H2 hc
      refine qS_iinc (v := v4) (a := [(0, .ref 25), (1, qI v1), (2, qI v2), (3, qI v3)]) qd_165_45 (Nat.le_of_ble_eq_true rfl) rfl (zsub_c rfl (zsub_c rfl (zsub_c rfl (zsub_c rfl zsub_n)))) rfl ?_
      refine qS_goto qd_165_48 rfl ?_
      exact qS_sub (zsub_c rfl (zsub_c rfl (zsub_c rfl (zsub_c rfl (zsub_c rfl zsub_n))))) H
    · have H := H2 hc; clear H1 H2 hc
      refine qS_iconst qd_165_43 ?_
      exact qS_zreturn qd_165_44 rfl (Or.inl rfl) (Or.inl ⟨_, rfl, H⟩)
  · have H := H2 hc; clear H1 H2 hc
    refine qS_iconst qd_165_51 ?_
    exact qS_zreturn qd_165_52 rfl (Or.inr rfl) (Or.inl ⟨_, rfl, H⟩)
set_option maxRecDepth 100000 in
theorem k166 {w : qE} {s : qS} {p0 : Int} {p1 : Int} {f : Int → qS → Prop} {g : Nat → qS → Prop}  (H : qR w 7 qm166 2 [(0, .ref 25), (1, qI p0), (2, qI p1), (3, qI 0)] [] s (qPI f g)) : qW w 8 166 [.ref 25, qI p0, qI p1] s (qPI f g) := by
  refine qW.of (M := qm166) (l := [(0, .ref 25), (1, qI p0), (2, qI p1)]) qtm_166 rfl (Nat.le_of_ble_eq_true rfl) (zsub_c rfl (zsub_c rfl (zsub_c rfl zsub_n))) ?_
  refine qS_iconst qd_166_0 ?_
  refine qS_istore_n (a := [(0, .ref 25), (1, qI p0), (2, qI p1)]) qd_166_1 (Nat.le_of_ble_eq_true rfl) (zsub_c rfl (zsub_c rfl (zsub_c rfl zsub_n))) rfl ?_
  exact qS_sub (zsub_c rfl (zsub_c rfl (zsub_c rfl (zsub_c rfl zsub_n)))) H
set_option maxRecDepth 100000 in
theorem k166_2 {w : qE} {s : qS} {v1 : Int} {v2 : Int} {v3 : Int} {f : Int → qS → Prop} {g : Nat → qS → Prop}  (H : Rg v3 ∧ (v3 < 9 → (0 ≤ v3 ∧ v3 < 9 ∧ (qR w 7 qm166 2 [(0, .ref 25), (1, qI v1), (2, qI v2), (3, qI (v3 + 1))] [] (qset s 39 v3 0) (qPI f g)))) ∧ (9 ≤ v3 → qW w 3 131 [.ref 25] s (qPI (fun r1 s1 => qR w 7 qm166 29 [(0, .ref 25), (1, qI v1), (2, qI v2), (3, qI r1), (4, qI 0)] [] s1 (qPI f g)) g))) : qR w 7 qm166 2 [(0, .ref 25), (1, qI v1), (2, qI v2), (3, qI v3)] [] s (qPI f g) := by
  refine qS_iload_n qd_166_2 rfl ?_
  refine qS_bipush qd_166_3 (by decide) ?_
  obtain ⟨h5a, H1, H2⟩ := H
  refine qS_icmp qd_166_5 rfl (zcnd_ge (a := v3) (b := 9) h5a ⟨by decide, by decide⟩ (fun t => qR w _ _ t _ _ _ _) (fun hc => ?_) (fun hc => ?_))
  · have H := H1 hc; clear H1 H2 hc
    refine qS_aload_n qd_166_8 rfl ?_
    refine qS_getfield (v := .ref 39) qd_166_9 (qfl_8_53 w) (hpc_25 _ _) rfl ?_
    refine qS_iload_n qd_166_12 rfl ?_
    refine qS_iconst qd_166_13 ?_
    obtain ⟨hl, hu, H⟩ := H
    refine qS_bastore (i := v3) (v := 0) qd_166_14 rfl hl hu ?_
    refine qS_iinc (v := v3) (a := [(0, .ref 25), (1, qI v1), (2, qI v2)]) qd_166_15 (Nat.le_of_ble_eq_true rfl) rfl (zsub_c rfl (zsub_c rfl (zsub_c rfl zsub_n))) rfl ?_
    refine qS_goto qd_166_18 rfl ?_
    exact qS_sub (zsub_c rfl (zsub_c rfl (zsub_c rfl (zsub_c rfl zsub_n)))) H
  · have H := H2 hc; clear H1 H2 hc
    refine qS_aload_n qd_166_21 rfl ?_
    refine qS_cvI qd_166_22 (qml_8_88 w) rfl qtm_131 (hpc_25 _ _) (Nat.le_of_ble_eq_true rfl) rfl (Nat.le_of_ble_eq_true rfl) H (fun r1 s1 H => ?_) (fun x s1 H => Or.inr ⟨x, rfl, H⟩)
    refine qS_istore_n (a := [(0, .ref 25), (1, qI v1), (2, qI v2)]) qd_166_25 (Nat.le_of_ble_eq_true rfl) (zsub_c rfl (zsub_c rfl (zsub_c rfl zsub_n))) rfl ?_
    refine qS_iconst qd_166_26 ?_
    refine qS_istore (a := [(3, qI r1), (0, .ref 25), (1, qI v1), (2, qI v2)]) qd_166_27 (Nat.le_of_ble_eq_true rfl) (zsub_c rfl (zsub_c rfl (zsub_c rfl (zsub_c rfl zsub_n)))) rfl ?_
    exact qS_sub (zsub_c rfl (zsub_c rfl (zsub_c rfl (zsub_c rfl (zsub_c rfl zsub_n))))) H
set_option maxRecDepth 100000 in
theorem k166_29 {w : qE} {s : qS} {v1 : Int} {v2 : Int} {v3 : Int} {v4 : Int} {f : Int → qS → Prop} {g : Nat → qS → Prop}  (H : Rg v4 ∧ Rg v3 ∧ (v4 < v3 → qW w 1 134 [.ref 25] s (qPI (fun r2 s2 => Rg r2 ∧ (r2 = 0 → qR w 7 qm166 279 [(3, qI v3)] [] s2 (qPI f g)) ∧ (r2 ≠ 0 → qW w 3 131 [.ref 25] s2 (qPI (fun r3 s3 => qW w 1 134 [.ref 25] s3 (qPI (fun r4 s4 => Rg r4 ∧ (r4 = 0 → qR w 7 qm166 77 [(0, .ref 25), (1, qI v1), (2, qI v2), (3, qI v3), (4, qI v4), (5, qI (s2 25 5)), (6, qI r3)] [] s4 (qPI f g)) ∧ (r4 ≠ 0 → qW w 3 144 [.ref 25, qI r3] s4 (qPI (fun r5 s5 => Rg r5 ∧ (r5 = 0 → qW w 1 133 [.ref 25, qI (s2 25 5)] s5 (qPI (fun r6 s6 => qR w 7 qm166 77 [(0, .ref 25), (1, qI v1), (2, qI v2), (3, qI v3), (4, qI v4), (5, qI (s2 25 5)), (6, qI r3)] [] s6 (qPI f g)) g)) ∧ (r5 ≠ 0 → qR w 7 qm166 77 [(0, .ref 25), (1, qI v1), (2, qI v2), (3, qI v3), (4, qI v4), (5, qI (s2 25 5)), (6, qI r3)] [] s5 (qPI f g))) g))) g)) g))) g)) ∧ (v3 ≤ v4 → qR w 7 qm166 279 [(3, qI v3)] [] s (qPI f g))) : qR w 7 qm166 29 [(0, .ref 25), (1, qI v1), (2, qI v2), (3, qI v3), (4, qI v4)] [] s (qPI f g) := by
  refine qS_iload qd_166_29 rfl ?_
  refine qS_iload_n qd_166_31 rfl ?_
  obtain ⟨h32a, h32b, H1, H2⟩ := H
  refine qS_icmp qd_166_32 rfl (zcnd_ge (a := v4) (b := v3) h32a h32b (fun t => qR w _ _ t _ _ _ _) (fun hc => ?_) (fun hc => ?_))
  · have H := H1 hc; clear H1 H2 hc
    refine qS_aload_n qd_166_35 rfl ?_
    refine qS_cvI qd_166_36 (qml_8_80 w) rfl qtm_134 (hpc_25 _ _) (Nat.le_of_ble_eq_true rfl) rfl (Nat.le_of_ble_eq_true rfl) H (fun r2 s2 H => ?_) (fun x s1 H => Or.inr ⟨x, rfl, H⟩)
    obtain ⟨h39a, H1, H2⟩ := H
    refine qS_if0 qd_166_39 rfl (zcnd_eq (a := r2) (b := 0) h39a ⟨by decide, by decide⟩ (fun t => qR w _ _ t _ _ _ _) (fun hc => ?_) (fun hc => ?_))
    · have H := H1 hc; clear H1 H2 hc
      exact qS_sub (zsub_c rfl zsub_n) H
    · have H := H2 hc; clear H1 H2 hc
      refine qS_aload_n qd_166_42 rfl ?_
      refine qS_getfield (v := qI (s2 25 5)) qd_166_43 (qfl_8_70 w) (hpc_25 _ _) rfl ?_
      refine qS_istore (a := [(0, .ref 25), (1, qI v1), (2, qI v2), (3, qI v3), (4, qI v4)]) qd_166_46 (Nat.le_of_ble_eq_true rfl) (zsub_c rfl (zsub_c rfl (zsub_c rfl (zsub_c rfl (zsub_c rfl zsub_n))))) rfl ?_
      refine qS_aload_n qd_166_48 rfl ?_
      refine qS_cvI qd_166_49 (qml_8_88 w) rfl qtm_131 (hpc_25 _ _) (Nat.le_of_ble_eq_true rfl) rfl (Nat.le_of_ble_eq_true rfl) H (fun r3 s3 H => ?_) (fun x s1 H => Or.inr ⟨x, rfl, H⟩)
      refine qS_istore (a := [(5, qI (s2 25 5)), (0, .ref 25), (1, qI v1), (2, qI v2), (3, qI v3), (4, qI v4)]) qd_166_52 (Nat.le_of_ble_eq_true rfl) (zsub_c rfl (zsub_c rfl (zsub_c rfl (zsub_c rfl (zsub_c rfl (zsub_c rfl zsub_n)))))) rfl ?_
      refine qS_aload_n qd_166_54 rfl ?_
      refine qS_cvI qd_166_55 (qml_8_80 w) rfl qtm_134 (hpc_25 _ _) (Nat.le_of_ble_eq_true rfl) rfl (Nat.le_of_ble_eq_true rfl) H (fun r4 s4 H => ?_) (fun x s1 H => Or.inr ⟨x, rfl, H⟩)
      obtain ⟨h58a, H1, H2⟩ := H
      refine qS_if0 qd_166_58 rfl (zcnd_eq (a := r4) (b := 0) h58a ⟨by decide, by decide⟩ (fun t => qR w _ _ t _ _ _ _) (fun hc => ?_) (fun hc => ?_))
      · have H := H1 hc; clear H1 H2 hc
        exact qS_sub (zsub_c rfl (zsub_c rfl (zsub_c rfl (zsub_c rfl (zsub_c rfl (zsub_c rfl (zsub_c rfl zsub_n))))))) H
      · have H := H2 hc; clear H1 H2 hc
        refine qS_aload_n qd_166_61 rfl ?_
        refine qS_iload qd_166_62 rfl ?_
        refine qS_cvI qd_166_64 (qml_8_143 w) rfl qtm_144 (hpc_25 _ _) (Nat.le_of_ble_eq_true rfl) rfl (Nat.le_of_ble_eq_true rfl) H (fun r5 s5 H => ?_) (fun x s1 H => Or.inr ⟨x, rfl, H⟩)
        obtain ⟨h67a, H1, H2⟩ := H
        refine qS_if0 qd_166_67 rfl (zcnd_ne (a := r5) (b := 0) h67a ⟨by decide, by decide⟩ (fun t => qR w _ _ t _ _ _ _) (fun hc => ?_) (fun hc => ?_))
        · have H := H1 hc; clear H1 H2 hc
          refine qS_aload_n qd_166_70 rfl ?_
          refine qS_iload qd_166_71 rfl ?_
          refine qS_cvI qd_166_73 (qml_8_76 w) rfl qtm_133 (hpc_25 _ _) (Nat.le_of_ble_eq_true rfl) rfl (Nat.le_of_ble_eq_true rfl) H (fun r6 s6 H => ?_) (fun x s1 H => Or.inr ⟨x, rfl, H⟩)
          refine qS_pop qd_166_76 rfl ?_
          exact qS_sub (zsub_c rfl (zsub_c rfl (zsub_c rfl (zsub_c rfl (zsub_c rfl (zsub_c rfl (zsub_c rfl zsub_n))))))) H
        · have H := H2 hc; clear H1 H2 hc
          exact qS_sub (zsub_c rfl (zsub_c rfl (zsub_c rfl (zsub_c rfl (zsub_c rfl (zsub_c rfl (zsub_c rfl zsub_n))))))) H
  · have H := H2 hc; clear H1 H2 hc
    exact qS_sub (zsub_c rfl zsub_n) H
set_option maxRecDepth 100000 in
theorem k166_77 {w : qE} {s : qS} {v1 : Int} {v2 : Int} {v3 : Int} {v4 : Int} {v5 : Int} {v6 : Int} {f : Int → qS → Prop} {g : Nat → qS → Prop}  (H : qW w 1 134 [.ref 25] s (qPI (fun r7 s7 => Rg r7 ∧ (r7 = 0 → qR w 7 qm166 95 [(0, .ref 25), (1, qI v1), (2, qI v2), (3, qI v3), (4, qI v4), (5, qI v5)] [qI ((-1))] s7 (qPI f g)) ∧ (r7 ≠ 0 → qW w 4 167 [.ref 25, qI v1, qI v6] s7 (qPI (fun r8 s8 => qR w 7 qm166 95 [(0, .ref 25), (1, qI v1), (2, qI v2), (3, qI v3), (4, qI v4), (5, qI v5)] [qI r8] s8 (qPI f g)) g))) g)) : qR w 7 qm166 77 [(0, .ref 25), (1, qI v1), (2, qI v2), (3, qI v3), (4, qI v4), (5, qI v5), (6, qI v6)] [] s (qPI f g) := by
  refine qS_aload_n qd_166_77 rfl ?_
  refine qS_cvI qd_166_78 (qml_8_80 w) rfl qtm_134 (hpc_25 _ _) (Nat.le_of_ble_eq_true rfl) rfl (Nat.le_of_ble_eq_true rfl) H (fun r7 s7 H => ?_) (fun x s1 H => Or.inr ⟨x, rfl, H⟩)
  obtain ⟨h81a, H1, H2⟩ := H
  refine qS_if0 qd_166_81 rfl (zcnd_eq (a := r7) (b := 0) h81a ⟨by decide, by decide⟩ (fun t => qR w _ _ t _ _ _ _) (fun hc => ?_) (fun hc => ?_))
  · have H := H1 hc; clear H1 H2 hc
    refine qS_iconst qd_166_94 ?_
    exact qS_sub (zsub_c rfl (zsub_c rfl (zsub_c rfl (zsub_c rfl (zsub_c rfl (zsub_c rfl zsub_n)))))) H
  · have H := H2 hc; clear H1 H2 hc
    refine qS_aload_n qd_166_84 rfl ?_
    refine qS_iload_n qd_166_85 rfl ?_
    refine qS_iload qd_166_86 rfl ?_
    refine qS_cvI qd_166_88 (qml_8_210 w) rfl qtm_167 (hpc_25 _ _) (Nat.le_of_ble_eq_true rfl) rfl (Nat.le_of_ble_eq_true rfl) H (fun r8 s8 H => ?_) (fun x s1 H => Or.inr ⟨x, rfl, H⟩)
    refine qS_goto qd_166_91 rfl ?_
    exact qS_sub (zsub_c rfl (zsub_c rfl (zsub_c rfl (zsub_c rfl (zsub_c rfl (zsub_c rfl zsub_n)))))) H
set_option maxRecDepth 100000 in
theorem k166_279 {w : qE} {s : qS} {v3 : Int} {f : Int → qS → Prop} {g : Nat → qS → Prop}  (H : f v3 s) : qR w 7 qm166 279 [(3, qI v3)] [] s (qPI f g) := by
  refine qS_iload_n qd_166_279 rfl ?_
  exact qS_ireturn qd_166_280 rfl (Or.inl ⟨_, rfl, H⟩)
set_option maxRecDepth 100000 in
theorem k166_95 {w : qE} {s : qS} {v1 : Int} {v2 : Int} {v3 : Int} {v4 : Int} {v5 : Int} {k0 : Int} {f : Int → qS → Prop} {g : Nat → qS → Prop}  (H : Rg k0 ∧ (k0 < 0 → qR w 7 qm166 159 [(0, .ref 25), (1, qI v1), (2, qI v2), (3, qI v3), (4, qI v4), (7, qI k0)] [] s (qPI f g)) ∧ (0 ≤ k0 → (0 ≤ k0 ∧ k0 < 9 ∧ (Rg (s 39 k0) ∧ (s 39 k0 = 0 → (k0 = 5 → Rg (s 39 6) ∧ (s 39 6 = 0 → qR w 7 qm166 128 [(0, .ref 25), (1, qI v1), (2, qI v2), (3, qI v3), (4, qI v4), (5, qI v5), (7, qI k0)] [] s (qPI f g)) ∧ (s 39 6 ≠ 0 → qR w 7 qm166 144 [(0, .ref 25), (1, qI v1), (2, qI v2), (3, qI v3), (4, qI v4), (5, qI v5), (7, qI k0)] [] s (qPI f g))) ∧ (k0 ≠ 5 → qR w 7 qm166 128 [(0, .ref 25), (1, qI v1), (2, qI v2), (3, qI v3), (4, qI v4), (5, qI v5), (7, qI k0)] [] s (qPI f g))) ∧ (s 39 k0 ≠ 0 → qR w 7 qm166 144 [(0, .ref 25), (1, qI v1), (2, qI v2), (3, qI v3), (4, qI v4), (5, qI v5), (7, qI k0)] [] s (qPI f g)))))) : qR w 7 qm166 95 [(0, .ref 25), (1, qI v1), (2, qI v2), (3, qI v3), (4, qI v4), (5, qI v5)] [qI k0] s (qPI f g) := by
  refine qS_istore (a := [(0, .ref 25), (1, qI v1), (2, qI v2), (3, qI v3), (4, qI v4), (5, qI v5)]) qd_166_95 (Nat.le_of_ble_eq_true rfl) (zsub_c rfl (zsub_c rfl (zsub_c rfl (zsub_c rfl (zsub_c rfl (zsub_c rfl zsub_n)))))) rfl ?_
  refine qS_iload qd_166_97 rfl ?_
  obtain ⟨h99a, H1, H2⟩ := H
  refine qS_if0 qd_166_99 rfl (zcnd_lt (a := k0) (b := 0) h99a ⟨by decide, by decide⟩ (fun t => qR w _ _ t _ _ _ _) (fun hc => ?_) (fun hc => ?_))
  · have H := H1 hc; clear H1 H2 hc
    exact qS_sub (zsub_c rfl (zsub_c rfl (zsub_c rfl (zsub_c rfl (zsub_c rfl (zsub_c rfl zsub_n)))))) H
  · have H := H2 hc; clear H1 H2 hc
    refine qS_aload_n qd_166_102 rfl ?_
    refine qS_getfield (v := .ref 39) qd_166_103 (qfl_8_53 w) (hpc_25 _ _) rfl ?_
    refine qS_iload qd_166_106 rfl ?_
    obtain ⟨hl, hu, H⟩ := H
    refine qS_baload (i := k0) qd_166_108 hl hu ?_
    obtain ⟨h109a, H1, H2⟩ := H
    refine qS_if0 qd_166_109 rfl (zcnd_ne (a := s 39 k0) (b := 0) h109a ⟨by decide, by decide⟩ (fun t => qR w _ _ t _ _ _ _) (fun hc => ?_) (fun hc => ?_))
    · have H := H1 hc; clear H1 H2 hc
      refine qS_iload qd_166_112 rfl ?_
      refine qS_iconst qd_166_114 ?_
      obtain ⟨H1, H2⟩ := H
      refine qS_icmp qd_166_115 rfl (zcnd_ne (a := k0) (b := 5) h99a ⟨by decide, by decide⟩ (fun t => qR w _ _ t _ _ _ _) (fun hc => ?_) (fun hc => ?_))
      · have H := H1 hc; clear H1 H2 hc
        refine qS_aload_n qd_166_118 rfl ?_
        refine qS_getfield (v := .ref 39) qd_166_119 (qfl_8_53 w) (hpc_25 _ _) rfl ?_
        refine qS_bipush qd_166_122 (by decide) ?_
        refine qS_baload (i := 6) qd_166_124 (by decide) (by decide) ?_
        obtain ⟨h125a, H1, H2⟩ := H
        refine qS_if0 qd_166_125 rfl (zcnd_ne (a := s 39 6) (b := 0) h125a ⟨by decide, by decide⟩ (fun t => qR w _ _ t _ _ _ _) (fun hc => ?_) (fun hc => ?_))
        · have H := H1 hc; clear H1 H2 hc
          exact qS_sub (zsub_c rfl (zsub_c rfl (zsub_c rfl (zsub_c rfl (zsub_c rfl (zsub_c rfl (zsub_c rfl zsub_n))))))) H
        · have H := H2 hc; clear H1 H2 hc
          exact qS_sub (zsub_c rfl (zsub_c rfl (zsub_c rfl (zsub_c rfl (zsub_c rfl (zsub_c rfl (zsub_c rfl zsub_n))))))) H
      · have H := H2 hc; clear H1 H2 hc
        exact qS_sub (zsub_c rfl (zsub_c rfl (zsub_c rfl (zsub_c rfl (zsub_c rfl (zsub_c rfl (zsub_c rfl zsub_n))))))) H
    · have H := H2 hc; clear H1 H2 hc
      exact qS_sub (zsub_c rfl (zsub_c rfl (zsub_c rfl (zsub_c rfl (zsub_c rfl (zsub_c rfl (zsub_c rfl zsub_n))))))) H
set_option maxRecDepth 100000 in
theorem k166_128 {w : qE} {s : qS} {v1 : Int} {v2 : Int} {v3 : Int} {v4 : Int} {v5 : Int} {v7 : Int} {f : Int → qS → Prop} {g : Nat → qS → Prop}  (H : Rg v7 ∧ (v7 = 6 → Rg (s 39 5) ∧ (s 39 5 = 0 → qR w 7 qm166 151 [(0, .ref 25), (1, qI v1), (2, qI v2), (3, qI v3), (4, qI v4), (7, qI v7)] [] s (qPI f g)) ∧ (s 39 5 ≠ 0 → qR w 7 qm166 144 [(0, .ref 25), (1, qI v1), (2, qI v2), (3, qI v3), (4, qI v4), (5, qI v5), (7, qI v7)] [] s (qPI f g))) ∧ (v7 ≠ 6 → qR w 7 qm166 151 [(0, .ref 25), (1, qI v1), (2, qI v2), (3, qI v3), (4, qI v4), (7, qI v7)] [] s (qPI f g))) : qR w 7 qm166 128 [(0, .ref 25), (1, qI v1), (2, qI v2), (3, qI v3), (4, qI v4), (5, qI v5), (7, qI v7)] [] s (qPI f g) := by
  refine qS_iload qd_166_128 rfl ?_
  refine qS_bipush qd_166_130 (by decide) ?_
  obtain ⟨h132a, H1, H2⟩ := H
  refine qS_icmp qd_166_132 rfl (zcnd_ne (a := v7) (b := 6) h132a ⟨by decide, by decide⟩ (fun t => qR w _ _ t _ _ _ _) (fun hc => ?_) (fun hc => ?_))
  · have H := H1 hc; clear H1 H2 hc
    refine qS_aload_n qd_166_135 rfl ?_
    refine qS_getfield (v := .ref 39) qd_166_136 (qfl_8_53 w) (hpc_25 _ _) rfl ?_
    refine qS_iconst qd_166_139 ?_
    refine qS_baload (i := 5) qd_166_140 (by decide) (by decide) ?_
    obtain ⟨h141a, H1, H2⟩ := H
    refine qS_if0 qd_166_141 rfl (zcnd_eq (a := s 39 5) (b := 0) h141a ⟨by decide, by decide⟩ (fun t => qR w _ _ t _ _ _ _) (fun hc => ?_) (fun hc => ?_))
    · have H := H1 hc; clear H1 H2 hc
      exact qS_sub (zsub_c rfl (zsub_c rfl (zsub_c rfl (zsub_c rfl (zsub_c rfl (zsub_c rfl zsub_n)))))) H
    · have H := H2 hc; clear H1 H2 hc
      exact qS_sub (zsub_c rfl (zsub_c rfl (zsub_c rfl (zsub_c rfl (zsub_c rfl (zsub_c rfl (zsub_c rfl zsub_n))))))) H
  · have H := H2 hc; clear H1 H2 hc
    exact qS_sub (zsub_c rfl (zsub_c rfl (zsub_c rfl (zsub_c rfl (zsub_c rfl (zsub_c rfl zsub_n)))))) H
set_option maxRecDepth 100000 in
theorem k166_144 {w : qE} {s : qS} {v1 : Int} {v2 : Int} {v3 : Int} {v4 : Int} {v5 : Int} {v7 : Int} {f : Int → qS → Prop} {g : Nat → qS → Prop}  (H : qW w 1 133 [.ref 25, qI v5] s (qPI (fun r9 s9 => qR w 7 qm166 151 [(0, .ref 25), (1, qI v1), (2, qI v2), (3, qI v3), (4, qI v4), (7, qI v7)] [] s9 (qPI f g)) g)) : qR w 7 qm166 144 [(0, .ref 25), (1, qI v1), (2, qI v2), (3, qI v3), (4, qI v4), (5, qI v5), (7, qI v7)] [] s (qPI f g) := by
  refine qS_aload_n qd_166_144 rfl ?_
  refine qS_iload qd_166_145 rfl ?_
  refine qS_cvI qd_166_147 (qml_8_76 w) rfl qtm_133 (hpc_25 _ _) (Nat.le_of_ble_eq_true rfl) rfl (Nat.le_of_ble_eq_true rfl) H (fun r9 s9 H => ?_) (fun x s1 H => Or.inr ⟨x, rfl, H⟩)
  refine qS_pop qd_166_150 rfl ?_
  exact qS_sub (zsub_c rfl (zsub_c rfl (zsub_c rfl (zsub_c rfl (zsub_c rfl (zsub_c rfl zsub_n)))))) H
set_option maxRecDepth 100000 in
theorem k166_159 {w : qE} {s : qS} {v1 : Int} {v2 : Int} {v3 : Int} {v4 : Int} {v7 : Int} {f : Int → qS → Prop} {g : Nat → qS → Prop}  (H : qW w 4 130 [.ref 25] s (qPI (fun r10 s10 => qW w 1 134 [.ref 25] s10 (qPI (fun r11 s11 => Rg r11 ∧ (r11 = 0 → qR w 7 qm166 206 [(0, .ref 25), (1, qI v1), (2, qI v2), (3, qI v3), (4, qI v4), (7, qI v7), (8, qI (s 25 5)), (9, qI r10)] [] s11 (qPI f g)) ∧ (r11 ≠ 0 → Rg r10 ∧ (r10 < 0 → qR w 7 qm166 197 [(0, .ref 25), (1, qI v1), (2, qI v2), (3, qI v3), (4, qI v4), (7, qI v7), (8, qI (s 25 5)), (9, qI r10)] [] s11 (qPI f g)) ∧ (0 ≤ r10 → Rg ((s11 25 4) - (s11 25 5)) ∧ ((s11 25 4) - (s11 25 5) < r10 → qR w 7 qm166 197 [(0, .ref 25), (1, qI v1), (2, qI v2), (3, qI v3), (4, qI v4), (7, qI v7), (8, qI (s 25 5)), (9, qI r10)] [] s11 (qPI f g)) ∧ (r10 ≤ (s11 25 4) - (s11 25 5) → qR w 7 qm166 206 [(0, .ref 25), (1, qI v1), (2, qI v2), (3, qI v3), (4, qI v4), (7, qI v7), (8, qI (s 25 5)), (9, qI r10)] [] s11 (qPI f g))))) g)) g)) : qR w 7 qm166 159 [(0, .ref 25), (1, qI v1), (2, qI v2), (3, qI v3), (4, qI v4), (7, qI v7)] [] s (qPI f g) := by
  refine qS_aload_n qd_166_159 rfl ?_
  refine qS_getfield (v := qI (s 25 5)) qd_166_160 (qfl_8_70 w) (hpc_25 _ _) rfl ?_
  refine qS_istore (a := [(0, .ref 25), (1, qI v1), (2, qI v2), (3, qI v3), (4, qI v4), (7, qI v7)]) qd_166_163 (Nat.le_of_ble_eq_true rfl) (zsub_c rfl (zsub_c rfl (zsub_c rfl (zsub_c rfl (zsub_c rfl (zsub_c rfl zsub_n)))))) rfl ?_
  refine qS_aload_n qd_166_165 rfl ?_
  refine qS_cvI qd_166_166 (qml_8_155 w) rfl qtm_130 (hpc_25 _ _) (Nat.le_of_ble_eq_true rfl) rfl (Nat.le_of_ble_eq_true rfl) H (fun r10 s10 H => ?_) (fun x s1 H => Or.inr ⟨x, rfl, H⟩)
  refine qS_istore (a := [(8, qI (s 25 5)), (0, .ref 25), (1, qI v1), (2, qI v2), (3, qI v3), (4, qI v4), (7, qI v7)]) qd_166_169 (Nat.le_of_ble_eq_true rfl) (zsub_c rfl (zsub_c rfl (zsub_c rfl (zsub_c rfl (zsub_c rfl (zsub_c rfl (zsub_c rfl zsub_n))))))) rfl ?_
  refine qS_aload_n qd_166_171 rfl ?_
  refine qS_cvI qd_166_172 (qml_8_80 w) rfl qtm_134 (hpc_25 _ _) (Nat.le_of_ble_eq_true rfl) rfl (Nat.le_of_ble_eq_true rfl) H (fun r11 s11 H => ?_) (fun x s1 H => Or.inr ⟨x, rfl, H⟩)
  obtain ⟨h175a, H1, H2⟩ := H
  refine qS_if0 qd_166_175 rfl (zcnd_eq (a := r11) (b := 0) h175a ⟨by decide, by decide⟩ (fun t => qR w _ _ t _ _ _ _) (fun hc => ?_) (fun hc => ?_))
  · have H := H1 hc; clear H1 H2 hc
    exact qS_sub (zsub_c rfl (zsub_c rfl (zsub_c rfl (zsub_c rfl (zsub_c rfl (zsub_c rfl (zsub_c rfl (zsub_c rfl zsub_n)))))))) H
  · have H := H2 hc; clear H1 H2 hc
    refine qS_iload qd_166_178 rfl ?_
    obtain ⟨h180a, H1, H2⟩ := H
    refine qS_if0 qd_166_180 rfl (zcnd_lt (a := r10) (b := 0) h180a ⟨by decide, by decide⟩ (fun t => qR w _ _ t _ _ _ _) (fun hc => ?_) (fun hc => ?_))
    · have H := H1 hc; clear H1 H2 hc
      exact qS_sub (zsub_c rfl (zsub_c rfl (zsub_c rfl (zsub_c rfl (zsub_c rfl (zsub_c rfl (zsub_c rfl (zsub_c rfl zsub_n)))))))) H
    · have H := H2 hc; clear H1 H2 hc
      refine qS_iload qd_166_183 rfl ?_
      refine qS_aload_n qd_166_185 rfl ?_
      refine qS_getfield (v := qI (s11 25 4)) qd_166_186 (qfl_8_73 w) (hpc_25 _ _) rfl ?_
      refine qS_aload_n qd_166_189 rfl ?_
      refine qS_getfield (v := qI (s11 25 5)) qd_166_190 (qfl_8_70 w) (hpc_25 _ _) rfl ?_
      refine qS_isub (a := s11 25 4) (b := s11 25 5) qd_166_193 ?_
      obtain ⟨h194b, H1, H2⟩ := H
      refine qS_icmp qd_166_194 rfl (zcnd_le (a := r10) (b := (s11 25 4) - (s11 25 5)) h180a h194b (fun t => qR w _ _ t _ _ _ _) (fun hc => ?_) (fun hc => ?_))
      · have H := H1 hc; clear H1 H2 hc
        exact qS_sub (zsub_c rfl (zsub_c rfl (zsub_c rfl (zsub_c rfl (zsub_c rfl (zsub_c rfl (zsub_c rfl (zsub_c rfl zsub_n)))))))) H
      · have H := H2 hc; clear H1 H2 hc
        exact qS_sub (zsub_c rfl (zsub_c rfl (zsub_c rfl (zsub_c rfl (zsub_c rfl (zsub_c rfl (zsub_c rfl (zsub_c rfl zsub_n)))))))) H
set_option maxRecDepth 100000 in
theorem k166_151 {w : qE} {s : qS} {v1 : Int} {v2 : Int} {v3 : Int} {v4 : Int} {v7 : Int} {f : Int → qS → Prop} {g : Nat → qS → Prop}  (H : (0 ≤ v7 ∧ v7 < 9 ∧ (qR w 7 qm166 159 [(0, .ref 25), (1, qI v1), (2, qI v2), (3, qI v3), (4, qI v4), (7, qI v7)] [] (qset s 39 v7 1) (qPI f g)))) : qR w 7 qm166 151 [(0, .ref 25), (1, qI v1), (2, qI v2), (3, qI v3), (4, qI v4), (7, qI v7)] [] s (qPI f g) := by
  refine qS_aload_n qd_166_151 rfl ?_
  refine qS_getfield (v := .ref 39) qd_166_152 (qfl_8_53 w) (hpc_25 _ _) rfl ?_
  refine qS_iload qd_166_155 rfl ?_
  refine qS_iconst qd_166_157 ?_
  obtain ⟨hl, hu, H⟩ := H
  refine qS_bastore (i := v7) (v := 1) qd_166_158 rfl hl hu ?_
  exact qS_sub (zsub_c rfl (zsub_c rfl (zsub_c rfl (zsub_c rfl (zsub_c rfl (zsub_c rfl zsub_n)))))) H
set_option maxRecDepth 100000 in
theorem k166_197 {w : qE} {s : qS} {v1 : Int} {v2 : Int} {v3 : Int} {v4 : Int} {v7 : Int} {v8 : Int} {v9 : Int} {f : Int → qS → Prop} {g : Nat → qS → Prop}  (H : qW w 1 133 [.ref 25, qI (s 25 4)] s (qPI (fun r12 s12 => qR w 7 qm166 206 [(0, .ref 25), (1, qI v1), (2, qI v2), (3, qI v3), (4, qI v4), (7, qI v7), (8, qI v8), (9, qI v9)] [] s12 (qPI f g)) g)) : qR w 7 qm166 197 [(0, .ref 25), (1, qI v1), (2, qI v2), (3, qI v3), (4, qI v4), (7, qI v7), (8, qI v8), (9, qI v9)] [] s (qPI f g) := by
  refine qS_aload_n qd_166_197 rfl ?_
  refine qS_aload_n qd_166_198 rfl ?_
  refine qS_getfield (v := qI (s 25 4)) qd_166_199 (qfl_8_73 w) (hpc_25 _ _) rfl ?_
  refine qS_cvI qd_166_202 (qml_8_76 w) rfl qtm_133 (hpc_25 _ _) (Nat.le_of_ble_eq_true rfl) rfl (Nat.le_of_ble_eq_true rfl) H (fun r12 s12 H => ?_) (fun x s1 H => Or.inr ⟨x, rfl, H⟩)
  refine qS_pop qd_166_205 rfl ?_
  exact qS_sub (zsub_c rfl (zsub_c rfl (zsub_c rfl (zsub_c rfl (zsub_c rfl (zsub_c rfl (zsub_c rfl (zsub_c rfl zsub_n)))))))) H
set_option maxRecDepth 100000 in
theorem k166_206 {w : qE} {s : qS} {v1 : Int} {v2 : Int} {v3 : Int} {v4 : Int} {v7 : Int} {v8 : Int} {v9 : Int} {f : Int → qS → Prop} {g : Nat → qS → Prop}  (H : qW w 1 134 [.ref 25] s (qPI (fun r13 s13 => Rg r13 ∧ (r13 = 0 → f v3 s13) ∧ (r13 ≠ 0 → Rg v7 ∧ (v7 < 0 → qR w 7 qm166 247 [(0, .ref 25), (1, qI v1), (2, qI v2), (3, qI v3), (4, qI v4), (8, qI v8), (9, qI v9), (10, qI (s13 25 5))] [] (qset s13 25 5 ((s13 25 5) + v9)) (qPI f g)) ∧ (0 ≤ v7 → qW w 7 168 [.ref 25, qI v7, qI v2] s13 (qPV (fun s14 => qR w 7 qm166 247 [(0, .ref 25), (1, qI v1), (2, qI v2), (3, qI v3), (4, qI v4), (8, qI v8), (9, qI v9), (10, qI (s13 25 5))] [] s14 (qPI f g)) g)))) g)) : qR w 7 qm166 206 [(0, .ref 25), (1, qI v1), (2, qI v2), (3, qI v3), (4, qI v4), (7, qI v7), (8, qI v8), (9, qI v9)] [] s (qPI f g) := by
  refine qS_aload_n qd_166_206 rfl ?_
  refine qS_cvI qd_166_207 (qml_8_80 w) rfl qtm_134 (hpc_25 _ _) (Nat.le_of_ble_eq_true rfl) rfl (Nat.le_of_ble_eq_true rfl) H (fun r13 s13 H => ?_) (fun x s1 H => Or.inr ⟨x, rfl, H⟩)
  obtain ⟨h210a, H1, H2⟩ := H
  refine qS_if0 qd_166_210 rfl (zcnd_ne (a := r13) (b := 0) h210a ⟨by decide, by decide⟩ (fun t => qR w _ _ t _ _ _ _) (fun hc => ?_) (fun hc => ?_))
  · have H := H1 hc; clear H1 H2 hc
    refine qS_iload_n qd_166_213 rfl ?_
    exact qS_ireturn qd_166_214 rfl (Or.inl ⟨_, rfl, H⟩)
  · have H := H2 hc; clear H1 H2 hc
    refine qS_aload_n qd_166_215 rfl ?_
    refine qS_getfield (v := qI (s13 25 5)) qd_166_216 (qfl_8_70 w) (hpc_25 _ _) rfl ?_
    refine qS_istore (a := [(0, .ref 25), (1, qI v1), (2, qI v2), (3, qI v3), (4, qI v4), (7, qI v7), (8, qI v8), (9, qI v9)]) qd_166_219 (Nat.le_of_ble_eq_true rfl) (zsub_c rfl (zsub_c rfl (zsub_c rfl (zsub_c rfl (zsub_c rfl (zsub_c rfl (zsub_c rfl (zsub_c rfl zsub_n)))))))) rfl ?_
    refine qS_iload qd_166_221 rfl ?_
    obtain ⟨h223a, H1, H2⟩ := H
    refine qS_if0 qd_166_223 rfl (zcnd_ge (a := v7) (b := 0) h223a ⟨by decide, by decide⟩ (fun t => qR w _ _ t _ _ _ _) (fun hc => ?_) (fun hc => ?_))
    · have H := H1 hc; clear H1 H2 hc
      refine qS_aload_n qd_166_226 rfl ?_
      refine qS_dup qd_166_227 rfl ?_
      refine qS_getfield (v := qI (s13 25 5)) qd_166_228 (qfl_8_70 w) (hpc_25 _ _) rfl ?_
      refine qS_iload qd_166_231 rfl ?_
      refine qS_iadd (a := s13 25 5) (b := v9) qd_166_233 ?_
      refine qS_putfield (s1 := qset s13 25 5 ((s13 25 5) + v9)) qd_166_234 (qfl_8_70 w) (hpc_25 _ _) (Nat.le_of_ble_eq_true rfl) rfl rfl rfl (hps_25_5 _ _ _) ?_
      refine qS_goto qd_166_237 rfl ?_
      exact qS_sub (zsub_c rfl (zsub_c rfl (zsub_c rfl (zsub_c rfl (zsub_c rfl (zsub_c rfl (zsub_c rfl (zsub_c rfl zsub_n)))))))) H
    · have H := H2 hc; clear H1 H2 hc
      refine qS_aload_n qd_166_240 rfl ?_
      refine qS_iload qd_166_241 rfl ?_
      refine qS_iload_n qd_166_243 rfl ?_
      refine qS_cvV qd_166_244 (qml_8_213 w) rfl qtm_168 (hpc_25 _ _) (Nat.le_of_ble_eq_true rfl) rfl (Nat.le_of_ble_eq_true rfl) H (fun s14 H => ?_) (fun x s1 H => Or.inr ⟨x, rfl, H⟩)
      exact qS_sub (zsub_c rfl (zsub_c rfl (zsub_c rfl (zsub_c rfl (zsub_c rfl (zsub_c rfl (zsub_c rfl (zsub_c rfl zsub_n)))))))) H
set_option maxRecDepth 100000 in
theorem k166_247 {w : qE} {s : qS} {v1 : Int} {v2 : Int} {v3 : Int} {v4 : Int} {v8 : Int} {v9 : Int} {v10 : Int} {f : Int → qS → Prop} {g : Nat → qS → Prop}  (H : qW w 1 134 [.ref 25] s (qPI (fun r15 s15 => Rg r15 ∧ (r15 = 0 → qR w 7 qm166 273 [(0, .ref 25), (1, qI v1), (2, qI v2), (3, qI v3), (4, qI v4)] [] s15 (qPI f g)) ∧ (r15 ≠ 0 → Rg ((s15 25 5) - v10) ∧ Rg v9 ∧ ((s15 25 5) - v10 = v9 → qR w 7 qm166 273 [(0, .ref 25), (1, qI v1), (2, qI v2), (3, qI v3), (4, qI v4)] [] s15 (qPI f g)) ∧ ((s15 25 5) - v10 ≠ v9 → qW w 1 133 [.ref 25, qI v8] s15 (qPI (fun r16 s16 => qR w 7 qm166 273 [(0, .ref 25), (1, qI v1), (2, qI v2), (3, qI v3), (4, qI v4)] [] s16 (qPI f g)) g)))) g)) : qR w 7 qm166 247 [(0, .ref 25), (1, qI v1), (2, qI v2), (3, qI v3), (4, qI v4), (8, qI v8), (9, qI v9), (10, qI v10)] [] s (qPI f g) := by
  refine qS_aload_n qd_166_247 rfl ?_
  refine qS_cvI qd_166_248 (qml_8_80 w) rfl qtm_134 (hpc_25 _ _) (Nat.le_of_ble_eq_true rfl) rfl (Nat.le_of_ble_eq_true rfl) H (fun r15 s15 H => ?_) (fun x s1 H => Or.inr ⟨x, rfl, H⟩)
  obtain ⟨h251a, H1, H2⟩ := H
  refine qS_if0 qd_166_251 rfl (zcnd_eq (a := r15) (b := 0) h251a ⟨by decide, by decide⟩ (fun t => qR w _ _ t _ _ _ _) (fun hc => ?_) (fun hc => ?_))
  · have H := H1 hc; clear H1 H2 hc
    exact qS_sub (zsub_c rfl (zsub_c rfl (zsub_c rfl (zsub_c rfl (zsub_c rfl zsub_n))))) H
  · have H := H2 hc; clear H1 H2 hc
    refine qS_aload_n qd_166_254 rfl ?_
    refine qS_getfield (v := qI (s15 25 5)) qd_166_255 (qfl_8_70 w) (hpc_25 _ _) rfl ?_
    refine qS_iload qd_166_258 rfl ?_
    refine qS_isub (a := s15 25 5) (b := v10) qd_166_260 ?_
    refine qS_iload qd_166_261 rfl ?_
    obtain ⟨h263a, h263b, H1, H2⟩ := H
    refine qS_icmp qd_166_263 rfl (zcnd_eq (a := (s15 25 5) - v10) (b := v9) h263a h263b (fun t => qR w _ _ t _ _ _ _) (fun hc => ?_) (fun hc => ?_))
    · have H := H1 hc; clear H1 H2 hc
      exact qS_sub (zsub_c rfl (zsub_c rfl (zsub_c rfl (zsub_c rfl (zsub_c rfl zsub_n))))) H
    · have H := H2 hc; clear H1 H2 hc
      refine qS_aload_n qd_166_266 rfl ?_
      refine qS_iload qd_166_267 rfl ?_
      refine qS_cvI qd_166_269 (qml_8_76 w) rfl qtm_133 (hpc_25 _ _) (Nat.le_of_ble_eq_true rfl) rfl (Nat.le_of_ble_eq_true rfl) H (fun r16 s16 H => ?_) (fun x s1 H => Or.inr ⟨x, rfl, H⟩)
      refine qS_pop qd_166_272 rfl ?_
      exact qS_sub (zsub_c rfl (zsub_c rfl (zsub_c rfl (zsub_c rfl (zsub_c rfl zsub_n))))) H
set_option maxRecDepth 100000 in
theorem k166_273 {w : qE} {s : qS} {v1 : Int} {v2 : Int} {v3 : Int} {v4 : Int} {f : Int → qS → Prop} {g : Nat → qS → Prop}  (H : qR w 7 qm166 29 [(0, .ref 25), (1, qI v1), (2, qI v2), (3, qI v3), (4, qI (v4 + 1))] [] s (qPI f g)) : qR w 7 qm166 273 [(0, .ref 25), (1, qI v1), (2, qI v2), (3, qI v3), (4, qI v4)] [] s (qPI f g) := by
  refine qS_iinc (v := v4) (a := [(0, .ref 25), (1, qI v1), (2, qI v2), (3, qI v3)]) qd_166_273 (Nat.le_of_ble_eq_true rfl) rfl (zsub_c rfl (zsub_c rfl (zsub_c rfl (zsub_c rfl zsub_n)))) rfl ?_
  refine qS_goto qd_166_276 rfl ?_
  exact qS_sub (zsub_c rfl (zsub_c rfl (zsub_c rfl (zsub_c rfl (zsub_c rfl zsub_n))))) H
set_option maxRecDepth 100000 in
theorem k167 {w : qE} {s : qS} {p0 : Int} {p1 : Int} {f : Int → qS → Prop} {g : Nat → qS → Prop}  (H : Rg p0 ∧ (p0 = 0 → qR w 3 qm167 18 [(0, .ref 25), (1, qI p0), (2, qI p1)] [qI 0] s (qPI f g)) ∧ (p0 ≠ 0 → (p0 = 1 → qR w 3 qm167 18 [(0, .ref 25), (1, qI p0), (2, qI p1)] [qI 1] s (qPI f g)) ∧ (p0 ≠ 1 → qR w 3 qm167 18 [(0, .ref 25), (1, qI p0), (2, qI p1)] [qI 3] s (qPI f g)))) : qW w 4 167 [.ref 25, qI p0, qI p1] s (qPI f g) := by
  refine qW.of (M := qm167) (l := [(0, .ref 25), (1, qI p0), (2, qI p1)]) qtm_167 rfl (Nat.le_of_ble_eq_true rfl) (zsub_c rfl (zsub_c rfl (zsub_c rfl zsub_n))) ?_
  refine qS_iload_n qd_167_0 rfl ?_
  obtain ⟨h1a, H1, H2⟩ := H
  refine qS_if0 qd_167_1 rfl (zcnd_ne (a := p0) (b := 0) h1a ⟨by decide, by decide⟩ (fun t => qR w _ _ t _ _ _ _) (fun hc => ?_) (fun hc => ?_))
  · have H := H1 hc; clear H1 H2 hc
    refine qS_iconst qd_167_4 ?_
    refine qS_goto qd_167_5 rfl ?_
    exact qS_sub (zsub_c rfl (zsub_c rfl (zsub_c rfl zsub_n))) H
  · have H := H2 hc; clear H1 H2 hc
    refine qS_iload_n qd_167_8 rfl ?_
    refine qS_iconst qd_167_9 ?_
    obtain ⟨H1, H2⟩ := H
    refine qS_icmp qd_167_10 rfl (zcnd_ne (a := p0) (b := 1) h1a ⟨by decide, by decide⟩ (fun t => qR w _ _ t _ _ _ _) (fun hc => ?_) (fun hc => ?_))
    · have H := H1 hc; clear H1 H2 hc
      refine qS_iconst qd_167_13 ?_
      refine qS_goto qd_167_14 rfl ?_
      exact qS_sub (zsub_c rfl (zsub_c rfl (zsub_c rfl zsub_n))) H
    · have H := H2 hc; clear H1 H2 hc
      refine qS_iconst qd_167_17 ?_
      exact qS_sub (zsub_c rfl (zsub_c rfl (zsub_c rfl zsub_n))) H
set_option maxRecDepth 100000 in
theorem k167_18 {w : qE} {s : qS} {v1 : Int} {v2 : Int} {k0 : Int} {f : Int → qS → Prop} {g : Nat → qS → Prop}  (H : Rg v1 ∧ (v1 = 0 → qR w 3 qm167 38 [(0, .ref 25), (2, qI v2), (3, qI k0)] [qI 0] s (qPI f g)) ∧ (v1 ≠ 0 → (v1 = 1 → qR w 3 qm167 38 [(0, .ref 25), (2, qI v2), (3, qI k0)] [qI 2] s (qPI f g)) ∧ (v1 ≠ 1 → qR w 3 qm167 38 [(0, .ref 25), (2, qI v2), (3, qI k0)] [qI 8] s (qPI f g)))) : qR w 3 qm167 18 [(0, .ref 25), (1, qI v1), (2, qI v2)] [qI k0] s (qPI f g) := by
  refine qS_istore_n (a := [(0, .ref 25), (1, qI v1), (2, qI v2)]) qd_167_18 (Nat.le_of_ble_eq_true rfl) (zsub_c rfl (zsub_c rfl (zsub_c rfl zsub_n))) rfl ?_
  refine qS_iload_n qd_167_19 rfl ?_
  obtain ⟨h20a, H1, H2⟩ := H
  refine qS_if0 qd_167_20 rfl (zcnd_ne (a := v1) (b := 0) h20a ⟨by decide, by decide⟩ (fun t => qR w _ _ t _ _ _ _) (fun hc => ?_) (fun hc => ?_))
  · have H := H1 hc; clear H1 H2 hc
    refine qS_iconst qd_167_23 ?_
    refine qS_goto qd_167_24 rfl ?_
    exact qS_sub (zsub_c rfl (zsub_c rfl (zsub_c rfl zsub_n))) H
  · have H := H2 hc; clear H1 H2 hc
    refine qS_iload_n qd_167_27 rfl ?_
    refine qS_iconst qd_167_28 ?_
    obtain ⟨H1, H2⟩ := H
    refine qS_icmp qd_167_29 rfl (zcnd_ne (a := v1) (b := 1) h20a ⟨by decide, by decide⟩ (fun t => qR w _ _ t _ _ _ _) (fun hc => ?_) (fun hc => ?_))
    · have H := H1 hc; clear H1 H2 hc
      refine qS_iconst qd_167_32 ?_
      refine qS_goto qd_167_33 rfl ?_
      exact qS_sub (zsub_c rfl (zsub_c rfl (zsub_c rfl zsub_n))) H
    · have H := H2 hc; clear H1 H2 hc
      refine qS_bipush qd_167_36 (by decide) ?_
      exact qS_sub (zsub_c rfl (zsub_c rfl (zsub_c rfl zsub_n))) H
set_option maxRecDepth 100000 in
theorem k167_38 {w : qE} {s : qS} {v2 : Int} {v3 : Int} {k0 : Int} {f : Int → qS → Prop} {g : Nat → qS → Prop}  (H : qR w 3 qm167 43 [(0, .ref 25), (2, qI v2), (4, qI k0), (5, qI v3)] [] s (qPI f g)) : qR w 3 qm167 38 [(0, .ref 25), (2, qI v2), (3, qI v3)] [qI k0] s (qPI f g) := by
  refine qS_istore (a := [(0, .ref 25), (2, qI v2), (3, qI v3)]) qd_167_38 (Nat.le_of_ble_eq_true rfl) (zsub_c rfl (zsub_c rfl (zsub_c rfl zsub_n))) rfl ?_
  refine qS_iload_n qd_167_40 rfl ?_
  refine qS_istore (a := [(4, qI k0), (0, .ref 25), (2, qI v2)]) qd_167_41 (Nat.le_of_ble_eq_true rfl) (zsub_c rfl (zsub_c rfl (zsub_c rfl zsub_n))) rfl ?_
  exact qS_sub (zsub_c rfl (zsub_c rfl (zsub_c rfl (zsub_c rfl zsub_n)))) H
set_option maxRecDepth 100000 in
theorem k167_43 {w : qE} {s : qS} {v2 : Int} {v4 : Int} {v5 : Int} {f : Int → qS → Prop} {g : Nat → qS → Prop}  (H : Rg v5 ∧ Rg v4 ∧ (v4 < v5 → f ((-1)) s) ∧ (v5 ≤ v4 → qW w 3 155 [.ref 25, qI v2, qI v5] s (qPI (fun r1 s1 => Rg r1 ∧ (r1 = 0 → qR w 3 qm167 43 [(0, .ref 25), (2, qI v2), (4, qI v4), (5, qI (v5 + 1))] [] s1 (qPI f g)) ∧ (r1 ≠ 0 → f v5 s1)) g))) : qR w 3 qm167 43 [(0, .ref 25), (2, qI v2), (4, qI v4), (5, qI v5)] [] s (qPI f g) := by
  refine qS_iload qd_167_43 rfl ?_
  refine qS_iload qd_167_45 rfl ?_
  obtain ⟨h47a, h47b, H1, H2⟩ := H
  refine qS_icmp qd_167_47 rfl (zcnd_gt (a := v5) (b := v4) h47a h47b (fun t => qR w _ _ t _ _ _ _) (fun hc => ?_) (fun hc => ?_))
  · have H := H1 hc; clear H1 H2 hc
    refine qS_iconst qd_167_69 ?_
    exact qS_ireturn qd_167_70 rfl (Or.inl ⟨_, rfl, H⟩)
  · have H := H2 hc; clear H1 H2 hc
    refine qS_aload_n qd_167_50 rfl ?_
    refine qS_iload_n qd_167_51 rfl ?_
    refine qS_iload qd_167_52 rfl ?_
    refine qS_cvI qd_167_54 (qml_8_111 w) rfl qtm_155 (hpc_25 _ _) (Nat.le_of_ble_eq_true rfl) rfl (Nat.le_of_ble_eq_true rfl) H (fun r1 s1 H => ?_) (fun x s1 H => Or.inr ⟨x, rfl, H⟩)
    obtain ⟨h57a, H1, H2⟩ := H
    refine qS_if0 qd_167_57 rfl (zcnd_eq (a := r1) (b := 0) h57a ⟨by decide, by decide⟩ (fun t => qR w _ _ t _ _ _ _) (fun hc => ?_) (fun hc => ?_))
    · have H := H1 hc; clear H1 H2 hc
      refine qS_iinc (v := v5) (a := [(0, .ref 25), (2, qI v2), (4, qI v4)]) qd_167_63 (Nat.le_of_ble_eq_true rfl) rfl (zsub_c rfl (zsub_c rfl (zsub_c rfl zsub_n))) rfl ?_
      refine qS_goto qd_167_66 rfl ?_
      exact qS_sub (zsub_c rfl (zsub_c rfl (zsub_c rfl (zsub_c rfl zsub_n)))) H
    · have H := H2 hc; clear H1 H2 hc
      refine qS_iload qd_167_60 rfl ?_
      exact qS_ireturn qd_167_62 rfl (Or.inl ⟨_, rfl, H⟩)
set_option maxRecDepth 100000 in
theorem k168 {w : qE} {s : qS} {p0 : Int} {p1 : Int} {f : qS → Prop} {g : Nat → qS → Prop}  (H : Rg p0 ∧ (p0 = 0 → qW w 4 169 [.ref 25, qI p1] s (qPV (fun s1 => qR w 6 qm168 94 [] [] s1 (qPV f g)) g)) ∧ (p0 = 1 → qW w 6 170 [.ref 25, qI p1] s (qPV (fun s2 => qR w 6 qm168 94 [] [] s2 (qPV f g)) g)) ∧ (p0 = 2 → qW w 3 131 [.ref 25] s (qPI (fun r3 s3 => (0 ≤ p1 ∧ p1 < 160 ∧ (qR w 6 qm168 56 [(0, .ref 25), (2, qI p1), (3, qI 0)] [] (qset s3 34 p1 r3) (qPV f g)))) g)) ∧ (p0 ≠ 0 → p0 ≠ 1 → p0 ≠ 2 → qW w 6 173 [.ref 25, qI p0] s (qPV (fun s4 => qR w 6 qm168 94 [] [] s4 (qPV f g)) g))) : qW w 7 168 [.ref 25, qI p0, qI p1] s (qPV f g) := by
  refine qW.of (M := qm168) (l := [(0, .ref 25), (1, qI p0), (2, qI p1)]) qtm_168 rfl (Nat.le_of_ble_eq_true rfl) (zsub_c rfl (zsub_c rfl (zsub_c rfl zsub_n))) ?_
  refine qS_iload_n qd_168_0 rfl ?_
  obtain ⟨h1a, H1, H2, H3, Hd⟩ := H
  by_cases hc0 : p0 = 0
  · refine qS_tsw qd_168_1 (t := 28) h1a (by rw [hc0]; rfl) ?_
    have H := H1 hc0
    refine qS_aload_n qd_168_28 rfl ?_
    refine qS_iload_n qd_168_29 rfl ?_
    refine qS_cvV qd_168_30 (qml_8_217 w) rfl qtm_169 (hpc_25 _ _) (Nat.le_of_ble_eq_true rfl) rfl (Nat.le_of_ble_eq_true rfl) H (fun s1 H => ?_) (fun x s1 H => Or.inr ⟨x, rfl, H⟩)
    refine qS_goto qd_168_33 rfl ?_
    exact qS_sub zsub_n H
  by_cases hc1 : p0 = 1
  · refine qS_tsw qd_168_1 (t := 36) h1a (by rw [hc1]; rfl) ?_
    have H := H2 hc1
    refine qS_aload_n qd_168_36 rfl ?_
    refine qS_iload_n qd_168_37 rfl ?_
    refine qS_cvV qd_168_38 (qml_8_221 w) rfl qtm_170 (hpc_25 _ _) (Nat.le_of_ble_eq_true rfl) rfl (Nat.le_of_ble_eq_true rfl) H (fun s2 H => ?_) (fun x s1 H => Or.inr ⟨x, rfl, H⟩)
    refine qS_goto qd_168_41 rfl ?_
    exact qS_sub zsub_n H
  by_cases hc2 : p0 = 2
  · refine qS_tsw qd_168_1 (t := 44) h1a (by rw [hc2]; rfl) ?_
    have H := H3 hc2
    refine qS_aload_n qd_168_44 rfl ?_
    refine qS_getfield (v := .ref 34) qd_168_45 (qfl_8_38 w) (hpc_25 _ _) rfl ?_
    refine qS_iload_n qd_168_48 rfl ?_
    refine qS_aload_n qd_168_49 rfl ?_
    refine qS_cvI qd_168_50 (qml_8_88 w) rfl qtm_131 (hpc_25 _ _) (Nat.le_of_ble_eq_true rfl) rfl (Nat.le_of_ble_eq_true rfl) H (fun r3 s3 H => ?_) (fun x s1 H => Or.inr ⟨x, rfl, H⟩)
    obtain ⟨hl, hu, H⟩ := H
    refine qS_iastore (a := 34) (i := p1) (v := r3) qd_168_53 (Nat.le_of_ble_eq_true rfl) hl hu ?_
    refine qS_iconst qd_168_54 ?_
    refine qS_istore_n (a := [(0, .ref 25), (2, qI p1)]) qd_168_55 (Nat.le_of_ble_eq_true rfl) (zsub_c rfl (zsub_c rfl zsub_n)) rfl ?_
    exact qS_sub (zsub_c rfl (zsub_c rfl (zsub_c rfl zsub_n))) H
  refine qS_tsw qd_168_1 (t := 89) h1a (by unfold ztsw; rw [if_pos (by omega)]; rfl) ?_
  have H := Hd (by omega) (by omega) (by omega)
  refine qS_aload_n qd_168_89 rfl ?_
  refine qS_iload_n qd_168_90 rfl ?_
  refine qS_cvV qd_168_91 (qml_8_228 w) rfl qtm_173 (hpc_25 _ _) (Nat.le_of_ble_eq_true rfl) rfl (Nat.le_of_ble_eq_true rfl) H (fun s4 H => ?_) (fun x s1 H => Or.inr ⟨x, rfl, H⟩)
  exact qS_sub zsub_n H
set_option maxRecDepth 100000 in
theorem k168_56 {w : qE} {s : qS} {v2 : Int} {v3 : Int} {f : qS → Prop} {g : Nat → qS → Prop}  (H : (0 ≤ v2 ∧ v2 < 160 ∧ (Rg v3 ∧ Rg (s 34 v2) ∧ (v3 < s 34 v2 → qW w 1 134 [.ref 25] s (qPI (fun r5 s5 => Rg r5 ∧ (r5 = 0 → qR w 6 qm168 86 [] [] s5 (qPV f g)) ∧ (r5 ≠ 0 → qW w 4 171 [.ref 25, qI 7, qI 0] s5 (qPV (fun s6 => qR w 6 qm168 56 [(0, .ref 25), (2, qI v2), (3, qI (v3 + 1))] [] s6 (qPV f g)) g))) g)) ∧ (s 34 v2 ≤ v3 → qR w 6 qm168 86 [] [] s (qPV f g))))) : qR w 6 qm168 56 [(0, .ref 25), (2, qI v2), (3, qI v3)] [] s (qPV f g) := by
  refine qS_iload_n qd_168_56 rfl ?_
  refine qS_aload_n qd_168_57 rfl ?_
  refine qS_getfield (v := .ref 34) qd_168_58 (qfl_8_38 w) (hpc_25 _ _) rfl ?_
  refine qS_iload_n qd_168_61 rfl ?_
  obtain ⟨hl, hu, H⟩ := H
  refine qS_iaload (a := 34) (i := v2) qd_168_62 (Nat.le_of_ble_eq_true rfl) hl hu ?_
  obtain ⟨h63a, h63b, H1, H2⟩ := H
  refine qS_icmp qd_168_63 rfl (zcnd_ge (a := v3) (b := s 34 v2) h63a h63b (fun t => qR w _ _ t _ _ _ _) (fun hc => ?_) (fun hc => ?_))
  · have H := H1 hc; clear H1 H2 hc
    refine qS_aload_n qd_168_66 rfl ?_
    refine qS_cvI qd_168_67 (qml_8_80 w) rfl qtm_134 (hpc_25 _ _) (Nat.le_of_ble_eq_true rfl) rfl (Nat.le_of_ble_eq_true rfl) H (fun r5 s5 H => ?_) (fun x s1 H => Or.inr ⟨x, rfl, H⟩)
    obtain ⟨h70a, H1, H2⟩ := H
    refine qS_if0 qd_168_70 rfl (zcnd_eq (a := r5) (b := 0) h70a ⟨by decide, by decide⟩ (fun t => qR w _ _ t _ _ _ _) (fun hc => ?_) (fun hc => ?_))
    · have H := H1 hc; clear H1 H2 hc
      exact qS_sub zsub_n H
    · have H := H2 hc; clear H1 H2 hc
      refine qS_aload_n qd_168_73 rfl ?_
      refine qS_bipush qd_168_74 (by decide) ?_
      refine qS_iconst qd_168_76 ?_
      refine qS_cvV qd_168_77 (qml_8_224 w) rfl qtm_171 (hpc_25 _ _) (Nat.le_of_ble_eq_true rfl) rfl (Nat.le_of_ble_eq_true rfl) H (fun s6 H => ?_) (fun x s1 H => Or.inr ⟨x, rfl, H⟩)
      refine qS_iinc (v := v3) (a := [(0, .ref 25), (2, qI v2)]) qd_168_80 (Nat.le_of_ble_eq_true rfl) rfl (zsub_c rfl (zsub_c rfl zsub_n)) rfl ?_
      refine qS_goto qd_168_83 rfl ?_
      exact qS_sub (zsub_c rfl (zsub_c rfl (zsub_c rfl zsub_n))) H
  · have H := H2 hc; clear H1 H2 hc
    exact qS_sub zsub_n H
set_option maxRecDepth 100000 in
theorem k168_94 {w : qE} {s : qS}  {f : qS → Prop} {g : Nat → qS → Prop}  (H : f s) : qR w 6 qm168 94 [] [] s (qPV f g) := by
  exact qS_vreturn qd_168_94 rfl (Or.inl ⟨rfl, H⟩)
set_option maxRecDepth 100000 in
theorem k168_86 {w : qE} {s : qS}  {f : qS → Prop} {g : Nat → qS → Prop}  (H : qR w 6 qm168 94 [] [] s (qPV f g)) : qR w 6 qm168 86 [] [] s (qPV f g) := by
  refine qS_goto qd_168_86 rfl ?_
  exact qS_sub zsub_n H
set_option maxRecDepth 100000 in
theorem k169 {w : qE} {s : qS} {p0 : Int} {f : qS → Prop} {g : Nat → qS → Prop}  (H : qW w 3 131 [.ref 25] s (qPI (fun r1 s1 => (0 ≤ p0 ∧ p0 < 160 ∧ (qW w 1 142 [.ref 25, qI ((s1 30 p0) + 4)] s1 (qPI (fun r2 s2 => qW w 2 146 [.ref 25, qI r2, qI 0] s2 (qPI (fun r3 s3 => qW w 2 139 [.ref 25, qI r1] s3 (qPI (fun r4 s4 => qW w 1 134 [.ref 25] s4 (qPI (fun r5 s5 => Rg r5 ∧ (r5 = 0 → f s5) ∧ (r5 ≠ 0 → Rg r3 ∧ (r3 = 74 → Rg r4 ∧ (r4 = 5 → qR w 3 qm169 157 [(0, .ref 25), (1, qI p0), (2, qI (s 25 5)), (3, qI r1)] [qI 1] s5 (qPV f g)) ∧ (r4 ≠ 5 → qR w 3 qm169 157 [(0, .ref 25), (1, qI p0), (2, qI (s 25 5)), (3, qI r1)] [qI 0] s5 (qPV f g))) ∧ (r3 ≠ 74 → (r3 = 70 → Rg r4 ∧ (r4 = 4 → qR w 3 qm169 157 [(0, .ref 25), (1, qI p0), (2, qI (s 25 5)), (3, qI r1)] [qI 1] s5 (qPV f g)) ∧ (r4 ≠ 4 → qR w 3 qm169 157 [(0, .ref 25), (1, qI p0), (2, qI (s 25 5)), (3, qI r1)] [qI 0] s5 (qPV f g))) ∧ (r3 ≠ 70 → (r3 = 68 → Rg r4 ∧ (r4 = 6 → qR w 3 qm169 157 [(0, .ref 25), (1, qI p0), (2, qI (s 25 5)), (3, qI r1)] [qI 1] s5 (qPV f g)) ∧ (r4 ≠ 6 → qR w 3 qm169 157 [(0, .ref 25), (1, qI p0), (2, qI (s 25 5)), (3, qI r1)] [qI 0] s5 (qPV f g))) ∧ (r3 ≠ 68 → qW w 1 149 [qI r3] s5 (qPI (fun r6 s6 => Rg r6 ∧ (r6 < 0 → qW w 3 155 [.ref 25, qI r2, qI 11] s6 (qPI (fun r7 s7 => Rg r7 ∧ (r7 = 0 → qR w 3 qm169 156 [(0, .ref 25), (1, qI p0), (2, qI (s 25 5)), (3, qI r1)] [] s7 (qPV f g)) ∧ (r7 ≠ 0 → Rg r4 ∧ (r4 = 8 → qR w 3 qm169 157 [(0, .ref 25), (1, qI p0), (2, qI (s 25 5)), (3, qI r1)] [qI 1] s7 (qPV f g)) ∧ (r4 ≠ 8 → qR w 3 qm169 156 [(0, .ref 25), (1, qI p0), (2, qI (s 25 5)), (3, qI r1)] [] s7 (qPV f g)))) g)) ∧ (0 ≤ r6 → Rg r4 ∧ (r4 = 3 → qR w 3 qm169 157 [(0, .ref 25), (1, qI p0), (2, qI (s 25 5)), (3, qI r1)] [qI 1] s6 (qPV f g)) ∧ (r4 ≠ 3 → qR w 3 qm169 157 [(0, .ref 25), (1, qI p0), (2, qI (s 25 5)), (3, qI r1)] [qI 0] s6 (qPV f g)))) g)))))) g)) g)) g)) g)))) g)) : qW w 4 169 [.ref 25, qI p0] s (qPV f g) := by
  refine qW.of (M := qm169) (l := [(0, .ref 25), (1, qI p0)]) qtm_169 rfl (Nat.le_of_ble_eq_true rfl) (zsub_c rfl (zsub_c rfl zsub_n)) ?_
  refine qS_aload_n qd_169_0 rfl ?_
  refine qS_getfield (v := qI (s 25 5)) qd_169_1 (qfl_8_70 w) (hpc_25 _ _) rfl ?_
  refine qS_istore_n (a := [(0, .ref 25), (1, qI p0)]) qd_169_4 (Nat.le_of_ble_eq_true rfl) (zsub_c rfl (zsub_c rfl zsub_n)) rfl ?_
  refine qS_aload_n qd_169_5 rfl ?_
  refine qS_cvI qd_169_6 (qml_8_88 w) rfl qtm_131 (hpc_25 _ _) (Nat.le_of_ble_eq_true rfl) rfl (Nat.le_of_ble_eq_true rfl) H (fun r1 s1 H => ?_) (fun x s1 H => Or.inr ⟨x, rfl, H⟩)
  refine qS_istore_n (a := [(2, qI (s 25 5)), (0, .ref 25), (1, qI p0)]) qd_169_9 (Nat.le_of_ble_eq_true rfl) (zsub_c rfl (zsub_c rfl (zsub_c rfl zsub_n))) rfl ?_
  refine qS_aload_n qd_169_10 rfl ?_
  refine qS_aload_n qd_169_11 rfl ?_
  refine qS_getfield (v := .ref 30) qd_169_12 (qfl_8_26 w) (hpc_25 _ _) rfl ?_
  refine qS_iload_n qd_169_15 rfl ?_
  obtain ⟨hl, hu, H⟩ := H
  refine qS_iaload (a := 30) (i := p0) qd_169_16 (Nat.le_of_ble_eq_true rfl) hl hu ?_
  refine qS_iconst qd_169_17 ?_
  refine qS_iadd (a := s1 30 p0) (b := 4) qd_169_18 ?_
  refine qS_cvI qd_169_19 (qml_8_91 w) rfl qtm_142 (hpc_25 _ _) (Nat.le_of_ble_eq_true rfl) rfl (Nat.le_of_ble_eq_true rfl) H (fun r2 s2 H => ?_) (fun x s1 H => Or.inr ⟨x, rfl, H⟩)
  refine qS_istore (a := [(3, qI r1), (2, qI (s 25 5)), (0, .ref 25), (1, qI p0)]) qd_169_22 (Nat.le_of_ble_eq_true rfl) (zsub_c rfl (zsub_c rfl (zsub_c rfl (zsub_c rfl zsub_n)))) rfl ?_
  refine qS_aload_n qd_169_24 rfl ?_
  refine qS_iload qd_169_25 rfl ?_
  refine qS_iconst qd_169_27 ?_
  refine qS_cvI qd_169_28 (qml_8_107 w) rfl qtm_146 (hpc_25 _ _) (Nat.le_of_ble_eq_true rfl) rfl (Nat.le_of_ble_eq_true rfl) H (fun r3 s3 H => ?_) (fun x s1 H => Or.inr ⟨x, rfl, H⟩)
  refine qS_istore (a := [(4, qI r2), (3, qI r1), (2, qI (s 25 5)), (0, .ref 25), (1, qI p0)]) qd_169_31 (Nat.le_of_ble_eq_true rfl) (zsub_c rfl (zsub_c rfl (zsub_c rfl (zsub_c rfl (zsub_c rfl zsub_n))))) rfl ?_
  refine qS_aload_n qd_169_33 rfl ?_
  refine qS_iload_n qd_169_34 rfl ?_
  refine qS_cvI qd_169_35 (qml_8_137 w) rfl qtm_139 (hpc_25 _ _) (Nat.le_of_ble_eq_true rfl) rfl (Nat.le_of_ble_eq_true rfl) H (fun r4 s4 H => ?_) (fun x s1 H => Or.inr ⟨x, rfl, H⟩)
  refine qS_istore (a := [(5, qI r3), (4, qI r2), (3, qI r1), (2, qI (s 25 5)), (0, .ref 25), (1, qI p0)]) qd_169_38 (Nat.le_of_ble_eq_true rfl) (zsub_c rfl (zsub_c rfl (zsub_c rfl (zsub_c rfl (zsub_c rfl (zsub_c rfl zsub_n)))))) rfl ?_
  refine qS_aload_n qd_169_40 rfl ?_
  refine qS_cvI qd_169_41 (qml_8_80 w) rfl qtm_134 (hpc_25 _ _) (Nat.le_of_ble_eq_true rfl) rfl (Nat.le_of_ble_eq_true rfl) H (fun r5 s5 H => ?_) (fun x s1 H => Or.inr ⟨x, rfl, H⟩)
  obtain ⟨h44a, H1, H2⟩ := H
  refine qS_if0 qd_169_44 rfl (zcnd_ne (a := r5) (b := 0) h44a ⟨by decide, by decide⟩ (fun t => qR w _ _ t _ _ _ _) (fun hc => ?_) (fun hc => ?_))
  · have H := H1 hc; clear H1 H2 hc
    exact qS_vreturn qd_169_47 rfl (Or.inl ⟨rfl, H⟩)
  · have H := H2 hc; clear H1 H2 hc
    refine qS_iload qd_169_48 rfl ?_
    refine qS_bipush qd_169_50 (by decide) ?_
    obtain ⟨h52a, H1, H2⟩ := H
    refine qS_icmp qd_169_52 rfl (zcnd_ne (a := r3) (b := 74) h52a ⟨by decide, by decide⟩ (fun t => qR w _ _ t _ _ _ _) (fun hc => ?_) (fun hc => ?_))
    · have H := H1 hc; clear H1 H2 hc
      refine qS_iload qd_169_55 rfl ?_
      refine qS_iconst qd_169_57 ?_
      obtain ⟨h58a, H1, H2⟩ := H
      refine qS_icmp qd_169_58 rfl (zcnd_ne (a := r4) (b := 5) h58a ⟨by decide, by decide⟩ (fun t => qR w _ _ t _ _ _ _) (fun hc => ?_) (fun hc => ?_))
      · have H := H1 hc; clear H1 H2 hc
        refine qS_iconst qd_169_61 ?_
        refine qS_goto qd_169_62 rfl ?_
        exact qS_sub (zsub_c rfl (zsub_c rfl (zsub_c rfl (zsub_c rfl zsub_n)))) H
      · have H := H2 hc; clear H1 H2 hc
        refine qS_iconst qd_169_65 ?_
        refine qS_goto qd_169_66 rfl ?_
        exact qS_sub (zsub_c rfl (zsub_c rfl (zsub_c rfl (zsub_c rfl zsub_n)))) H
    · have H := H2 hc; clear H1 H2 hc
      refine qS_iload qd_169_69 rfl ?_
      refine qS_bipush qd_169_71 (by decide) ?_
      obtain ⟨H1, H2⟩ := H
      refine qS_icmp qd_169_73 rfl (zcnd_ne (a := r3) (b := 70) h52a ⟨by decide, by decide⟩ (fun t => qR w _ _ t _ _ _ _) (fun hc => ?_) (fun hc => ?_))
      · have H := H1 hc; clear H1 H2 hc
        refine qS_iload qd_169_76 rfl ?_
        refine qS_iconst qd_169_78 ?_
        obtain ⟨h79a, H1, H2⟩ := H
        refine qS_icmp qd_169_79 rfl (zcnd_ne (a := r4) (b := 4) h79a ⟨by decide, by decide⟩ (fun t => qR w _ _ t _ _ _ _) (fun hc => ?_) (fun hc => ?_))
        · have H := H1 hc; clear H1 H2 hc
          refine qS_iconst qd_169_82 ?_
          refine qS_goto qd_169_83 rfl ?_
          exact qS_sub (zsub_c rfl (zsub_c rfl (zsub_c rfl (zsub_c rfl zsub_n)))) H
        · have H := H2 hc; clear H1 H2 hc
          refine qS_iconst qd_169_86 ?_
          refine qS_goto qd_169_87 rfl ?_
          exact qS_sub (zsub_c rfl (zsub_c rfl (zsub_c rfl (zsub_c rfl zsub_n)))) H
      · have H := H2 hc; clear H1 H2 hc
        refine qS_iload qd_169_90 rfl ?_
        refine qS_bipush qd_169_92 (by decide) ?_
        obtain ⟨H1, H2⟩ := H
        refine qS_icmp qd_169_94 rfl (zcnd_ne (a := r3) (b := 68) h52a ⟨by decide, by decide⟩ (fun t => qR w _ _ t _ _ _ _) (fun hc => ?_) (fun hc => ?_))
        · have H := H1 hc; clear H1 H2 hc
          refine qS_iload qd_169_97 rfl ?_
          refine qS_bipush qd_169_99 (by decide) ?_
          obtain ⟨h101a, H1, H2⟩ := H
          refine qS_icmp qd_169_101 rfl (zcnd_ne (a := r4) (b := 6) h101a ⟨by decide, by decide⟩ (fun t => qR w _ _ t _ _ _ _) (fun hc => ?_) (fun hc => ?_))
          · have H := H1 hc; clear H1 H2 hc
            refine qS_iconst qd_169_104 ?_
            refine qS_goto qd_169_105 rfl ?_
            exact qS_sub (zsub_c rfl (zsub_c rfl (zsub_c rfl (zsub_c rfl zsub_n)))) H
          · have H := H2 hc; clear H1 H2 hc
            refine qS_iconst qd_169_108 ?_
            refine qS_goto qd_169_109 rfl ?_
            exact qS_sub (zsub_c rfl (zsub_c rfl (zsub_c rfl (zsub_c rfl zsub_n)))) H
        · have H := H2 hc; clear H1 H2 hc
          refine qS_iload qd_169_112 rfl ?_
          refine qS_csI qd_169_114 (qml_8_118 w) rfl (Nat.le_of_ble_eq_true rfl) rfl (Nat.le_of_ble_eq_true rfl) H (fun r6 s6 H => ?_) (fun x s1 H => Or.inr ⟨x, rfl, H⟩)
          obtain ⟨h117a, H1, H2⟩ := H
          refine qS_if0 qd_169_117 rfl (zcnd_lt (a := r6) (b := 0) h117a ⟨by decide, by decide⟩ (fun t => qR w _ _ t _ _ _ _) (fun hc => ?_) (fun hc => ?_))
          · have H := H1 hc; clear H1 H2 hc
            refine qS_aload_n qd_169_134 rfl ?_
            refine qS_iload qd_169_135 rfl ?_
            refine qS_bipush qd_169_137 (by decide) ?_
            refine qS_cvI qd_169_139 (qml_8_111 w) rfl qtm_155 (hpc_25 _ _) (Nat.le_of_ble_eq_true rfl) rfl (Nat.le_of_ble_eq_true rfl) H (fun r7 s7 H => ?_) (fun x s1 H => Or.inr ⟨x, rfl, H⟩)
            obtain ⟨h142a, H1, H2⟩ := H
            refine qS_if0 qd_169_142 rfl (zcnd_eq (a := r7) (b := 0) h142a ⟨by decide, by decide⟩ (fun t => qR w _ _ t _ _ _ _) (fun hc => ?_) (fun hc => ?_))
            · have H := H1 hc; clear H1 H2 hc
              exact qS_sub (zsub_c rfl (zsub_c rfl (zsub_c rfl (zsub_c rfl zsub_n)))) H
            · have H := H2 hc; clear H1 H2 hc
              refine qS_iload qd_169_145 rfl ?_
              refine qS_bipush qd_169_147 (by decide) ?_
              obtain ⟨h149a, H1, H2⟩ := H
              refine qS_icmp qd_169_149 rfl (zcnd_ne (a := r4) (b := 8) h149a ⟨by decide, by decide⟩ (fun t => qR w _ _ t _ _ _ _) (fun hc => ?_) (fun hc => ?_))
              · have H := H1 hc; clear H1 H2 hc
                refine qS_iconst qd_169_152 ?_
                refine qS_goto qd_169_153 rfl ?_
                exact qS_sub (zsub_c rfl (zsub_c rfl (zsub_c rfl (zsub_c rfl zsub_n)))) H
              · have H := H2 hc; clear H1 H2 hc
                exact qS_sub (zsub_c rfl (zsub_c rfl (zsub_c rfl (zsub_c rfl zsub_n)))) H
          · have H := H2 hc; clear H1 H2 hc
            refine qS_iload qd_169_120 rfl ?_
            refine qS_iconst qd_169_122 ?_
            obtain ⟨h123a, H1, H2⟩ := H
            refine qS_icmp qd_169_123 rfl (zcnd_ne (a := r4) (b := 3) h123a ⟨by decide, by decide⟩ (fun t => qR w _ _ t _ _ _ _) (fun hc => ?_) (fun hc => ?_))
            · have H := H1 hc; clear H1 H2 hc
              refine qS_iconst qd_169_126 ?_
              refine qS_goto qd_169_127 rfl ?_
              exact qS_sub (zsub_c rfl (zsub_c rfl (zsub_c rfl (zsub_c rfl zsub_n)))) H
            · have H := H2 hc; clear H1 H2 hc
              refine qS_iconst qd_169_130 ?_
              refine qS_goto qd_169_131 rfl ?_
              exact qS_sub (zsub_c rfl (zsub_c rfl (zsub_c rfl (zsub_c rfl zsub_n)))) H
set_option maxRecDepth 100000 in
theorem k169_156 {w : qE} {s : qS} {v1 : Int} {v2 : Int} {v3 : Int} {f : qS → Prop} {g : Nat → qS → Prop}  (H : qR w 3 qm169 157 [(0, .ref 25), (1, qI v1), (2, qI v2), (3, qI v3)] [qI 0] s (qPV f g)) : qR w 3 qm169 156 [(0, .ref 25), (1, qI v1), (2, qI v2), (3, qI v3)] [] s (qPV f g) := by
  refine qS_iconst qd_169_156 ?_
  exact qS_sub (zsub_c rfl (zsub_c rfl (zsub_c rfl (zsub_c rfl zsub_n)))) H
set_option maxRecDepth 100000 in
theorem k169_157 {w : qE} {s : qS} {v1 : Int} {v2 : Int} {v3 : Int} {k0 : Int} {f : qS → Prop} {g : Nat → qS → Prop}  (H : Rg k0 ∧ (k0 = 0 → qW w 1 133 [.ref 25, qI v2] s (qPI (fun r8 s8 => qR w 3 qm169 170 [(0, .ref 25), (1, qI v1), (3, qI v3)] [] s8 (qPV f g)) g)) ∧ (k0 ≠ 0 → qR w 3 qm169 170 [(0, .ref 25), (1, qI v1), (3, qI v3)] [] s (qPV f g))) : qR w 3 qm169 157 [(0, .ref 25), (1, qI v1), (2, qI v2), (3, qI v3)] [qI k0] s (qPV f g) := by
  refine qS_istore (a := [(0, .ref 25), (1, qI v1), (2, qI v2), (3, qI v3)]) qd_169_157 (Nat.le_of_ble_eq_true rfl) (zsub_c rfl (zsub_c rfl (zsub_c rfl (zsub_c rfl zsub_n)))) rfl ?_
  refine qS_iload qd_169_159 rfl ?_
  obtain ⟨h161a, H1, H2⟩ := H
  refine qS_if0 qd_169_161 rfl (zcnd_ne (a := k0) (b := 0) h161a ⟨by decide, by decide⟩ (fun t => qR w _ _ t _ _ _ _) (fun hc => ?_) (fun hc => ?_))
  · have H := H1 hc; clear H1 H2 hc
    refine qS_aload_n qd_169_164 rfl ?_
    refine qS_iload_n qd_169_165 rfl ?_
    refine qS_cvI qd_169_166 (qml_8_76 w) rfl qtm_133 (hpc_25 _ _) (Nat.le_of_ble_eq_true rfl) rfl (Nat.le_of_ble_eq_true rfl) H (fun r8 s8 H => ?_) (fun x s1 H => Or.inr ⟨x, rfl, H⟩)
    refine qS_pop qd_169_169 rfl ?_
    exact qS_sub (zsub_c rfl (zsub_c rfl (zsub_c rfl zsub_n))) H
  · have H := H2 hc; clear H1 H2 hc
    exact qS_sub (zsub_c rfl (zsub_c rfl (zsub_c rfl zsub_n))) H
set_option maxRecDepth 100000 in
theorem k169_170 {w : qE} {s : qS} {v1 : Int} {v3 : Int} {f : qS → Prop} {g : Nat → qS → Prop}  (H : (0 ≤ v1 ∧ v1 < 160 ∧ (f (qset s 32 v1 v3)))) : qR w 3 qm169 170 [(0, .ref 25), (1, qI v1), (3, qI v3)] [] s (qPV f g) := by
  refine qS_aload_n qd_169_170 rfl ?_
  refine qS_getfield (v := .ref 32) qd_169_171 (qfl_8_32 w) (hpc_25 _ _) rfl ?_
  refine qS_iload_n qd_169_174 rfl ?_
  refine qS_iload_n qd_169_175 rfl ?_
  obtain ⟨hl, hu, H⟩ := H
  refine qS_iastore (a := 32) (i := v1) (v := v3) qd_169_176 (Nat.le_of_ble_eq_true rfl) hl hu ?_
  exact qS_vreturn qd_169_177 rfl (Or.inl ⟨rfl, H⟩)
set_option maxRecDepth 100000 in
theorem k170 {w : qE} {s : qS} {p0 : Int} {f : qS → Prop} {g : Nat → qS → Prop}  (H : qW w 4 130 [.ref 25] s (qPI (fun r1 s1 => qW w 4 130 [.ref 25] s1 (qPI (fun r2 s2 => qW w 1 134 [.ref 25] s2 (qPI (fun r3 s3 => Rg r3 ∧ (r3 = 0 → qR w 5 qm170 38 [(0, .ref 25), (1, qI p0), (3, qI r2)] [] s3 (qPV f g)) ∧ (r3 ≠ 0 → qW w 1 125 [qI r2, qI 1, qI 65535] s3 (qPI (fun r4 s4 => Rg r4 ∧ (r4 = 0 → qW w 1 133 [.ref 25, qI (s1 25 5)] s4 (qPI (fun r5 s5 => qR w 5 qm170 38 [(0, .ref 25), (1, qI p0), (3, qI r2)] [] s5 (qPV f g)) g)) ∧ (r4 ≠ 0 → qR w 5 qm170 38 [(0, .ref 25), (1, qI p0), (3, qI r2)] [] s4 (qPV f g))) g))) g)) g)) g)) : qW w 6 170 [.ref 25, qI p0] s (qPV f g) := by
  refine qW.of (M := qm170) (l := [(0, .ref 25), (1, qI p0)]) qtm_170 rfl (Nat.le_of_ble_eq_true rfl) (zsub_c rfl (zsub_c rfl zsub_n)) ?_
  refine qS_aload_n qd_170_0 rfl ?_
  refine qS_cvI qd_170_1 (qml_8_155 w) rfl qtm_130 (hpc_25 _ _) (Nat.le_of_ble_eq_true rfl) rfl (Nat.le_of_ble_eq_true rfl) H (fun r1 s1 H => ?_) (fun x s1 H => Or.inr ⟨x, rfl, H⟩)
  refine qS_pop qd_170_4 rfl ?_
  refine qS_aload_n qd_170_5 rfl ?_
  refine qS_getfield (v := qI (s1 25 5)) qd_170_6 (qfl_8_70 w) (hpc_25 _ _) rfl ?_
  refine qS_istore_n (a := [(0, .ref 25), (1, qI p0)]) qd_170_9 (Nat.le_of_ble_eq_true rfl) (zsub_c rfl (zsub_c rfl zsub_n)) rfl ?_
  refine qS_aload_n qd_170_10 rfl ?_
  refine qS_cvI qd_170_11 (qml_8_155 w) rfl qtm_130 (hpc_25 _ _) (Nat.le_of_ble_eq_true rfl) rfl (Nat.le_of_ble_eq_true rfl) H (fun r2 s2 H => ?_) (fun x s1 H => Or.inr ⟨x, rfl, H⟩)
  refine qS_istore_n (a := [(2, qI (s1 25 5)), (0, .ref 25), (1, qI p0)]) qd_170_14 (Nat.le_of_ble_eq_true rfl) (zsub_c rfl (zsub_c rfl (zsub_c rfl zsub_n))) rfl ?_
  refine qS_aload_n qd_170_15 rfl ?_
  refine qS_cvI qd_170_16 (qml_8_80 w) rfl qtm_134 (hpc_25 _ _) (Nat.le_of_ble_eq_true rfl) rfl (Nat.le_of_ble_eq_true rfl) H (fun r3 s3 H => ?_) (fun x s1 H => Or.inr ⟨x, rfl, H⟩)
  obtain ⟨h19a, H1, H2⟩ := H
  refine qS_if0 qd_170_19 rfl (zcnd_eq (a := r3) (b := 0) h19a ⟨by decide, by decide⟩ (fun t => qR w _ _ t _ _ _ _) (fun hc => ?_) (fun hc => ?_))
  · have H := H1 hc; clear H1 H2 hc
    exact qS_sub (zsub_c rfl (zsub_c rfl (zsub_c rfl zsub_n))) H
  · have H := H2 hc; clear H1 H2 hc
    refine qS_iload_n qd_170_22 rfl ?_
    refine qS_iconst qd_170_23 ?_
    refine qS_ldc (v := qI 65535) qd_170_24 rfl rfl (fun _ => rfl) (fun _ => qS_k (qkl_8_231 w)) ?_
    refine qS_csI qd_170_26 (qml_8_63 w) rfl (Nat.le_of_ble_eq_true rfl) rfl (Nat.le_of_ble_eq_true rfl) H (fun r4 s4 H => ?_) (fun x s1 H => Or.inr ⟨x, rfl, H⟩)
    obtain ⟨h29a, H1, H2⟩ := H
    refine qS_if0 qd_170_29 rfl (zcnd_ne (a := r4) (b := 0) h29a ⟨by decide, by decide⟩ (fun t => qR w _ _ t _ _ _ _) (fun hc => ?_) (fun hc => ?_))
    · have H := H1 hc; clear H1 H2 hc
      refine qS_aload_n qd_170_32 rfl ?_
      refine qS_iload_n qd_170_33 rfl ?_
      refine qS_cvI qd_170_34 (qml_8_76 w) rfl qtm_133 (hpc_25 _ _) (Nat.le_of_ble_eq_true rfl) rfl (Nat.le_of_ble_eq_true rfl) H (fun r5 s5 H => ?_) (fun x s1 H => Or.inr ⟨x, rfl, H⟩)
      refine qS_pop qd_170_37 rfl ?_
      exact qS_sub (zsub_c rfl (zsub_c rfl (zsub_c rfl zsub_n))) H
    · have H := H2 hc; clear H1 H2 hc
      exact qS_sub (zsub_c rfl (zsub_c rfl (zsub_c rfl zsub_n))) H
set_option maxRecDepth 100000 in
theorem k170_38 {w : qE} {s : qS} {v1 : Int} {v3 : Int} {f : qS → Prop} {g : Nat → qS → Prop}  (H : qW w 1 134 [.ref 25] s (qPI (fun r6 s6 => Rg r6 ∧ (r6 = 0 → qR w 5 qm170 67 [(0, .ref 25), (1, qI v1), (3, qI v3)] [] s6 (qPV f g)) ∧ (r6 ≠ 0 → Rg v3 ∧ Rg ((s6 25 4) - (s6 25 5)) ∧ ((s6 25 4) - (s6 25 5) < v3 → qW w 1 133 [.ref 25, qI (s6 25 4)] s6 (qPI (fun r7 s7 => qR w 5 qm170 67 [(0, .ref 25), (1, qI v1), (3, qI v3)] [] s7 (qPV f g)) g)) ∧ (v3 ≤ (s6 25 4) - (s6 25 5) → qR w 5 qm170 67 [(0, .ref 25), (1, qI v1), (3, qI v3)] [] s6 (qPV f g)))) g)) : qR w 5 qm170 38 [(0, .ref 25), (1, qI v1), (3, qI v3)] [] s (qPV f g) := by
  refine qS_aload_n qd_170_38 rfl ?_
  refine qS_cvI qd_170_39 (qml_8_80 w) rfl qtm_134 (hpc_25 _ _) (Nat.le_of_ble_eq_true rfl) rfl (Nat.le_of_ble_eq_true rfl) H (fun r6 s6 H => ?_) (fun x s1 H => Or.inr ⟨x, rfl, H⟩)
  obtain ⟨h42a, H1, H2⟩ := H
  refine qS_if0 qd_170_42 rfl (zcnd_eq (a := r6) (b := 0) h42a ⟨by decide, by decide⟩ (fun t => qR w _ _ t _ _ _ _) (fun hc => ?_) (fun hc => ?_))
  · have H := H1 hc; clear H1 H2 hc
    exact qS_sub (zsub_c rfl (zsub_c rfl (zsub_c rfl zsub_n))) H
  · have H := H2 hc; clear H1 H2 hc
    refine qS_iload_n qd_170_45 rfl ?_
    refine qS_aload_n qd_170_46 rfl ?_
    refine qS_getfield (v := qI (s6 25 4)) qd_170_47 (qfl_8_73 w) (hpc_25 _ _) rfl ?_
    refine qS_aload_n qd_170_50 rfl ?_
    refine qS_getfield (v := qI (s6 25 5)) qd_170_51 (qfl_8_70 w) (hpc_25 _ _) rfl ?_
    refine qS_isub (a := s6 25 4) (b := s6 25 5) qd_170_54 ?_
    obtain ⟨h55a, h55b, H1, H2⟩ := H
    refine qS_icmp qd_170_55 rfl (zcnd_le (a := v3) (b := (s6 25 4) - (s6 25 5)) h55a h55b (fun t => qR w _ _ t _ _ _ _) (fun hc => ?_) (fun hc => ?_))
    · have H := H1 hc; clear H1 H2 hc
      refine qS_aload_n qd_170_58 rfl ?_
      refine qS_aload_n qd_170_59 rfl ?_
      refine qS_getfield (v := qI (s6 25 4)) qd_170_60 (qfl_8_73 w) (hpc_25 _ _) rfl ?_
      refine qS_cvI qd_170_63 (qml_8_76 w) rfl qtm_133 (hpc_25 _ _) (Nat.le_of_ble_eq_true rfl) rfl (Nat.le_of_ble_eq_true rfl) H (fun r7 s7 H => ?_) (fun x s1 H => Or.inr ⟨x, rfl, H⟩)
      refine qS_pop qd_170_66 rfl ?_
      exact qS_sub (zsub_c rfl (zsub_c rfl (zsub_c rfl zsub_n))) H
    · have H := H2 hc; clear H1 H2 hc
      exact qS_sub (zsub_c rfl (zsub_c rfl (zsub_c rfl zsub_n))) H
set_option maxRecDepth 100000 in
theorem k170_67 {w : qE} {s : qS} {v1 : Int} {v3 : Int} {f : qS → Prop} {g : Nat → qS → Prop}  (H : qW w 1 134 [.ref 25] s (qPI (fun r8 s8 => Rg r8 ∧ (r8 = 0 → f s8) ∧ (r8 ≠ 0 → (0 ≤ v1 ∧ v1 < 160 ∧ (qW w 3 131 [.ref 25] (qset (qset s8 25 5 ((s8 25 5) + v3)) 32 v1 v3) (qPI (fun r9 s9 => (0 ≤ v1 ∧ v1 < 160 ∧ (qR w 5 qm170 105 [(0, .ref 25), (1, qI v1), (3, qI v3), (4, qI 0)] [] (qset s9 33 v1 r9) (qPV f g)))) g))))) g)) : qR w 5 qm170 67 [(0, .ref 25), (1, qI v1), (3, qI v3)] [] s (qPV f g) := by
  refine qS_aload_n qd_170_67 rfl ?_
  refine qS_cvI qd_170_68 (qml_8_80 w) rfl qtm_134 (hpc_25 _ _) (Nat.le_of_ble_eq_true rfl) rfl (Nat.le_of_ble_eq_true rfl) H (fun r8 s8 H => ?_) (fun x s1 H => Or.inr ⟨x, rfl, H⟩)
  obtain ⟨h71a, H1, H2⟩ := H
  refine qS_if0 qd_170_71 rfl (zcnd_ne (a := r8) (b := 0) h71a ⟨by decide, by decide⟩ (fun t => qR w _ _ t _ _ _ _) (fun hc => ?_) (fun hc => ?_))
  · have H := H1 hc; clear H1 H2 hc
    exact qS_vreturn qd_170_74 rfl (Or.inl ⟨rfl, H⟩)
  · have H := H2 hc; clear H1 H2 hc
    refine qS_aload_n qd_170_75 rfl ?_
    refine qS_dup qd_170_76 rfl ?_
    refine qS_getfield (v := qI (s8 25 5)) qd_170_77 (qfl_8_70 w) (hpc_25 _ _) rfl ?_
    refine qS_iload_n qd_170_80 rfl ?_
    refine qS_iadd (a := s8 25 5) (b := v3) qd_170_81 ?_
    refine qS_putfield (s1 := qset s8 25 5 ((s8 25 5) + v3)) qd_170_82 (qfl_8_70 w) (hpc_25 _ _) (Nat.le_of_ble_eq_true rfl) rfl rfl rfl (hps_25_5 _ _ _) ?_
    refine qS_aload_n qd_170_85 rfl ?_
    refine qS_getfield (v := .ref 32) qd_170_86 (qfl_8_32 w) (hpc_25 _ _) rfl ?_
    refine qS_iload_n qd_170_89 rfl ?_
    refine qS_iload_n qd_170_90 rfl ?_
    obtain ⟨hl, hu, H⟩ := H
    refine qS_iastore (a := 32) (i := v1) (v := v3) qd_170_91 (Nat.le_of_ble_eq_true rfl) hl hu ?_
    refine qS_aload_n qd_170_92 rfl ?_
    refine qS_getfield (v := .ref 33) qd_170_93 (qfl_8_35 w) (hpc_25 _ _) rfl ?_
    refine qS_iload_n qd_170_96 rfl ?_
    refine qS_aload_n qd_170_97 rfl ?_
    refine qS_cvI qd_170_98 (qml_8_88 w) rfl qtm_131 (hpc_25 _ _) (Nat.le_of_ble_eq_true rfl) rfl (Nat.le_of_ble_eq_true rfl) H (fun r9 s9 H => ?_) (fun x s1 H => Or.inr ⟨x, rfl, H⟩)
    obtain ⟨hl, hu, H⟩ := H
    refine qS_iastore (a := 33) (i := v1) (v := r9) qd_170_101 (Nat.le_of_ble_eq_true rfl) hl hu ?_
    refine qS_iconst qd_170_102 ?_
    refine qS_istore (a := [(0, .ref 25), (1, qI v1), (3, qI v3)]) qd_170_103 (Nat.le_of_ble_eq_true rfl) (zsub_c rfl (zsub_c rfl (zsub_c rfl zsub_n))) rfl ?_
    exact qS_sub (zsub_c rfl (zsub_c rfl (zsub_c rfl (zsub_c rfl zsub_n)))) H
set_option maxRecDepth 100000 in
theorem k170_105 {w : qE} {s : qS} {v1 : Int} {v3 : Int} {v4 : Int} {f : qS → Prop} {g : Nat → qS → Prop}  (H : (0 ≤ v1 ∧ v1 < 160 ∧ (Rg v4 ∧ Rg (s 33 v1) ∧ (v4 < s 33 v1 → qW w 1 134 [.ref 25] s (qPI (fun r10 s10 => Rg r10 ∧ (r10 = 0 → qR w 5 qm170 225 [(0, .ref 25)] [] s10 (qPV f g)) ∧ (r10 ≠ 0 → qW w 3 131 [.ref 25] s10 (qPI (fun r11 s11 => qW w 3 131 [.ref 25] s11 (qPI (fun r12 s12 => qW w 3 131 [.ref 25] s12 (qPI (fun r13 s13 => qW w 1 134 [.ref 25] s13 (qPI (fun r14 s14 => Rg r14 ∧ (r14 = 0 → qR w 5 qm170 168 [(0, .ref 25), (1, qI v1), (3, qI v3), (4, qI v4), (5, qI (s10 25 5)), (7, qI r12), (8, qI r13)] [] s14 (qPV f g)) ∧ (r14 ≠ 0 → Rg r11 ∧ Rg r12 ∧ (r11 < r12 → qR w 5 qm170 168 [(0, .ref 25), (1, qI v1), (3, qI v3), (4, qI v4), (5, qI (s10 25 5)), (7, qI r12), (8, qI r13)] [] s14 (qPV f g)) ∧ (r12 ≤ r11 → qW w 1 133 [.ref 25, qI (s10 25 5)] s14 (qPI (fun r15 s15 => qR w 5 qm170 168 [(0, .ref 25), (1, qI v1), (3, qI v3), (4, qI v4), (5, qI (s10 25 5)), (7, qI r12), (8, qI r13)] [] s15 (qPV f g)) g)))) g)) g)) g)) g))) g)) ∧ (s 33 v1 ≤ v4 → qR w 5 qm170 225 [(0, .ref 25)] [] s (qPV f g))))) : qR w 5 qm170 105 [(0, .ref 25), (1, qI v1), (3, qI v3), (4, qI v4)] [] s (qPV f g) := by
  refine qS_iload qd_170_105 rfl ?_
  refine qS_aload_n qd_170_107 rfl ?_
  refine qS_getfield (v := .ref 33) qd_170_108 (qfl_8_35 w) (hpc_25 _ _) rfl ?_
  refine qS_iload_n qd_170_111 rfl ?_
  obtain ⟨hl, hu, H⟩ := H
  refine qS_iaload (a := 33) (i := v1) qd_170_112 (Nat.le_of_ble_eq_true rfl) hl hu ?_
  obtain ⟨h113a, h113b, H1, H2⟩ := H
  refine qS_icmp qd_170_113 rfl (zcnd_ge (a := v4) (b := s 33 v1) h113a h113b (fun t => qR w _ _ t _ _ _ _) (fun hc => ?_) (fun hc => ?_))
  · have H := H1 hc; clear H1 H2 hc
    refine qS_aload_n qd_170_116 rfl ?_
    refine qS_cvI qd_170_117 (qml_8_80 w) rfl qtm_134 (hpc_25 _ _) (Nat.le_of_ble_eq_true rfl) rfl (Nat.le_of_ble_eq_true rfl) H (fun r10 s10 H => ?_) (fun x s1 H => Or.inr ⟨x, rfl, H⟩)
    obtain ⟨h120a, H1, H2⟩ := H
    refine qS_if0 qd_170_120 rfl (zcnd_eq (a := r10) (b := 0) h120a ⟨by decide, by decide⟩ (fun t => qR w _ _ t _ _ _ _) (fun hc => ?_) (fun hc => ?_))
    · have H := H1 hc; clear H1 H2 hc
      exact qS_sub (zsub_c rfl zsub_n) H
    · have H := H2 hc; clear H1 H2 hc
      refine qS_aload_n qd_170_123 rfl ?_
      refine qS_getfield (v := qI (s10 25 5)) qd_170_124 (qfl_8_70 w) (hpc_25 _ _) rfl ?_
      refine qS_istore (a := [(0, .ref 25), (1, qI v1), (3, qI v3), (4, qI v4)]) qd_170_127 (Nat.le_of_ble_eq_true rfl) (zsub_c rfl (zsub_c rfl (zsub_c rfl (zsub_c rfl zsub_n)))) rfl ?_
      refine qS_aload_n qd_170_129 rfl ?_
      refine qS_cvI qd_170_130 (qml_8_88 w) rfl qtm_131 (hpc_25 _ _) (Nat.le_of_ble_eq_true rfl) rfl (Nat.le_of_ble_eq_true rfl) H (fun r11 s11 H => ?_) (fun x s1 H => Or.inr ⟨x, rfl, H⟩)
      refine qS_istore (a := [(5, qI (s10 25 5)), (0, .ref 25), (1, qI v1), (3, qI v3), (4, qI v4)]) qd_170_133 (Nat.le_of_ble_eq_true rfl) (zsub_c rfl (zsub_c rfl (zsub_c rfl (zsub_c rfl (zsub_c rfl zsub_n))))) rfl ?_
      refine qS_aload_n qd_170_135 rfl ?_
      refine qS_cvI qd_170_136 (qml_8_88 w) rfl qtm_131 (hpc_25 _ _) (Nat.le_of_ble_eq_true rfl) rfl (Nat.le_of_ble_eq_true rfl) H (fun r12 s12 H => ?_) (fun x s1 H => Or.inr ⟨x, rfl, H⟩)
      refine qS_istore (a := [(6, qI r11), (5, qI (s10 25 5)), (0, .ref 25), (1, qI v1), (3, qI v3), (4, qI v4)]) qd_170_139 (Nat.le_of_ble_eq_true rfl) (zsub_c rfl (zsub_c rfl (zsub_c rfl (zsub_c rfl (zsub_c rfl (zsub_c rfl zsub_n)))))) rfl ?_
      refine qS_aload_n qd_170_141 rfl ?_
      refine qS_cvI qd_170_142 (qml_8_88 w) rfl qtm_131 (hpc_25 _ _) (Nat.le_of_ble_eq_true rfl) rfl (Nat.le_of_ble_eq_true rfl) H (fun r13 s13 H => ?_) (fun x s1 H => Or.inr ⟨x, rfl, H⟩)
      refine qS_istore (a := [(7, qI r12), (6, qI r11), (5, qI (s10 25 5)), (0, .ref 25), (1, qI v1), (3, qI v3), (4, qI v4)]) qd_170_145 (Nat.le_of_ble_eq_true rfl) (zsub_c rfl (zsub_c rfl (zsub_c rfl (zsub_c rfl (zsub_c rfl (zsub_c rfl (zsub_c rfl zsub_n))))))) rfl ?_
      refine qS_aload_n qd_170_147 rfl ?_
      refine qS_cvI qd_170_148 (qml_8_80 w) rfl qtm_134 (hpc_25 _ _) (Nat.le_of_ble_eq_true rfl) rfl (Nat.le_of_ble_eq_true rfl) H (fun r14 s14 H => ?_) (fun x s1 H => Or.inr ⟨x, rfl, H⟩)
      obtain ⟨h151a, H1, H2⟩ := H
      refine qS_if0 qd_170_151 rfl (zcnd_eq (a := r14) (b := 0) h151a ⟨by decide, by decide⟩ (fun t => qR w _ _ t _ _ _ _) (fun hc => ?_) (fun hc => ?_))
      · have H := H1 hc; clear H1 H2 hc
        exact qS_sub (zsub_c rfl (zsub_c rfl (zsub_c rfl (zsub_c rfl (zsub_c rfl (zsub_c rfl (zsub_c rfl zsub_n))))))) H
      · have H := H2 hc; clear H1 H2 hc
        refine qS_iload qd_170_154 rfl ?_
        refine qS_iload qd_170_156 rfl ?_
        obtain ⟨h158a, h158b, H1, H2⟩ := H
        refine qS_icmp qd_170_158 rfl (zcnd_lt (a := r11) (b := r12) h158a h158b (fun t => qR w _ _ t _ _ _ _) (fun hc => ?_) (fun hc => ?_))
        · have H := H1 hc; clear H1 H2 hc
          exact qS_sub (zsub_c rfl (zsub_c rfl (zsub_c rfl (zsub_c rfl (zsub_c rfl (zsub_c rfl (zsub_c rfl zsub_n))))))) H
        · have H := H2 hc; clear H1 H2 hc
          refine qS_aload_n qd_170_161 rfl ?_
          refine qS_iload qd_170_162 rfl ?_
          refine qS_cvI qd_170_164 (qml_8_76 w) rfl qtm_133 (hpc_25 _ _) (Nat.le_of_ble_eq_true rfl) rfl (Nat.le_of_ble_eq_true rfl) H (fun r15 s15 H => ?_) (fun x s1 H => Or.inr ⟨x, rfl, H⟩)
          refine qS_pop qd_170_167 rfl ?_
          exact qS_sub (zsub_c rfl (zsub_c rfl (zsub_c rfl (zsub_c rfl (zsub_c rfl (zsub_c rfl (zsub_c rfl zsub_n))))))) H
  · have H := H2 hc; clear H1 H2 hc
    exact qS_sub (zsub_c rfl zsub_n) H
set_option maxRecDepth 100000 in
theorem k170_168 {w : qE} {s : qS} {v1 : Int} {v3 : Int} {v4 : Int} {v5 : Int} {v7 : Int} {v8 : Int} {f : qS → Prop} {g : Nat → qS → Prop}  (H : qW w 1 134 [.ref 25] s (qPI (fun r16 s16 => Rg r16 ∧ (r16 = 0 → qR w 5 qm170 190 [(0, .ref 25), (1, qI v1), (3, qI v3), (4, qI v4), (5, qI v5), (8, qI v8)] [] s16 (qPV f g)) ∧ (r16 ≠ 0 → Rg v7 ∧ Rg v3 ∧ (v3 < v7 → qW w 1 133 [.ref 25, qI (v5 + 2)] s16 (qPI (fun r17 s17 => qR w 5 qm170 190 [(0, .ref 25), (1, qI v1), (3, qI v3), (4, qI v4), (5, qI v5), (8, qI v8)] [] s17 (qPV f g)) g)) ∧ (v7 ≤ v3 → qR w 5 qm170 190 [(0, .ref 25), (1, qI v1), (3, qI v3), (4, qI v4), (5, qI v5), (8, qI v8)] [] s16 (qPV f g)))) g)) : qR w 5 qm170 168 [(0, .ref 25), (1, qI v1), (3, qI v3), (4, qI v4), (5, qI v5), (7, qI v7), (8, qI v8)] [] s (qPV f g) := by
  refine qS_aload_n qd_170_168 rfl ?_
  refine qS_cvI qd_170_169 (qml_8_80 w) rfl qtm_134 (hpc_25 _ _) (Nat.le_of_ble_eq_true rfl) rfl (Nat.le_of_ble_eq_true rfl) H (fun r16 s16 H => ?_) (fun x s1 H => Or.inr ⟨x, rfl, H⟩)
  obtain ⟨h172a, H1, H2⟩ := H
  refine qS_if0 qd_170_172 rfl (zcnd_eq (a := r16) (b := 0) h172a ⟨by decide, by decide⟩ (fun t => qR w _ _ t _ _ _ _) (fun hc => ?_) (fun hc => ?_))
  · have H := H1 hc; clear H1 H2 hc
    exact qS_sub (zsub_c rfl (zsub_c rfl (zsub_c rfl (zsub_c rfl (zsub_c rfl (zsub_c rfl zsub_n)))))) H
  · have H := H2 hc; clear H1 H2 hc
    refine qS_iload qd_170_175 rfl ?_
    refine qS_iload_n qd_170_177 rfl ?_
    obtain ⟨h178a, h178b, H1, H2⟩ := H
    refine qS_icmp qd_170_178 rfl (zcnd_le (a := v7) (b := v3) h178a h178b (fun t => qR w _ _ t _ _ _ _) (fun hc => ?_) (fun hc => ?_))
    · have H := H1 hc; clear H1 H2 hc
      refine qS_aload_n qd_170_181 rfl ?_
      refine qS_iload qd_170_182 rfl ?_
      refine qS_iconst qd_170_184 ?_
      refine qS_iadd (a := v5) (b := 2) qd_170_185 ?_
      refine qS_cvI qd_170_186 (qml_8_76 w) rfl qtm_133 (hpc_25 _ _) (Nat.le_of_ble_eq_true rfl) rfl (Nat.le_of_ble_eq_true rfl) H (fun r17 s17 H => ?_) (fun x s1 H => Or.inr ⟨x, rfl, H⟩)
      refine qS_pop qd_170_189 rfl ?_
      exact qS_sub (zsub_c rfl (zsub_c rfl (zsub_c rfl (zsub_c rfl (zsub_c rfl (zsub_c rfl zsub_n)))))) H
    · have H := H2 hc; clear H1 H2 hc
      exact qS_sub (zsub_c rfl (zsub_c rfl (zsub_c rfl (zsub_c rfl (zsub_c rfl (zsub_c rfl zsub_n)))))) H
set_option maxRecDepth 100000 in
theorem k170_225 {w : qE} {s : qS}  {f : qS → Prop} {g : Nat → qS → Prop}  (H : qW w 1 134 [.ref 25] s (qPI (fun r18 s18 => Rg r18 ∧ (r18 = 0 → qR w 5 qm170 236 [] [] s18 (qPV f g)) ∧ (r18 ≠ 0 → qW w 5 172 [.ref 25] s18 (qPV (fun s19 => qR w 5 qm170 236 [] [] s19 (qPV f g)) g))) g)) : qR w 5 qm170 225 [(0, .ref 25)] [] s (qPV f g) := by
  refine qS_aload_n qd_170_225 rfl ?_
  refine qS_cvI qd_170_226 (qml_8_80 w) rfl qtm_134 (hpc_25 _ _) (Nat.le_of_ble_eq_true rfl) rfl (Nat.le_of_ble_eq_true rfl) H (fun r18 s18 H => ?_) (fun x s1 H => Or.inr ⟨x, rfl, H⟩)
  obtain ⟨h229a, H1, H2⟩ := H
  refine qS_if0 qd_170_229 rfl (zcnd_eq (a := r18) (b := 0) h229a ⟨by decide, by decide⟩ (fun t => qR w _ _ t _ _ _ _) (fun hc => ?_) (fun hc => ?_))
  · have H := H1 hc; clear H1 H2 hc
    exact qS_sub zsub_n H
  · have H := H2 hc; clear H1 H2 hc
    refine qS_aload_n qd_170_232 rfl ?_
    refine qS_cvV qd_170_233 (qml_8_232 w) rfl qtm_172 (hpc_25 _ _) (Nat.le_of_ble_eq_true rfl) rfl (Nat.le_of_ble_eq_true rfl) H (fun s19 H => ?_) (fun x s1 H => Or.inr ⟨x, rfl, H⟩)
    exact qS_sub zsub_n H
set_option maxRecDepth 100000 in
theorem k170_190 {w : qE} {s : qS} {v1 : Int} {v3 : Int} {v4 : Int} {v5 : Int} {v8 : Int} {f : qS → Prop} {g : Nat → qS → Prop}  (H : qW w 1 134 [.ref 25] s (qPI (fun r20 s20 => Rg r20 ∧ (r20 = 0 → qR w 5 qm170 212 [(0, .ref 25), (1, qI v1), (3, qI v3), (4, qI v4)] [] s20 (qPV f g)) ∧ (r20 ≠ 0 → Rg v8 ∧ Rg v3 ∧ (v8 < v3 → qR w 5 qm170 212 [(0, .ref 25), (1, qI v1), (3, qI v3), (4, qI v4)] [] s20 (qPV f g)) ∧ (v3 ≤ v8 → qW w 1 133 [.ref 25, qI (v5 + 4)] s20 (qPI (fun r21 s21 => qR w 5 qm170 212 [(0, .ref 25), (1, qI v1), (3, qI v3), (4, qI v4)] [] s21 (qPV f g)) g)))) g)) : qR w 5 qm170 190 [(0, .ref 25), (1, qI v1), (3, qI v3), (4, qI v4), (5, qI v5), (8, qI v8)] [] s (qPV f g) := by
  refine qS_aload_n qd_170_190 rfl ?_
  refine qS_cvI qd_170_191 (qml_8_80 w) rfl qtm_134 (hpc_25 _ _) (Nat.le_of_ble_eq_true rfl) rfl (Nat.le_of_ble_eq_true rfl) H (fun r20 s20 H => ?_) (fun x s1 H => Or.inr ⟨x, rfl, H⟩)
  obtain ⟨h194a, H1, H2⟩ := H
  refine qS_if0 qd_170_194 rfl (zcnd_eq (a := r20) (b := 0) h194a ⟨by decide, by decide⟩ (fun t => qR w _ _ t _ _ _ _) (fun hc => ?_) (fun hc => ?_))
  · have H := H1 hc; clear H1 H2 hc
    exact qS_sub (zsub_c rfl (zsub_c rfl (zsub_c rfl (zsub_c rfl zsub_n)))) H
  · have H := H2 hc; clear H1 H2 hc
    refine qS_iload qd_170_197 rfl ?_
    refine qS_iload_n qd_170_199 rfl ?_
    obtain ⟨h200a, h200b, H1, H2⟩ := H
    refine qS_icmp qd_170_200 rfl (zcnd_lt (a := v8) (b := v3) h200a h200b (fun t => qR w _ _ t _ _ _ _) (fun hc => ?_) (fun hc => ?_))
    · have H := H1 hc; clear H1 H2 hc
      exact qS_sub (zsub_c rfl (zsub_c rfl (zsub_c rfl (zsub_c rfl zsub_n)))) H
    · have H := H2 hc; clear H1 H2 hc
      refine qS_aload_n qd_170_203 rfl ?_
      refine qS_iload qd_170_204 rfl ?_
      refine qS_iconst qd_170_206 ?_
      refine qS_iadd (a := v5) (b := 4) qd_170_207 ?_
      refine qS_cvI qd_170_208 (qml_8_76 w) rfl qtm_133 (hpc_25 _ _) (Nat.le_of_ble_eq_true rfl) rfl (Nat.le_of_ble_eq_true rfl) H (fun r21 s21 H => ?_) (fun x s1 H => Or.inr ⟨x, rfl, H⟩)
      refine qS_pop qd_170_211 rfl ?_
      exact qS_sub (zsub_c rfl (zsub_c rfl (zsub_c rfl (zsub_c rfl zsub_n)))) H
set_option maxRecDepth 100000 in
theorem k170_236 {w : qE} {s : qS}  {f : qS → Prop} {g : Nat → qS → Prop}  (H : f s) : qR w 5 qm170 236 [] [] s (qPV f g) := by
  exact qS_vreturn qd_170_236 rfl (Or.inl ⟨rfl, H⟩)
set_option maxRecDepth 100000 in
theorem k170_212 {w : qE} {s : qS} {v1 : Int} {v3 : Int} {v4 : Int} {f : qS → Prop} {g : Nat → qS → Prop}  (H : qW w 4 171 [.ref 25, qI 7, qI 1] s (qPV (fun s22 => qR w 5 qm170 105 [(0, .ref 25), (1, qI v1), (3, qI v3), (4, qI (v4 + 1))] [] s22 (qPV f g)) g)) : qR w 5 qm170 212 [(0, .ref 25), (1, qI v1), (3, qI v3), (4, qI v4)] [] s (qPV f g) := by
  refine qS_aload_n qd_170_212 rfl ?_
  refine qS_bipush qd_170_213 (by decide) ?_
  refine qS_iconst qd_170_215 ?_
  refine qS_cvV qd_170_216 (qml_8_224 w) rfl qtm_171 (hpc_25 _ _) (Nat.le_of_ble_eq_true rfl) rfl (Nat.le_of_ble_eq_true rfl) H (fun s22 H => ?_) (fun x s1 H => Or.inr ⟨x, rfl, H⟩)
  refine qS_iinc (v := v4) (a := [(0, .ref 25), (1, qI v1), (3, qI v3)]) qd_170_219 (Nat.le_of_ble_eq_true rfl) rfl (zsub_c rfl (zsub_c rfl (zsub_c rfl zsub_n))) rfl ?_
  refine qS_goto qd_170_222 rfl ?_
  exact qS_sub (zsub_c rfl (zsub_c rfl (zsub_c rfl (zsub_c rfl zsub_n)))) H
set_option maxRecDepth 100000 in
theorem k171 {w : qE} {s : qS} {p0 : Int} {p1 : Int} {f : qS → Prop} {g : Nat → qS → Prop}  (H : qW w 3 131 [.ref 25] s (qPI (fun r1 s1 => qW w 1 134 [.ref 25] s1 (qPI (fun r2 s2 => Rg r2 ∧ (r2 = 0 → qR w 3 qm171 43 [] [] s2 (qPV f g)) ∧ (r2 ≠ 0 → Rg p1 ∧ (p1 = 0 → qR w 3 qm171 27 [(0, .ref 25), (1, qI p0), (3, qI (s 25 5)), (4, qI r1)] [] s2 (qPV f g)) ∧ (p1 ≠ 0 → Rg r1 ∧ (r1 = 0 → qR w 3 qm171 43 [] [] s2 (qPV f g)) ∧ (r1 ≠ 0 → qR w 3 qm171 27 [(0, .ref 25), (1, qI p0), (3, qI (s 25 5)), (4, qI r1)] [] s2 (qPV f g))))) g)) g)) : qW w 4 171 [.ref 25, qI p0, qI p1] s (qPV f g) := by
  refine qW.of (M := qm171) (l := [(0, .ref 25), (1, qI p0), (2, qI p1)]) qtm_171 rfl (Nat.le_of_ble_eq_true rfl) (zsub_c rfl (zsub_c rfl (zsub_c rfl zsub_n))) ?_
  refine qS_aload_n qd_171_0 rfl ?_
  refine qS_getfield (v := qI (s 25 5)) qd_171_1 (qfl_8_70 w) (hpc_25 _ _) rfl ?_
  refine qS_istore_n (a := [(0, .ref 25), (1, qI p0), (2, qI p1)]) qd_171_4 (Nat.le_of_ble_eq_true rfl) (zsub_c rfl (zsub_c rfl (zsub_c rfl zsub_n))) rfl ?_
  refine qS_aload_n qd_171_5 rfl ?_
  refine qS_cvI qd_171_6 (qml_8_88 w) rfl qtm_131 (hpc_25 _ _) (Nat.le_of_ble_eq_true rfl) rfl (Nat.le_of_ble_eq_true rfl) H (fun r1 s1 H => ?_) (fun x s1 H => Or.inr ⟨x, rfl, H⟩)
  refine qS_istore (a := [(3, qI (s 25 5)), (0, .ref 25), (1, qI p0), (2, qI p1)]) qd_171_9 (Nat.le_of_ble_eq_true rfl) (zsub_c rfl (zsub_c rfl (zsub_c rfl (zsub_c rfl zsub_n)))) rfl ?_
  refine qS_aload_n qd_171_11 rfl ?_
  refine qS_cvI qd_171_12 (qml_8_80 w) rfl qtm_134 (hpc_25 _ _) (Nat.le_of_ble_eq_true rfl) rfl (Nat.le_of_ble_eq_true rfl) H (fun r2 s2 H => ?_) (fun x s1 H => Or.inr ⟨x, rfl, H⟩)
  obtain ⟨h15a, H1, H2⟩ := H
  refine qS_if0 qd_171_15 rfl (zcnd_eq (a := r2) (b := 0) h15a ⟨by decide, by decide⟩ (fun t => qR w _ _ t _ _ _ _) (fun hc => ?_) (fun hc => ?_))
  · have H := H1 hc; clear H1 H2 hc
    exact qS_sub zsub_n H
  · have H := H2 hc; clear H1 H2 hc
    refine qS_iload_n qd_171_18 rfl ?_
    obtain ⟨h19a, H1, H2⟩ := H
    refine qS_if0 qd_171_19 rfl (zcnd_eq (a := p1) (b := 0) h19a ⟨by decide, by decide⟩ (fun t => qR w _ _ t _ _ _ _) (fun hc => ?_) (fun hc => ?_))
    · have H := H1 hc; clear H1 H2 hc
      exact qS_sub (zsub_c rfl (zsub_c rfl (zsub_c rfl (zsub_c rfl zsub_n)))) H
    · have H := H2 hc; clear H1 H2 hc
      refine qS_iload qd_171_22 rfl ?_
      obtain ⟨h24a, H1, H2⟩ := H
      refine qS_if0 qd_171_24 rfl (zcnd_eq (a := r1) (b := 0) h24a ⟨by decide, by decide⟩ (fun t => qR w _ _ t _ _ _ _) (fun hc => ?_) (fun hc => ?_))
      · have H := H1 hc; clear H1 H2 hc
        exact qS_sub zsub_n H
      · have H := H2 hc; clear H1 H2 hc
        exact qS_sub (zsub_c rfl (zsub_c rfl (zsub_c rfl (zsub_c rfl zsub_n)))) H
set_option maxRecDepth 100000 in
theorem k171_27 {w : qE} {s : qS} {v1 : Int} {v3 : Int} {v4 : Int} {f : qS → Prop} {g : Nat → qS → Prop}  (H : qW w 2 139 [.ref 25, qI v4] s (qPI (fun r3 s3 => Rg r3 ∧ Rg v1 ∧ (r3 = v1 → qR w 3 qm171 43 [] [] s3 (qPV f g)) ∧ (r3 ≠ v1 → qW w 1 133 [.ref 25, qI v3] s3 (qPI (fun r4 s4 => qR w 3 qm171 43 [] [] s4 (qPV f g)) g))) g)) : qR w 3 qm171 27 [(0, .ref 25), (1, qI v1), (3, qI v3), (4, qI v4)] [] s (qPV f g) := by
  refine qS_aload_n qd_171_27 rfl ?_
  refine qS_iload qd_171_28 rfl ?_
  refine qS_cvI qd_171_30 (qml_8_137 w) rfl qtm_139 (hpc_25 _ _) (Nat.le_of_ble_eq_true rfl) rfl (Nat.le_of_ble_eq_true rfl) H (fun r3 s3 H => ?_) (fun x s1 H => Or.inr ⟨x, rfl, H⟩)
  refine qS_iload_n qd_171_33 rfl ?_
  obtain ⟨h34a, h34b, H1, H2⟩ := H
  refine qS_icmp qd_171_34 rfl (zcnd_eq (a := r3) (b := v1) h34a h34b (fun t => qR w _ _ t _ _ _ _) (fun hc => ?_) (fun hc => ?_))
  · have H := H1 hc; clear H1 H2 hc
    exact qS_sub zsub_n H
  · have H := H2 hc; clear H1 H2 hc
    refine qS_aload_n qd_171_37 rfl ?_
    refine qS_iload_n qd_171_38 rfl ?_
    refine qS_cvI qd_171_39 (qml_8_76 w) rfl qtm_133 (hpc_25 _ _) (Nat.le_of_ble_eq_true rfl) rfl (Nat.le_of_ble_eq_true rfl) H (fun r4 s4 H => ?_) (fun x s1 H => Or.inr ⟨x, rfl, H⟩)
    refine qS_pop qd_171_42 rfl ?_
    exact qS_sub zsub_n H
set_option maxRecDepth 100000 in
theorem k171_43 {w : qE} {s : qS}  {f : qS → Prop} {g : Nat → qS → Prop}  (H : f s) : qR w 3 qm171 43 [] [] s (qPV f g) := by
  exact qS_vreturn qd_171_43 rfl (Or.inl ⟨rfl, H⟩)
set_option maxRecDepth 100000 in
theorem k172 {w : qE} {s : qS}  {f : qS → Prop} {g : Nat → qS → Prop}  (H : qW w 3 131 [.ref 25] s (qPI (fun r1 s1 => qR w 4 qm172 7 [(0, .ref 25), (1, qI r1), (2, qI 0)] [] s1 (qPV f g)) g)) : qW w 5 172 [.ref 25] s (qPV f g) := by
  refine qW.of (M := qm172) (l := [(0, .ref 25)]) qtm_172 rfl (Nat.le_of_ble_eq_true rfl) (zsub_c rfl zsub_n) ?_
  refine qS_aload_n qd_172_0 rfl ?_
  refine qS_cvI qd_172_1 (qml_8_88 w) rfl qtm_131 (hpc_25 _ _) (Nat.le_of_ble_eq_true rfl) rfl (Nat.le_of_ble_eq_true rfl) H (fun r1 s1 H => ?_) (fun x s1 H => Or.inr ⟨x, rfl, H⟩)
  refine qS_istore_n (a := [(0, .ref 25)]) qd_172_4 (Nat.le_of_ble_eq_true rfl) (zsub_c rfl zsub_n) rfl ?_
  refine qS_iconst qd_172_5 ?_
  refine qS_istore_n (a := [(1, qI r1), (0, .ref 25)]) qd_172_6 (Nat.le_of_ble_eq_true rfl) (zsub_c rfl (zsub_c rfl zsub_n)) rfl ?_
  exact qS_sub (zsub_c rfl (zsub_c rfl (zsub_c rfl zsub_n))) H
set_option maxRecDepth 100000 in
theorem k172_7 {w : qE} {s : qS} {v1 : Int} {v2 : Int} {f : qS → Prop} {g : Nat → qS → Prop}  (H : Rg v2 ∧ Rg v1 ∧ (v2 < v1 → qW w 1 134 [.ref 25] s (qPI (fun r2 s2 => Rg r2 ∧ (r2 = 0 → qR w 4 qm172 86 [] [] s2 (qPV f g)) ∧ (r2 ≠ 0 → qW w 4 171 [.ref 25, qI 1, qI 0] s2 (qPV (fun s3 => qW w 4 130 [.ref 25] s3 (qPI (fun r4 s4 => qW w 1 134 [.ref 25] s4 (qPI (fun r5 s5 => Rg r5 ∧ (r5 = 0 → qR w 4 qm172 63 [(0, .ref 25), (1, qI v1), (2, qI v2), (3, qI r4)] [] s5 (qPV f g)) ∧ (r5 ≠ 0 → Rg r4 ∧ (r4 < 0 → qR w 4 qm172 54 [(0, .ref 25), (1, qI v1), (2, qI v2), (3, qI r4)] [] s5 (qPV f g)) ∧ (0 ≤ r4 → Rg ((s5 25 4) - (s5 25 5)) ∧ ((s5 25 4) - (s5 25 5) < r4 → qR w 4 qm172 54 [(0, .ref 25), (1, qI v1), (2, qI v2), (3, qI r4)] [] s5 (qPV f g)) ∧ (r4 ≤ (s5 25 4) - (s5 25 5) → qR w 4 qm172 63 [(0, .ref 25), (1, qI v1), (2, qI v2), (3, qI r4)] [] s5 (qPV f g))))) g)) g)) g))) g)) ∧ (v1 ≤ v2 → qR w 4 qm172 86 [] [] s (qPV f g))) : qR w 4 qm172 7 [(0, .ref 25), (1, qI v1), (2, qI v2)] [] s (qPV f g) := by
  refine qS_iload_n qd_172_7 rfl ?_
  refine qS_iload_n qd_172_8 rfl ?_
  obtain ⟨h9a, h9b, H1, H2⟩ := H
  refine qS_icmp qd_172_9 rfl (zcnd_ge (a := v2) (b := v1) h9a h9b (fun t => qR w _ _ t _ _ _ _) (fun hc => ?_) (fun hc => ?_))
  · have H := H1 hc; clear H1 H2 hc
    refine qS_aload_n qd_172_12 rfl ?_
    refine qS_cvI qd_172_13 (qml_8_80 w) rfl qtm_134 (hpc_25 _ _) (Nat.le_of_ble_eq_true rfl) rfl (Nat.le_of_ble_eq_true rfl) H (fun r2 s2 H => ?_) (fun x s1 H => Or.inr ⟨x, rfl, H⟩)
    obtain ⟨h16a, H1, H2⟩ := H
    refine qS_if0 qd_172_16 rfl (zcnd_eq (a := r2) (b := 0) h16a ⟨by decide, by decide⟩ (fun t => qR w _ _ t _ _ _ _) (fun hc => ?_) (fun hc => ?_))
    · have H := H1 hc; clear H1 H2 hc
      exact qS_sub zsub_n H
    · have H := H2 hc; clear H1 H2 hc
      refine qS_aload_n qd_172_19 rfl ?_
      refine qS_iconst qd_172_20 ?_
      refine qS_iconst qd_172_21 ?_
      refine qS_cvV qd_172_22 (qml_8_224 w) rfl qtm_171 (hpc_25 _ _) (Nat.le_of_ble_eq_true rfl) rfl (Nat.le_of_ble_eq_true rfl) H (fun s3 H => ?_) (fun x s1 H => Or.inr ⟨x, rfl, H⟩)
      refine qS_aload_n qd_172_25 rfl ?_
      refine qS_cvI qd_172_26 (qml_8_155 w) rfl qtm_130 (hpc_25 _ _) (Nat.le_of_ble_eq_true rfl) rfl (Nat.le_of_ble_eq_true rfl) H (fun r4 s4 H => ?_) (fun x s1 H => Or.inr ⟨x, rfl, H⟩)
      refine qS_istore_n (a := [(0, .ref 25), (1, qI v1), (2, qI v2)]) qd_172_29 (Nat.le_of_ble_eq_true rfl) (zsub_c rfl (zsub_c rfl (zsub_c rfl zsub_n))) rfl ?_
      refine qS_aload_n qd_172_30 rfl ?_
      refine qS_cvI qd_172_31 (qml_8_80 w) rfl qtm_134 (hpc_25 _ _) (Nat.le_of_ble_eq_true rfl) rfl (Nat.le_of_ble_eq_true rfl) H (fun r5 s5 H => ?_) (fun x s1 H => Or.inr ⟨x, rfl, H⟩)
      obtain ⟨h34a, H1, H2⟩ := H
      refine qS_if0 qd_172_34 rfl (zcnd_eq (a := r5) (b := 0) h34a ⟨by decide, by decide⟩ (fun t => qR w _ _ t _ _ _ _) (fun hc => ?_) (fun hc => ?_))
      · have H := H1 hc; clear H1 H2 hc
        exact qS_sub (zsub_c rfl (zsub_c rfl (zsub_c rfl (zsub_c rfl zsub_n)))) H
      · have H := H2 hc; clear H1 H2 hc
        refine qS_iload_n qd_172_37 rfl ?_
        obtain ⟨h38a, H1, H2⟩ := H
        refine qS_if0 qd_172_38 rfl (zcnd_lt (a := r4) (b := 0) h38a ⟨by decide, by decide⟩ (fun t => qR w _ _ t _ _ _ _) (fun hc => ?_) (fun hc => ?_))
        · have H := H1 hc; clear H1 H2 hc
          exact qS_sub (zsub_c rfl (zsub_c rfl (zsub_c rfl (zsub_c rfl zsub_n)))) H
        · have H := H2 hc; clear H1 H2 hc
          refine qS_iload_n qd_172_41 rfl ?_
          refine qS_aload_n qd_172_42 rfl ?_
          refine qS_getfield (v := qI (s5 25 4)) qd_172_43 (qfl_8_73 w) (hpc_25 _ _) rfl ?_
          refine qS_aload_n qd_172_46 rfl ?_
          refine qS_getfield (v := qI (s5 25 5)) qd_172_47 (qfl_8_70 w) (hpc_25 _ _) rfl ?_
          refine qS_isub (a := s5 25 4) (b := s5 25 5) qd_172_50 ?_
          obtain ⟨h51b, H1, H2⟩ := H
          refine qS_icmp qd_172_51 rfl (zcnd_le (a := r4) (b := (s5 25 4) - (s5 25 5)) h38a h51b (fun t => qR w _ _ t _ _ _ _) (fun hc => ?_) (fun hc => ?_))
          · have H := H1 hc; clear H1 H2 hc
            exact qS_sub (zsub_c rfl (zsub_c rfl (zsub_c rfl (zsub_c rfl zsub_n)))) H
          · have H := H2 hc; clear H1 H2 hc
            exact qS_sub (zsub_c rfl (zsub_c rfl (zsub_c rfl (zsub_c rfl zsub_n)))) H
  · have H := H2 hc; clear H1 H2 hc
    exact qS_sub zsub_n H
set_option maxRecDepth 100000 in
theorem k172_54 {w : qE} {s : qS} {v1 : Int} {v2 : Int} {v3 : Int} {f : qS → Prop} {g : Nat → qS → Prop}  (H : qW w 1 133 [.ref 25, qI (s 25 4)] s (qPI (fun r6 s6 => qR w 4 qm172 63 [(0, .ref 25), (1, qI v1), (2, qI v2), (3, qI v3)] [] s6 (qPV f g)) g)) : qR w 4 qm172 54 [(0, .ref 25), (1, qI v1), (2, qI v2), (3, qI v3)] [] s (qPV f g) := by
  refine qS_aload_n qd_172_54 rfl ?_
  refine qS_aload_n qd_172_55 rfl ?_
  refine qS_getfield (v := qI (s 25 4)) qd_172_56 (qfl_8_73 w) (hpc_25 _ _) rfl ?_
  refine qS_cvI qd_172_59 (qml_8_76 w) rfl qtm_133 (hpc_25 _ _) (Nat.le_of_ble_eq_true rfl) rfl (Nat.le_of_ble_eq_true rfl) H (fun r6 s6 H => ?_) (fun x s1 H => Or.inr ⟨x, rfl, H⟩)
  refine qS_pop qd_172_62 rfl ?_
  exact qS_sub (zsub_c rfl (zsub_c rfl (zsub_c rfl (zsub_c rfl zsub_n)))) H
set_option maxRecDepth 100000 in
theorem k172_63 {w : qE} {s : qS} {v1 : Int} {v2 : Int} {v3 : Int} {f : qS → Prop} {g : Nat → qS → Prop}  (H : qW w 1 134 [.ref 25] s (qPI (fun r7 s7 => Rg r7 ∧ (r7 = 0 → qR w 4 qm172 80 [(0, .ref 25), (1, qI v1), (2, qI v2)] [] s7 (qPV f g)) ∧ (r7 ≠ 0 → qR w 4 qm172 80 [(0, .ref 25), (1, qI v1), (2, qI v2)] [] (qset s7 25 5 ((s7 25 5) + v3)) (qPV f g))) g)) : qR w 4 qm172 63 [(0, .ref 25), (1, qI v1), (2, qI v2), (3, qI v3)] [] s (qPV f g) := by
  refine qS_aload_n qd_172_63 rfl ?_
  refine qS_cvI qd_172_64 (qml_8_80 w) rfl qtm_134 (hpc_25 _ _) (Nat.le_of_ble_eq_true rfl) rfl (Nat.le_of_ble_eq_true rfl) H (fun r7 s7 H => ?_) (fun x s1 H => Or.inr ⟨x, rfl, H⟩)
  obtain ⟨h67a, H1, H2⟩ := H
  refine qS_if0 qd_172_67 rfl (zcnd_eq (a := r7) (b := 0) h67a ⟨by decide, by decide⟩ (fun t => qR w _ _ t _ _ _ _) (fun hc => ?_) (fun hc => ?_))
  · have H := H1 hc; clear H1 H2 hc
    exact qS_sub (zsub_c rfl (zsub_c rfl (zsub_c rfl zsub_n))) H
  · have H := H2 hc; clear H1 H2 hc
    refine qS_aload_n qd_172_70 rfl ?_
    refine qS_dup qd_172_71 rfl ?_
    refine qS_getfield (v := qI (s7 25 5)) qd_172_72 (qfl_8_70 w) (hpc_25 _ _) rfl ?_
    refine qS_iload_n qd_172_75 rfl ?_
    refine qS_iadd (a := s7 25 5) (b := v3) qd_172_76 ?_
    refine qS_putfield (s1 := qset s7 25 5 ((s7 25 5) + v3)) qd_172_77 (qfl_8_70 w) (hpc_25 _ _) (Nat.le_of_ble_eq_true rfl) rfl rfl rfl (hps_25_5 _ _ _) ?_
    exact qS_sub (zsub_c rfl (zsub_c rfl (zsub_c rfl zsub_n))) H
set_option maxRecDepth 100000 in
theorem k172_86 {w : qE} {s : qS}  {f : qS → Prop} {g : Nat → qS → Prop}  (H : f s) : qR w 4 qm172 86 [] [] s (qPV f g) := by
  exact qS_vreturn qd_172_86 rfl (Or.inl ⟨rfl, H⟩)
set_option maxRecDepth 100000 in
theorem k172_80 {w : qE} {s : qS} {v1 : Int} {v2 : Int} {f : qS → Prop} {g : Nat → qS → Prop}  (H : qR w 4 qm172 7 [(0, .ref 25), (1, qI v1), (2, qI (v2 + 1))] [] s (qPV f g)) : qR w 4 qm172 80 [(0, .ref 25), (1, qI v1), (2, qI v2)] [] s (qPV f g) := by
  refine qS_iinc (v := v2) (a := [(0, .ref 25), (1, qI v1)]) qd_172_80 (Nat.le_of_ble_eq_true rfl) rfl (zsub_c rfl (zsub_c rfl zsub_n)) rfl ?_
  refine qS_goto qd_172_83 rfl ?_
  exact qS_sub (zsub_c rfl (zsub_c rfl (zsub_c rfl zsub_n))) H
