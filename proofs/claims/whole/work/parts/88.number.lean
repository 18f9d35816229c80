/-! NUMBER: the class's and the model's -/
def wd (a b : Int) : Int64 := (((Int32.ofInt a).toInt64) <<< ((Int32.ofInt 32).toInt64 &&& 63)) ||| (((Int32.ofInt b).toInt64) &&& ((4294967295 : Int64)))
def fX (b : Int) : UInt64 := if bE b = 0 then dF (bF b).toNat (-149) else dF (bF b + 8388608).toNat (bE b - 150)
def fY (b : Int) : UInt64 := if b < 0 then FP.dneg (fX b) else fX b
def fNum (b : Int) : Option UInt64 := if bE b = 255 then none else some (fY b)
def dX (v : Int64) : UInt64 := if dE v = 0 then dF (dM v).toInt.toNat (-1074) else dF (dM v ||| 4503599627370496).toInt.toNat (dE v - 1075)
def dY (v : Int64) : UInt64 := if (lg_cmp v ((0 : Int64))).toInt < 0 then FP.dneg (dX v) else dX v
def dNum (v : Int64) : Option UInt64 := if dE v = 2047 then none else some (dY v)
def aNum (π : qP) (i : Int) : Option UInt64 := if pT π i = 3 then some (FP.i2d (Int32.ofInt (pF π i))) else if pT π i = 4 then fNum (pF π i) else if pT π i = 5 then some (FP.l2d (wd (pF π i) (pS π i))) else if pT π i = 6 then dNum (wd (pF π i) (pS π i)) else some (13830554455654793216 : UInt64)
section NU
variable {w : qE} {s s0 : qS} {B : Int → Int} {n c i k a : Int} {π : qP} {r : qRes2} {f : UInt64 → qS → Prop} {fj : Int64 → qS → Prop} {fv : qS → Prop} {g : Nat → qS → Prop}
theorem c101 {m : Int64} {e : Int} (h0 : 0 ≤ m.toInt) (hm : m.toInt < 2 ^ 53) (h1 : -1074 ≤ e) (h2 : e ≤ 971) (H : f (dF m.toInt.toNat e) s) : qW w 1 101 [.long m, qI e] s (qPD f g) := by
  have hM : m.toInt.toNat < 2 ^ 53 := by omega
  have key : ∀ (d : Nat) (v z : Int), -30 ≤ v → v ≤ d → (e < 0 → v ≤ -e) → (0 ≤ e → v ≤ e) → (e < 0 → z = e + (if 0 ≤ v then v else 0)) → (0 ≤ e → z = e - (if 0 ≤ v then v else 0)) → qR w 0 qm101 15 [(2, qI e), (3, .double (dF m.toInt.toNat z)), (5, qI v)] [] s (qPD f g) := by
    intro d
    induction d with
    | zero =>
      intro v z hv0 hv l1 l2 z1 z2
      have hze : z = e := by
        rcases Int.lt_or_le e 0 with y | y
        · have := z1 y; split at this <;> omega
        · have := z2 y; split at this <;> omega
      rw [hze]
      exact k101_15 ⟨⟨by omega, by omega⟩, fun y => absurd y (by omega), fun _ => H⟩
    | succ d ih =>
      intro v z hv0 hv l1 l2 z1 z2
      rcases Int.lt_or_le 0 v with hp | hp
      · rw [if_pos (show 0 ≤ v by omega)] at z1 z2
        have h35 : ∀ k : Nat, k < 31 → (v < 30 → (k : Int) = v) → (30 ≤ v → k = 30) → qR w 0 qm101 35 [(2, qI e), (3, .double (dF m.toInt.toNat z)), (5, qI v)] [qI (k : Int), .long ((1 : Int64))] s (qPD f g) := by
          intro k k1 k3 k4
          have hy := two_k k k1
          refine k101_35 ⟨⟨by omega, by omega⟩, fun y => ?_, fun y => ?_⟩
          · have := z1 y
            have := l1 y
            rw [dF_div hM (e := z) (k := (k : Int)) (by omega) (by omega) (by omega) (by omega) hy]
            refine ⟨dF_fin hM (by omega) (by omega), k101_54 (ih _ _ (by omega) (by omega) (fun _ => by omega) (fun _ => by omega) (fun _ => ?_) (fun x => absurd x (by omega)))⟩
            split <;> omega
          · have := z2 y
            have := l2 y
            rw [dF_mul hM (e := z) (k := (k : Int)) (by omega) (by omega) (by omega) (by omega) hy]
            refine ⟨dF_fin hM (by omega) (by omega), k101_54 (ih _ _ (by omega) (by omega) (fun _ => by omega) (fun _ => by omega) (fun x => absurd x (by omega)) (fun _ => ?_))⟩
            split <;> omega
        refine k101_15 ⟨⟨by omega, by omega⟩, fun _ => ⟨fun y => ?_, fun y => h35 30 (by decide) (fun x => absurd x (by omega)) (fun _ => rfl)⟩, fun y => absurd y (by omega)⟩
        have := h35 v.toNat (by omega) (fun _ => by omega) (fun x => absurd x (by omega))
        rwa [show ((v.toNat : Nat) : Int) = v by omega] at this
      · have hze : z = e := by
          rcases Int.lt_or_le e 0 with y | y
          · have := z1 y; split at this <;> omega
          · have := z2 y; split at this <;> omega
        rw [hze]
        exact k101_15 ⟨⟨by omega, by omega⟩, fun y => absurd y (by omega), fun _ => H⟩
  refine k101 ⟨⟨by omega, by omega⟩, fun y => k101_13 ?_, fun y => k101_13 ?_⟩
  · rw [dF_l2d h0 hm]
    exact key (-e).toNat (-e) 0 (by omega) (by omega) (fun _ => by omega) (fun _ => by omega) (fun _ => by rw [if_pos (by omega)]; omega) (fun x => absurd x (by omega))
  · rw [dF_l2d h0 hm]
    exact key e.toNat e 0 (by omega) (by omega) (fun _ => by omega) (fun _ => by omega) (fun x => absurd x (by omega)) (fun _ => by rw [if_pos (by omega)]; omega)
theorem m180 {m : Int64} {e : Int} (h0 : 0 ≤ m.toInt) (hm : m.toInt < 2 ^ 53) (h1 : -1074 ≤ e) (h2 : e ≤ 971) (H : f (dF m.toInt.toNat e) s) : qW w 1 180 [.long m, qI e] s (qPD f g) := by
  have hM : m.toInt.toNat < 2 ^ 53 := by omega
  have down : ∀ (d : Nat) (v z : Int), -2000 ≤ v → v ≤ 0 → z = (if 0 ≤ e then e else v) → (v - e ≤ d) → (e < 0 → e ≤ v) → qR w 0 qm180 27 [(2, qI e), (3, .double (dF m.toInt.toNat z)), (5, qI v)] [] s (qPD f g) := by
    intro d
    induction d with
    | zero =>
      intro v z v1 v0 hz hd he
      have hze : z = e := by split at hz <;> omega
      rw [hze]
      exact k180_27 ⟨⟨by omega, by omega⟩, ⟨by omega, by omega⟩, fun y => absurd y (by omega), fun _ => H⟩
    | succ d ih =>
      intro v z v1 v0 hz hd he
      refine k180_27 ⟨⟨by omega, by omega⟩, ⟨by omega, by omega⟩, fun y => ?_, fun y => ?_⟩
      · rw [if_neg (by omega)] at hz
        rw [dF_div hM (e := z) (k := 1) (by omega) (by omega) (by omega) (by omega) two_1]
        exact ⟨dF_fin hM (by omega) (by omega), ih (v + (-1)) _ (by omega) (by omega) (by rw [if_neg (by omega)]; omega) (by omega) (fun _ => by omega)⟩
      · have hze : z = e := by split at hz <;> omega
        rw [hze]; exact H
  have dn : ∀ z : Int, z = (if 0 ≤ e then e else 0) → qR w 0 qm180 27 [(2, qI e), (3, .double (dF m.toInt.toNat z)), (5, qI 0)] [] s (qPD f g) := fun z hz => down (-e).toNat 0 z (by decide) (by decide) hz (by omega) (fun _ => by omega)
  have up : ∀ (d : Nat) (v z : Int), 0 ≤ v → z = v → (e - v ≤ d) → (0 ≤ e → v ≤ e) → (e < 0 → v = 0) → qR w 0 qm180 6 [(2, qI e), (3, .double (dF m.toInt.toNat z)), (5, qI v)] [] s (qPD f g) := by
    intro d
    induction d with
    | zero =>
      intro v z v0 hz hd he hn
      refine k180_6 ⟨⟨by omega, by omega⟩, ⟨by omega, by omega⟩, fun y => absurd y (by omega), fun _ => dn z ?_⟩
      split <;> omega
    | succ d ih =>
      intro v z v0 hz hd he hn
      refine k180_6 ⟨⟨by omega, by omega⟩, ⟨by omega, by omega⟩, fun y => ?_, fun _ => dn z ?_⟩
      · rw [dF_mul hM (e := z) (k := 1) (by omega) (by omega) (by omega) (by omega) two_1]
        exact ⟨dF_fin hM (by omega) (by omega), ih (v + 1) _ (by omega) (by omega) (by omega) (fun _ => by omega) (fun _ => by omega)⟩
      · split <;> omega
  refine k180 ?_
  rw [dF_l2d h0 hm]
  exact up e.toNat 0 0 (by decide) rfl (by omega) (fun x => x) (fun _ => rfl)
theorem c99 {b : Int} (hb : Rg b) (H0 : fNum b = none → g 3 s) (H1 : ∀ x, fNum b = some x → f x s) : qW w 2 99 [qI b] s (qPD f g) := by
  have hE := bE_rg b
  have hF := bF_rg b
  refine k99 ?_
  rw [bE_u]
  unfold fNum at H0 H1
  refine ⟨⟨by omega, by omega⟩, fun y => k99_21 (k100 ⟨⟨by decide, by decide⟩, fun z => absurd z (by decide), fun _ => ?_⟩), fun y => k99_21 (k100 ⟨⟨by decide, by decide⟩, fun _ => H0 (by rw [if_pos (by omega)]), fun z => absurd rfl z⟩)⟩
  rw [if_neg (by omega)] at H1
  have H1 := H1 _ rfl
  have h57 : qR w 1 qm99 57 [(0, qI b)] [.double (fX b)] s (qPD f g) := by
    unfold fY at H1
    refine k99_57 ⟨hb, fun y => k99_71 ?_, fun y => k99_71 ?_⟩
    · rw [if_pos y] at H1; exact H1
    · rw [if_neg (by omega)] at H1; exact H1
  unfold fX at h57
  refine ⟨⟨by omega, by omega⟩, fun y => ?_, fun y => ?_⟩
  · rw [if_pos y] at h57
    have e : ((Int32.ofInt (qand b 8388607)).toInt64).toInt = bF b := i64_of (x := bF b) ⟨by omega, by omega⟩
    refine c101 (by omega) (by omega) (by decide) (by decide) ?_
    rw [e]; exact h57
  · rw [if_neg y] at h57
    have e : (((Int32.ofInt (qand b 8388607)).toInt64) ||| ((8388608 : Int64))).toInt = bF b + 8388608 := bF_or64 b
    refine c101 (by omega) (by omega) (by omega) (by omega) ?_
    rw [e]; exact h57
theorem c102 {v : Int64} (H0 : dNum v = none → g 3 s) (H1 : ∀ x, dNum v = some x → f x s) : qW w 2 102 [.long v] s (qPD f g) := by
  have hE := dE_rg v
  refine k102 ?_
  rw [dE_u]
  unfold dNum at H0 H1
  refine ⟨⟨by omega, by omega⟩, fun y => k102_22 (k100 ⟨⟨by decide, by decide⟩, fun z => absurd z (by decide), fun _ => ?_⟩), fun y => k102_22 (k100 ⟨⟨by decide, by decide⟩, fun _ => H0 (by rw [if_pos (by omega)]), fun z => absurd rfl z⟩)⟩
  rw [if_neg (by omega)] at H1
  have H1 := H1 _ rfl
  have h58 : qR w 1 qm102 58 [(0, .long v)] [.double (dX v)] s (qPD f g) := by
    unfold dY at H1
    refine k102_58 ⟨qi_rg _, fun y => k102_74 ?_, fun y => k102_74 ?_⟩
    · rw [if_pos y] at H1; exact H1
    · rw [if_neg (by omega)] at H1; exact H1
  unfold dX at h58
  refine ⟨⟨by omega, by omega⟩, fun y => ?_, fun y => ?_⟩
  · rw [if_pos y] at h58
    have r := dM_rg v
    exact c101 r.1 r.2 (by decide) (by decide) h58
  · rw [if_neg y] at h58
    have r := dM_or v
    exact c101 r.1 r.2 (by omega) (by omega) h58
theorem c98 (hP : qCP s π) (hr : Rg i) (ht : 0 < pT π i) (H : fj (wd (pF π i) (pS π i)) s) : qW w 3 98 [.ref 3, qI i] s (qPJ fj g) := by
  refine k98 (c49 hP hr (c50 hP hr ?_))
  rw [pg_in hP.1 ht, pg_in hP.1 ht]
  exact H
theorem c97 (hr : Rg i) (h : s 0 6 = 0 ∨ s 0 6 = 1) (H0 : s 0 6 = 0 → g 2 s) (hF : s 0 6 = 1 → qRd B r s) (H1 : s 0 6 = 1 → ∀ x, aNum (mkP B r.1) i = some x → f x s) (H2 : s 0 6 = 1 → aNum (mkP B r.1) i = none → g 3 s) : qW w 4 97 [.ref 0, qI i] s (qPD f g) := by
  refine k97 (c95 h H0 (fun h1 => ?_))
  have H1 := H1 h1
  have H2 := H2 h1
  obtain ⟨hP, hK, -⟩ := hF h1
  obtain ⟨π, hπ⟩ : ∃ π, mkP B r.1 = π := ⟨_, rfl⟩
  rw [hπ] at H1 H2 hP
  have hT : ∀ v, 0 < v → (pg π (pT π) i = v ↔ pT π i = v) := fun v hv => pg_T hP.1 hv
  have rF := pF_rg hP.1 i
  have rS := pS_rg hP.1 i
  unfold aNum at H1 H2
  refine c35 hP hr ⟨pg_rg hP.1 (pT_rg hP.1 i), fun y => ?_, fun y => ?_, fun y => ?_, fun y => ?_, fun y3 y4 y5 y6 => ?_⟩
  · rw [hT _ (by omega)] at y
    rw [if_pos y] at H1
    refine c49 hP hr ?_
    rw [pg_in hP.1 (by omega)]
    exact H1 _ rfl
  · rw [hT _ (by omega)] at y
    rw [if_neg (by omega), if_pos y] at H1 H2
    refine c49 hP hr ?_
    rw [pg_in hP.1 (by omega)]
    exact c99 rF H2 H1
  · rw [hT _ (by omega)] at y
    rw [if_neg (by omega), if_neg (by omega), if_pos y] at H1
    exact c98 hP hr (by omega) (H1 _ rfl)
  · rw [hT _ (by omega)] at y
    rw [if_neg (by omega), if_neg (by omega), if_neg (by omega), if_pos y] at H1 H2
    exact c98 hP hr (by omega) (c102 H2 H1)
  · rw [Ne, hT _ (by omega)] at y3 y4 y5 y6
    rw [if_neg y3, if_neg y4, if_neg y5, if_neg y6] at H1
    exact H1 _ rfl
theorem m179_85 {b : Int} (hb : Rg b) (H : ∀ x, (bE b ≠ 255 → x = fY b) → f x s) : qR w 2 qm179 85 [(3, qI b), (4, qI (bE b)), (5, qI (bF b))] [] s (qPD f g) := by
  have hE := bE_rg b
  have hF := bF_rg b
  have h133 : ∀ x, (bE b ≠ 255 → x = fX b) → qR w 2 qm179 133 [(3, qI b)] [.double x] s (qPD f g) := by
    intro x hx
    refine k179_133 ⟨hb, fun y => k179_147 (H _ (fun z => ?_)), fun y => k179_147 (H _ (fun z => ?_))⟩
    · unfold fY; rw [if_pos y, hx z]
    · unfold fY; rw [if_neg (by omega), hx z]
  refine k179_85 ⟨⟨by omega, by omega⟩, fun y => h133 _ (fun z => absurd y z), fun y => ⟨fun z => k179_115 ⟨⟨by omega, by omega⟩, fun _ => k179_126 ?_, fun z2 => absurd z z2⟩, fun z => k179_115 ⟨⟨by omega, by omega⟩, fun z2 => absurd z2 z, fun _ => k179_126 ?_⟩⟩⟩
  · have e : ((Int32.ofInt (bF b)).toInt64).toInt = bF b := i64_of ⟨by omega, by omega⟩
    refine m180 (by omega) (by omega) (by decide) (by decide) (h133 _ (fun _ => ?_))
    rw [e]
    unfold fX
    rw [if_pos z]
    rfl
  · have e : ((Int32.ofInt (qor (bF b) 8388608)).toInt64).toInt = bF b + 8388608 := by
      rw [bF_or]
      exact i64_of ⟨by omega, by omega⟩
    refine m180 (by omega) (by omega) (by omega) (by omega) (h133 _ (fun _ => ?_))
    rw [e]
    unfold fX
    rw [if_neg z]
theorem m179_215 {v : Int64} (H : ∀ x, (dE v ≠ 2047 → x = dY v) → f x s) : qR w 2 qm179 215 [(4, .long v), (6, qI (dE v)), (7, .long (dM v))] [] s (qPD f g) := by
  have hE := dE_rg v
  have h261 : ∀ x, (dE v ≠ 2047 → x = dX v) → qR w 2 qm179 261 [(4, .long v)] [.double x] s (qPD f g) := by
    intro x hx
    refine k179_261 ⟨qi_rg _, fun y => k179_278 (H _ (fun z => ?_)), fun y => k179_278 (H _ (fun z => ?_))⟩
    · unfold dY; rw [if_pos y, hx z]
    · unfold dY; rw [if_neg (by omega), hx z]
  refine k179_215 ⟨⟨by omega, by omega⟩, fun y => h261 _ (fun z => absurd y z), fun y => ⟨fun z => k179_243 ⟨⟨by omega, by omega⟩, fun _ => k179_254 ?_, fun z2 => absurd z z2⟩, fun z => k179_243 ⟨⟨by omega, by omega⟩, fun z2 => absurd z2 z, fun _ => k179_254 ?_⟩⟩⟩
  · have r := dM_rg v
    refine m180 r.1 r.2 (by decide) (by decide) (h261 _ (fun _ => ?_))
    unfold dX
    rw [if_pos z]
    rfl
  · have r := dM_or v
    refine m180 r.1 r.2 (by omega) (by omega) (h261 _ (fun _ => ?_))
    unfold dX
    rw [if_neg z]
theorem m179 (hi : Rg i) (h : s 25 9 = 0 ∨ s 25 9 = 1) (H0 : s 25 9 = 0 → ∀ x, f x (qset s 25 7 1)) (hF : s 25 9 = 1 → mFin B n r s) (H1 : s 25 9 = 1 → ∀ x, aNum (mkP B r.1) i = some x → f x (qset s 25 7 0)) (H2 : s 25 9 = 1 → aNum (mkP B r.1) i = none → ∀ x, f x (qset (qset s 25 7 0) 25 7 2)) : qW w 3 179 [.ref 25, qI i] s (qPD f g) := by
  refine k179 (m177 h (fun y => ⟨d0, fun _ => H0 y _, fun z => absurd rfl z⟩) (fun y => ⟨d1, fun z => absurd z (by decide), fun _ => ?_⟩))
  have H1 := H1 y
  have H2 := H2 y
  have hP : mPo (qset s 25 7 0) B n r.1 := mSet_po (hF y).1 _ (by decide) (fun _ => by decide)
  obtain ⟨c, hc⟩ : ∃ c, r.1 = c := ⟨_, rfl⟩
  rw [hc] at H1 H2 hP
  have hlim := hP.1.lim
  have hR := mRg hP i
  unfold aNum at H1 H2
  refine m139 hP hi (m125 hR.1 ⟨by decide, by decide⟩ ⟨by decide, by decide⟩ ⟨bi_rg _, fun z => ?_, fun z => ?_⟩)
  · rw [bi_0, decide_eq_false_iff_not] at z
    rw [if_neg (by omega), if_neg (by omega), if_neg (by omega), if_neg (by omega)] at H1
    exact H1 _ rfl
  · rw [bi_n, decide_eq_true_iff] at z
    obtain ⟨b1, b2', b3, b4', b5, b6⟩ := hP.1.num z
    have e29 := hP.2.2.1 i b1.1 b1.2
    refine ⟨by omega, by omega, ?_⟩
    rw [e29]
    refine m178 hP (by omega) (by omega) ?_
    rw [← b5]
    refine ⟨hR.1, fun t => ?_, fun t3 => ⟨fun t => ?_, fun t4 => ⟨by omega, by omega, ?_⟩⟩⟩
    · rw [if_pos t] at H1
      exact H1 _ rfl
    · rw [if_neg (by omega), if_pos t] at H1 H2
      unfold fNum at H1 H2
      have hE := bE_rg (pF (mkP B c) i)
      refine ⟨(show Rg (bE (pF (mkP B c) i)) from ⟨by omega, by omega⟩), fun e => ?_, fun e => ?_⟩
      · exact m179_85 hR.2.1 (fun x _ => H2 (if_pos e) x)
      · refine m179_85 hR.2.1 (fun x hx => H1 x ?_)
        rw [if_neg (show ¬ bE (pF (mkP B c) i) = 255 from e), hx e]
    · rw [if_pos (by omega)] at b6
      have := b4' (by omega)
      rw [e29]
      refine m178 hP (by omega) (by omega) ?_
      rw [← b6]
      refine ⟨fun t => ?_, fun t5 => ?_⟩
      · rw [if_neg (by omega), if_neg (by omega), if_pos t] at H1
        exact H1 _ rfl
      · rw [if_neg (by omega), if_neg (by omega), if_neg (by omega), if_pos (by omega)] at H1 H2
        unfold dNum at H1 H2
        have hE := dE_rg (wd (pF (mkP B c) i) (pS (mkP B c) i))
        refine ⟨(show Rg (dE (wd (pF (mkP B c) i) (pS (mkP B c) i))) from ⟨by omega, by omega⟩), fun e => ?_, fun e => ?_⟩
        · exact m179_215 (fun x _ => H2 (if_pos e) x)
        · refine m179_215 (fun x hx => H1 x ?_)
          rw [if_neg (show ¬ dE (wd (pF (mkP B c) i) (pS (mkP B c) i)) = 2047 from e), hx e]
          rfl
end NU
