/-! THE MODEL reads a member -/
theorem qshr_nat {a : Nat} (h : a < 2147483648) {b : Nat} (hb : b < 32) : qshr (a : Int) (b : Int) = ((a / 2 ^ b : Nat) : Int) := by
  unfold qshr
  show BitVec.toInt (Int32.ofInt (a : Int) >>> (Int32.ofInt (b : Int) &&& 31)).toBitVec = _
  have hs : ((Int32.ofInt (b : Int) &&& 31).toBitVec.smod 32) = BitVec.ofNat 32 b := by
    have : ∀ b : Fin 32, ((Int32.ofInt (b.val : Int) &&& 31).toBitVec.smod 32) = BitVec.ofNat 32 b.val := by decide
    exact this ⟨b, hb⟩
  rw [Int32.toBitVec_shiftRight, hs]
  have hx : (Int32.ofInt (a : Int)).toBitVec.toInt = (a : Int) := by
    rw [BitVec.toInt_eq_toNat_of_lt (by rw [qi_nat_bv (by omega)]; omega), qi_nat_bv (by omega)]
  rw [show BitVec.sshiftRight' (Int32.ofInt (a : Int)).toBitVec (BitVec.ofNat 32 b) = BitVec.sshiftRight (Int32.ofInt (a : Int)).toBitVec (BitVec.ofNat 32 b).toNat from rfl, BitVec.toInt_sshiftRight, hx, BitVec.toNat_ofNat, Nat.mod_eq_of_lt (by omega), Int.shiftRight_eq_div_pow]
  exact_mod_cast rfl
theorem mWays {x : Int} (h : 0 ≤ x ∧ x ≤ 65535) : qand x 1 + qand (qshr x 1) 1 + qand (qshr x 2) 1 = fWays x := by
  obtain ⟨y, rfl⟩ := Int.eq_ofNat_of_zero_le h.1
  have e1 := qshr_nat (a := y) (b := 1) (by omega) (by decide)
  have e2 := qshr_nat (a := y) (b := 2) (by omega) (by decide)
  rw [show ((1 : Nat) : Int) = 1 from rfl, show (2 : Nat) ^ 1 = 2 from rfl] at e1
  rw [show ((2 : Nat) : Int) = 2 from rfl, show (2 : Nat) ^ 2 = 4 from rfl] at e2
  have a1 := qand_mask (a := (y : Int)) (m := 1) (k := 1) (by omega) (by omega) rfl (by decide)
  have a2 := qand_mask (a := ((y / 2 : Nat) : Int)) (m := 1) (k := 1) (by omega) (by omega) rfl (by decide)
  have a3 := qand_mask (a := ((y / 4 : Nat) : Int)) (m := 1) (k := 1) (by omega) (by omega) rfl (by decide)
  have a4 := qand_mask (a := (y : Int)) (m := 7) (k := 3) (by omega) (by omega) rfl (by decide)
  rw [show ((1 : Nat) : Int) = 1 from rfl] at a1 a2 a3
  rw [show ((7 : Nat) : Int) = 7 from rfl] at a4
  unfold fWays bc3
  rw [e1, e2, a1, a2, a3, a4]
  omega
theorem gIs_path {C : Int → Int} {N : Int} (h : gIs C 0 N wInit = true ∨ gIs C 0 N wClinit = true) : (gPath C N.toNat 0 true && gNoSl C N.toNat 0) = true := by
  rcases h with h | h
  · unfold gIs wInit at h
    simp only [gWd, Bool.and_eq_true, decide_eq_true_eq, List.length_cons, List.length_nil, Bool.and_true] at h
    obtain ⟨hN, h0, h1, h2, h3, h4, h5⟩ := h
    rw [show N.toNat = 6 by omega]
    simp_all [gPath, gNoSl]
  · unfold gIs wClinit at h
    simp only [gWd, Bool.and_eq_true, decide_eq_true_eq, List.length_cons, List.length_nil, Bool.and_true] at h
    obtain ⟨hN, h0, h1, h2, h3, h4, h5, h6, h7⟩ := h
    rw [show N.toNat = 8 by omega]
    simp_all [gPath, gNoSl]
theorem gNK_s (C : Int → Int) (N : Int) : decide (gNK C N ≠ 0) = (gPath C N.toNat 0 true && gNoSl C N.toNat 0) := by
  rw [gNK_0]
  cases h : (gPath C N.toNat 0 true && gNoSl C N.toNat 0) with
  | true => rfl
  | false =>
    rw [Bool.false_or]
    refine decide_eq_false (fun x => ?_)
    have h1 := gNK_131 C N
    have h2 := gNK_67 C N
    have hn := fun y => gIs_path (C := C) (N := N) y
    rw [h] at hn
    have i1 : gIs C 0 N wInit = false := by rw [← Bool.not_eq_true]; exact fun y => absurd (hn (Or.inl y)) (by decide)
    have i2 : gIs C 0 N wClinit = false := by rw [← Bool.not_eq_true]; exact fun y => absurd (hn (Or.inr y)) (by decide)
    rw [i2] at h1
    rw [i1] at h2
    have h1 := of_decide_eq_false h1
    have h2 := of_decide_eq_false h2
    rcases x with x | x | x
    · unfold gNK at x
      rw [i1, i2, h] at x
      simp at x
    · exact h2 x
    · exact h1 x
theorem bd_bd {α β γ : Type} (r : Int ⊕ α) (k : α → Int ⊕ β) (h : β → Int ⊕ γ) : bd (bd r k) h = bd r (fun v => bd (k v) h) := by cases r <;> rfl
theorem bd_inr' {α β : Type} (v : α) (k : α → Int ⊕ β) : bd (.inr v) k = k v := rfl
theorem bd_id {α : Type} (r : Int ⊕ α) : bd r (fun v => .inr v) = r := by cases r <;> rfl
section MM
variable {w : qE} {s s0 s1 : qS} {B P att MP : Int → Int} {n c i k p e m pl dc q : Int} {f : Int → qS → Prop} {fv : qS → Prop} {g : Nat → qS → Prop}
theorem gIs_v {C : Int → Int} {N : Int} : gIs C 0 N [40, 41, 86] = true ↔ N = 3 ∧ C 0 = 40 ∧ C 1 = 41 ∧ C 2 = 86 := by
  unfold gIs
  simp only [gWd, Bool.and_eq_true, decide_eq_true_eq, List.length_cons, List.length_nil, Bool.and_true]
  constructor
  · rintro ⟨a, b, d, e⟩; exact ⟨by omega, b, d, e⟩
  · rintro ⟨a, b, d, e⟩; exact ⟨by omega, b, d, e⟩
theorem aM_eq {nm ds : Int} (hG : mG B n c) (hn : pT (mkP B c) nm = 1) (hd : pT (mkP B c) ds = 1) (hM : gMeth (pC (mkP B c) ds) (pN (mkP B c) ds) 0 = true) :
    aM (mkP B c) nm ds = if gIs (pC (mkP B c) nm) 0 (pN (mkP B c) nm) wClinit = true then (decide (pC (mkP B c) ds (gCl (pC (mkP B c) ds) (pN (mkP B c) ds) 500 1 + 1) = 86) && decide (gCl (pC (mkP B c) ds) (pN (mkP B c) ds) 500 1 = 1)) else (decide (pC (mkP B c) ds (gCl (pC (mkP B c) ds) (pN (mkP B c) ds) 500 1 + 1) = 86) || !gIs (pC (mkP B c) nm) 0 (pN (mkP B c) nm) wInit) := by
  have hok := hG.ok.2.2.2.2 ds hd
  unfold aM
  rw [fit128, fit64, decide_eq_true hn, Bool.true_and, Bool.true_and, gNK_131, gNK_67, hok.1]
  unfold pspells pchar
  rw [decide_eq_true hd, Bool.true_and]
  obtain ⟨N, hN⟩ : ∃ N, pN (mkP B c) ds = N := ⟨_, rfl⟩
  obtain ⟨C, hC⟩ : ∃ C, pC (mkP B c) ds = C := ⟨_, rfl⟩
  rw [hN, hC] at hM ⊢
  rw [hN] at hok
  obtain ⟨a1, a2, a3, a4, a5⟩ := gMeth_end hok.2.1 (by omega) hM
  have h40 := (gMeth_cl hM).2.1
  rw [if_pos (show pT (mkP B c) ds = 1 ∧ -1 ≤ N - 1 ∧ N - 1 < N from ⟨hd, by omega, by omega⟩), if_neg (show ¬ N - 1 = -1 by omega)]
  split
  · rw [Bool.eq_iff_iff, gIs_v, Bool.and_eq_true, decide_eq_true_iff, decide_eq_true_iff]
    constructor
    · rintro ⟨b1, b2', b3, b4⟩
      have hq : gCl C N 500 1 = 1 := by
        show (if (1 : Int) < N ∧ C 1 ≠ 41 then _ else if (1 : Int) < N then (1 : Int) else -1) = 1
        rw [if_neg (fun y => y.2 b3), if_pos (by omega)]
      rw [hq]
      exact ⟨b4, rfl⟩
    · rintro ⟨b1, b2'⟩
      have := a5 b1
      rw [b2'] at b1 a3 this
      exact ⟨by omega, h40, a3, b1⟩
  · rw [Bool.or_comm]
    congr 1
    exact decide_eq_decide.mpr a4.symm
theorem m164_0 {nm ds : Int} (hP : mPo s B n c) (hd : pT (mkP B c) ds = 1) (H : f (bi (decide (gField (pC (mkP B c) ds) (pN (mkP B c) ds) 0 = pN (mkP B c) ds))) s) : qW w 6 164 [.ref 25, qI 0, qI nm, qI ds] s (qPI f g) :=
  k164 ⟨d0, fun _ => m147 hP hd ⟨bi_01 _, H⟩, fun y => absurd rfl y⟩
theorem m164_1 {nm ds : Int} (hP : mPo s B n c) (hn : pT (mkP B c) nm = 1) (hd : pT (mkP B c) ds = 1) (H : ∀ s', mSg s s' → f (bi (gMeth (pC (mkP B c) ds) (pN (mkP B c) ds) 0 && aM (mkP B c) nm ds)) s') : qW w 6 164 [.ref 25, qI 1, qI nm, qI ds] s (qPI f g) := by
  refine k164 ⟨d1, fun y => absurd y (by decide), fun _ => m152 hP hd (fun s' hM hsg => ?_)⟩
  have H := H s' hM
  refine ⟨bi_rg _, fun z => ?_, fun z => ?_⟩
  · rw [bi_0] at z; rw [z, Bool.false_and] at H; exact H
  rw [bi_n] at z
  rw [z, Bool.true_and, aM_eq hP.1 hn hd z] at H
  obtain ⟨g1, g2⟩ := hsg z
  have hok := hP.1.ok.2.2.2.2 ds hd
  have hP2 := hM.po hP
  obtain ⟨N, hN⟩ : ∃ N, pN (mkP B c) ds = N := ⟨_, rfl⟩
  obtain ⟨C, hC⟩ : ∃ C, pC (mkP B c) ds = C := ⟨_, rfl⟩
  rw [hN, hC] at z H g1 hok
  obtain ⟨a1, a2, a3, a4, a5⟩ := gMeth_end hok.2.1 (by omega) z
  obtain ⟨q, hq⟩ : ∃ q, gCl C N 500 1 = q := ⟨_, rfl⟩
  rw [hq] at H g1 a1 a2
  rw [g1]
  have rq : Rg q := ⟨by omega, by omega⟩
  have h41 : ∀ b : Bool, b = decide (C (q + 1) = 86) → qR w 5 qm164 41 [(0, .ref 25), (2, qI nm)] [qI (bi b)] s' (qPI f g) := by
    intro b hb
    rw [← hb] at H
    refine k164_41 (m155 (t := 10) (by decide) hP2 hn ⟨bi_rg _, fun y => ⟨bi_rg _, fun x => m155 (t := 9) (by decide) hP2 hn ⟨bi_rg _, fun v => k164_89 (k164_94 ⟨Or.inr rfl, ?_⟩), fun v => k164_94 ⟨Or.inl rfl, ?_⟩⟩, fun x => k164_89 (k164_94 ⟨Or.inr rfl, ?_⟩)⟩, fun y => ⟨bi_rg _, fun x => k164_70 (k164_94 ⟨Or.inl rfl, ?_⟩), fun x => ?_⟩⟩)
    · rw [bi_0] at y x v
      have y : gIs (pC (mkP B c) nm) 0 (pN (mkP B c) nm) wClinit = false := y
      have v : gIs (pC (mkP B c) nm) 0 (pN (mkP B c) nm) wInit = false := v
      rw [y, if_neg (by decide), x, v] at H; exact H
    · rw [bi_0] at y x; rw [bi_n] at v
      have y : gIs (pC (mkP B c) nm) 0 (pN (mkP B c) nm) wClinit = false := y
      have v : gIs (pC (mkP B c) nm) 0 (pN (mkP B c) nm) wInit = true := v
      rw [y, if_neg (by decide), x, v] at H; exact H
    · rw [bi_0] at y; rw [bi_n] at x
      have y : gIs (pC (mkP B c) nm) 0 (pN (mkP B c) nm) wClinit = false := y
      rw [y, if_neg (by decide), x, Bool.true_or] at H; exact H
    · rw [bi_n] at y; rw [bi_0] at x
      have y : gIs (pC (mkP B c) nm) 0 (pN (mkP B c) nm) wClinit = true := y
      rw [y, if_pos rfl, x, Bool.false_and] at H; exact H
    · rw [bi_n] at y x
      have y : gIs (pC (mkP B c) nm) 0 (pN (mkP B c) nm) wClinit = true := y
      rw [y, if_pos rfl, x, Bool.true_and] at H
      rw [g1]
      refine ⟨rq, fun v => k164_94 ⟨Or.inr rfl, ?_⟩, fun v => k164_70 (k164_94 ⟨Or.inl rfl, ?_⟩)⟩
      · rw [decide_eq_true v] at H; exact H
      · rw [decide_eq_false v] at H; exact H
  have hcr := mCh_rg (k := q + 1) hP.1 hd (by omega)
  have hch : mCh B c ds (q + 1) = C (q + 1) := by rw [mCh_in (by omega), hC]
  refine m146 hP2 hd (by omega) ⟨by omega, by omega⟩ ?_
  rw [hch] at hcr ⊢
  exact ⟨⟨by omega, by omega⟩, fun y => h41 true (decide_eq_true y).symm, fun y => h41 false (decide_eq_false y).symm⟩
/-- what reading member m leaves alone -/
def mFM (m : Int) (s s' : qS) : Prop := (∀ k, k ≠ 25 → ¬ (30 ≤ k ∧ k ≤ 34) → k ≠ 39 → s' k = s k) ∧ (∀ k, 30 ≤ k → k ≤ 34 → ∀ j, j ≠ m → s' k j = s k j) ∧ ∀ j, j ≠ 5 → j ≠ 6 → j ≠ 27 → j ≠ 28 → s' 25 j = s 25 j
theorem mFM.trans {m : Int} {s s' s'' : qS} (h : mFM m s s') (h' : mFM m s' s'') : mFM m s s'' :=
  ⟨fun k a b c => (h'.1 k a b c).trans (h.1 k a b c), fun k a b j hj => (h'.2.1 k a b j hj).trans (h.2.1 k a b j hj), fun j a b c d => (h'.2.2 j a b c d).trans (h.2.2 j a b c d)⟩
theorem mSm.fM {s s' : qS} (h : mSm s s') (m : Int) : mFM m s s' := ⟨fun k a _ _ => h.1 k a, fun k a _ j _ => by rw [h.1 k (by omega)], fun j a b _ _ => h.2 j a b⟩
theorem mSg.fM {s s' : qS} (h : mSg s s') (m : Int) : mFM m s s' := ⟨fun k a _ _ => h.1 k a, fun k a _ j _ => by rw [h.1 k (by omega)], fun j _ _ a b => h.2 j a b⟩
theorem mFX.fM {pl m : Int} {s s' : qS} (h : mFX pl m s s') (hp : pl ≠ 3) : mFM m s s' := by
  refine ⟨fun k a b d => h.1 k a d (fun x => absurd x hp) (fun _ => by omega), fun k a b j hj => ?_, fun j a b _ _ => h.2.2 j a b⟩
  rcases (show k = 30 ∨ k = 31 ∨ k = 32 ∨ k = 33 ∨ k = 34 by omega) with x | x | x | x | x
  · subst x; rw [h.1 30 (by decide) (by decide) (fun _ => by decide) (fun _ => by decide)]
  · subst x; rw [h.1 31 (by decide) (by decide) (fun _ => by decide) (fun _ => by decide)]
  · subst x; exact (h.2.1 hp j hj).1
  · subst x; exact (h.2.1 hp j hj).2.1
  · subst x; exact (h.2.1 hp j hj).2.2
theorem mFM.set {m : Int} {s s' : qS} (h : mFM m s s') {k : Nat} (v : Int) (hk : 30 ≤ k ∧ k ≤ 34) : mFM m s (qset s' k m v) := by
  refine ⟨fun x a b d => ?_, fun x a b j hj => ?_, fun j j1 j2 j3 j4 => ?_⟩
  · rw [qset_cell _ (by omega)]; exact h.1 x a b d
  · rw [qset_eq, if_neg (fun y => hj y.2)]; exact h.2.1 x a b j hj
  · rw [qset_cell _ (by omega)]; exact h.2.2 j j1 j2 j3 j4
theorem mFM.po {m : Int} {s s' : qS} {B : Int → Int} {n c : Int} (h : mFM m s s') (hP : mPo s B n c) : mPo s' B n c := hP.fr (h.2.2 11 (by decide) (by decide) (by decide) (by decide)) (h.1 26 (by decide) (by decide) (by decide)) (h.1 28 (by decide) (by decide) (by decide)) (h.1 29 (by decide) (by decide) (by decide))
theorem mFt.s30 (h : mFt s0 e s) {k : Nat} {j v : Int} (hk : 30 ≤ k ∧ k ≤ 34) : mFt s0 e (qset s k j v) := h.set (by omega) (fun y => absurd y (by omega)) (fun y => absurd y (by omega))
theorem mAt.s30 (h : mAt s0 p s) {k : Nat} {j v : Int} (hk : 30 ≤ k ∧ k ≤ 34) : mAt s0 p (qset s k j v) := h.set (by omega) (fun y => absurd y (by omega)) (fun y => absurd y (by omega))
theorem m162_187_d (hF : mFt s0 e s) {v1 v2 v3 v4 v5 v6 v7 : Int} (H : fv s) : qR w 8 qm162 187 [(0, .ref 25), (1, qI v1), (2, qI v2), (3, qI v3), (4, qI v4), (5, qI v5), (6, qI v6), (7, qI v7)] [] s (qPV fv g) := k162_187 (m134_d hF ⟨d0, fun _ => H, fun y => absurd rfl y⟩)
theorem m162_144_d (hS : mS s0 B n) (hF : mFt s0 e s) {v1 v2 v3 v4 v5 v6 : Int} (H : fv s) : qR w 8 qm162 144 [(0, .ref 25), (1, qI v1), (2, qI v2), (3, qI v3), (4, qI v4), (5, qI v5), (6, qI v6)] [] s (qPV fv g) := k162_144 (m131_d hS hF (m134_d hF ⟨d0, fun _ => m162_187_d hF H, fun y => absurd rfl y⟩))
theorem m162_88_d (hS : mS s0 B n) (hF : mFt s0 e s) {v1 v2 v3 v4 v5 : Int} (H : fv s) : qR w 8 qm162 88 [(0, .ref 25), (1, qI v1), (2, qI v2), (3, qI v3), (4, qI v4), (5, qI v5)] [] s (qPV fv g) := k162_88 (m131_d hS hF (m134_d hF ⟨d0, fun _ => m162_144_d hS hF H, fun y => absurd rfl y⟩))
theorem m162_309_d (hS : mS s0 B n) (hF : mFt s0 e s) {v1 v3 v4 v5 k3 k1 : Int} (hk : 0 ≤ k1 ∧ k1 < 160) (H : ∀ s', mFt s0 e s' → fv s') : qR w 8 qm162 309 [(0, .ref 25), (1, qI v1), (3, qI v3), (4, qI v4), (5, qI v5)] [qI k3, .ref 25, qI k1, .ref 31] s (qPV fv g) :=
  k162_309 (m166_d hS hF (fun s' hF' => ⟨hk.1, hk.2, m134_d (hF'.s30 (by decide)) ⟨d0, fun _ => k162_355 (H _ (hF'.s30 (by decide))), fun y => absurd rfl y⟩⟩))
/-- what is known of the members that have been read -/
def mOkM (B : Int → Int) (n c : Int) (MP : Int → Int) (k : Int) : Prop := ∀ j, 0 ≤ j → j < k → 0 ≤ MP j ∧ MP j + 8 ≤ n ∧ pT (mkP B c) (b2 B (MP j + 2)) = 1 ∧ pT (mkP B c) (b2 B (MP j + 4)) = 1
theorem m162_198_d (hS : mS s0 B n) {first v4 v1 v5 nm ds : Int} (h1 : Rg v1) (hn : pT (mkP B c) nm = 1) (hd : pT (mkP B c) ds = 1) (hM : mOkM B n c MP k) (hk : 0 ≤ first ∧ 0 ≤ k ∧ first + k < 160) : ∀ (d : Nat) (s : qS), (d : Int) ≤ k → mFt s0 e s → mPo s B n c → (∀ j, 0 ≤ j → j < k → s 30 (first + j) = MP j) → (∀ s', mFt s0 e s' → fv s') → qR w 8 qm162 198 [(0, .ref 25), (1, qI v1), (3, qI (first + k)), (4, qI v4), (5, qI v5), (6, qI nm), (7, qI ds), (9, qI (first + (k - d)))] [] s (qPV fv g) := by
  intro d
  induction d with
  | zero =>
    intro s hd2 hF hP h30 H
    have hF2 := (((hF.s30 (k := 30) (j := first + k) (v := v4) (by decide)).s30 (k := 32) (j := first + k) (v := -2) (by decide)).s30 (k := 33) (j := first + k) (v := -2) (by decide)).s30 (k := 34) (j := first + k) (v := 0) (by decide)
    exact k162_198 ⟨⟨by omega, by omega⟩, ⟨by omega, by omega⟩, fun y => absurd y (by omega), fun _ => ⟨by omega, by omega, by omega, by omega, by omega, by omega, by omega, by omega, h1, fun _ => m162_309_d hS hF2 (by omega) H, fun _ => m162_309_d hS hF2 (by omega) H⟩⟩
  | succ d ih =>
    intro s hd2 hF hP h30 H
    obtain ⟨j, hj⟩ : ∃ j, k - ((d + 1 : Nat) : Int) = j := ⟨_, rfl⟩
    rw [hj]
    obtain ⟨o1, o2, o3, o4⟩ := hM j (by omega) (by omega)
    have next : qR w 8 qm162 257 [(0, .ref 25), (1, qI v1), (3, qI (first + k)), (4, qI v4), (5, qI v5), (6, qI nm), (7, qI ds), (9, qI (first + j))] [] s (qPV fv g) := by
      refine k162_257 ?_
      rw [show first + j + 1 = first + (k - (d : Int)) by omega]
      exact ih s (by omega) hF hP h30 H
    refine k162_198 ⟨⟨by omega, by omega⟩, ⟨by omega, by omega⟩, fun _ => ⟨by omega, by omega, ?_⟩, fun y => absurd y (by omega)⟩
    rw [h30 j (by omega) (by omega)]
    refine m142 hS.1 hP.2.2.2.1 (by omega) (by omega) (m165 hP o3 hn ⟨bi_rg _, fun _ => next, fun _ => ⟨by omega, by omega, ?_⟩⟩)
    rw [h30 j (by omega) (by omega)]
    exact m142 hS.1 hP.2.2.2.1 (by omega) (by omega) (m165 hP o4 hd ⟨bi_rg _, fun _ => next, fun _ => m133_d hF next⟩)
theorem m162_198 (hS : mS s0 B n) {first v4 v1 v5 nm ds r : Int} (h1 : Rg v1) (hn : pT (mkP B c) nm = 1) (hd : pT (mkP B c) ds = 1) (hM : mOkM B n c MP k) (hk : 0 ≤ first ∧ 0 ≤ k ∧ first + k < 160) (hv4 : 0 ≤ v4 ∧ v4 + 2 ≤ n) (hr : Rg r) : ∀ (d : Nat) (s : qS), (d : Int) ≤ k → mAt s0 r s → mPo s B n c → (∀ j, 0 ≤ j → j < k → s 30 (first + j) = MP j) → (isTw (mkP B c) B MP nm ds d (k - d) = true → ∀ s', mFt s0 (v4 + 2) s' → fv s') → (isTw (mkP B c) B MP nm ds d (k - d) = false → qR w 8 qm162 309 [(0, .ref 25), (1, qI v1), (3, qI (first + k)), (4, qI v4), (5, qI v5)] [qI (if v1 = 0 then 0 else 1), .ref 25, qI (first + k), .ref 31] (qset (qset (qset (qset s 30 (first + k) v4) 32 (first + k) (-2)) 33 (first + k) (-2)) 34 (first + k) 0) (qPV fv g)) → qR w 8 qm162 198 [(0, .ref 25), (1, qI v1), (3, qI (first + k)), (4, qI v4), (5, qI v5), (6, qI nm), (7, qI ds), (9, qI (first + (k - d)))] [] s (qPV fv g) := by
  have h5 := hS.1.2.1
  intro d
  induction d with
  | zero =>
    intro s hd2 hA hP h30 Hb Hg
    have Hg := Hg rfl
    exact k162_198 ⟨⟨by omega, by omega⟩, ⟨by omega, by omega⟩, fun y => absurd y (by omega), fun _ => ⟨by omega, by omega, by omega, by omega, by omega, by omega, by omega, by omega, h1, fun z => by rw [if_pos z] at Hg; exact Hg, fun z => by rw [if_neg z] at Hg; exact Hg⟩⟩
  | succ d ih =>
    intro s hd2 hA hP h30 Hb Hg
    obtain ⟨j, hj⟩ : ∃ j, k - ((d + 1 : Nat) : Int) = j := ⟨_, rfl⟩
    rw [hj] at Hb Hg ⊢
    have et : isTw (mkP B c) B MP nm ds (d + 1) j = ((psame (mkP B c) (b2 B (MP j + 2)) nm && psame (mkP B c) (b2 B (MP j + 4)) ds) || isTw (mkP B c) B MP nm ds d (j + 1)) := rfl
    rw [et] at Hb Hg
    obtain ⟨o1, o2, o3, o4⟩ := hM j (by omega) (by omega)
    have next : (psame (mkP B c) (b2 B (MP j + 2)) nm && psame (mkP B c) (b2 B (MP j + 4)) ds) = false → qR w 8 qm162 257 [(0, .ref 25), (1, qI v1), (3, qI (first + k)), (4, qI v4), (5, qI v5), (6, qI nm), (7, qI ds), (9, qI (first + j))] [] s (qPV fv g) := by
      intro hh
      rw [hh, Bool.false_or] at Hb Hg
      refine k162_257 ?_
      rw [show first + j + 1 = first + (k - (d : Int)) by omega]
      exact ih s (by omega) hA hP h30 (by rw [show k - (d : Int) = j + 1 by omega]; exact Hb) (by rw [show k - (d : Int) = j + 1 by omega]; exact Hg)
    refine k162_198 ⟨⟨by omega, by omega⟩, ⟨by omega, by omega⟩, fun _ => ⟨by omega, by omega, ?_⟩, fun y => absurd y (by omega)⟩
    rw [h30 j (by omega) (by omega)]
    refine m142 hS.1 hP.2.2.2.1 (by omega) (by omega) (m165 hP o3 hn ⟨bi_rg _, fun z => next (by rw [bi_0.mp z, Bool.false_and]), fun z => ⟨by omega, by omega, ?_⟩⟩)
    rw [h30 j (by omega) (by omega)]
    refine m142 hS.1 hP.2.2.2.1 (by omega) (by omega) (m165 hP o4 hd ⟨bi_rg _, fun z2 => next (by rw [bi_0.mp z2, Bool.and_false]), fun z2 => m133 hA (k162_257 ?_)⟩)
    have hF := hA.ft (e := v4 + 2) hr (by omega) ⟨by omega, by omega⟩
    rw [show first + j + 1 = first + (k - (d : Int)) by omega]
    rw [bi_n.mp z, bi_n.mp z2] at Hb
    exact m162_198_d hS h1 hn hd hM hk d _ (by omega) hF (mSet_po hP _ (by decide) (fun _ => by decide)) h30 (Hb rfl)
/-- a member's head, behind which its attributes are read -/
theorem m162 {me : Bool} {MP : Int → Int} {first k : Int} (hS : mS s0 B n) (hA : mAt s0 q s) (h0 : 2 ≤ q) (h1 : q ≤ n) (hP : mPo s B n c) (hM : mOkM B n c MP k) (hk : 0 ≤ first ∧ 0 ≤ k ∧ first + k < 160) (h30 : ∀ j, 0 ≤ j → j < k → s 30 (first + j) = MP j)
    (H : qRes (rMem (mkP B c) B n me k MP q) (fun e => ∀ s', mFt s0 e s' → fv s') (fun r => ∀ s', mAt s0 r.1 s' → mFM (first + k) s s' → s' 30 (first + k) = q → s' 31 (first + k) = b2 B (q + 6) → mAM s' B (first + k) r.2 → (q + 8 ≤ r.1 ∧ r.1 ≤ n) → (pT (mkP B c) (b2 B (q + 2)) = 1 ∧ pT (mkP B c) (b2 B (q + 4)) = 1) → fv s')) : qW w 9 162 [.ref 25, qI (bi me), qI first, qI (first + k)] s (qPV fv g) := by
  have h5 := hS.1.2.1
  have rn : ∀ q : Int, 0 ≤ q → q ≤ n → Rg q := fun q q0 q1 => ⟨by omega, by omega⟩
  have rme : Rg (bi me) := bi_rg _
  -- the spec, for both kinds
  have sp : rMem (mkP B c) B n me k MP q = bd (rU2 B n q) (fun fl => bd (rCk (if me = true then okMF fl else okFF fl) q) (fun _ => bd (rText (mkP B c) B n (q + 2) (if me = true then 2 else 1)) (fun nm => bd (rText (mkP B c) B n (q + 4) (if me = true then 32 else 16)) (fun ds => bd (rCk (!me || aM (mkP B c) nm ds) (q + 4)) (fun _ => bd (rCk (!isTw (mkP B c) B MP nm ds k.toNat 0) (q + 2)) (fun _ => bd (rAtts (mkP B c) B n (if me = true then 2 else 1) (if me = true then -2 else b2 B (q + 4)) (q + 6)) (fun r => bd (rCk (!me || (decide (qand (b2 B q) 1280 ≠ 0) != decide (0 ≤ r.2 2))) q) (fun _ => .inr r)))))))) := by
    unfold rMem
    cases me with
    | true =>
      rw [if_pos rfl]
      unfold rMH
      simp only [bd_bd, Bool.not_true, Bool.false_or, if_true]
      rfl
    | false =>
      rw [if_neg (by decide)]
      unfold rFH
      simp only [bd_bd, Bool.not_false, Bool.true_or]
      simp only [show ∀ (e : Int), rCk true e = .inr () from fun _ => rfl, bd_inr', Bool.false_eq_true, if_false]
      simp only [bd_id]
  rw [sp, qRes_bd] at H
  refine k162 (m131' hS hA (by omega) h1 (qRes_mono H (fun e he H v s' v0 v1 hF => ?_) (fun fl hfl H => ?_)))
  · have key : ∀ b : Int, qR w 8 qm162 32 [(0, .ref 25), (1, qI (bi me)), (2, qI first), (3, qI (first + k)), (4, qI (s 25 5)), (5, qI v)] [qI b] s' (qPV fv g) := fun b => k162_32 (m134_d hF ⟨d0, fun _ => m162_88_d hS hF (H _ hF), fun y => absurd rfl y⟩)
    exact ⟨qand_Rg _ _, fun _ => key 0, fun _ => key 1⟩
  obtain ⟨q1, rfl⟩ := rU2_r hfl
  have rf := b2_rg hS.1 (p := q) (by omega) q1
  have hA1 := hA.mv (q + 2)
  have hM1 : mSm s (qset s 25 5 (q + 2)) := (mSm.rfl' s).mv _
  rw [hA.2.1]
  obtain ⟨x, hx⟩ : ∃ x, qset s 25 5 (q + 2) = x := ⟨_, rfl⟩
  rw [hx] at hA1 hM1 ⊢
  rw [qRes_bd] at H
  -- the flags
  have h81 : (if me = true then okMF (b2 B q) else okFF (b2 B q)) = false → qR w 8 qm162 81 [(0, .ref 25), (1, qI (bi me)), (2, qI first), (3, qI (first + k)), (4, qI q), (5, qI (b2 B q))] [] x (qPV fv g) := fun z => by
    rw [z] at H
    have hF := hA1.ft (e := q) (rn _ (by omega) q1) (by omega) (rn _ (by omega) h1)
    exact k162_81 (m133 hA1 (m162_88_d hS hF (H _ hF)))
  have h88 : (if me = true then okMF (b2 B q) else okFF (b2 B q)) = true → qR w 8 qm162 88 [(0, .ref 25), (1, qI (bi me)), (2, qI first), (3, qI (first + k)), (4, qI q), (5, qI (b2 B q))] [] x (qPV fv g) := fun z => by
    rw [z] at H
    have H : qRes (bd (rText (mkP B c) B n (q + 2) (if me = true then 2 else 1)) _) _ _ := H
    unfold rText at H
    rw [qRes_bd, qRes_bd] at H
    refine k162_88 (m131' hS hA1 (by omega) q1 (qRes_mono H (fun e he H v s' v0 v1 hF => m134_d hF ⟨d0, fun _ => m162_144_d hS hF (H s' hF), fun y => absurd rfl y⟩) (fun nm hnm H => ?_)))
    obtain ⟨q2, rfl⟩ := rU2_r hnm
    have rnm := b2_rg hS.1 (p := q + 2) (by omega) q2
    have hA2 := hA1.mv (q + 2 + 2)
    have hM2 := hM1.mv (q + 2 + 2)
    rw [show q + 2 + 2 = q + 4 by omega] at hA2 hM2 q2 ⊢
    obtain ⟨y, hy⟩ : ∃ y, qset x 25 5 (q + 4) = y := ⟨_, rfl⟩
    rw [hy] at hA2 hM2 ⊢
    obtain ⟨nm, hnm'⟩ : ∃ nm, b2 B (q + 2) = nm := ⟨_, rfl⟩
    rw [hnm'] at H rnm ⊢
    have hP2 := hM2.po hP
    rw [qRes_bd] at H
    have h135 : pfit (mkP B c) nm (if me = true then 2 else 1) = false → qR w 8 qm162 135 [(0, .ref 25), (1, qI (bi me)), (2, qI first), (3, qI (first + k)), (4, qI q), (5, qI (b2 B q)), (6, qI nm)] [] y (qPV fv g) := fun z => by
      rw [z] at H
      have hF := hA2.ft (e := q + 2) (rn _ (by omega) q2) (by omega) (rn _ (by omega) q1)
      exact k162_135 (m133 hA2 (m162_144_d hS hF (H _ hF)))
    have h144 : pfit (mkP B c) nm (if me = true then 2 else 1) = true → pT (mkP B c) nm = 1 → qR w 8 qm162 144 [(0, .ref 25), (1, qI (bi me)), (2, qI first), (3, qI (first + k)), (4, qI q), (5, qI (b2 B q)), (6, qI nm)] [] y (qPV fv g) := fun z tn => by
      rw [z] at H
      have H : qRes (bd (rText (mkP B c) B n (q + 4) (if me = true then 32 else 16)) _) _ _ := H
      unfold rText at H
      rw [qRes_bd, qRes_bd] at H
      refine k162_144 (m131' hS hA2 (by omega) q2 (qRes_mono H (fun e he H v s' v0 v1 hF => m134_d hF ⟨d0, fun _ => m162_187_d hF (H s' hF), fun y => absurd rfl y⟩) (fun ds hds H => ?_)))
      obtain ⟨q3, rfl⟩ := rU2_r hds
      have rds := b2_rg hS.1 (p := q + 4) (by omega) q3
      have hA3 := hA2.mv (q + 4 + 2)
      have hM3 := hM2.mv (q + 4 + 2)
      rw [show q + 4 + 2 = q + 6 by omega] at hA3 hM3 q3 ⊢
      obtain ⟨t, ht⟩ : ∃ t, qset y 25 5 (q + 6) = t := ⟨_, rfl⟩
      rw [ht] at hA3 hM3 ⊢
      obtain ⟨ds, hds'⟩ : ∃ ds, b2 B (q + 4) = ds := ⟨_, rfl⟩
      rw [hds'] at H rds ⊢
      have hP3 := hM3.po hP
      rw [qRes_bd] at H
      -- what a bad descriptor does, and a good one
      have h178 : (pfit (mkP B c) ds (if me = true then 32 else 16) && (!me || aM (mkP B c) nm ds)) = false → ∀ t', mSg t t' → qR w 8 qm162 178 [(0, .ref 25), (1, qI (bi me)), (2, qI first), (3, qI (first + k)), (4, qI q), (5, qI (b2 B q)), (6, qI nm), (7, qI ds)] [] t' (qPV fv g) := fun z2 t' hg => by
        have hA4 := hA3.sg hg
        have hF := hA4.ft (e := q + 4) (rn _ (by omega) q3) (by omega) (rn _ (by omega) q2)
        refine k162_178 (m133 hA4 (m162_187_d hF ?_))
        cases hx1 : pfit (mkP B c) ds (if me = true then 32 else 16) with
        | false => rw [hx1] at H; exact H _ hF
        | true =>
          rw [hx1, Bool.true_and] at z2
          rw [hx1] at H
          have H : qRes (bd (rCk (!me || aM (mkP B c) nm ds) (q + 4)) _) _ _ := H
          rw [z2] at H
          exact H _ hF
      have h187 : (pfit (mkP B c) ds (if me = true then 32 else 16) && (!me || aM (mkP B c) nm ds)) = true → pT (mkP B c) ds = 1 → ∀ t', mSg t t' → qR w 8 qm162 187 [(0, .ref 25), (1, qI (bi me)), (2, qI first), (3, qI (first + k)), (4, qI q), (5, qI (b2 B q)), (6, qI nm), (7, qI ds)] [] t' (qPV fv g) := fun z2 td t' hg => by
        have hA4 := hA3.sg hg
        have hP4 := hg.po hP3
        have hFM4 : mFM (first + k) s t' := (hM3.fM _).trans (hg.fM _)
        rw [Bool.and_eq_true] at z2
        rw [z2.1] at H
        have H : qRes (bd (rCk (!me || aM (mkP B c) nm ds) (q + 4)) _) _ _ := H
        rw [z2.2] at H
        have H : qRes (bd (rCk (!isTw (mkP B c) B MP nm ds k.toNat 0) (q + 2)) _) _ _ := H
        rw [qRes_bd] at H
        refine k162_187 (m134 hA4 ⟨d1, fun y => absurd y (by decide), fun _ => ?_⟩)
        have h30' : ∀ j, 0 ≤ j → j < k → t' 30 (first + j) = MP j := fun j j0 j1 => by rw [hFM4.2.1 30 (by decide) (by decide) (first + j) (by omega)]; exact h30 j j0 j1
        have := m162_198 (w := w) (fv := fv) (g := g) (c := c) (MP := MP) (k := k) hS (first := first) (v4 := q) (v1 := bi me) (v5 := b2 B q) (nm := nm) (ds := ds) (r := q + 6) rme tn td hM hk ⟨by omega, by omega⟩ (rn _ (by omega) q3) k.toNat t' (by omega) hA4 hP4 h30' (fun hb s' hF => ?_) (fun hb => ?_)
        · rw [show first + (k - (k.toNat : Int)) = first by omega] at this
          exact this
        · rw [show k - (k.toNat : Int) = 0 by omega] at hb
          rw [hb] at H
          exact H s' hF
        · rw [show k - (k.toNat : Int) = 0 by omega] at hb
          rw [hb] at H
          have H : qRes (bd (rAtts (mkP B c) B n (if me = true then 2 else 1) (if me = true then -2 else ds) (q + 6)) (fun r => bd (rCk (!me || (decide (qand (b2 B q) 1280 ≠ 0) != decide (0 ≤ r.2 2))) q) (fun _ => .inr r))) _ _ := H
          rw [qRes_bd] at H
          have hA5 := (((hA4.s30 (k := 30) (j := first + k) (v := q) (by decide)).s30 (k := 32) (j := first + k) (v := -2) (by decide)).s30 (k := 33) (j := first + k) (v := -2) (by decide)).s30 (k := 34) (j := first + k) (v := 0) (by decide)
          have hFM5 := (((hFM4.set (k := 30) q (by decide)).set (k := 32) (-2) (by decide)).set (k := 33) (-2) (by decide)).set (k := 34) 0 (by decide)
          obtain ⟨u, hu⟩ : ∃ u, qset (qset (qset (qset t' 30 (first + k) q) 32 (first + k) (-2)) 33 (first + k) (-2)) 34 (first + k) 0 = u := ⟨_, rfl⟩
          have u30 : u 30 (first + k) = q := by rw [← hu, qset_cell _ (by decide), qset_cell _ (by decide), qset_cell _ (by decide), qset_same, if_pos rfl]
          have u32 : u 32 (first + k) = -2 := by rw [← hu, qset_cell _ (by decide), qset_cell _ (by decide), qset_same, if_pos rfl]
          have u33 : u 33 (first + k) = -2 := by rw [← hu, qset_cell _ (by decide), qset_same, if_pos rfl]
          have u34 : u 34 (first + k) = 0 := by rw [← hu, qset_same, if_pos rfl]
          rw [hu] at hA5 hFM5 ⊢
          have hP5 := hFM5.po hP
          obtain ⟨pl, hpl⟩ : ∃ pl : Int, (if me = true then (2 : Int) else 1) = pl := ⟨_, rfl⟩
          have hpl2 : (pl = 1 ∧ me = false) ∨ (pl = 2 ∧ me = true) := by
            cases me
            · left; exact ⟨hpl.symm, rfl⟩
            · right; exact ⟨hpl.symm, rfl⟩
          have hn3 : pl ≠ 3 := by omega
          rw [hpl] at H
          have e3 : (if bi me = 0 then (0 : Int) else 1) = pl - 1 := by
            rcases hpl2 with ⟨a, b⟩ | ⟨a, b⟩ <;> (subst a; subst b; rfl)
          rw [e3]
          have hD : mDc u B n c pl (first + k) (if me = true then -2 else ds) := by
            refine ⟨fun _ => ⟨by omega, by omega⟩, fun hp => ⟨q, u30, ⟨by omega, q3⟩, ?_, ?_, ?_⟩⟩
            · rcases hpl2 with ⟨a, b⟩ | ⟨a, b⟩
              · rw [b, if_neg (by decide)]; exact hds'
              · omega
            · rcases hpl2 with ⟨a, b⟩ | ⟨a, b⟩
              · rw [b, if_neg (by decide)]; exact td
              · omega
            · rcases hpl2 with ⟨a, b⟩ | ⟨a, b⟩
              · have z3 := z2.1
                rw [b, if_neg (by decide), fit16, decide_eq_true td, Bool.true_and] at z3
                rw [b, if_neg (by decide)]
                exact of_decide_eq_true z3
              · omega
          have hX : mAX pl (first + k) u B att0 := ⟨fun hp => absurd hp hn3, fun _ => ⟨fun _ => by decide, u32, u33, u34⟩⟩
          refine k162_309 (m166 hS (by omega) hA5 (by omega) q3 hP5 hD hX (qRes_mono H (fun e he H v s' hF => ⟨by omega, by omega, m134_d (hF.s30 (by decide)) ⟨d0, fun _ => k162_355 (H _ (hF.s30 (by decide))), fun y => absurd rfl y⟩⟩) (fun r hr H s' a1 a2 a3 a4 => ⟨by omega, by omega, ?_⟩)))
          have inv := rAtts_inv (by omega) hr
          have hA6 := a1.s30 (k := 31) (j := first + k) (v := b2 B (q + 6)) (by decide)
          have hFM6 := (hFM5.trans (a2.fM hn3)).set (k := 31) (b2 B (q + 6)) (by decide)
          have good : (!me || (decide (qand (b2 B q) 1280 ≠ 0) != decide (0 ≤ r.2 2))) = true → fv (qset s' 31 (first + k) (b2 B (q + 6))) := fun zz => by
            rw [zz] at H
            have H : ∀ s', _ := H
            refine H _ hA6 hFM6 ?_ (by rw [qset_same, if_pos rfl]) ?_ ⟨by omega, inv.2.2⟩ ⟨tn, td⟩
            · rw [qset_cell _ (by decide), a2.1 30 (by decide) (by decide) (fun _ => by decide) (fun _ => by decide)]; exact u30
            · have := (a4.2 hn3).2
              unfold mAM
              rw [qset_cell _ (by decide), qset_cell _ (by decide), qset_cell _ (by decide)]
              exact this
          refine m134 hA6 ⟨d1, fun y => absurd y (by decide), fun _ => ⟨rme, fun z0 => k162_355 (good ?_), fun z0 => ?_⟩⟩
          · rw [bi_0] at z0; rw [z0]; rfl
          · rw [bi_n] at z0
            have e39 : qset s' 31 (first + k) (b2 B (q + 6)) 39 1 = bi (decide (0 ≤ r.2 2)) := by
              rw [qset_cell _ (by decide), a3 1 (by decide) (by decide)]
              rfl
            rw [e39]
            rw [z0, Bool.not_true, Bool.false_or] at H good
            have h345 : ∀ b : Bool, b = decide (qand (b2 B q) 1280 ≠ 0) → qR w 8 qm162 345 [(0, .ref 25), (4, qI q)] [qI (bi b), qI (bi (decide (0 ≤ r.2 2)))] (qset s' 31 (first + k) (b2 B (q + 6))) (qPV fv g) := fun b hb2 => by
              rw [← hb2] at H good
              refine k162_345 ⟨bi_rg _, bi_rg _, fun zz => ?_, fun zz => k162_355 (good ?_)⟩
              · have : (b != decide (0 ≤ r.2 2)) = false := by
                  cases b <;> cases hz : decide (0 ≤ r.2 2) <;> rw [hz] at zz <;> first | rfl | exact absurd zz (by decide)
                rw [this] at H
                have hF := hA6.ft (e := q) (rn _ (by omega) inv.2.2) (by omega) (rn _ (by omega) h1)
                exact m133 hA6 (k162_355 (H _ hF))
              · cases b <;> cases hz : decide (0 ≤ r.2 2) <;> rw [hz] at zz <;> first | rfl | exact absurd rfl zz
            exact ⟨qand_Rg _ _, fun zz => h345 false (decide_eq_false (fun y => y zz)).symm, fun zz => h345 true (decide_eq_true zz).symm⟩
      refine m134 hA3 ⟨d1, fun y => absurd y (by decide), fun _ => m144 hP3 ⟨by omega, by omega⟩ ⟨bi_rg _, fun z2 => h178 ?_ t (mSg.rfl' t), fun z2 => ?_⟩⟩
      · rw [bi_0] at z2
        cases me
        · rw [if_neg (by decide), fit16, z2]; rfl
        · rw [if_pos rfl, fit32, z2]; rfl
      · rw [bi_n] at z2
        have td := of_decide_eq_true z2
        cases me with
        | false =>
          rw [if_neg (show ¬ (false = true) by decide), Bool.not_false, Bool.true_or, Bool.and_true, fit16, z2, Bool.true_and] at h178 h187
          exact m164_0 hP3 td ⟨bi_rg _, fun z3 => h178 (bi_0.mp z3) t (mSg.rfl' t), fun z3 => h187 (bi_n.mp z3) td t (mSg.rfl' t)⟩
        | true =>
          rw [if_pos rfl, Bool.not_true, Bool.false_or, fit32, z2, Bool.true_and] at h178 h187
          exact m164_1 hP3 tn td (fun t' hg => ⟨bi_rg _, fun z3 => h178 (bi_0.mp z3) t' hg, fun z3 => h187 (bi_n.mp z3) td t' hg⟩)
    refine m134 hA2 ⟨d1, fun y => absurd y (by decide), fun _ => m144 hP2 ⟨by omega, by omega⟩ ⟨bi_rg _, fun z2 => h135 ?_, fun z2 => ?_⟩⟩
    · rw [bi_0] at z2
      cases me
      · rw [if_neg (by decide), fit1, z2]; rfl
      · rw [if_pos rfl, fit2, z2]; rfl
    · rw [bi_n] at z2
      have tn := of_decide_eq_true z2
      cases me with
      | false =>
        rw [if_neg (show ¬ (false = true) by decide), fit1, z2, Bool.true_and, gNK_s] at h135 h144
        exact ⟨d0, fun _ => m157 hP2 tn ⟨bi_rg _, fun z3 => h135 (bi_0.mp z3), fun z3 => h144 (bi_n.mp z3) tn⟩, fun y => absurd rfl y⟩
      | true =>
        rw [if_pos rfl, fit2, z2, Bool.true_and] at h135 h144
        exact ⟨d1, fun y => absurd y (by decide), fun _ => m154 hP2 tn ⟨bi_rg _, fun z3 => h135 (bi_0.mp z3), fun z3 => h144 (bi_n.mp z3) tn⟩⟩
  have h32 : ∀ b : Bool, b = decide (qand (b2 B q) 1024 ≠ 0) → qR w 8 qm162 32 [(0, .ref 25), (1, qI (bi me)), (2, qI first), (3, qI (first + k)), (4, qI q), (5, qI (b2 B q))] [qI (bi b)] x (qPV fv g) := fun b hb => by
    refine k162_32 (m134 hA1 ⟨d1, fun y => absurd y (by decide), fun _ => k163 ?_⟩)
    rw [mWays rf]
    have hw := bc3_rg (qand (b2 B q) 7)
    have hw2 : 0 ≤ fWays (b2 B q) ∧ fWays (b2 B q) ≤ 3 := hw
    refine ⟨⟨by omega, by omega⟩, fun z => h81 ?_, fun z => ⟨rme, fun z2 => ⟨qand_Rg _ _, fun z3 => h81 ?_, fun z3 => h88 ?_⟩, fun z2 => ⟨bi_rg _, fun z3 => h88 ?_, fun z3 => ⟨qand_Rg _ _, fun z4 => h88 ?_, fun z4 => h81 ?_⟩⟩⟩⟩
    · cases me
      · rw [if_neg (by decide)]; exact decide_eq_false (fun y => absurd y.1 (by omega))
      · rw [if_pos rfl]; exact decide_eq_false (fun y => absurd y.1 (by omega))
    · rw [bi_0] at z2; rw [z2, if_neg (by decide)]
      exact decide_eq_false (fun y => y.2 ((q80 rf).mp z3))
    · rw [bi_0] at z2; rw [z2, if_neg (by decide)]
      exact decide_eq_true ⟨z, fun y => z3 ((q80 rf).mpr y)⟩
    · rw [bi_n] at z2; rw [z2, if_pos rfl]
      rw [bi_0] at z3; rw [z3] at hb
      have := of_decide_eq_false hb.symm
      exact decide_eq_true ⟨z, fun y => this y.1⟩
    · rw [bi_n] at z2; rw [z2, if_pos rfl]
      exact decide_eq_true ⟨z, fun y => y.2 z4⟩
    · rw [bi_n] at z2; rw [z2, if_pos rfl]
      rw [bi_n] at z3; rw [z3] at hb
      exact decide_eq_false (fun y => y.2 ⟨of_decide_eq_true hb.symm, z4⟩)
  exact ⟨qand_Rg _ _, fun z => h32 false (decide_eq_false (fun y => y z)).symm, fun z => h32 true (decide_eq_true z).symm⟩
end MM
