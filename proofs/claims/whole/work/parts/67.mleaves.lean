/-! THE MODEL, its leaves: words, tags, characters -/
def wM : Nat → List Nat
  | 9 => wInit
  | 10 => wClinit
  | 11 => wStr
  | 12 => [98, 121, 116, 101]
  | 13 => [99, 104, 97, 114]
  | 14 => [100, 111, 117, 98, 108, 101]
  | 15 => [102, 108, 111, 97, 116]
  | 16 => [105, 110, 116]
  | 17 => [108, 111, 110, 103]
  | 18 => [115, 104, 111, 114, 116]
  | 19 => [98, 111, 111, 108, 101, 97, 110]
  | 20 => [118, 111, 105, 100]
  | j => wK (j + 1)
def wOff : Nat → Nat
  | 0 => 0
  | j + 1 => wOff j + (wM j).length + 1
def wLt : List Nat := (List.range 21).flatMap (fun j => wM j ++ [0])
def mL (s : qS) : Prop := ∀ j : Nat, j < 203 → s 26 (j : Int) = ((wLt.getD j 0 : Nat) : Int)
theorem wLt_in : ∀ j < 21, ∀ k < (wM j).length, wLt.getD (wOff j + k) 0 = (wM j).getD k 0 ∧ (wM j).getD k 0 ≠ 0 ∧ (wM j).getD k 0 < 65536 := by decide +kernel
theorem wLt_end : ∀ j < 21, wLt.getD (wOff j + (wM j).length) 0 = 0 ∧ wOff j + (wM j).length < 203 := by decide +kernel
theorem qor8 {a b : Int} (ha : 0 ≤ a ∧ a ≤ 255) (hb : 0 ≤ b ∧ b ≤ 255) : qor (qshl a 8) b = 256 * a + b := by
  have h := qshlor8 (a := a) hb.1 (by omega : b < 256)
  rwa [qi_eq (a := qor (qshl a 8) b) (qi_rg _) ⟨by omega, by omega⟩] at h
theorem qor16 {a b : Int} (hb : 0 ≤ b ∧ b ≤ 65535) : qor (qshl a 16) b = (Int32.ofInt (65536 * a + b)).toInt := by
  have h := congrArg Int32.toInt (qshlor16 (a := a) hb.1 (by omega : b < 65536))
  rwa [qi_toInt (a := qor (qshl a 16) b) (qi_rg _)] at h
section ML
variable {w : qE} {s s0 : qS} {B : Int → Int} {n c i k : Int} {f : Int → qS → Prop} {fv : qS → Prop} {g : Nat → qS → Prop}
theorem m125 {v a b : Int} (hv : Rg v) (ha : Rg a) (hb : Rg b) (H : f (bi (decide (a ≤ v ∧ v ≤ b))) s) : qW w 1 125 [qI v, qI a, qI b] s (qPI f g) := by
  refine k125 ⟨hv, ha, fun d => k125_14 (k125_15 ⟨Or.inl rfl, ?_⟩), fun d => ⟨hb, fun e => k125_14 (k125_15 ⟨Or.inl rfl, ?_⟩), fun e => k125_15 ⟨Or.inr rfl, ?_⟩⟩⟩
  · rw [decide_eq_false (by omega)] at H; exact H
  · rw [decide_eq_false (by omega)] at H; exact H
  · rw [decide_eq_true ⟨d, e⟩] at H; exact H
theorem m156_word (hL : mL s) {t : Nat} {T : Int} (hT : (t : Int) < T ∧ T ≤ 20) : ∀ (d k : Nat), k + d = (wM t).length → qR w 0 qm156 4 [(0, .ref 25), (1, qI T), (2, qI ((wOff (t + 1) : Nat) : Int)), (3, qI ((t + 1 : Nat) : Int))] [] s (qPI f g) → qR w 0 qm156 4 [(0, .ref 25), (1, qI T), (2, qI ((wOff t + k : Nat) : Int)), (3, qI (t : Int))] [] s (qPI f g) := by
  intro d
  have ht : t < 21 := by omega
  obtain ⟨e1, e2⟩ := wLt_end t ht
  induction d with
  | zero =>
    intro k hk H
    have hk : k = (wM t).length := by omega
    subst hk
    have e3 := hL _ e2
    rw [e1] at e3
    refine k156_4 ⟨⟨by omega, by omega⟩, ⟨by omega, by omega⟩, fun _ => ⟨by omega, by omega, ?_⟩, fun c => absurd c (by omega)⟩
    rw [e3]
    refine ⟨⟨by decide, by decide⟩, fun _ => k156_21 H, fun c => absurd rfl c⟩
  | succ d ih =>
    intro k hk H
    obtain ⟨e4, e5, e6⟩ := wLt_in t ht k (by omega)
    have e3 := hL (wOff t + k) (by omega)
    rw [e4] at e3
    refine k156_4 ⟨⟨by omega, by omega⟩, ⟨by omega, by omega⟩, fun _ => ⟨by omega, by omega, ?_⟩, fun c => absurd c (by omega)⟩
    rw [e3]
    refine ⟨⟨by omega, by omega⟩, fun c => absurd c (by omega), fun _ => k156_21 ?_⟩
    exact ih (k + 1) (by omega) H
theorem m156 {t : Nat} (ht : t ≤ 20) (hL : mL s) (H : f ((wOff t : Nat) : Int) s) : qW w 1 156 [.ref 25, qI (t : Int)] s (qPI f g) := by
  have key : ∀ (d u : Nat), u + d = t → qR w 0 qm156 4 [(0, .ref 25), (1, qI (t : Int)), (2, qI ((wOff u : Nat) : Int)), (3, qI (u : Int))] [] s (qPI f g) := by
    intro d
    induction d with
    | zero =>
      intro u hu
      have hu : u = t := by omega
      subst hu
      exact k156_4 ⟨⟨by omega, by omega⟩, ⟨by omega, by omega⟩, fun c => absurd c (by omega), fun _ => H⟩
    | succ d ih =>
      intro u hu
      exact m156_word hL (t := u) (T := (t : Int)) ⟨by omega, by omega⟩ (wM u).length 0 (by omega) (ih (u + 1) (by omega))
  exact k156 (key t 0 (by omega))
/-- a pool that has been read, and what its places hold -/
def mG (B : Int → Int) (n c : Int) : Prop := qB B n ∧ 1 ≤ c ∧ 10 ≤ n ∧ ∃ q, rEn B n c 300 1 10 = .inr q
def mPo (s : qS) (B : Int → Int) (n c : Int) : Prop := mG B n c ∧ s 25 11 = c ∧ (∀ i, 1 ≤ i → i < c → s 29 i = mkA B c i) ∧ (∀ i, 0 ≤ i → i < n → s 28 i = B i) ∧ mL s
theorem mPo.fr {s' : qS} (h : mPo s B n c) (h0 : s' 25 11 = s 25 11) (h1 : s' 26 = s 26) (h2 : s' 28 = s 28) (h3 : s' 29 = s 29) : mPo s' B n c := by
  obtain ⟨a1, a2, a3, a4, a5⟩ := h
  refine ⟨a1, by rw [h0]; exact a2, by rw [h3]; exact a3, by rw [h2]; exact a4, ?_⟩
  unfold mL
  rw [h1]
  exact a5
def okTag (t : Int) : Prop := t = 1 ∨ t = 3 ∨ t = 4 ∨ t = 5 ∨ t = 6 ∨ t = 7 ∨ t = 8 ∨ t = 9 ∨ t = 10 ∨ t = 11 ∨ t = 12 ∨ t = 15 ∨ t = 16 ∨ t = 17 ∨ t = 18
theorem eBody_tag {p t q : Int} (h : eBody B n p t = .inr q) : okTag t := by
  unfold eBody at h
  unfold okTag
  split at h
  · omega
  · split at h
    · omega
    · split at h
      · omega
      · split at h
        · omega
        · split at h
          · omega
          · split at h
            · omega
            · cases h
theorem mG.lim (h : mG B n c) : c ≤ 164 := by
  obtain ⟨hB, hc, hn, q, hq⟩ := h
  have h5 := hB.2.1
  have := rEn_c hB 300 1 10 q (by decide) (by decide) hc hn (by decide) hq
  omega
theorem mG.on (h : mG B n c) (hi : xOn c (mkA B c) i = true) : (1 ≤ i ∧ i < c) ∧ 10 ≤ mkA B c i ∧ mkA B c i + eLen B (mkA B c i) ≤ n ∧ 3 ≤ eLen B (mkA B c i) ∧ okTag (B (mkA B c i)) ∧ pT (mkP B c) i = B (mkA B c i) := by
  obtain ⟨hB, hc, hn, q, hq⟩ := h
  obtain ⟨a1, a2, a3, a4, r, a5⟩ := mkA_val hB hq hi
  have b := eBody_r hB (by omega) a4 a5
  have d := eBody_tag a5
  refine ⟨⟨a1, a2⟩, a3, by omega, by omega, d, ?_⟩
  show xT B c (mkA B c) i = _
  unfold xT
  rw [if_pos hi]
theorem mG.ok (h : mG B n c) : qPok (mkP B c) := by
  obtain ⟨hB, hc, hn, q, hq⟩ := h
  exact mkP_ok hB hc hq hn
theorem pT_on (h : pT (mkP B c) i ≠ 0) : xOn c (mkA B c) i = true := by
  have h : xT B c (mkA B c) i ≠ 0 := h
  unfold xT at h
  split at h
  · assumption
  · exact absurd rfl h
theorem m139 (hP : mPo s B n c) (hi : Rg i) (H : f (pT (mkP B c) i) s) : qW w 2 139 [.ref 25, qI i] s (qPI f g) := by
  obtain ⟨hG, h1, h2, h3, -⟩ := hP
  have hc := hG.lim
  have hc1 := hG.2.1
  have hn := hG.1.2.1
  refine k139 (m125 hi ⟨by decide, by decide⟩ (by rw [h1]; exact ⟨by omega, by omega⟩) ⟨bi_rg _, fun z => k139_37 (k139_38 ?_), fun z => ?_⟩)
  · rw [bi_0, decide_eq_false_iff_not, h1] at z
    have : pT (mkP B c) i = 0 := by
      show xT B c (mkA B c) i = 0
      unfold xT xOn
      rw [decide_eq_false (by omega)]
      rfl
    rwa [this] at H
  · rw [bi_n, decide_eq_true_iff, h1] at z
    have e := h2 i (by omega) (by omega)
    refine ⟨by omega, by omega, ?_⟩
    by_cases on : xOn c (mkA B c) i = true
    · obtain ⟨-, a2, a3, a4, -, a6⟩ := hG.on on
      rw [e]
      refine ⟨⟨by omega, by omega⟩, fun y => absurd y (by omega), fun _ => ⟨by omega, by omega, by omega, by omega, k139_38 ?_⟩⟩
      rw [h3 _ (by omega) (by omega), ← a6]
      exact H
    · have e0 : pT (mkP B c) i = 0 := by
        show xT B c (mkA B c) i = 0
        unfold xT
        rw [if_neg on]
      unfold xOn at on
      rw [decide_eq_true_iff] at on
      rw [e0] at H
      rw [e]
      obtain ⟨hB, hc1, hn1, q, hq⟩ := hG
      refine ⟨?_, fun y => k139_37 (k139_38 H), fun y => absurd y (by omega)⟩
      rcases rEn_val hB 300 1 10 q (by decide) hq i (by omega) (by omega) with a | ⟨a1, a2, a3⟩
      · show Rg (qPl B c 300 1 10 i)
        rw [a]; exact ⟨by decide, by decide⟩
      · show Rg (qPl B c 300 1 10 i)
        exact ⟨by omega, by omega⟩
theorem m144 (hP : mPo s B n c) (hi : Rg i) (H : f (bi (decide (pT (mkP B c) i = 1))) s) : qW w 3 144 [.ref 25, qI i] s (qPI f g) := by
  have r := hP.1.ok.2.2.2.1 i
  refine k144 (m139 hP hi ⟨⟨by omega, by omega⟩, fun y => k144_14 ⟨Or.inr rfl, ?_⟩, fun y => k144_14 ⟨Or.inl rfl, ?_⟩⟩)
  · rw [decide_eq_true y] at H; exact H
  · rw [decide_eq_false y] at H; exact H
theorem m142 {p : Int} (hB : qB B n) (hK : ∀ i, 0 ≤ i → i < n → s 28 i = B i) (h0 : 0 ≤ p) (h1 : p + 2 ≤ n) (H : f (b2 B p) s) : qW w 1 142 [.ref 25, qI p] s (qPI f g) := by
  have h5 := hB.2.1
  have r1 := hB.2.2 p h0 (by omega)
  have r2 := hB.2.2 (p + 1) (by omega) (by omega)
  refine k142 ⟨h0, by omega, by omega, by omega, ?_⟩
  rw [hK p h0 (by omega), hK (p + 1) (by omega) (by omega), qor8 r1 r2]
  exact H
theorem m141 (hP : mPo s B n c) (hi : Rg i) (ht : 7 ≤ pT (mkP B c) i) (H : f (pF (mkP B c) i) s) : qW w 2 141 [.ref 25, qI i] s (qPI f g) := by
  obtain ⟨hG, h1, h2, h3, -⟩ := hP
  have on := pT_on (B := B) (c := c) (i := i) (by omega)
  obtain ⟨a1, a2, a3, a4, a5, a6⟩ := hG.on on
  have hc := hG.lim
  have hn := hG.1.2.1
  have hb := hG.1.2.2 (mkA B c i) (by omega) (by omega)
  have e : pF (mkP B c) i = eF B (mkA B c i) := by
    show xF B c (mkA B c) i = _
    unfold xF
    rw [if_pos on]
  rw [a6] at ht
  rw [e] at H
  unfold eF at H
  unfold eLen at a3
  rw [if_neg (by omega), if_neg (by omega)] at H
  refine k141 ⟨by omega, by omega, ?_⟩
  rw [h2 i a1.1 a1.2, h3 _ (by omega) (by omega)]
  refine ⟨by omega, by omega, ⟨by omega, by omega⟩, fun y => ⟨by omega, by omega, by omega, by omega, k141_44 ?_⟩, fun y => ⟨by omega, by omega, m142 hG.1 h3 (by omega) (by omega) (k141_44 ?_)⟩⟩
  · rw [if_pos y] at H
    rw [h3 _ (by omega) (by omega)]
    exact H
  · rw [if_neg y] at H
    exact H
theorem m143 (hP : mPo s B n c) (hi : Rg i) (ht : 7 ≤ pT (mkP B c) i) (H : f (pS (mkP B c) i) s) : qW w 2 143 [.ref 25, qI i] s (qPI f g) := by
  obtain ⟨hG, h1, h2, h3, -⟩ := hP
  have on := pT_on (B := B) (c := c) (i := i) (by omega)
  obtain ⟨a1, a2, a3, a4, a5, a6⟩ := hG.on on
  have hc := hG.lim
  have hn := hG.1.2.1
  have hb := hG.1.2.2 (mkA B c i) (by omega) (by omega)
  have e : pS (mkP B c) i = eS B (mkA B c i) := by
    show xS B c (mkA B c) i = _
    unfold xS
    rw [if_pos on]
  rw [a6] at ht
  rw [e] at H
  unfold eS at H
  unfold eLen at a3
  unfold okTag at a5
  rw [if_neg (by omega)] at H
  refine k143 ⟨by omega, by omega, ?_⟩
  rw [h2 i a1.1 a1.2, h3 _ (by omega) (by omega)]
  refine ⟨by omega, by omega, ⟨by omega, by omega⟩, fun y => ⟨by omega, by omega, m142 hG.1 h3 (by omega) (by omega) ?_⟩, fun y => ⟨fun y2 => ⟨fun y3 => k143_58 (k143_59 ?_), fun y3 => ⟨by omega, by omega, m142 hG.1 h3 (by omega) (by omega) (k143_59 ?_)⟩⟩, fun y2 => k143_58 (k143_59 ?_)⟩⟩
  · rw [if_neg (by omega), if_pos y] at H; exact H
  · rw [if_neg (by omega), if_neg (by omega)] at H; exact H
  · rw [if_pos (by omega)] at H; exact H
  · rw [if_neg (by omega), if_neg (by omega)] at H; exact H
theorem m137 {b : Int} (hb : Rg b) (H : f (cw b) s) : qW w 1 137 [qI b] s (qPI f g) := by
  unfold cw at H
  refine k137 ⟨hb, fun y => k137_23 ?_, fun y => ⟨fun y2 => k137_23 ?_, fun y2 => k137_23 ?_⟩⟩
  · rw [if_pos y] at H; exact H
  · rw [if_neg (by omega), if_pos y2] at H; exact H
  · rw [if_neg (by omega), if_neg (by omega)] at H; exact H
theorem rTx_end {e : Int} : ∀ (d : Nat) (p q : Int), p ≤ e → e - p ≤ d → rTx B e d p = .inr q → cpos B p (nch B e d p) = e := by
  intro d
  induction d with
  | zero => intro p q h1 h2 h; unfold nch cpos; omega
  | succ d ih =>
    intro p q h1 h2 h
    unfold rTx at h
    unfold nch
    split at h
    · next h3 =>
      split at h
      · next h4 =>
        rw [if_pos h3, Nat.add_comm, cpos_succ]
        have := cOk_r h4
        have := cw_rg (B p)
        exact ih _ q (by omega) (by omega) h
      · cases h
    · next h3 =>
      rw [if_neg h3]
      unfold cpos
      omega
/-- a text's places: where it stands, its end, its characters -/
theorem mG.tx (h : mG B n c) (ht : pT (mkP B c) i = 1) : ∃ P e : Int, ∃ N : Nat, mkA B c i = P ∧ (1 ≤ i ∧ i < c) ∧ 10 ≤ P ∧ B P = 1 ∧ P + 3 + b2 B (P + 1) = e ∧ e ≤ n ∧ pN (mkP B c) i = N ∧ pF (mkP B c) i = N ∧ cpos B (P + 3) N = e ∧ ∀ k : Nat, k < N → P + 3 ≤ cpos B (P + 3) k ∧ cOk B e (cpos B (P + 3) k) = true ∧ pC (mkP B c) i k = cDec B (cpos B (P + 3) k) := by
  have on := pT_on (B := B) (c := c) (i := i) (by omega)
  obtain ⟨a1, a2, a3, a4, a5, a6⟩ := h.on on
  have hk := h.ok.2.2.2.2 i ht
  obtain ⟨hB, hc, hn, q, hq⟩ := h
  obtain ⟨b1, b2', b3, b4', b5, b6⟩ := mkP_text hB hq ht
  refine ⟨mkA B c i, _, eN B (mkA B c i), rfl, a1, a2, b2', rfl, b4', rfl, ?_, ?_, fun k hk => ?_⟩
  · rw [hk.1]; rfl
  · exact rTx_end _ _ _ (by omega) (by omega) b6
  · obtain ⟨d1, d2⟩ := rTx_pos _ _ _ b6 k hk
    exact ⟨d1, d2, rfl⟩
theorem m146_58 {p e : Int} (hB : qB B n) (hK : ∀ i, 0 ≤ i → i < n → s 28 i = B i) (h0 : 0 ≤ p) (he : e ≤ n) (hc : cOk B e p = true) (H : f (cDec B p) s) : qR w 1 qm146 58 [(0, .ref 25), (3, qI p), (4, qI e)] [] s (qPI f g) := by
  have h5 := hB.2.1
  obtain ⟨a1, a2⟩ := cOk_r hc
  have cr := cw_rg (B p)
  have hb := hB.2.2 p h0 (by omega)
  have hcr := cw_rg (B p)
  refine k146_58 ⟨⟨by omega, by omega⟩, ⟨by omega, by omega⟩, fun _ => ⟨h0, by omega, ?_⟩, fun y => absurd y (by omega)⟩
  rw [hK p h0 (by omega)]
  refine m137 ⟨by omega, by omega⟩ ⟨⟨by omega, by omega⟩, fun y => k146_157 ?_, fun y => ⟨fun y2 => ⟨by omega, by omega, k146_157 ?_⟩, fun y2 => ⟨by omega, by omega, by omega, by omega, k146_157 ?_⟩⟩⟩
  · unfold cw at y
    unfold cDec at H
    split at y
    · next z => rw [if_pos z] at H; exact H
    · split at y <;> omega
  · have hw : cw (B p) = 2 := y2
    unfold cw at y y2
    unfold cDec at H
    have hb1 := hB.2.2 (p + 1) (by omega) (by omega)
    rw [hK (p + 1) (by omega) (by omega), m31 hb.1 hb.2, m63 hb1.1 hb1.2]
    split at y2
    · omega
    · next z =>
      split at y2
      · next z2 =>
        rw [if_neg z, if_pos z2] at H
        rwa [show B p % 32 * 64 + B (p + 1) % 64 = 64 * (B p % 32) + B (p + 1) % 64 by omega]
      · omega
  · have hw : cw (B p) = 3 := by omega
    unfold cw at y y2
    unfold cDec at H
    have hb1 := hB.2.2 (p + 1) (by omega) (by omega)
    have hb2 := hB.2.2 (p + 2) (by omega) (by omega)
    rw [hK (p + 1) (by omega) (by omega), hK (p + 2) (by omega) (by omega), m15 hb.1 hb.2, m63 hb1.1 hb1.2, m63 hb2.1 hb2.2]
    split at y
    · omega
    · next z =>
      rw [if_neg z] at y2
      split at y2
      · omega
      · next z2 =>
        rw [if_neg z, if_neg z2] at H
        rwa [show B p % 16 * 4096 + B (p + 1) % 64 * 64 + B (p + 2) % 64 = 64 * (64 * (B p % 16) + B (p + 1) % 64) + B (p + 2) % 64 by omega]
def mCh (B : Int → Int) (c i k : Int) : Int := if k < pN (mkP B c) i then pC (mkP B c) i k else -1
theorem mCh_rg (hG : mG B n c) (ht : pT (mkP B c) i = 1) (h0 : 0 ≤ k) : -1 ≤ mCh B c i k ∧ mCh B c i k ≤ 65535 := by
  have := hG.ok.2.2.2.2 i ht
  unfold mCh
  split
  · next h => have := this.2.2.2 k h0 h; omega
  · omega
theorem m146 (hP : mPo s B n c) (ht : pT (mkP B c) i = 1) (h0 : 0 ≤ k) (hk : Rg k) (H : f (mCh B c i k) s) : qW w 2 146 [.ref 25, qI i, qI k] s (qPI f g) := by
  obtain ⟨hG, h1, h2, h3, -⟩ := hP
  obtain ⟨P, e, N, eP, hi, hP0, hBP, ee, hen, eN', -, ec, ek⟩ := hG.tx ht
  have hB := hG.1
  have h5 := hB.2.1
  have hc := hG.lim
  have r2 := b2_rg hB (p := P + 1) (by omega) (by have := (hG.on (pT_on (i := i) (by omega))); unfold eLen at this; omega)
  unfold mCh at H
  rw [eN'] at H
  have key : ∀ (d j : Nat), j + d = N → (j : Int) ≤ k → qR w 1 qm146 28 [(0, .ref 25), (2, qI k), (3, qI (cpos B (P + 3) j)), (4, qI e), (5, qI (j : Int))] [] s (qPI f g) := by
    intro d
    induction d with
    | zero =>
      intro j hj hjk
      have hj : j = N := by omega
      subst hj
      rw [if_neg (by omega)] at H
      rw [ec]
      have hl : (j : Int) ≤ 500 := by have := hG.ok.2.2.2.2 i ht; omega
      have fin : qR w 1 qm146 58 [(0, .ref 25), (3, qI e), (4, qI e)] [] s (qPI f g) := k146_58 ⟨⟨by omega, by omega⟩, ⟨by omega, by omega⟩, fun y => absurd y (by omega), fun _ => H⟩
      exact k146_28 ⟨⟨by omega, by omega⟩, hk, fun _ => ⟨⟨by omega, by omega⟩, ⟨by omega, by omega⟩, fun y => absurd y (by omega), fun _ => fin⟩, fun _ => fin⟩
    | succ d ih =>
      intro j hj hjk
      obtain ⟨q1, q2, q3⟩ := ek j (by omega)
      obtain ⟨q4, q5⟩ := cOk_r q2
      have cr := cw_rg (B (cpos B (P + 3) j))
      have hl : (N : Int) ≤ 500 := by have := hG.ok.2.2.2.2 i ht; omega
      refine k146_28 ⟨⟨by omega, by omega⟩, hk, fun y => ⟨⟨by omega, by omega⟩, ⟨by omega, by omega⟩, fun _ => ⟨by omega, by omega, ?_⟩, fun y => absurd y (by omega)⟩, fun y => m146_58 hB h3 (by omega) hen q2 ?_⟩
      · have hb := hB.2.2 (cpos B (P + 3) j) (by omega) (by omega)
        rw [h3 _ (by omega) (by omega)]
        refine m137 ⟨by omega, by omega⟩ ?_
        exact ih (j + 1) (by omega) (by omega)
      · have : k = (j : Int) := by omega
        subst this
        rw [if_pos (by omega), q3] at H
        exact H
  refine k146 ⟨by omega, by omega, by omega, by omega, ?_⟩
  rw [h2 i hi.1 hi.2, eP]
  refine m142 hB h3 (by omega) (by omega) ?_
  rw [ee]
  exact key N 0 (by omega) h0
theorem m151 (hP : mPo s B n c) (ht : pT (mkP B c) i = 1) (H : f (pN (mkP B c) i) s) : qW w 2 151 [.ref 25, qI i] s (qPI f g) := by
  obtain ⟨hG, h1, h2, h3, -⟩ := hP
  obtain ⟨P, e, N, eP, hi, hP0, hBP, ee, hen, eN', -, ec, ek⟩ := hG.tx ht
  have hB := hG.1
  have h5 := hB.2.1
  have hc := hG.lim
  have r2 := b2_rg hB (p := P + 1) (by omega) (by have := (hG.on (pT_on (i := i) (by omega))); unfold eLen at this; omega)
  rw [eN'] at H
  have key : ∀ (d j : Nat), j + d = N → qR w 1 qm151 34 [(0, .ref 25), (2, qI (j : Int)), (3, qI e), (4, qI (cpos B (P + 3) j))] [] s (qPI f g) := by
    intro d
    induction d with
    | zero =>
      intro j hj
      have hj : j = N := by omega
      subst hj
      rw [ec]
      exact k151_34 ⟨⟨by omega, by omega⟩, ⟨by omega, by omega⟩, fun y => absurd y (by omega), fun _ => H⟩
    | succ d ih =>
      intro j hj
      obtain ⟨q1, q2, q3⟩ := ek j (by omega)
      obtain ⟨q4, q5⟩ := cOk_r q2
      have cr := cw_rg (B (cpos B (P + 3) j))
      refine k151_34 ⟨⟨by omega, by omega⟩, ⟨by omega, by omega⟩, fun _ => ⟨by omega, by omega, ?_⟩, fun y => absurd y (by omega)⟩
      have hb := hB.2.2 (cpos B (P + 3) j) (by omega) (by omega)
      rw [h3 _ (by omega) (by omega)]
      refine m137 ⟨by omega, by omega⟩ ?_
      exact ih (j + 1) (by omega)
  refine k151 ⟨by omega, by omega, by omega, by omega, ?_⟩
  rw [h2 i hi.1 hi.2, eP]
  refine m142 hB h3 (by omega) (by omega) ⟨by omega, by omega, ?_⟩
  rw [ee, h2 i hi.1 hi.2, eP]
  exact key N 0 (by omega)
theorem m155 {t : Nat} (htl : t ≤ 20) (hP : mPo s B n c) (ht : pT (mkP B c) i = 1) (H : f (bi (gIs (pC (mkP B c) i) 0 (pN (mkP B c) i) (wM t))) s) : qW w 3 155 [.ref 25, qI i, qI (t : Int)] s (qPI f g) := by
  have hok := hP.1.ok.2.2.2.2 i ht
  have hL := hP.2.2.2.2
  obtain ⟨e1, e2⟩ := wLt_end t (by omega)
  obtain ⟨N, hN⟩ : ∃ N : Nat, pN (mkP B c) i = N := ⟨_, (Int.toNat_of_nonneg hok.2.1).symm⟩
  rw [hN] at H hok
  have key : ∀ (d k : Nat), k + d = N → k ≤ (wM t).length → f (bi (decide (N = (wM t).length) && gWd (pC (mkP B c) i) ((wM t).drop k) k)) s → qR w 2 qm155 16 [(0, .ref 25), (1, qI i), (3, qI ((wOff t : Nat) : Int)), (4, qI (N : Int)), (5, qI (k : Int))] [] s (qPI f g) := by
    intro d
    induction d with
    | zero =>
      intro k hk hkl H
      have hk : k = N := by omega
      subst hk
      refine k155_16 ⟨⟨by omega, by omega⟩, ⟨by omega, by omega⟩, fun y => absurd y (by omega), fun _ => ⟨by omega, by omega, ?_⟩⟩
      have e3 := hL (wOff t + k) (by omega)
      rw [show ((wOff t : Nat) : Int) + (k : Int) = ((wOff t + k : Nat) : Int) by omega, e3]
      by_cases hkk : k = (wM t).length
      · rw [hkk, e1]
        rw [hkk, decide_eq_true rfl, List.drop_length] at H
        exact ⟨⟨by decide, by decide⟩, fun _ => k155_79 ⟨Or.inr rfl, H⟩, fun y => absurd rfl y⟩
      · obtain ⟨e4, e5, e6⟩ := wLt_in t (by omega) k (by omega)
        rw [e4]
        rw [decide_eq_false hkk] at H
        exact ⟨⟨by omega, by omega⟩, fun y => absurd y (by omega), fun _ => k155_79 ⟨Or.inl rfl, H⟩⟩
    | succ d ih =>
      intro k hk hkl H
      refine k155_16 ⟨⟨by omega, by omega⟩, ⟨by omega, by omega⟩, fun _ => ⟨by omega, by omega, ?_⟩, fun y => absurd y (by omega)⟩
      have e3 := hL (wOff t + k) (by omega)
      rw [show ((wOff t : Nat) : Int) + (k : Int) = ((wOff t + k : Nat) : Int) by omega, e3]
      by_cases hkk : k = (wM t).length
      · rw [hkk, e1]
        rw [decide_eq_false (show ¬ N = (wM t).length by omega)] at H
        exact ⟨⟨by decide, by decide⟩, fun _ => k155_54 H, fun y => absurd rfl y⟩
      · obtain ⟨e4, e5, e6⟩ := wLt_in t (by omega) k (by omega)
        rw [e4]
        refine ⟨⟨by omega, by omega⟩, fun y => absurd y (by omega), fun _ => ⟨by omega, by omega, ?_⟩⟩
        have ed : (wM t).drop k = (wM t).getD k 0 :: (wM t).drop (k + 1) := by
          rw [List.drop_eq_getElem_cons (by omega : k < (wM t).length), List.getD_eq_getElem?_getD, List.getElem?_eq_getElem (by omega : k < (wM t).length)]
          rfl
        rw [ed] at H
        unfold gWd at H
        have hch : mCh B c i k = pC (mkP B c) i k := by unfold mCh; rw [hN, if_pos (by omega)]
        have hr := hok.2.2.2 k (by omega) (by omega)
        refine m146 hP ht (by omega) ⟨by omega, by omega⟩ ?_
        rw [hch]
        refine ⟨⟨by omega, by omega⟩, fun y => ih (k + 1) (by omega) (by omega) ?_, fun y => k155_54 ?_⟩
        · have z0 : decide (pC (mkP B c) i k = (((wM t).getD k 0 : Nat) : Int)) = true := decide_eq_true y.symm
          rw [z0, Bool.true_and] at H
          exact H
        · have z0 : decide (pC (mkP B c) i k = (((wM t).getD k 0 : Nat) : Int)) = false := decide_eq_false (fun z => y z.symm)
          rw [z0, Bool.false_and, Bool.and_false] at H
          exact H
  refine k155 (m156 htl hL (m151 hP ht ?_))
  rw [hN]
  refine key N 0 (by omega) (by omega) ?_
  rw [List.drop_zero]
  unfold gIs at H
  rw [show (decide (N = (wM t).length)) = decide ((N : Int) - 0 = ((wM t).length : Int)) from decide_eq_decide.mpr (by omega)]
  exact H
theorem m165 {j : Int} (hP : mPo s B n c) (ht : pT (mkP B c) i = 1) (ht2 : pT (mkP B c) j = 1) (H : f (bi (psame (mkP B c) i j)) s) : qW w 3 165 [.ref 25, qI i, qI j] s (qPI f g) := by
  have hok := hP.1.ok.2.2.2.2 i ht
  have hok2 := hP.1.ok.2.2.2.2 j ht2
  unfold psame at H
  rw [decide_eq_true ht, decide_eq_true ht2, Bool.true_and, Bool.true_and] at H
  refine k165 (m151 hP ht (m151 hP ht2 ⟨⟨by omega, by omega⟩, ⟨by omega, by omega⟩, fun y => ?_, fun y => ?_⟩))
  · rw [decide_eq_true y, Bool.true_and] at H
    have key : ∀ (d : Nat) (k : Int), 0 ≤ k → k + d = pN (mkP B c) i → f (bi (gEq (pC (mkP B c) i) (pC (mkP B c) j) d k)) s → qR w 2 qm165 20 [(0, .ref 25), (1, qI i), (2, qI j), (3, qI (pN (mkP B c) i)), (4, qI k)] [] s (qPI f g) := by
      intro d
      induction d with
      | zero =>
        intro k k0 hk H
        exact k165_20 ⟨⟨by omega, by omega⟩, ⟨by omega, by omega⟩, fun z => absurd z (by omega), fun _ => H⟩
      | succ d ih =>
        intro k k0 hk H
        have r1 := hok.2.2.2 k k0 (by omega)
        have r2 := hok2.2.2.2 k k0 (by omega)
        have e1 : mCh B c i k = pC (mkP B c) i k := by unfold mCh; rw [if_pos (by omega)]
        have e2 : mCh B c j k = pC (mkP B c) j k := by unfold mCh; rw [if_pos (by omega)]
        refine k165_20 ⟨⟨by omega, by omega⟩, ⟨by omega, by omega⟩, fun _ => m146 hP ht k0 ⟨by omega, by omega⟩ (m146 hP ht2 k0 ⟨by omega, by omega⟩ ?_), fun z => absurd z (by omega)⟩
        rw [e1, e2]
        unfold gEq at H
        refine ⟨⟨by omega, by omega⟩, ⟨by omega, by omega⟩, fun z => ih (k + 1) (by omega) (by omega) ?_, fun z => ?_⟩
        · rw [decide_eq_true z, Bool.true_and] at H; exact H
        · rw [decide_eq_false z, Bool.false_and] at H; exact H
    exact key _ 0 (by omega) (by omega) H
  · rw [decide_eq_false y, Bool.false_and] at H; exact H
end ML
