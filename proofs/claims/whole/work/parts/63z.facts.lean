/-! what is known of a file that reads -/
section FC
variable {B : Int → Int} {n p q : Int} {π : qP}
theorem rPls_fin : ∀ (d : Nat) (q r : Int), q ≤ n → rPls π B n d q = .inr r → r = q + 2 * d ∧ r ≤ n := by
  intro d
  induction d with
  | zero => intro q r hq h; cases h; omega
  | succ d ih =>
    intro q r hq h
    unfold rPls at h
    obtain ⟨_, h1, h⟩ := bd_inr.mp h
    have := (rPl_r h1).1
    have := ih _ _ (by omega) h
    omega
theorem rHead_fin (hB : qB B n) (h0 : 0 ≤ p) {r : Int} (h : rHead π B n p = .inr r) : r = p + 8 + 2 * b2 B (p + 6) ∧ r ≤ n ∧ 0 ≤ b2 B (p + 6) := by
  unfold rHead at h
  obtain ⟨_, h1, h⟩ := bd_inr.mp h
  obtain ⟨_, h1, h⟩ := bd_inr.mp h
  obtain ⟨_, h1, h⟩ := bd_inr.mp h
  obtain ⟨_, h1, h⟩ := bd_inr.mp h
  obtain ⟨_, h1, h⟩ := bd_inr.mp h
  obtain ⟨m, h2, h⟩ := bd_inr.mp h
  obtain ⟨e1, rfl⟩ := rU2_r h2
  have e2 := b2_rg hB (p := p + 6) (by omega) e1
  have := rPls_fin _ _ _ (by omega) h
  omega
theorem rMem_fin {me : Bool} {k : Int} {MP : Int → Int} (h0 : 0 ≤ q) {r : Int × (Int → Int)} (h : rMem π B n me k MP q = .inr r) : q + 8 ≤ r.1 ∧ r.1 ≤ n ∧ pT π (b2 B (q + 4)) = 1 ∧ attOk B n (if me = true then 2 else 1) r.2 := by
  unfold rMem at h
  split at h
  · next c =>
    obtain ⟨_, h2, h⟩ := bd_inr.mp h
    obtain ⟨y, h3, h⟩ := bd_inr.mp h
    obtain ⟨_, h4, h⟩ := bd_inr.mp h
    cases h
    have := rAtts_inv (by omega) h3
    rw [if_pos c]
    exact ⟨by omega, this.2.2, (rMH_r h2).2, this.1⟩
  · next c =>
    obtain ⟨_, h2, h⟩ := bd_inr.mp h
    have := rAtts_inv (by omega) h
    rw [if_neg c]
    exact ⟨by omega, this.2.2, (rFH_r h2).2, this.1⟩
/-- the members that were read -/
def mOk (π : qP) (B : Int → Int) (n : Int) (me : Bool) (p0 : Int) (MP : Int → Int) (MA : Int → Int → Int) (k : Int) : Prop := p0 ≤ MP k ∧ MP k + 8 ≤ n ∧ pT π (b2 B (MP k + 4)) = 1 ∧ attOk B n (if me = true then 2 else 1) (MA k)
theorem rMs_fin {me : Bool} {p0 : Int} (hp : 0 ≤ p0) : ∀ (d : Nat) (k q : Int) (MP : Int → Int) (MA : Int → Int → Int) (r : Int × (Int → Int) × (Int → Int → Int)), p0 ≤ q → q ≤ n → 0 ≤ k → (∀ j, 0 ≤ j → j < k → mOk π B n me p0 MP MA j) → rMs π B n me d k q MP MA = .inr r → q + 8 * d ≤ r.1 ∧ r.1 ≤ n ∧ ∀ j, 0 ≤ j → j < k + d → mOk π B n me p0 r.2.1 r.2.2 j := by
  intro d
  induction d with
  | zero => intro k q MP MA r h0 hq k0 hI h; cases h; exact ⟨by omega, hq, fun j j0 j1 => hI j j0 (by omega)⟩
  | succ d ih =>
    intro k q MP MA r h0 hq k0 hI h
    unfold rMs at h
    obtain ⟨z, h1, h⟩ := bd_inr.mp h
    have e := rMem_fin (by omega) h1
    have := ih (k + 1) z.1 _ _ r (by omega) e.2.1 (by omega) (fun j j0 j1 => ?_) h
    · exact ⟨by omega, this.2.1, fun j j0 j1 => this.2.2 j j0 (by omega)⟩
    · unfold mOk
      rw [upI_at, upF_at]
      by_cases c : j = k
      · rw [if_pos c, if_pos c]; exact ⟨h0, by omega, e.2.2⟩
      · rw [if_neg c, if_neg c]; exact hI j j0 (by omega)
theorem rMbs_fin (hB : qB B n) {me : Bool} (h0 : 0 ≤ p) {r : Int × (Int → Int) × (Int → Int → Int)} (h : rMbs π B n me p = .inr r) : p + 2 + 8 * b2 B p ≤ r.1 ∧ r.1 ≤ n ∧ 0 ≤ b2 B p ∧ ∀ j, 0 ≤ j → j < b2 B p → mOk π B n me (p + 2) r.2.1 r.2.2 j := by
  unfold rMbs at h
  obtain ⟨m, h1, h⟩ := bd_inr.mp h
  obtain ⟨e1, rfl⟩ := rU2_r h1
  have e2 := b2_rg hB h0 e1
  have := rMs_fin (p0 := p + 2) (by omega) _ _ _ _ _ _ (by omega) e1 (by decide) (fun j j0 j1 => absurd j1 (by omega)) h
  exact ⟨by omega, this.2.1, e2.1, fun j j0 j1 => this.2.2 j j0 (by omega)⟩
/-- the counts of the whole's attributes -/
def attW (B : Int → Int) (n : Int) (att : Int → Int) : Prop := (0 ≤ att 4 → 0 ≤ b2 B (att 4) ∧ att 4 + 2 + 8 * b2 B (att 4) ≤ n) ∧ (0 ≤ att 5 → att 5 + 4 ≤ n) ∧ (0 ≤ att 7 → 0 ≤ b2 B (att 7) ∧ att 7 + 2 + 2 * b2 B (att 7) ≤ n) ∧ (0 ≤ att 8 → 0 ≤ b2 B (att 8) ∧ att 8 + 2 + 2 * b2 B (att 8) ≤ n) ∧ (0 ≤ att 9 → 0 ≤ b2 B (att 9) ∧ bpos B (att 9 + 2) (b2 B (att 9)).toNat ≤ n ∧ ∀ k : Nat, (k : Int) ≤ b2 B (att 9) → att 9 + 2 + 4 * k ≤ bpos B (att 9 + 2) k)
theorem rBts_fin (hB : qB B n) : ∀ (d : Nat) (q r : Int), 0 ≤ q → q ≤ n → rBts π B n d q = .inr r → r = bpos B q d ∧ r ≤ n ∧ ∀ k : Nat, k ≤ d → q + 4 * k ≤ bpos B q k := by
  intro d
  induction d with
  | zero =>
    intro q r h0 hq h
    cases h
    refine ⟨rfl, hq, fun k hk => ?_⟩
    have : k = 0 := by omega
    subst this
    unfold bpos
    omega
  | succ d ih =>
    intro q r h0 hq h
    unfold rBts at h
    obtain ⟨_, h1, h6⟩ := bd_inr.mp h
    obtain ⟨m, h2, h7⟩ := bd_inr.mp h6
    obtain ⟨x, h3, h8⟩ := bd_inr.mp h7
    obtain ⟨e1, rfl⟩ := rU2_r h2
    have e2 := b2_rg hB (p := q + 2) (by omega) (by omega)
    have e3 := rLds_r _ _ _ (by omega) h3
    have e4 : x = q + 4 + 2 * b2 B (q + 2) := by omega
    have := ih _ _ (by omega) (by omega) h8
    refine ⟨by rw [bpos_succ, ← e4]; exact this.1, this.2.1, fun k hk => ?_⟩
    cases k with
    | zero => unfold bpos; omega
    | succ k =>
      have := this.2.2 k (by omega)
      rw [bpos_succ, ← e4]
      omega
theorem rAt_W (hB : qB B n) {pl dc : Int} : ∀ (d : Nat) (q : Int) (att : Int → Int) (r : Int × (Int → Int)), 2 ≤ q → q ≤ n → attW B n att → rAt π B n pl dc d q att = .inr r → attW B n r.2 := by
  intro d
  induction d with
  | zero => intro q att r h0 h1 hI h; cases h; exact hI
  | succ d ih =>
    intro q att r h0 h1 hI h
    unfold rAt at h
    obtain ⟨nm, h2, h⟩ := bd_inr.mp h
    obtain ⟨_, h3, h⟩ := bd_inr.mp h
    obtain ⟨len, h4, h⟩ := bd_inr.mp h
    obtain ⟨z, h5, h⟩ := bd_inr.mp h
    obtain ⟨_, h6, h⟩ := bd_inr.mp h
    have e4 := rLen_r h4
    have e5 := rBody_rg h5 (by omega)
    have e6 := of_decide_eq_true (rCk_r h6)
    refine ih z _ r (by omega) e5.2 ?_ h
    obtain ⟨i4, i5, i7, i8, i9⟩ := hI
    by_cases k0 : kFind π pl nm = 0
    · rw [k0, kSet_0]; exact ⟨i4, i5, i7, i8, i9⟩
    · obtain ⟨kn, hkn⟩ : ∃ kn, kn = kFind π pl nm := ⟨_, rfl⟩
      rw [← hkn] at k0 h5 ⊢
      unfold rBody at h5
      refine ⟨fun y => ?_, fun y => ?_, fun y => ?_, fun y => ?_, fun y => ?_⟩
      · rw [kSet_at _ _ _ k0] at y ⊢
        by_cases c : 4 = kn
        · subst c
          rw [if_pos rfl]
          rw [if_neg (by decide), if_neg (by decide), if_neg (by decide), if_pos rfl] at h5
          unfold rInner at h5
          obtain ⟨m, h7, h8⟩ := bd_inr.mp h5
          obtain ⟨e1, rfl⟩ := rU2_r h7
          have e2 := b2_rg hB (p := q + 6) (by omega) e1
          have := rIns_rg _ _ _ e1 h8
          omega
        · rw [if_neg c] at y ⊢; exact i4 y
      · rw [kSet_at _ _ _ k0] at y ⊢
        by_cases c : 5 = kn
        · subst c
          rw [if_pos rfl]
          rw [if_neg (by decide), if_neg (by decide), if_neg (by decide), if_neg (by decide), if_pos rfl] at h5
          obtain ⟨m, h7, h8⟩ := bd_inr.mp h5
          obtain ⟨m2, h9, h10⟩ := bd_inr.mp h8
          have := (rTake0_r h9).1
          omega
        · rw [if_neg c] at y ⊢; exact i5 y
      · rw [kSet_at _ _ _ k0] at y ⊢
        by_cases c : 7 = kn
        · subst c
          rw [if_pos rfl]
          rw [if_neg (by decide), if_neg (by decide), if_neg (by decide), if_neg (by decide), if_neg (by decide), if_neg (by decide), if_pos rfl] at h5
          unfold rCls at h5
          obtain ⟨m, h7, h8⟩ := bd_inr.mp h5
          obtain ⟨e1, rfl⟩ := rU2_r h7
          have e2 := b2_rg hB (p := q + 6) (by omega) e1
          have := rTks_rg _ _ _ e1 h8
          omega
        · rw [if_neg c] at y ⊢; exact i7 y
      · rw [kSet_at _ _ _ k0] at y ⊢
        by_cases c : 8 = kn
        · subst c
          rw [if_pos rfl]
          rw [if_neg (by decide), if_neg (by decide), if_neg (by decide), if_neg (by decide), if_neg (by decide), if_neg (by decide), if_neg (by decide), if_pos rfl] at h5
          unfold rCls at h5
          obtain ⟨m, h7, h8⟩ := bd_inr.mp h5
          obtain ⟨e1, rfl⟩ := rU2_r h7
          have e2 := b2_rg hB (p := q + 6) (by omega) e1
          have := rTks_rg _ _ _ e1 h8
          omega
        · rw [if_neg c] at y ⊢; exact i8 y
      · rw [kSet_at _ _ _ k0] at y ⊢
        by_cases c : 9 = kn
        · subst c
          rw [if_pos rfl]
          rw [if_neg (by decide), if_neg (by decide), if_neg (by decide), if_neg (by decide), if_neg (by decide), if_neg (by decide), if_neg (by decide), if_neg (by decide), if_pos rfl] at h5
          unfold rBoots at h5
          obtain ⟨m, h7, h8⟩ := bd_inr.mp h5
          obtain ⟨e1, rfl⟩ := rU2_r h7
          have e2 := b2_rg hB (p := q + 6) (by omega) e1
          have := rBts_fin hB _ _ _ (by omega) e1 h8
          exact ⟨e2.1, by rw [← this.1]; exact this.2.1, fun k hk => this.2.2 k (by omega)⟩
        · rw [if_neg c] at y ⊢; exact i9 y
theorem rAtts_W (hB : qB B n) {pl dc : Int} (h0 : 0 ≤ q) {r : Int × (Int → Int)} (h : rAtts π B n pl dc q = .inr r) : attW B n r.2 := by
  unfold rAtts at h
  obtain ⟨m, h1, h⟩ := bd_inr.mp h
  exact rAt_W hB _ _ _ _ (by omega) (rU2_r h1).1 ⟨fun y => absurd y (by decide), fun y => absurd y (by decide), fun y => absurd y (by decide), fun y => absurd y (by decide), fun y => absurd y (by decide)⟩ h
theorem rRest_r {r : qRes2} (h : rRest B n = .inr r) : rEnts B n = .inr (r.1, r.2.1) ∧ rLk (mkP B r.1) (r.1 - 1).toNat 1 = .inr () ∧ rHead (mkP B r.1) B n r.2.1 = .inr r.2.2.1 ∧ rMbs (mkP B r.1) B n false r.2.2.1 = .inr r.2.2.2.1 ∧ rMbs (mkP B r.1) B n true r.2.2.2.1.1 = .inr r.2.2.2.2.1 ∧ rAtts (mkP B r.1) B n 3 (-2) r.2.2.2.2.1.1 = .inr r.2.2.2.2.2 ∧ r.2.2.2.2.2.1 = n := by
  unfold rRest at h
  obtain ⟨e, h1, h⟩ := bd_inr.mp h
  obtain ⟨_, h2, h⟩ := bd_inr.mp h
  obtain ⟨hd, h3, h⟩ := bd_inr.mp h
  obtain ⟨F, h4, h⟩ := bd_inr.mp h
  obtain ⟨M, h5, h⟩ := bd_inr.mp h
  obtain ⟨A, h6, h⟩ := bd_inr.mp h
  obtain ⟨_, h7, h⟩ := bd_inr.mp h
  obtain ⟨_, h8, h⟩ := bd_inr.mp h
  cases h
  exact ⟨h1, h2, h3, h4, h5, h6, of_decide_eq_true (rCk_r h7)⟩
/-- all that is wanted of it later -/
theorem rRest_fin (hB : qB B n) {r : qRes2} (h : rRest B n = .inr r) : qPok (mkP B r.1) ∧ 10 ≤ r.2.1 ∧ r.2.1 + 8 + 2 * b2 B (r.2.1 + 6) ≤ n ∧ 0 ≤ b2 B (r.2.1 + 6) ∧ 18 ≤ r.2.2.1 ∧ r.2.2.1 ≤ n ∧ 0 ≤ b2 B r.2.2.1 ∧ b2 B r.2.2.1 ≤ 60 ∧ 0 ≤ b2 B r.2.2.2.1.1 ∧ b2 B r.2.2.2.1.1 ≤ 60 ∧ (∀ j, 0 ≤ j → j < b2 B r.2.2.1 → mOk (mkP B r.1) B n false (r.2.2.1 + 2) r.2.2.2.1.2.1 r.2.2.2.1.2.2 j) ∧ (∀ j, 0 ≤ j → j < b2 B r.2.2.2.1.1 → mOk (mkP B r.1) B n true (r.2.2.2.1.1 + 2) r.2.2.2.2.1.2.1 r.2.2.2.2.1.2.2 j) ∧ attOk B n 3 r.2.2.2.2.2.2 ∧ attW B n r.2.2.2.2.2.2 ∧ r.1 = b2 B 8 ∧ 10 ≤ n := by
  have h5 := hB.2.1
  obtain ⟨h1, h2, h3, h4, hM, h6, h7⟩ := rRest_r h
  obtain ⟨e1, e2, e3, e4, e5⟩ := rEnts_rg hB h1
  have e1 : 10 ≤ r.2.1 := e1
  have e2 : r.2.1 ≤ n := e2
  have a := rHead_fin hB (by omega) h3
  have b := rMbs_fin hB (by omega) h4
  have c := rMbs_fin hB (by omega) hM
  have d := rAtts_inv (by omega) h6
  have d2 := rAtts_W hB (by omega) h6
  exact ⟨mkP_ok hB e3 e4 (by omega), e1, by omega, a.2.2, by omega, a.2.1, b.2.2.1, by omega, c.2.2.1, by omega, b.2.2.2, c.2.2.2, d.1, d2, e5, by omega⟩
end FC
