/-! GRAMMAR: what CHARACTERS spell, as functions of the characters; and the class's Grammar -/
def bi (b : Bool) : Int := if b = true then 1 else 0
theorem bi_t : bi true = 1 := rfl
theorem bi_f : bi false = 0 := rfl
theorem bi_01 (b : Bool) : bi b = 0 ∨ bi b = 1 := by cases b <;> simp [bi]
theorem bi_rg (b : Bool) : Rg (bi b) := by cases b <;> exact ⟨by decide, by decide⟩
/-- a path from k on, d characters; b: a part begins here -/
def gPath (C : Int → Int) : Nat → Int → Bool → Bool
  | 0, _, b => !b
  | d + 1, k, b => if C k = 46 ∨ C k = 59 ∨ C k = 91 ∨ (b = true ∧ C k = 47) then false else gPath C d (k + 1) (decide (C k = 47))
def gBr (C : Int → Int) : Nat → Int → Int
  | 0, k => k
  | d + 1, k => if C k = 91 then gBr C d (k + 1) else k
def gSemi (C : Int → Int) : Nat → Int → Int
  | 0, k => k
  | d + 1, k => if C k = 59 then k else gSemi C d (k + 1)
def gBas (x : Int) : Bool := decide (x = 66 ∨ x = 67 ∨ x = 68 ∨ x = 70 ∨ x = 73 ∨ x = 74 ∨ x = 83 ∨ x = 90)
def gObj (C : Int → Int) (e q : Int) : Int := if gSemi C (e - (q + 1)).toNat (q + 1) < e ∧ gPath C (gSemi C (e - (q + 1)).toNat (q + 1) - (q + 1)).toNat (q + 1) true = true then gSemi C (e - (q + 1)).toNat (q + 1) + 1 else -1
def gFld (C : Int → Int) (e q : Int) : Int := if e ≤ q then -1 else if C q = 76 then gObj C e q else if gBas (C q) = true then q + 1 else -1
/-- behind the field descriptor that begins at k, or -1 -/
def gField (C : Int → Int) (e k : Int) : Int := gFld C e (gBr C (e - k).toNat k)
def gCl (C : Int → Int) (e : Int) : Nat → Int → Int
  | 0, k => if k < e then k else -1
  | d + 1, k => if k < e ∧ C k ≠ 41 then (if gField C e k = -1 then -1 else gCl C e d (gField C e k)) else if k < e then k else -1
def gWd (C : Int → Int) : List Nat → Int → Bool
  | [], _ => true
  | x :: r, k => decide (C k = (x : Int)) && gWd C r (k + 1)
def gIs (C : Int → Int) (k e : Int) (wd : List Nat) : Bool := decide (e - k = (wd.length : Int)) && gWd C wd k
def gMeth (C : Int → Int) (e k : Int) : Bool := decide (k < e) && (decide (C k = 40) && (decide (gCl C e 500 (k + 1) ≠ -1) && (gIs C (gCl C e 500 (k + 1) + 1) e [86] || decide (gField C e (gCl C e 500 (k + 1) + 1) = e))))
def gWide (x : Int) : Int := if x = 74 ∨ x = 68 then 2 else 1
def gSl (C : Int → Int) (e : Int) : Nat → Int → Int → Int
  | 0, _, acc => acc
  | d + 1, k, acc => if 0 ≤ k ∧ k < e ∧ C k ≠ 41 then gSl C e d (gField C e k) (acc + gWide (C k)) else acc
def gNoSl (C : Int → Int) : Nat → Int → Bool
  | 0, _ => true
  | d + 1, k => decide (C k ≠ 47) && gNoSl C d (k + 1)
def gAng (C : Int → Int) : Nat → Int → Bool
  | 0, _ => false
  | d + 1, k => decide (C k = 60 ∨ C k = 62) || gAng C d (k + 1)
def wInit : List Nat := [60, 105, 110, 105, 116, 62]
def wClinit : List Nat := [60, 99, 108, 105, 110, 105, 116, 62]
def gNK (C : Int → Int) (m : Int) : Int := if gIs C 0 m wInit = true then 67 else if gIs C 0 m wClinit = true then 131 else if (gPath C m.toNat 0 true && gNoSl C m.toNat 0) = true then (if gAng C m.toNat 0 = true then 1 else 3) else 0
def gK1 (b : Bool) (x : Int) : Int := if b = true then qor x 12 else x
def gK2 (b c : Bool) (x : Int) : Int := if b = true then (if c = true then qor x 24 else qor x 16) else x
def gK3 (b : Bool) (x : Int) : Int := if b = true then qor x 32 else x
/-- all that the characters are, as bits -/
def gK (C : Int → Int) (m : Int) : Int := gK3 (gMeth C m 0) (gK2 (decide (gField C m 0 = m)) (decide (C 0 = 91)) (gK1 (gPath C m.toNat 0 true) (gNK C m)))
def gab (a r : Int) : Int := if r = -1 then -1 else a + r
/-- the characters of a text as they stand in the class's array -/
def gcx (s : qS) (a m : Int) (C : Int → Int) : Prop := 0 ≤ a ∧ 0 ≤ m ∧ a + m ≤ 500 ∧ ∀ k, 0 ≤ k → k < m → s 6 (a + k) = C k ∧ 0 ≤ C k ∧ C k ≤ 65535
theorem gBr_rg (C : Int → Int) : ∀ (d : Nat) (k : Int), k ≤ gBr C d k ∧ gBr C d k ≤ k + d := by
  intro d
  induction d with
  | zero => intro k; simp [gBr]
  | succ d ih =>
    intro k
    unfold gBr
    split
    · have := ih (k + 1); omega
    · omega
theorem gSemi_rg (C : Int → Int) : ∀ (d : Nat) (k : Int), k ≤ gSemi C d k ∧ gSemi C d k ≤ k + d := by
  intro d
  induction d with
  | zero => intro k; simp [gSemi]
  | succ d ih =>
    intro k
    unfold gSemi
    split
    · omega
    · have := ih (k + 1); omega
theorem gField_rg (C : Int → Int) (e k : Int) : gField C e k = -1 ∨ (k < gField C e k ∧ gField C e k ≤ e) := by
  unfold gField gFld
  have h1 := gBr_rg C (e - k).toNat k
  split
  · exact Or.inl rfl
  · next h2 =>
    split
    · unfold gObj
      have h3 := gSemi_rg C (e - (gBr C (e - k).toNat k + 1)).toNat (gBr C (e - k).toNat k + 1)
      split
      · right; omega
      · exact Or.inl rfl
    · split
      · right; omega
      · exact Or.inl rfl
theorem gCl_rg (C : Int → Int) (e : Int) : ∀ (d : Nat) (k : Int), gCl C e d k = -1 ∨ (k ≤ gCl C e d k ∧ gCl C e d k < e) := by
  intro d
  induction d with
  | zero =>
    intro k
    unfold gCl
    split
    · right; omega
    · exact Or.inl rfl
  | succ d ih =>
    intro k
    unfold gCl
    split
    · next h =>
      split
      · exact Or.inl rfl
      · next h2 =>
        have h3 := gField_rg C e k
        have h4 := ih (gField C e k)
        omega
    · split
      · right; omega
      · exact Or.inl rfl
section GR
variable {w : qE} {s : qS} {a m e k x y : Int} {C : Int → Int} {f : Int → qS → Prop} {g : Nat → qS → Prop}
theorem c42_loop (hG : gcx s a m C) (he : e ≤ m) : ∀ (d : Nat) (k : Int) (b : Bool), 0 ≤ k → k + d = e → f (bi (gPath C d k b)) s → qR w 0 qm42 5 [(0, .ref 6), (2, qI (a + e)), (3, qI (bi b)), (4, qI (a + k))] [] s (qPI f g) := by
  obtain ⟨g1, g2, g3, g4⟩ := hG
  intro d
  induction d with
  | zero =>
    intro k b h0 h1 H
    refine k42_5 ⟨⟨by omega, by omega⟩, ⟨by omega, by omega⟩, fun c => absurd c (by omega), fun _ => ?_⟩
    cases b
    · exact ⟨⟨by decide, by decide⟩, fun _ => k42_83 ⟨Or.inr rfl, H⟩, fun c => absurd rfl c⟩
    · exact ⟨⟨by decide, by decide⟩, fun c => absurd c (by decide), fun _ => k42_83 ⟨Or.inl rfl, H⟩⟩
  | succ d ih =>
    intro k b h0 h1 H
    obtain ⟨q1, q2, q3⟩ := g4 k h0 (by omega)
    have hn : ∀ b2 : Bool, b2 = decide (C k = 47) → f (bi (gPath C d (k + 1) b2)) s → qR w 0 qm42 53 [(0, .ref 6), (2, qI (a + e)), (4, qI (a + k))] [] s (qPI f g) := by
      intro b2 hb2 H
      refine k42_53 ⟨by omega, by omega, ?_⟩
      rw [q1]
      have := ih (k + 1) b2 (by omega) (by omega) H
      refine ⟨⟨by omega, by omega⟩, fun c => k42_67 ?_, fun c => k42_67 ?_⟩
      · rw [hb2, decide_eq_true c, bi_t] at this
        rw [Int.add_assoc]; exact this
      · rw [hb2, decide_eq_false c, bi_f] at this
        rw [Int.add_assoc]; exact this
    unfold gPath at H
    refine k42_5 ⟨⟨by omega, by omega⟩, ⟨by omega, by omega⟩, fun _ => ?_, fun c => absurd c (by omega)⟩
    rw [q1]
    refine ⟨by omega, by omega, ⟨by omega, by omega⟩, fun c => k42_51 ?_, fun c1 => ⟨by omega, by omega, fun c => k42_51 ?_, fun c2 => ⟨by omega, by omega, fun c => k42_51 ?_, fun c3 => ?_⟩⟩⟩
    · rw [if_pos (Or.inl c)] at H; exact H
    · rw [if_pos (Or.inr (Or.inl c))] at H; exact H
    · rw [if_pos (Or.inr (Or.inr (Or.inl c)))] at H; exact H
    · cases b
      · refine ⟨⟨by decide, by decide⟩, fun _ => ?_, fun c => absurd rfl c⟩
        rw [if_neg (by simp [c1, c2, c3])] at H
        exact hn _ rfl H
      · refine ⟨⟨by decide, by decide⟩, fun c => absurd c (by decide), fun _ => ⟨by omega, by omega, fun c => k42_51 ?_, fun c4 => ?_⟩⟩
        · rw [if_pos (Or.inr (Or.inr (Or.inr ⟨rfl, c⟩)))] at H; exact H
        · rw [if_neg (by simp [c1, c2, c3, c4])] at H
          exact hn _ rfl H
theorem c42 (hG : gcx s a m C) (h0 : 0 ≤ k) (hk : k ≤ e) (he : e ≤ m) (hx : x = a + k) (hy : y = a + e) (H : f (bi (gPath C (e - k).toNat k true)) s) : qW w 1 42 [.ref 6, qI x, qI y] s (qPI f g) := by
  subst hx hy
  exact k42 (c42_loop hG he (e - k).toNat k true h0 (by omega) H)
theorem c44 (hx : Rg x) (H : f (bi (gBas x)) s) : qW w 1 44 [qI x] s (qPI f g) := by
  refine k44 ⟨hx, fun c => ?_, fun c1 c2 c3 c4 c5 c6 c7 c8 => ?_⟩
  · have : gBas x = true := decide_eq_true c
    rw [this] at H; exact H
  · have : gBas x = false := by unfold gBas; simp [c1, c2, c3, c4, c5, c6, c7, c8]
    rw [this] at H; exact H
theorem c66 (hx : Rg x) (H : f (bi (decide (x = 74 ∨ x = 68))) s) : qW w 1 66 [qI x] s (qPI f g) := by
  refine k66 ⟨hx, fun c => k66_12 (k66_17 ⟨Or.inr rfl, ?_⟩), fun c1 => ⟨fun c => k66_12 (k66_17 ⟨Or.inr rfl, ?_⟩), fun c2 => k66_17 ⟨Or.inl rfl, ?_⟩⟩⟩
  · rw [decide_eq_true (Or.inl c)] at H; exact H
  · rw [decide_eq_true (Or.inr c)] at H; exact H
  · rw [decide_eq_false (by omega)] at H; exact H
theorem c43_semi (hG : gcx s a m C) (he : e ≤ m) {v3 : Int} : ∀ (d : Nat) (k : Int), 0 ≤ k → k + d = e → qR w 1 qm43 79 [(0, .ref 6), (2, qI (a + e)), (3, qI v3), (4, qI (a + gSemi C d k))] [] s (qPI f g) → qR w 1 qm43 58 [(0, .ref 6), (2, qI (a + e)), (3, qI v3), (4, qI (a + k))] [] s (qPI f g) := by
  obtain ⟨g1, g2, g3, g4⟩ := hG
  intro d
  induction d with
  | zero =>
    intro k h0 h1 H
    exact k43_58 ⟨⟨by omega, by omega⟩, ⟨by omega, by omega⟩, fun c => absurd c (by omega), fun _ => H⟩
  | succ d ih =>
    intro k h0 h1 H
    obtain ⟨q1, q2, q3⟩ := g4 k h0 (by omega)
    unfold gSemi at H
    refine k43_58 ⟨⟨by omega, by omega⟩, ⟨by omega, by omega⟩, fun _ => ?_, fun c => absurd c (by omega)⟩
    rw [q1]
    refine ⟨by omega, by omega, ⟨by omega, by omega⟩, fun c => ?_, fun c => ?_⟩
    · rw [if_pos c] at H; exact H
    · rw [if_neg c] at H
      rw [Int.add_assoc]
      exact ih (k + 1) (by omega) (by omega) H
theorem c43_21 (hG : gcx s a m C) (he : e ≤ m) {q : Int} (h0 : 0 ≤ q) (h1 : q ≤ e) (H : f (gab a (gFld C e q)) s) : qR w 1 qm43 21 [(0, .ref 6), (2, qI (a + e)), (3, qI (a + q))] [] s (qPI f g) := by
  obtain ⟨g1, g2, g3, g4⟩ := hG
  unfold gFld at H
  refine k43_21 ⟨⟨by omega, by omega⟩, ⟨by omega, by omega⟩, fun c => ?_, fun c => ?_⟩
  · rw [if_neg (by omega)] at H
    obtain ⟨q1, q2, q3⟩ := g4 q h0 (by omega)
    rw [q1]
    refine ⟨by omega, by omega, ⟨by omega, by omega⟩, fun c1 => ?_, fun c1 => ⟨by omega, by omega, c44 ⟨by omega, by omega⟩ ?_⟩⟩
    · rw [if_pos c1] at H
      unfold gObj at H
      have r := gSemi_rg C (e - (q + 1)).toNat (q + 1)
      rw [Int.add_assoc]
      refine c43_semi ⟨g1, g2, g3, g4⟩ he (e - (q + 1)).toNat (q + 1) (by omega) (by omega) (k43_79 ⟨⟨by omega, by omega⟩, ⟨by omega, by omega⟩, fun d1 => ?_, fun d1 => k43_104 (k43_105 ?_)⟩)
      · refine c42 ⟨g1, g2, g3, g4⟩ (k := q + 1) (e := gSemi C (e - (q + 1)).toNat (q + 1)) (by omega) (by omega) (by omega) (by omega) rfl ⟨bi_rg _, fun z => k43_104 (k43_105 ?_), fun z => k43_105 ?_⟩
        · rw [if_neg (by rintro ⟨-, z2⟩; rw [z2] at z; exact absurd z (by decide))] at H
          exact H
        · have z3 : gPath C (gSemi C (e - (q + 1)).toNat (q + 1) - (q + 1)).toNat (q + 1) true = true := by
            rcases Bool.eq_false_or_eq_true (gPath C (gSemi C (e - (q + 1)).toNat (q + 1) - (q + 1)).toNat (q + 1) true) with z2 | z2
            · exact z2
            · rw [z2] at z; exact absurd rfl z
          rw [if_pos ⟨by omega, z3⟩] at H
          unfold gab at H
          rw [if_neg (by omega), ← Int.add_assoc] at H
          exact H
      · rw [if_neg (by rintro ⟨z1, -⟩; omega)] at H
        exact H
    · rw [if_neg c1] at H
      refine ⟨bi_rg _, fun z => k43_52 ?_, fun z => k43_52 ?_⟩
      · rw [if_neg (by intro z2; rw [z2] at z; exact absurd z (by decide))] at H
        exact H
      · have z3 : gBas (C q) = true := by
          rcases Bool.eq_false_or_eq_true (gBas (C q)) with z2 | z2
          · exact z2
          · rw [z2] at z; exact absurd rfl z
        rw [if_pos z3] at H
        unfold gab at H
        rw [if_neg (by omega), ← Int.add_assoc] at H
        exact H
  · rw [if_pos (by omega)] at H
    exact H
theorem c43_br (hG : gcx s a m C) (he : e ≤ m) : ∀ (d : Nat) (k : Int), 0 ≤ k → k + d = e → f (gab a (gFld C e (gBr C d k))) s → qR w 1 qm43 2 [(0, .ref 6), (2, qI (a + e)), (3, qI (a + k))] [] s (qPI f g) := by
  have hG2 := hG
  obtain ⟨g1, g2, g3, g4⟩ := hG
  intro d
  induction d with
  | zero =>
    intro k h0 h1 H
    exact k43_2 ⟨⟨by omega, by omega⟩, ⟨by omega, by omega⟩, fun c => absurd c (by omega), fun _ => c43_21 hG2 he h0 (by omega) H⟩
  | succ d ih =>
    intro k h0 h1 H
    obtain ⟨q1, q2, q3⟩ := g4 k h0 (by omega)
    unfold gBr at H
    refine k43_2 ⟨⟨by omega, by omega⟩, ⟨by omega, by omega⟩, fun _ => ?_, fun c => absurd c (by omega)⟩
    rw [q1]
    refine ⟨by omega, by omega, ⟨by omega, by omega⟩, fun c => ?_, fun c => ?_⟩
    · rw [if_pos c] at H
      rw [Int.add_assoc]
      exact ih (k + 1) (by omega) (by omega) H
    · rw [if_neg c] at H
      exact c43_21 hG2 he h0 (by omega) H
theorem c43 (hG : gcx s a m C) (h0 : 0 ≤ k) (hk : k ≤ e) (he : e ≤ m) (hx : x = a + k) (hy : y = a + e) (H : f (gab a (gField C e k)) s) : qW w 2 43 [.ref 6, qI x, qI y] s (qPI f g) := by
  subst hx hy
  exact k43 (c43_br hG he (e - k).toNat k h0 (by omega) H)
theorem gab_rg {a r : Int} (ha : 0 ≤ a ∧ a ≤ 500) (hr : r = -1 ∨ (0 ≤ r ∧ r ≤ 500)) : Rg (gab a r) := by
  unfold gab
  split
  · exact ⟨by decide, by decide⟩
  · exact ⟨by omega, by omega⟩
theorem gab_m {a r : Int} (ha : 0 ≤ a) (hr : r = -1 ∨ 0 ≤ r) : gab a r = -1 ↔ r = -1 := by
  unfold gab
  split
  · simp [*]
  · constructor
    · intro h; omega
    · intro h; omega
theorem c46_48 (hG : gcx s a m C) (h0 : 0 ≤ k) (hk : k ≤ e) (he : e ≤ m) (H : f (gab a (if k < e then k else -1)) s) : qR w 2 qm46 48 [(2, qI (a + e)), (3, qI (a + k))] [] s (qPI f g) := by
  obtain ⟨g1, g2, g3, g4⟩ := hG
  refine k46_48 ⟨⟨by omega, by omega⟩, ⟨by omega, by omega⟩, fun c => k46_58 ?_, fun c => k46_58 ?_⟩
  · rw [if_pos (by omega)] at H
    unfold gab at H
    rw [if_neg (by omega)] at H
    exact H
  · rw [if_neg (by omega)] at H
    exact H
theorem c46_loop (hG : gcx s a m C) (he : e ≤ m) : ∀ (d : Nat) (k : Int), d ≤ 500 → 0 ≤ k → k ≤ e → f (gab a (gCl C e d k)) s → qR w 2 qm46 7 [(0, .ref 6), (2, qI (a + e)), (3, qI (a + k)), (4, qI (500 - d))] [] s (qPI f g) := by
  have hG2 := hG
  obtain ⟨g1, g2, g3, g4⟩ := hG
  intro d
  induction d with
  | zero =>
    intro k hd h0 h1 H
    exact k46_7 ⟨⟨by omega, by omega⟩, fun c => absurd c (by omega), fun _ => c46_48 hG2 h0 h1 he H⟩
  | succ d ih =>
    intro k hd h0 h1 H
    unfold gCl at H
    refine k46_7 ⟨⟨by omega, by omega⟩, fun _ => ⟨⟨by omega, by omega⟩, ⟨by omega, by omega⟩, fun c => ?_, fun c => ?_⟩, fun c => absurd c (by omega)⟩
    · obtain ⟨q1, q2, q3⟩ := g4 k h0 (by omega)
      rw [q1]
      refine ⟨by omega, by omega, ⟨by omega, by omega⟩, fun c1 => ?_, fun c1 => ?_⟩
      · rw [if_neg (by rintro ⟨-, z⟩; exact z c1)] at H
        exact c46_48 hG2 h0 h1 he H
      · rw [if_pos ⟨by omega, c1⟩] at H
        have r := gField_rg C e k
        refine c43 hG2 h0 h1 he rfl rfl ⟨gab_rg ⟨by omega, by omega⟩ (by omega), fun z => ?_, fun z => ?_⟩
        · rw [gab_m g1 (by omega)] at z
          rw [if_pos z] at H
          exact H
        · have z2 : gField C e k ≠ -1 := fun z2 => z ((gab_m g1 (by omega)).mpr z2)
          rw [if_neg z2] at H
          unfold gab
          rw [if_neg z2]
          have := ih (gField C e k) (by omega) (by omega) (by omega) H
          have e2 : (500 - ((d + 1 : Nat) : Int) + 1) = 500 - (d : Int) := by omega
          rw [e2]
          exact this
    · rw [if_neg (by rintro ⟨z, -⟩; omega)] at H
      exact c46_48 hG2 h0 h1 he H
theorem c46 (hG : gcx s a m C) (h0 : 0 ≤ k) (hk : k < e) (he : e ≤ m) (hx : x = a + k) (hy : y = a + e) (H : f (gab a (gCl C e 500 (k + 1))) s) : qW w 3 46 [.ref 6, qI x, qI y] s (qPI f g) := by
  subst hx hy
  refine k46 ?_
  have := c46_loop (w := w) (g := g) hG he 500 (k + 1) (by omega) (by omega) (by omega) H
  rw [← Int.add_assoc] at this
  exact this
theorem gWd_drop {wd : List Nat} {i : Nat} (hi : i < wd.length) (C : Int → Int) (k : Int) : gWd C (wd.drop i) k = (decide (C k = ((wd.getD i 0 : Nat) : Int)) && gWd C (wd.drop (i + 1)) (k + 1)) := by
  rw [List.drop_eq_getElem_cons hi, gWd, List.getD_eq_getElem?_getD, List.getElem?_eq_getElem hi]
  rfl
theorem c41_loop (hw : qfv w) {o : Nat} (ho : qso o) (hl : ((qstr o).length : Int) ≤ 100) (hG : gcx s a m C) (h0 : 0 ≤ k) (hk : k + (qstr o).length ≤ m) : ∀ (d i : Nat), i + d = (qstr o).length → f (bi (gWd C ((qstr o).drop i) (k + i))) s → qR w 4 qm41 15 [(0, .ref 6), (1, qI (a + k)), (3, .retAddr o), (4, qI i)] [] s (qPI f g) := by
  obtain ⟨g1, g2, g3, g4⟩ := hG
  intro d
  induction d with
  | zero =>
    intro i h1 H
    refine k41_15 ⟨qso_k ho, c206 ho ⟨⟨by omega, by omega⟩, ⟨by omega, by omega⟩, fun c => absurd c (by omega), fun _ => ?_⟩⟩
    rw [List.drop_of_length_le (by omega)] at H
    exact H
  | succ d ih =>
    intro i h1 H
    rw [gWd_drop (by omega)] at H
    obtain ⟨q1, q2, q3⟩ := g4 (k + i) (by omega) (by omega)
    have q0 : a + k + (i : Int) = a + (k + i) := by omega
    refine k41_15 ⟨qso_k ho, c206 ho ⟨⟨by omega, by omega⟩, ⟨by omega, by omega⟩, fun _ => ⟨by omega, by omega, qso_k ho, c208 hw ho (by omega) (by omega) ?_⟩, fun c => absurd c (by omega)⟩⟩
    rw [q0, q1]
    have hb : ((qstr o).getD ((i : Int)).toNat 0 : Nat) ≤ 1000000 := by
      have hb : ∀ e ∈ qStr, ∀ x ∈ e.2.2, x ≤ 1000000 := by decide +kernel
      obtain ⟨e, he, h2⟩ := qso_at ho
      rw [h2] at h1 ⊢
      rw [List.getD_eq_getElem?_getD, List.getElem?_eq_getElem (by omega)]
      exact hb e (List.mem_of_getElem? he) _ (List.getElem_mem _)
    refine ⟨⟨by omega, by omega⟩, ⟨by omega, by omega⟩, fun c => ?_, fun c => ?_⟩
    · rw [show ((i : Int)).toNat = i from by omega] at c
      rw [decide_eq_true c, Bool.true_and] at H
      have := ih (i + 1) (by omega) (by
        have e2 : k + ((i + 1 : Nat) : Int) = k + i + 1 := by omega
        rw [e2]; exact H)
      exact this
    · rw [show ((i : Int)).toNat = i from by omega] at c
      rw [decide_eq_false c, Bool.false_and] at H
      exact H
theorem qstr_le {o : Nat} (ho : qso o) : ((qstr o).length : Int) ≤ 100 := by
  have hb : ∀ e ∈ qStr, e.2.2.length ≤ 100 := by decide +kernel
  obtain ⟨e, he, h2⟩ := qso_at ho
  rw [h2]
  have := hb e (List.mem_of_getElem? he)
  omega
theorem c41 (hw : qfv w) {o : Nat} (ho : qso o) (hG : gcx s a m C) (h0 : 0 ≤ k) (hk : k ≤ e) (he : e ≤ m) (hx : x = a + k) (hy : y = a + e) (H : f (bi (gIs C k e (qstr o))) s) : qW w 5 41 [.ref 6, qI x, qI y, .retAddr o] s (qPI f g) := by
  subst hx hy
  have hG2 := hG
  obtain ⟨g1, g2, g3, g4⟩ := hG
  have hl := qstr_le ho
  unfold gIs at H
  refine k41 ⟨qso_k ho, c206 ho ⟨⟨by omega, by omega⟩, ⟨by omega, by omega⟩, fun c => ?_, fun c => ?_⟩⟩
  · rw [decide_eq_true (by omega), Bool.true_and] at H
    exact c41_loop hw ho hl hG2 h0 (by omega) (qstr o).length 0 (by omega) (by simpa using H)
  · rw [decide_eq_false (by omega), Bool.false_and] at H
    exact H
end GR
