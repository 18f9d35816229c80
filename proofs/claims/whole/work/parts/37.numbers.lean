/-! THE MACHINE OVER NUMBERS: the heap behind the constructors is a fixed skeleton, its contents a function of cell and place into the whole numbers; runs of methods by what is to hold behind them -/
abbrev qS : Type := Nat → Int → Int
def qset (s : qS) (k : Nat) (j v : Int) : qS := fun k' => if k' = k then (fun j' => if j' = j then v else s k j') else s k'
theorem qset_eq (s : qS) (k : Nat) (j v : Int) (k' : Nat) (j' : Int) : qset s k j v k' j' = if k' = k ∧ j' = j then v else s k' j' := by
  unfold qset
  by_cases h1 : k' = k
  · subst h1; by_cases h2 : j' = j <;> simp [h2]
  · simp [h1]
theorem qset_self (s : qS) (k : Nat) (j v : Int) : qset s k j v k j = v := by simp [qset_eq]
theorem qset_ne (s : qS) {k : Nat} {j v : Int} {k' : Nat} {j' : Int} (h : k' ≠ k ∨ j' ≠ j) : qset s k j v k' j' = s k' j' := by
  rw [qset_eq, if_neg]
  rintro ⟨h1, h2⟩
  rcases h with h | h
  · exact h h1
  · exact h h2
/-- the numbers that an int holds -/
abbrev Rg (a : Int) : Prop := -2147483648 ≤ a ∧ a < 2147483648
abbrev qI (a : Int) : Value := .int (Int32.ofInt a)
theorem qi_toInt {a : Int} (h : Rg a) : (Int32.ofInt a).toInt = a := by
  rw [Int32.toInt_ofInt]
  have e : (Int32.size : Int) = 4294967296 := rfl
  exact Int.bmod_eq_of_le (by have := h.1; omega) (by have := h.2; omega)
theorem qi_of (x : Int32) : Int32.ofInt x.toInt = x := Int32.ofInt_toInt x
theorem qi_rg (x : Int32) : Rg x.toInt := ⟨Int32.le_toInt x, Int32.toInt_lt x⟩
theorem qi_eq {a b : Int} (ha : Rg a) (hb : Rg b) : (Int32.ofInt a = Int32.ofInt b) ↔ a = b := by
  constructor
  · intro h
    have := congrArg Int32.toInt h
    rwa [qi_toInt ha, qi_toInt hb] at this
  · rintro rfl; rfl
theorem qi_lt {a b : Int} (ha : Rg a) (hb : Rg b) : (Int32.ofInt a < Int32.ofInt b) ↔ a < b := by
  rw [Int32.lt_iff_toInt_lt, qi_toInt ha, qi_toInt hb]
theorem qi_le {a b : Int} (ha : Rg a) (hb : Rg b) : (Int32.ofInt a ≤ Int32.ofInt b) ↔ a ≤ b := by
  rw [Int32.le_iff_toInt_le, qi_toInt ha, qi_toInt hb]
theorem qi_add (a b : Int) : Int32.ofInt a + Int32.ofInt b = Int32.ofInt (a + b) := (Int32.ofInt_add a b).symm
theorem qi_sub (a b : Int) : Int32.ofInt a - Int32.ofInt b = Int32.ofInt (a - b) := (Int32.ofInt_sub a b).symm
theorem qi_mul (a b : Int) : Int32.ofInt a * Int32.ofInt b = Int32.ofInt (a * b) := (Int32.ofInt_mul a b).symm
theorem qi_neg (a : Int) : -Int32.ofInt a = Int32.ofInt (-a) := (Int32.ofInt_neg a).symm
def qand (a b : Int) : Int := (Int32.ofInt a &&& Int32.ofInt b).toInt
def qor (a b : Int) : Int := (Int32.ofInt a ||| Int32.ofInt b).toInt
def qshl (a b : Int) : Int := (Int32.ofInt a <<< (Int32.ofInt b &&& 31)).toInt
def qshr (a b : Int) : Int := (Int32.ofInt a >>> (Int32.ofInt b &&& 31)).toInt
def qushr (a b : Int) : Int := (((Int32.ofInt a).toUInt32 >>> ((Int32.ofInt b).toUInt32 &&& Int32.toUInt32 31)).toInt32).toInt
theorem qi_and (a b : Int) : Int32.ofInt a &&& Int32.ofInt b = Int32.ofInt (qand a b) := (qi_of _).symm
theorem qi_or (a b : Int) : Int32.ofInt a ||| Int32.ofInt b = Int32.ofInt (qor a b) := (qi_of _).symm
theorem qi_shl (a b : Int) : Int32.ofInt a <<< (Int32.ofInt b &&& 31) = Int32.ofInt (qshl a b) := (qi_of _).symm
theorem qi_shr (a b : Int) : Int32.ofInt a >>> (Int32.ofInt b &&& 31) = Int32.ofInt (qshr a b) := (qi_of _).symm
theorem qi_ushr (a b : Int) : ((Int32.ofInt a).toUInt32 >>> ((Int32.ofInt b).toUInt32 &&& Int32.toUInt32 31)).toInt32 = Int32.ofInt (qushr a b) := (qi_of _).symm
theorem qi_nat {i : Int} (h0 : 0 ≤ i) (h1 : Rg i) : (Int32.ofInt i).toNatClampNeg = i.toNat := by
  show (Int32.ofInt i).toInt.toNat = i.toNat
  rw [qi_toInt h1]
theorem qi_in {i : Int} {n : Nat} (h0 : 0 ≤ i) (h1 : i < n) (hn : n ≤ 100000) : zin (Int32.ofInt i) n = true ∧ (Int32.ofInt i).toNatClampNeg = i.toNat := by
  have hr : Rg i := ⟨by omega, by omega⟩
  have hz : ¬ (Int32.ofInt i < 0) := by
    intro c
    have := (qi_lt hr (b := 0) ⟨by omega, by omega⟩).mp c
    omega
  refine ⟨?_, qi_nat h0 hr⟩
  unfold zin
  rw [qi_nat h0 hr]
  simp only [Bool.and_eq_true, Bool.not_eq_true', decide_eq_false_iff_not, decide_eq_true_eq]
  exact ⟨hz, by omega⟩
/-- a run that has an end is that of fewer known locals too -/
def zsub : zL → zL → Prop
  | [], _ => True
  | q :: r, l => zget l q.1 = some q.2 ∧ zsub r l
def zle (a b : zL) : Prop := ∀ i v, zget a i = some v → zget b i = some v
theorem zget_mem {l : zL} {i : Nat} {v : Value} (h : zget l i = some v) : (i, v) ∈ l := by
  unfold zget at h
  obtain ⟨q, h1, h2⟩ := Option.map_eq_some_iff.mp h
  have h3 := List.mem_of_find?_eq_some h1
  have h4 := List.find?_some h1
  simp only [beq_iff_eq] at h4
  obtain ⟨a, b⟩ := q
  cases h2; cases h4
  exact h3
theorem zsub_mem : ∀ {a b : zL}, zsub a b → ∀ q ∈ a, zget b q.1 = some q.2 := by
  intro a
  induction a with
  | nil => intro b _ q hq; cases hq
  | cons p a ih =>
    intro b h q hq
    rcases List.mem_cons.mp hq with rfl | hq
    · exact h.1
    · exact ih h.2 q hq
theorem zsub_le {a b : zL} (h : zsub a b) : zle a b := fun i v hi => zsub_mem h _ (zget_mem hi)
theorem zget_cons (q : Nat × Value) (l : zL) (i : Nat) : zget (q :: l) i = if q.1 = i then some q.2 else zget l i := by
  unfold zget
  by_cases h : q.1 = i
  · simp [h]
  · have : (q.1 == i) = false := by simpa using h
    simp [List.find?_cons, this, h]
theorem zget_filter (f : Nat × Value → Bool) : ∀ (l : zL) (i : Nat) (v : Value), zget l i = some v → f (i, v) = true → zget (l.filter f) i = some v := by
  intro l
  induction l with
  | nil => intro i v h; cases h
  | cons q l ih =>
    intro i v h hf
    rw [zget_cons] at h
    by_cases e : q.1 = i
    · rw [if_pos e] at h
      cases h
      have : f q = true := by obtain ⟨a, b⟩ := q; cases e; exact hf
      rw [List.filter_cons_of_pos this, zget_cons, if_pos e]
    · rw [if_neg e] at h
      by_cases hq : f q = true
      · rw [List.filter_cons_of_pos hq, zget_cons, if_neg e]; exact ih i v h hf
      · rw [List.filter_cons_of_neg hq]; exact ih i v h hf
theorem zsub_get {a b : zL} (h : zsub a b) {i : Nat} {v : Value} (hi : zget a i = some v) : zget b i = some v := zsub_le h i v hi
theorem zsub_of : ∀ {a b : zL}, (∀ q ∈ a, zget b q.1 = some q.2) → zsub a b := by
  intro a
  induction a with
  | nil => intro b _; exact True.intro
  | cons q a ih => intro b h; exact ⟨h q List.mem_cons_self, ih (fun p hp => h p (List.mem_cons_of_mem _ hp))⟩
theorem zsub_trans {a b c : zL} (h1 : zsub a b) (h2 : zsub b c) : zsub a c := zsub_of (fun q hq => zsub_get h2 (zsub_mem h1 q hq))
theorem zsub_refl_of {a : zL} (h : ∀ q ∈ a, zget a q.1 = some q.2) : zsub a a := zsub_of h
/-- what stays when local i is written (and i + 1, where the value is a wide one) -/
def zok1 (i : Nat) (a : zL) : Bool := a.all (fun q => !(q.1 == i) && (!(q.1 + 1 == i) || q.2.category == 1))
def zok2 (i : Nat) (a : zL) : Bool := a.all (fun q => !(q.1 == i) && !(q.1 == i + 1) && (!(q.1 + 1 == i) || q.2.category == 1))
theorem zsub_st1 {a b : zL} {i : Nat} {v : Value} (h : zsub a b) (hk : zok1 i a = true) : zsub ((i, v) :: a) (zst1 b i v) := by
  refine ⟨?_, zsub_of (fun q hq => ?_)⟩
  · unfold zst1; rw [zget_cons, if_pos rfl]
  · have h1 := zsub_mem h q hq
    have h2 := List.all_eq_true.mp hk q hq
    simp only [Bool.and_eq_true, Bool.not_eq_true', beq_eq_false_iff_ne, ne_eq, Bool.or_eq_true, beq_iff_eq] at h2
    unfold zst1
    rw [zget_cons, if_neg (fun e => h2.1 e.symm)]
    refine zget_filter _ _ _ _ h1 ?_
    have e1 : (q.1 == i) = false := by simpa using h2.1
    rcases h2.2 with e2 | e2
    · have e3 : (q.1 + 1 == i) = false := by simpa using e2
      simp [e1, e3]
    · simp [e1, e2]
theorem zsub_st2 {a b : zL} {i : Nat} {v : Value} (h : zsub a b) (hk : zok2 i a = true) : zsub ((i, v) :: a) (zst2 b i v) := by
  refine ⟨?_, zsub_of (fun q hq => ?_)⟩
  · unfold zst2; rw [zget_cons, if_pos rfl]
  · have h1 := zsub_mem h q hq
    have h2 := List.all_eq_true.mp hk q hq
    simp only [Bool.and_eq_true, Bool.not_eq_true', beq_eq_false_iff_ne, ne_eq, Bool.or_eq_true, beq_iff_eq] at h2
    obtain ⟨⟨h3, h4⟩, h5⟩ := h2
    unfold zst2
    rw [zget_cons, if_neg (fun e => h3 e.symm)]
    refine zget_filter _ _ _ _ h1 ?_
    have e1 : (q.1 == i) = false := by simpa using h3
    have e4 : (q.1 == i + 1) = false := by simpa using h4
    rcases h5 with e2 | e2
    · have e3 : (q.1 + 1 == i) = false := by simpa using e2
      simp [e1, e3, e4]
    · simp [e1, e2, e4]
theorem zRun.mono {T : zTb} {C D : Nat → List Value → zH → zRs → Prop} {M : zM} (h : ∀ mi as g r, C mi as g r → D mi as g r) : ∀ (n : Nat) {g : zG} {r : zRs}, zRun T C M n g r → zRun T D M n g r := by
  intro n
  induction n with
  | zero => intro g r k; exact k
  | succ n ih =>
    intro g r k
    unfold zRun at k ⊢
    split at k
    · exact k
    · next g' dc ds e => obtain ⟨r', k1, k2⟩ := k; exact ⟨r', ih k1, k2⟩
    · exact k
    · next mi as pc l rest hh e =>
      obtain ⟨rc, k1, k2⟩ := k
      refine ⟨rc, h _ _ _ _ k1, ?_⟩
      split at k2
      · obtain ⟨r', k3, k4⟩ := k2; exact ⟨r', ih k3, k4⟩
      · split at k2
        · obtain ⟨r', k3, k4⟩ := k2; exact ⟨r', ih k3, k4⟩
        · exact k2
theorem zX.mono1 {T : zTb} : ∀ (d : Nat) {mi : Nat} {as : List Value} {h : zH} {r : zRs}, zX T d mi as h r → zX T (d + 1) mi as h r := by
  intro d
  induction d with
  | zero => intro mi as h r k; exact absurd k (by simp [zX])
  | succ d ih =>
    intro mi as h r k
    obtain ⟨M, n, h1, h2, h3⟩ := k
    exact ⟨M, n, h1, h2, zRun.mono (fun _ _ _ _ => ih) n h3⟩
theorem zX.mono {T : zTb} {d e : Nat} (hde : d ≤ e) {mi : Nat} {as : List Value} {h : zH} {r : zRs} (k : zX T d mi as h r) : zX T e mi as h r := by
  induction hde with
  | refl => exact k
  | step _ ih => exact zX.mono1 _ ih
