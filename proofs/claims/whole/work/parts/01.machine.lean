/-! THE ABSTRACT MACHINE: one invocation's instructions over a heap of numbered cells (a reference is the cell's number). A reference to an object that was there before is 'retAddr k' (its address: sa k), an unknown one 'retAddr 0'. -/
abbrev zE : Type := (Nat × vp_A) ⊕ (Nat × List Value)
abbrev zH : Type := List zE
abbrev zL : Type := List (Nat × Value)
/-- local i -/
def zget (l : zL) (i : Nat) : Option Value := (l.find? (fun q => q.1 == i)).map (fun q => q.2)
def zst1 (l : zL) (i : Nat) (v : Value) : zL := (i, v) :: l.filter (fun q => !(q.1 == i) && !(q.1 + 1 == i && q.2.category == 2))
def zst2 (l : zL) (i : Nat) (v : Value) : zL := (i, v) :: l.filter (fun q => !(q.1 == i) && (!(q.1 == i + 1) && !(q.1 + 1 == i && q.2.category == 2)))
/-- what an abstract value says of the machine's -/
def zV (sa : Nat → Nat) (ad : List Nat) (v c : Value) : Prop := match v with
  | .ref i => ∃ a, ad[i]? = some a ∧ c = .ref a
  | .retAddr k => ∃ a, c = .ref a ∧ (0 < k → a = sa k)
  | .int x => c = .int x
  | .long x => c = .long x
  | .float x => c = .float x
  | .double x => c = .double x
  | .null => c = .null
def zF (sa : Nat → Nat) (ad : List Nat) : List Value → List Value → Prop
  | [], [] => True
  | v :: vs, c :: cs => zV sa ad v c ∧ zF sa ad vs cs
  | _, _ => False
def zLR (sa : Nat → Nat) (ad : List Nat) : zL → zL → Prop
  | [], [] => True
  | q :: l, r :: k => q.1 = r.1 ∧ zV sa ad q.2 r.2 ∧ zLR sa ad l k
  | _, _ => False
theorem zV.cat {sa : Nat → Nat} {ad : List Nat} {v c : Value} (h : zV sa ad v c) : c.category = v.category := by
  cases v <;> simp only [zV] at h <;> first | (subst h; rfl) | (obtain ⟨a, -, rfl⟩ := h; rfl) | (obtain ⟨a, rfl, -⟩ := h; rfl)
theorem zget_at {sa : Nat → Nat} {ad : List Nat} {ls : Array Slot} {nL : Nat} : ∀ {l k : zL}, zLR sa ad l k → lv_has ls nL k → ∀ {i : Nat} {v : Value}, zget l i = some v → ∃ (j : Nat) (c : Value), k[j]? = some (i, c) ∧ zV sa ad v c := by
  intro l
  induction l with
  | nil => intro k hk hl i v h; simp [zget] at h
  | cons q l ih =>
    intro k hk hl i v h
    cases k with
    | nil => exact absurd hk (by simp [zLR])
    | cons r k =>
      obtain ⟨h1, h2, h3⟩ := hk
      by_cases e : q.1 = i
      · have hq : zget (q :: l) i = some q.2 := by simp [zget, List.find?_cons, e]
        rw [hq] at h
        cases h
        refine ⟨0, r.2, ?_, h2⟩
        show some r = some (i, r.2)
        rw [← e, h1]
      · have hq : zget (q :: l) i = zget l i := by
          have : (q.1 == i) = false := by simpa using e
          simp [zget, List.find?_cons, this]
        rw [hq] at h
        obtain ⟨j, c, e1, e2⟩ := ih h3 ⟨hl.1, hl.2.1, fun q hq => hl.2.2 q (List.mem_cons_of_mem _ hq)⟩ h
        exact ⟨j + 1, c, e1, e2⟩
theorem zLR.filter {sa : Nat → Nat} {ad : List Nat} (f : Nat → Nat → Bool) : ∀ {l k : zL}, zLR sa ad l k → zLR sa ad (l.filter (fun q => f q.1 q.2.category)) (k.filter (fun q => f q.1 q.2.category)) := by
  intro l
  induction l with
  | nil => intro k hk; cases k with
    | nil => exact hk
    | cons r k => exact absurd hk (by simp [zLR])
  | cons q l ih =>
    intro k hk
    cases k with
    | nil => exact absurd hk (by simp [zLR])
    | cons r k =>
      obtain ⟨h1, h2, h3⟩ := hk
      have hc := h2.cat
      have ih := ih h3
      cases hb : f q.1 q.2.category with
      | true =>
        have hb' : f r.1 r.2.category = true := by rw [← h1, hc]; exact hb
        rw [List.filter_cons_of_pos (by simpa using hb), List.filter_cons_of_pos (by simpa using hb')]
        exact ⟨h1, h2, ih⟩
      | false =>
        have hb' : f r.1 r.2.category = false := by rw [← h1, hc]; exact hb
        rw [List.filter_cons_of_neg (by simp [hb]), List.filter_cons_of_neg (by simp [hb'])]
        exact ih
theorem zst1_R {sa : Nat → Nat} {ad : List Nat} {l k : zL} (h : zLR sa ad l k) {i : Nat} {v c : Value} (hv : zV sa ad v c) : zLR sa ad (zst1 l i v) ((i, c) :: k.filter (fun q => !(q.1 == i) && !(q.1 + 1 == i && q.2.category == 2))) :=
  ⟨rfl, hv, zLR.filter (fun a b => !(a == i) && !(a + 1 == i && b == 2)) h⟩
theorem zst2_R {sa : Nat → Nat} {ad : List Nat} {l k : zL} (h : zLR sa ad l k) {i : Nat} {v c : Value} (hv : zV sa ad v c) : zLR sa ad (zst2 l i v) ((i, c) :: k.filter (fun q => !(q.1 == i) && (!(q.1 == i + 1) && !(q.1 + 1 == i && q.2.category == 2)))) :=
  ⟨rfl, hv, zLR.filter (fun a b => !(a == i) && (!(a == i + 1) && !(a + 1 == i && b == 2))) h⟩
/-! instructions that go on behind themselves and look at no cell -/
def zi1 (st : List Value) (f : Int32 → Option Value) : Option (List Value) := match st with
  | .int x :: r => (f x).map (· :: r)
  | _ => none
def zi2 (st : List Value) (f : Int32 → Int32 → Option Value) : Option (List Value) := match st with
  | .int y :: .int x :: r => (f x y).map (· :: r)
  | _ => none
def zl1 (st : List Value) (f : Int64 → Option Value) : Option (List Value) := match st with
  | .long x :: r => (f x).map (· :: r)
  | _ => none
def zl2 (st : List Value) (f : Int64 → Int64 → Option Value) : Option (List Value) := match st with
  | .long y :: .long x :: r => (f x y).map (· :: r)
  | _ => none
def zls (st : List Value) (f : Int64 → Int32 → Option Value) : Option (List Value) := match st with
  | .int y :: .long x :: r => (f x y).map (· :: r)
  | _ => none
def zd1 (st : List Value) (f : UInt64 → Option Value) : Option (List Value) := match st with
  | .double x :: r => (f x).map (· :: r)
  | _ => none
def zd2 (st : List Value) (f : UInt64 → UInt64 → Option Value) : Option (List Value) := match st with
  | .double y :: .double x :: r => (f x y).map (· :: r)
  | _ => none
def zldI (l : zL) (i : Nat) (st : List Value) : Option (zL × List Value) := match zget l i with
  | some (.int x) => some (l, .int x :: st)
  | _ => none
def zldL (l : zL) (i : Nat) (st : List Value) : Option (zL × List Value) := match zget l i with
  | some (.long x) => some (l, .long x :: st)
  | _ => none
def zldD (l : zL) (i : Nat) (st : List Value) : Option (zL × List Value) := match zget l i with
  | some (.double x) => some (l, .double x :: st)
  | _ => none
def zldA (l : zL) (i : Nat) (st : List Value) : Option (zL × List Value) := match zget l i with
  | some (.ref x) => some (l, .ref x :: st)
  | some (.retAddr x) => some (l, .retAddr x :: st)
  | some .null => some (l, .null :: st)
  | _ => none
def zstI (nL : Nat) (l : zL) (i : Nat) (st : List Value) : Option (zL × List Value) := match st with
  | .int x :: r => if i < nL then some (zst1 l i (.int x), r) else none
  | _ => none
def zstL (nL : Nat) (l : zL) (i : Nat) (st : List Value) : Option (zL × List Value) := match st with
  | .long x :: r => if i + 1 < nL then some (zst2 l i (.long x), r) else none
  | _ => none
def zstD (nL : Nat) (l : zL) (i : Nat) (st : List Value) : Option (zL × List Value) := match st with
  | .double x :: r => if i + 1 < nL then some (zst2 l i (.double x), r) else none
  | _ => none
def zstA (nL : Nat) (l : zL) (i : Nat) (st : List Value) : Option (zL × List Value) := match st with
  | .ref x :: r => if i < nL then some (zst1 l i (.ref x), r) else none
  | .retAddr x :: r => if i < nL then some (zst1 l i (.retAddr x), r) else none
  | .null :: r => if i < nL then some (zst1 l i .null, r) else none
  | _ => none
def zinc (nL : Nat) (l : zL) (i : Nat) (n : Int) (st : List Value) : Option (zL × List Value) := match zget l i with
  | some (.int x) => if i < nL then some (zst1 l i (.int (x + Int32.ofInt n)), st) else none
  | _ => none
def zdup (st : List Value) : Option (List Value) := match st with
  | v :: r => if v.category = 1 then some (v :: v :: r) else none
  | _ => none
def zpop (st : List Value) : Option (List Value) := match st with
  | v :: r => if v.category = 1 then some r else none
  | _ => none
def zdupx1 (st : List Value) : Option (List Value) := match st with
  | v :: w :: r => if v.category = 1 ∧ w.category = 1 then some (v :: w :: v :: r) else none
  | _ => none
def zdupx2 (st : List Value) : Option (List Value) := match st with
  | v :: w :: u :: r => if v.category = 1 ∧ w.category = 1 ∧ u.category = 1 then some (v :: w :: u :: v :: r) else none
  | _ => none
def zdup2 (st : List Value) : Option (List Value) := match st with
  | v :: w :: r => if v.category = 1 ∧ w.category = 1 then some (v :: w :: v :: w :: r) else none
  | _ => none
/-- a double that is a number, or infinite -/
def zfin (x : UInt64) : Option Value := if x &&& 0x7fffffffffffffff ≤ 0x7ff0000000000000 then some (.double x) else none
