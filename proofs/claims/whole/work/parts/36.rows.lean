/-! a field of an object -/
theorem zgetf_of {fl : Nat → Option (Nat × Nat)} {ix ci j a : Nat} {h : zH} {fs st : List Value} {v : Value} (h1 : fl ix = some (ci, j)) (h2 : h[a]? = some (.inr (ci, fs))) (h3 : fs[j]? = some v) : zgetf fl ix h (.ref a :: st) = some (v :: st) := by
  unfold zgetf
  simp [h1, h2, h3]
