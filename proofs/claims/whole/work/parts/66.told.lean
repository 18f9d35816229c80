/-! WORDS, the rest: results, arguments, namings, entries; the class's told -/
theorem gNK_in (C : Int → Int) (m : Int) : gNK C m = 0 ∨ gNK C m = 1 ∨ gNK C m = 3 ∨ gNK C m = 67 ∨ gNK C m = 131 := by
  unfold gNK
  split
  · omega
  · split
    · omega
    · split
      · split <;> omega
      · omega
theorem gK_bits0 : ∀ nk ∈ [(0 : Int), 1, 3, 67, 131], ∀ pa fl ar me : Bool, (decide (qand (gK3 me (gK2 fl ar (gK1 pa nk))) 1 ≠ 0) = decide (nk ≠ 0)) ∧ (decide (qand (gK3 me (gK2 fl ar (gK1 pa nk))) 2 ≠ 0) = decide (nk = 3 ∨ nk = 67 ∨ nk = 131)) ∧ (decide (qand (gK3 me (gK2 fl ar (gK1 pa nk))) 3 ≠ 0) = decide (nk ≠ 0)) ∧ (decide (qand (gK3 me (gK2 fl ar (gK1 pa nk))) 4 ≠ 0) = pa) ∧ (decide (qand (gK3 me (gK2 fl ar (gK1 pa nk))) 8 ≠ 0) = (pa || (fl && ar))) ∧ (decide (qand (gK3 me (gK2 fl ar (gK1 pa nk))) 16 ≠ 0) = fl) ∧ (decide (qand (gK3 me (gK2 fl ar (gK1 pa nk))) 32 ≠ 0) = me) ∧ (decide (qand (gK3 me (gK2 fl ar (gK1 pa nk))) 48 ≠ 0) = (fl || me)) ∧ (decide (qand (gK3 me (gK2 fl ar (gK1 pa nk))) 64 ≠ 0) = decide (nk = 67)) ∧ (decide (qand (gK3 me (gK2 fl ar (gK1 pa nk))) 128 ≠ 0) = decide (nk = 131)) := by decide +kernel
theorem gK_bits (C : Int → Int) (m : Int) : (decide (qand (gK C m) 1 ≠ 0) = decide (gNK C m ≠ 0)) ∧ (decide (qand (gK C m) 2 ≠ 0) = decide (gNK C m = 3 ∨ gNK C m = 67 ∨ gNK C m = 131)) ∧ (decide (qand (gK C m) 3 ≠ 0) = decide (gNK C m ≠ 0)) ∧ (decide (qand (gK C m) 4 ≠ 0) = gPath C m.toNat 0 true) ∧ (decide (qand (gK C m) 8 ≠ 0) = (gPath C m.toNat 0 true || (decide (gField C m 0 = m) && decide (C 0 = 91)))) ∧ (decide (qand (gK C m) 16 ≠ 0) = decide (gField C m 0 = m)) ∧ (decide (qand (gK C m) 32 ≠ 0) = gMeth C m 0) ∧ (decide (qand (gK C m) 48 ≠ 0) = (decide (gField C m 0 = m) || gMeth C m 0)) ∧ (decide (qand (gK C m) 64 ≠ 0) = decide (gNK C m = 67)) ∧ (decide (qand (gK C m) 128 ≠ 0) = decide (gNK C m = 131)) := by
  have h := gNK_in C m
  have hm : gNK C m ∈ [(0 : Int), 1, 3, 67, 131] := by
    simp only [List.mem_cons, List.not_mem_nil, or_false]
    omega
  exact gK_bits0 _ hm _ _ _ _
theorem pfit_eq (π : qP) (i m : Int) : pfit π i m = (decide (pT π i = 1) && decide (qand (gK (pC π i) (pN π i)) m ≠ 0)) := by
  unfold pfit pK
  rw [Bool.decide_and]
theorem fit4 (π : qP) (i : Int) : pfit π i 4 = (decide (pT π i = 1) && gPath (pC π i) (pN π i).toNat 0 true) := by rw [pfit_eq, (gK_bits _ _).2.2.2.1]
theorem fit8 (π : qP) (i : Int) : pfit π i 8 = (decide (pT π i = 1) && (gPath (pC π i) (pN π i).toNat 0 true || (decide (gField (pC π i) (pN π i) 0 = pN π i) && decide (pC π i 0 = 91)))) := by rw [pfit_eq, (gK_bits _ _).2.2.2.2.1]
theorem fit16 (π : qP) (i : Int) : pfit π i 16 = (decide (pT π i = 1) && decide (gField (pC π i) (pN π i) 0 = pN π i)) := by rw [pfit_eq, (gK_bits _ _).2.2.2.2.2.1]
theorem fit32 (π : qP) (i : Int) : pfit π i 32 = (decide (pT π i = 1) && gMeth (pC π i) (pN π i) 0) := by rw [pfit_eq, (gK_bits _ _).2.2.2.2.2.2.1]
theorem fit48 (π : qP) (i : Int) : pfit π i 48 = (decide (pT π i = 1) && (decide (gField (pC π i) (pN π i) 0 = pN π i) || gMeth (pC π i) (pN π i) 0)) := by rw [pfit_eq, (gK_bits _ _).2.2.2.2.2.2.2.1]
theorem fit1 (π : qP) (i : Int) : pfit π i 1 = (decide (pT π i = 1) && decide (gNK (pC π i) (pN π i) ≠ 0)) := by rw [pfit_eq, (gK_bits _ _).1]
theorem fit3 (π : qP) (i : Int) : pfit π i 3 = (decide (pT π i = 1) && decide (gNK (pC π i) (pN π i) ≠ 0)) := by rw [pfit_eq, (gK_bits _ _).2.2.1]
theorem fit2 (π : qP) (i : Int) : pfit π i 2 = (decide (pT π i = 1) && decide (gNK (pC π i) (pN π i) = 3 ∨ gNK (pC π i) (pN π i) = 67 ∨ gNK (pC π i) (pN π i) = 131)) := by rw [pfit_eq, (gK_bits _ _).2.1]
theorem fit64 (π : qP) (i : Int) : pfit π i 64 = (decide (pT π i = 1) && decide (gNK (pC π i) (pN π i) = 67)) := by rw [pfit_eq, (gK_bits _ _).2.2.2.2.2.2.2.2.1]
theorem fit128 (π : qP) (i : Int) : pfit π i 128 = (decide (pT π i = 1) && decide (gNK (pC π i) (pN π i) = 131)) := by rw [pfit_eq, (gK_bits _ _).2.2.2.2.2.2.2.2.2]
/-- all entries are sound -/
def pSound (π : qP) : Prop := ∀ i, lS π i = true
theorem lS_out {π : qP} {i : Int} (h : pT π i = 0) : lS π i = true := by
  unfold lS
  rw [h]
  rfl
theorem rLk_sound {π : qP} (hp : qPok π) (h : rLk π (pE π - 1).toNat 1 = .inr ()) : pSound π := by
  have key : ∀ (d : Nat) (i : Int), rLk π d i = .inr () → ∀ j, i ≤ j → j < i + d → lS π j = true := by
    intro d
    induction d with
    | zero => intro i _ j h1 h2; omega
    | succ d ih =>
      intro i h j h1 h2
      unfold rLk at h
      split at h
      · next c =>
        by_cases e : j = i
        · rw [e]; exact c
        · exact ih (i + 1) h j (by omega) (by omega)
      · cases h
  intro i
  by_cases c : 1 ≤ i ∧ i < pE π
  · exact key _ _ h i c.1 (by omega)
  · exact lS_out (hp.2.2.1 i c)
theorem snd7 {π : qP} (h : pSound π) {i : Int} (t : pT π i = 7) : pfit π (pF π i) 8 = true ∧ pT π (pF π i) = 1 := by
  have := h i
  unfold lS at this
  rw [if_pos t] at this
  exact ⟨this, pfit_T this⟩
theorem snd16 {π : qP} (h : pSound π) {i : Int} (t : pT π i = 16) : pfit π (pF π i) 32 = true ∧ pT π (pF π i) = 1 := by
  have := h i
  unfold lS at this
  rw [if_neg (by omega), if_neg (by omega), if_neg (by omega), if_neg (by omega), if_neg (by omega), if_neg (by omega), if_pos t] at this
  exact ⟨this, pfit_T this⟩
theorem snd12 {π : qP} (h : pSound π) {i : Int} (t : pT π i = 12) : pfit π (pF π i) 3 = true ∧ pfit π (pS π i) 48 = true ∧ pT π (pF π i) = 1 ∧ pT π (pS π i) = 1 := by
  have := h i
  unfold lS at this
  rw [if_neg (by omega), if_neg (by omega), if_neg (by omega), if_neg (by omega), if_pos t, Bool.and_eq_true] at this
  exact ⟨this.1, this.2, pfit_T this.1, pfit_T this.2⟩
theorem lNam_T {π : qP} {j m : Int} (h : lNam π j m = true) : pT π j = 12 ∧ pfit π (pS π j) m = true := by
  unfold lNam at h
  rw [Bool.and_eq_true] at h
  exact ⟨of_decide_eq_true h.1, h.2⟩
theorem snd9 {π : qP} (h : pSound π) {i : Int} (t : pT π i = 9 ∨ pT π i = 10 ∨ pT π i = 11) : pT π (pF π i) = 7 ∧ pT π (pS π i) = 12 := by
  have := h i
  unfold lS at this
  rw [if_neg (by omega), if_neg (by omega)] at this
  by_cases c : pT π i = 9
  · rw [if_pos c, Bool.and_eq_true] at this
    exact ⟨of_decide_eq_true this.1, (lNam_T this.2).1⟩
  · rw [if_neg c, if_pos (by omega), Bool.and_eq_true] at this
    have h2 := this.2
    unfold lMN at h2
    rw [Bool.and_eq_true] at h2
    exact ⟨of_decide_eq_true this.1, (lNam_T h2.1).1⟩
theorem gMeth_cl {C : Int → Int} {m : Int} (h : gMeth C m 0 = true) : 0 < m ∧ C 0 = 40 ∧ gCl C m 500 1 ≠ -1 := by
  unfold gMeth at h
  rw [Bool.and_eq_true, Bool.and_eq_true, Bool.and_eq_true] at h
  exact ⟨of_decide_eq_true h.1, of_decide_eq_true h.2.1, of_decide_eq_true h.2.2.1⟩
theorem fit32_cl {π : qP} {i : Int} (h : pfit π i 32 = true) : pT π i = 1 ∧ 0 < pN π i ∧ gMeth (pC π i) (pN π i) 0 = true ∧ gCl (pC π i) (pN π i) 500 1 ≠ -1 := by
  rw [fit32, Bool.and_eq_true] at h
  have := gMeth_cl h.2
  exact ⟨of_decide_eq_true h.1, this.1, h.2, this.2.2⟩
theorem tell_len {π : qP} (hp : qPok π) (h : pSound π) (i : Int) : ((tellL π i).length : Int) ≤ 5950 := by
  unfold tellL
  by_cases c1 : pT π i = 7
  · rw [if_pos c1]
    have e := snd7 h c1
    have := sCls_len hp e.2
    obtain ⟨-, -, n1, -⟩ := hp.2.2.2.2 _ e.2
    omega
  rw [if_neg c1]
  by_cases c2 : pT π i = 16
  · rw [if_pos c2]
    have e := snd16 h c2
    obtain ⟨-, n0, n1, -⟩ := hp.2.2.2.2 _ e.2
    have l1 := sRes_len (pC π (pF π i)) n0
    have l2 := sArgs_len (pC π (pF π i)) n0
    have r := gCl_rg (pC π (pF π i)) (pN π (pF π i)) 500 1
    rw [List.length_append]
    split at l2 <;> omega
  rw [if_neg c2]
  by_cases c3 : pT π i = 12
  · rw [if_pos c3]
    have e := snd12 h c3
    exact sNam_len hp e.2.2.2 e.2.2.1 (fun y => absurd rfl y)
  rw [if_neg c3]
  by_cases c4 : pT π i = 9 ∨ pT π i = 10 ∨ pT π i = 11
  · rw [if_pos c4]
    have e := snd9 h c4
    have e2 := snd12 h e.2
    exact sNam_len hp e2.2.2.2 e2.2.2.1 (fun _ => (snd7 h e.1).2)
  rw [if_neg c4]
  simp
section WO2
variable {w : qE} {s s0 : qS} {B : Int → Int} {n : Int} {r : qRes2} {π : qP} {C : Int → Int} {a m e k x y i o ds : Int} {f : Int → qS → Prop} {fv : qS → Prop} {g : Nat → qS → Prop}
theorem c113 (hw : qfv w) (hP : qCP s π) (hr : Rg ds) (hd : pfit π ds 32 = true) (hW : qWd s (sRes (pC π ds) (pN π ds)).length) (H : fv (say s (sRes (pC π ds) (pN π ds)))) : qW w 7 113 [.ref 24, qI ds] s (qPV fv g) := by
  obtain ⟨t, n0, hM, hcl⟩ := fit32_cl hd
  have hx := hP.gx t
  have rc := gCl_rg (pC π ds) (pN π ds) 500 1
  refine k113 (c38 hP hr t (c37 hP hr (fun a ha _ => ?_)))
  rw [ha t]
  refine c46 hx (k := 0) (e := pN π ds) (by decide) n0 (by omega) (by omega) rfl ?_
  have e1 : gab (pA s ds) (gCl (pC π ds) (pN π ds) 500 (0 + 1)) + 1 = pA s ds + (gCl (pC π ds) (pN π ds) 500 1 + 1) := by
    rw [show (0 : Int) + 1 = 1 from rfl]
    unfold gab
    rw [if_neg hcl]; omega
  rw [e1]
  exact c110 hw hx (k := gCl (pC π ds) (pN π ds) 500 1 + 1) (e := pN π ds) (by omega) (by omega) (by omega) rfl rfl hW H
theorem c114_loop (hw : qfv w) (hG : gcx s a m C) (he : 0 ≤ e ∧ e ≤ m) : ∀ (d : Nat) (k : Int) (u : qS), d ≤ 500 → (∀ c, c ≠ 24 → u c = s c) → (k = -1 ∨ (0 ≤ k ∧ k ≤ e + 1)) → qWd u ((sArg C e d (decide (d = 500)) k).length + 1) → fv (say u (sArg C e d (decide (d = 500)) k ++ [41])) → qR w 6 qm114 42 [(0, .ref 24), (2, qI (gab a k)), (3, qI (a + e)), (4, qI (500 - d))] [] u (qPV fv g) := by
  have hG2 := hG
  obtain ⟨g1, g2, g3, g4⟩ := hG
  have h89 : ∀ u, qWd u 1 → fv (say u [41]) → qR w 6 qm114 89 [(0, .ref 24)] [] u (qPV fv g) := fun u hW H => k114_89 (c109 hW H)
  intro d
  induction d with
  | zero =>
    intro k u hd hu hk hW H
    exact k114_42 ⟨⟨by omega, by omega⟩, fun c => absurd c (by omega), fun _ => h89 u (hW.le (by simp [sArg])) H⟩
  | succ d ih =>
    intro k u hd hu hk hW H
    unfold sArg at hW H
    have rk : Rg (gab a k) := by
      unfold gab
      split
      · exact ⟨by decide, by decide⟩
      · exact ⟨by omega, by omega⟩
    refine k114_42 ⟨⟨by omega, by omega⟩, fun _ => ⟨rk, fun c => ?_, fun c => ⟨⟨by omega, by omega⟩, fun c2 => ?_, fun c2 => ?_⟩⟩, fun c => absurd c (by omega)⟩
    · have : ¬ (0 ≤ k ∧ k < e) := by
        unfold gab at c
        split at c <;> omega
      rw [if_neg this] at hW H
      exact h89 u (hW.le (by simp)) H
    · have hk2 : k ≠ -1 := by
        intro y
        unfold gab at c
        rw [if_pos y] at c
        omega
      have eg : gab a k = a + k := by unfold gab; rw [if_neg hk2]
      rw [eg] at c2
      have hke : 0 ≤ k ∧ k < e := by omega
      rw [if_pos hke, List.append_assoc, List.append_assoc, say_app] at H
      rw [if_pos hke, List.length_append, List.length_append] at hW
      have rE := sTyE_rg C hke.1 hke.2
      have h76 : ∀ v : qS, (∀ c, c ≠ 24 → v c = s c) → qWd v ((sTyL C e k).length + ((sArg C e d false (sTyE C e k)).length + 1)) → fv (say v (sTyL C e k ++ (sArg C e d false (sTyE C e k) ++ [41]))) → qR w 6 qm114 76 [(0, .ref 24), (2, qI (gab a k)), (3, qI (a + e)), (4, qI (500 - ((d + 1 : Nat) : Int)))] [] v (qPV fv g) := by
        intro v hv hWv Hv
        have hGv : gcx v a m C := by
          unfold gcx
          rw [hv 6 (by decide)]
          exact hG2
        rw [say_app] at Hv
        refine k114_76 (c110 hw hGv (k := k) (e := e) hke.1 (by omega) he.2 eg rfl (hWv.le (by omega)) ?_)
        rw [show 500 - ((d + 1 : Nat) : Int) + 1 = 500 - (d : Int) by omega]
        have hd5 : decide (d = 500) = false := decide_eq_false (by omega)
        refine ih (sTyE C e k) _ (by omega) (fun c hc => by rw [say_cell _ _ hc, hv c hc]) (by omega) ?_ ?_
        · rw [hd5]
          exact qWd.say _ (hWv.le (by omega))
        · rw [hd5]
          exact Hv
      by_cases c5 : d + 1 = 500
      · have e5 : decide (d + 1 = 500) = true := decide_eq_true c5
        rw [e5, if_pos rfl] at hW H
        refine ⟨fun y => absurd y (by omega), fun _ => h76 u hu (hW.le (by simp; omega)) H⟩
      · have e5 : decide (d + 1 = 500) = false := decide_eq_false c5
        rw [e5, if_neg (by decide)] at hW H
        have hl : (([44, 32] : List Int).length : Int) = 2 := rfl
        rw [Int.natCast_add, hl] at hW
        refine ⟨fun _ => c109 (hW.le (by omega)) (c109 (qWd.put (m := 1) _ (hW.le (by omega))) ?_), fun y => absurd y (by omega)⟩
        refine h76 _ (fun c hc => by rw [sput_cell _ _ hc, sput_cell _ _ hc, hu c hc]) (qWd.put _ (qWd.put _ (hW.le (by omega)))) H
    · have : ¬ (0 ≤ k ∧ k < e) := by
        unfold gab at c2
        split at c2 <;> omega
      rw [if_neg this] at hW H
      exact h89 u (hW.le (by simp)) H
theorem c114 (hw : qfv w) (hP : qCP s π) (hr : Rg ds) (hd : pfit π ds 32 = true) (hW : qWd s (sArgs (pC π ds) (pN π ds)).length) (H : fv (say s (sArgs (pC π ds) (pN π ds)))) : qW w 7 114 [.ref 24, qI ds] s (qPV fv g) := by
  obtain ⟨t, n0, hM, hcl⟩ := fit32_cl hd
  have hx := hP.gx t
  have rc := gCl_rg (pC π ds) (pN π ds) 500 1
  unfold sArgs at hW H
  rw [List.length_cons, List.length_append, List.length_singleton] at hW
  refine k114 (c37 hP hr (fun a ha _ => ?_))
  rw [ha t]
  refine c38 hP hr t (c46 hx (k := 0) (e := pN π ds) (by decide) n0 (by omega) (by omega) rfl (c109 (hW.le (by omega)) ?_))
  have e1 : gab (pA s ds) (gCl (pC π ds) (pN π ds) 500 (0 + 1)) = pA s ds + gCl (pC π ds) (pN π ds) 500 1 := by
    rw [show (0 : Int) + 1 = 1 from rfl]
    unfold gab
    rw [if_neg hcl]
  rw [e1]
  have e2 : pA s ds + 1 = gab (pA s ds) 1 := by unfold gab; rw [if_neg (by decide)]
  rw [e2]
  refine c114_loop hw hx (e := gCl (pC π ds) (pN π ds) 500 1) ⟨by omega, by omega⟩ 500 1 _ (Nat.le_refl _) (fun c hc => sput_cell _ _ hc) (by omega) ?_ H
  refine qWd.put _ (hW.le ?_)
  rw [show decide (500 = 500) = true from rfl]
  omega
theorem c107 (hw : qfv w) (hP : qCP s π) (hK : qCK s π) (hr : Rg i) (hi : 0 < pT π i) (ht : pT π (pF π i) = 1) (hW : qWd s (sCls π i).length) (H : fv (say s (sCls π i))) : qW w 7 107 [.ref 24, qI i] s (qPV fv g) := by
  have rF := pF_rg hP.1 i
  have hx := hP.gx ht
  obtain ⟨-, n0, -, -⟩ := hP.1.2.2.2.2 _ ht
  unfold sCls at hW H
  refine k107 (c49 hP hr ?_)
  rw [pg_in hP.1 hi]
  refine c51 hP hK rF ⟨bi_rg _, fun z => c37 hP rF (fun a ha _ => ?_), fun z => c37 hP rF (fun a ha _ => ?_)⟩
  · rw [bi_0] at z
    rw [if_neg (by rw [z]; decide)] at hW H
    rw [ha ht]
    refine c38 hP rF ht (c110 hw hx (k := 0) (e := pN π (pF π i)) (by decide) n0 (by omega) (by omega) rfl hW (k107_65 H))
  · rw [bi_n] at z
    rw [if_pos z] at hW H
    rw [sPth_len] at hW
    rw [ha ht]
    refine c38 hP rF ht (c108 hx (k := 0) (e := pN π (pF π i)) (by decide) n0 (by omega) (by omega) rfl (hW.le (by omega)) (k107_65 ?_))
    rw [show (pN π (pF π i) - 0).toNat = (pN π (pF π i)).toNat by omega]
    exact H
theorem c115 (hw : qfv w) (hP : qCP s π) (hK : qCK s π) (hr : Rg i) (ho : Rg o) (ti : pT π i = 12) (ts : pT π (pS π i) = 1) (tf : pT π (pF π i) = 1) (to : o ≠ 0 → 0 < pT π o ∧ pT π (pF π o) = 1) (hW : qWd s (sNam π i o).length) (H : fv (say s (sNam π i o))) : qW w 8 115 [.ref 24, qI i, qI o] s (qPV fv g) := by
  have rF := pF_rg hP.1 i
  have rS := pS_rg hP.1 i
  have hxs := hP.gx ts
  obtain ⟨-, n0, -, -⟩ := hP.1.2.2.2.2 _ ts
  obtain ⟨-, f0, -, -⟩ := hP.1.2.2.2.2 _ tf
  unfold sNam at hW H
  rw [say_app] at H
  rw [List.length_append, List.length_cons, List.length_append, List.length_append, sChr_len] at hW
  -- from 90 on
  have h90 : ∀ (b : Bool) (u : qS), b = pfit π (pS π i) 32 → (∀ c, c ≠ 24 → u c = s c) → qWd u ((pN π (pF π i)).toNat + (if pfit π (pS π i) 32 = true then sArgs (pC π (pS π i)) (pN π (pS π i)) else []).length) → fv (say u (sChr (pC π (pF π i)) (pN π (pF π i)).toNat 0 ++ (if pfit π (pS π i) 32 = true then sArgs (pC π (pS π i)) (pN π (pS π i)) else []))) → qR w 7 qm115 90 [(0, .ref 24), (3, qI (pF π i)), (4, qI (pS π i)), (5, qI (bi b))] [] u (qPV fv g) := by
    intro b u hb hu hWu Hu
    have hPu : qCP u π := hP.fr (hu 4 (by decide)) (hu 5 (by decide)) (hu 6 (by decide))
    have hxf := hPu.gx tf
    rw [say_app] at Hu
    refine k115_90 (c37 hPu rF (fun a ha _ => ?_))
    rw [ha tf]
    refine c38 hPu rF tf (c116 hxf (k := 0) (e := pN π (pF π i)) (by decide) f0 (by omega) (by omega) rfl (hWu.le (by omega)) ?_)
    rw [show (pN π (pF π i) - 0).toNat = (pN π (pF π i)).toNat by omega]
    refine ⟨bi_rg _, fun z => k115_121 ?_, fun z => ?_⟩
    · rw [bi_0, hb] at z
      rw [if_neg (by rw [z]; decide)] at Hu
      exact Hu
    · rw [bi_n, hb] at z
      rw [if_pos z] at hWu Hu
      exact c114 hw (hPu.say _) rS z (qWd.say _ (hWu.le (by rw [sChr_len]; omega))) (k115_121 Hu)
  -- from 69 on
  have h69 : ∀ (b : Bool) (u : qS), b = pfit π (pS π i) 32 → (∀ c, c ≠ 24 → u c = s c) → qWd u (1 + ((if o = 0 then [] else sCls π o ++ [46]).length + ((pN π (pF π i)).toNat + (if pfit π (pS π i) 32 = true then sArgs (pC π (pS π i)) (pN π (pS π i)) else []).length))) → fv (say u (32 :: ((if o = 0 then [] else sCls π o ++ [46]) ++ (sChr (pC π (pF π i)) (pN π (pF π i)).toNat 0 ++ (if pfit π (pS π i) 32 = true then sArgs (pC π (pS π i)) (pN π (pS π i)) else []))))) → qR w 7 qm115 69 [(0, .ref 24), (2, qI o), (3, qI (pF π i)), (4, qI (pS π i)), (5, qI (bi b))] [] u (qPV fv g) := by
    intro b u hb hu hWu Hu
    rw [say, say_app] at Hu
    have hu2 : ∀ c, c ≠ 24 → sput u 32 c = s c := fun c hc => by rw [sput_cell _ _ hc, hu c hc]
    refine k115_69 (c109 (hWu.le (by omega)) ⟨ho, fun z => h90 b _ hb hu2 ?_ ?_, fun z => ?_⟩)
    · exact qWd.put _ (hWu.le (by omega))
    · rw [if_pos z] at Hu; exact Hu
    · obtain ⟨t1, t2⟩ := to z
      have hP2 : qCP (sput u 32) π := hP.fr (hu2 4 (by decide)) (hu2 5 (by decide)) (hu2 6 (by decide))
      have hK2 : qCK (sput u 32) π := hK.fr (hu2 5 (by decide))
      rw [if_neg z, say_app (sCls π o) [46]] at Hu
      rw [if_neg z, List.length_append, List.length_singleton] at hWu
      have hW2 : qWd (sput u 32) (((sCls π o).length : Int) + (1 + ((pN π (pF π i)).toNat + (if pfit π (pS π i) 32 = true then sArgs (pC π (pS π i)) (pN π (pS π i)) else []).length))) := qWd.put _ (hWu.le (by omega))
      refine c107 hw hP2 hK2 ho t1 t2 (hW2.le (by omega)) ?_
      have hW3 := qWd.say (m := 1 + ((pN π (pF π i)).toNat + (if pfit π (pS π i) 32 = true then sArgs (pC π (pS π i)) (pN π (pS π i)) else []).length)) (sCls π o) (hW2.le (by omega))
      refine c109 (hW3.le (by omega)) (h90 b _ hb (fun c hc => by rw [sput_cell _ _ hc, say_cell _ _ hc, hu2 c hc]) (qWd.put _ (hW3.le (by omega))) ?_)
      exact Hu
  refine k115 (c49 hP hr (c50 hP hr ?_))
  rw [pg_in hP.1 (by omega), pg_in hP.1 (by omega)]
  refine c51 hP hK rS ⟨bi_rg _, fun z => c37 hP rS (fun a ha _ => ?_), fun z => ?_⟩
  · rw [bi_0] at z
    rw [ha ts]
    have hW1 : ∀ x, x = (if pfit π (pS π i) 32 = true then sRes (pC π (pS π i)) (pN π (pS π i)) else sTyL (pC π (pS π i)) (pN π (pS π i)) 0) → x = sTyL (pC π (pS π i)) (pN π (pS π i)) 0 := fun x hx => by rw [hx, if_neg (by rw [z]; decide)]
    have e1 := hW1 _ rfl
    rw [e1] at H hW
    refine c38 hP rS ts (c110 hw hxs (k := 0) (e := pN π (pS π i)) (by decide) n0 (by omega) (by omega) rfl (hW.le (by omega)) (h69 _ _ rfl (fun c hc => say_cell _ _ hc) (qWd.say _ (hW.le (by omega))) H))
  · rw [bi_n] at z
    have hW1 : ∀ x, x = (if pfit π (pS π i) 32 = true then sRes (pC π (pS π i)) (pN π (pS π i)) else sTyL (pC π (pS π i)) (pN π (pS π i)) 0) → x = sRes (pC π (pS π i)) (pN π (pS π i)) := fun x hx => by rw [hx, if_pos z]
    have e1 := hW1 _ rfl
    rw [e1] at H hW
    exact c113 hw hP rS z (hW.le (by omega)) (h69 _ _ rfl (fun c hc => say_cell _ _ hc) (qWd.say _ (hW.le (by omega))) H)
theorem c106 (hw : qfv w) (hP : qCP s π) (hK : qCK s π) (hS : pSound π) (hr : Rg i) (hk : Rg k) (hi : 0 < pT π i) (H : ∀ s', (∀ c, c ≠ 24 → s' c = s c) → f (aTold π i k) s') : qW w 9 106 [.ref 24, qI i, qI k] s (qPI f g) := by
  obtain ⟨u, hu⟩ : ∃ u, u = qset (qset (qset s 24 1 k) 24 2 0) 24 3 (-2) := ⟨_, rfl⟩
  have uc : ∀ c, c ≠ 24 → u c = s c := fun c hc => by rw [hu, qset_cell _ hc, qset_cell _ hc, qset_cell _ hc]
  have u1 : u 24 1 = k ∧ u 24 2 = 0 ∧ u 24 3 = -2 := by rw [hu]; simp [qset_eq]
  have hPu : qCP u π := hP.fr (uc 4 (by decide)) (uc 5 (by decide)) (uc 6 (by decide))
  have hKu : qCK u π := hK.fr (uc 5 (by decide))
  have hl := tell_len hP.1 hS i
  have hT : ∀ v, 0 < v → (pg π (pT π) i = v ↔ pT π i = v) := fun v hv => pg_T hP.1 hv
  have hF : pg π (pF π) i = pF π i := pg_in hP.1 hi
  have hSS : pg π (pS π) i = pS π i := pg_in hP.1 hi
  have rF := pF_rg hP.1 i
  have rS := pS_rg hP.1 i
  have hWu : qWd u (tellL π i).length := ⟨by omega, by omega, by rw [u1.1]; exact hk⟩
  have h147 : qR w 8 qm106 147 [(0, .ref 24), (2, qI k)] [] (say u (tellL π i)) (qPI f g) := by
    obtain ⟨e2, e1⟩ := say_2 (tellL π i) u
    have e3 := say_3 (tellL π i) u
    rw [u1.1, u1.2.1, u1.2.2] at e3
    rw [u1.2.1] at e2
    have H := H (say u (tellL π i)) (fun c hc => by rw [say_cell _ _ hc, uc c hc])
    unfold aTold at H
    rw [if_neg (by omega)] at H
    refine k106_147 ⟨hk, fun c => k106_163 ?_, fun c => k106_163 ?_⟩
    · rw [if_pos c] at H
      rw [e2, Int.zero_add]
      exact H
    · rw [if_neg c] at H
      rw [e3, Int.sub_zero]
      exact H
  refine k106 ?_
  rw [← hu]
  refine c35 hPu hr ⟨pg_rg hP.1 (pT_rg hP.1 i), fun c => ?_, fun c => ?_, fun c => ?_, fun c => ?_, fun c1 c2 c3 c4 c5 c6 => ?_⟩
  · rw [hT _ (by omega)] at c
    have e : tellL π i = sCls π i := by unfold tellL; rw [if_pos c]
    rw [e] at hWu h147
    exact c107 hw hPu hKu hr hi (snd7 hS c).2 hWu h147
  · rw [hT _ (by omega), hT _ (by omega), hT _ (by omega)] at c
    have e : tellL π i = sNam π (pS π i) (pF π i) := by unfold tellL; rw [if_neg (by omega), if_neg (by omega), if_neg (by omega), if_pos c]
    rw [e] at hWu h147
    have d := snd9 hS c
    have d2 := snd12 hS d.2
    refine c50 hPu hr (c49 hPu hr ?_)
    rw [hF, hSS]
    exact c115 hw hPu hKu rS rF d.2 d2.2.2.2 d2.2.2.1 (fun _ => ⟨by omega, (snd7 hS d.1).2⟩) hWu h147
  · rw [hT _ (by omega)] at c
    have e : tellL π i = sNam π i 0 := by unfold tellL; rw [if_neg (by omega), if_neg (by omega), if_pos c]
    rw [e] at hWu h147
    have d2 := snd12 hS c
    exact c115 hw hPu hKu hr ⟨by decide, by decide⟩ c d2.2.2.2 d2.2.2.1 (fun y => absurd rfl y) hWu h147
  · rw [hT _ (by omega)] at c
    have e : tellL π i = sRes (pC π (pF π i)) (pN π (pF π i)) ++ sArgs (pC π (pF π i)) (pN π (pF π i)) := by unfold tellL; rw [if_neg (by omega), if_pos c]
    rw [e, say_app] at h147
    rw [e, List.length_append] at hWu
    have d := snd16 hS c
    refine c49 hPu hr ?_
    rw [hF]
    refine c113 hw hPu rF d.1 (hWu.le (by omega)) (c49 (hPu.say _) hr ?_)
    rw [hF]
    exact c114 hw (hPu.say _) rF d.1 (qWd.say _ (hWu.le (by omega))) h147
  · rw [Ne, hT _ (by omega)] at c1 c2 c3 c4 c5 c6
    have e : tellL π i = [] := by unfold tellL; rw [if_neg c1, if_neg c6, if_neg c5, if_neg (by omega)]
    rw [e] at h147
    exact h147
theorem c105 (hw : qfv w) (hr : Rg i) (hk : Rg k) (h : s 0 6 = 0 ∨ s 0 6 = 1) (hR : s 0 6 = 1 → rRest B n = .inr r) (H0 : s 0 6 = 0 → g 2 s) (hF : s 0 6 = 1 → qRd B r s) (H1 : s 0 6 = 1 → ∀ s', (∀ c, c ≠ 24 → s' c = s c) → f (aTold (mkP B r.1) i k) s') : qW w 10 105 [.ref 0, qI i, qI k] s (qPI f g) := by
  refine k105 (c95 h H0 (fun h1 => ?_))
  have H := H1 h1
  obtain ⟨hP, hK, -⟩ := hF h1
  have hok := hP.1
  have hT := (hok.2.2.2.1 i).1
  have hS : pSound (mkP B r.1) := rLk_sound hok (rRest_r (hR h1)).2.1
  refine c96 hP hr ⟨bi_rg _, fun z => k105_29 ?_, fun z => ?_⟩
  · rw [bi_0, decide_eq_false_iff_not] at z
    have := H s (fun _ _ => rfl)
    unfold aTold at this
    rw [if_pos (by omega)] at this
    exact this
  · rw [bi_n, decide_eq_true_iff] at z
    exact c106 hw hP hK hS hr hk z (fun s' hs => k105_29 (H s' hs))
end WO2
