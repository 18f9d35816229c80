/-! every word that the tables need stands among the Statement's: by its place (printed by wip/whole/gen_tables.py) -/
def qsegs : List (List Jvm.Cond) := [k2_sels lw_privs, tables_1_1, tables_1_2, tables_1_3, tables_1_4, tables_1_5, tables_1_6, tables_1_7]
def qget (q : Nat × Nat) : Option Jvm.Cond := match qsegs[q.1]? with
  | some l => l[q.2]?
  | none => none
theorem qseg_in {k : Nat} {l : List Jvm.Cond} (h : qsegs[k]? = some l) {w : Jvm.Cond} (hw : w ∈ l) : w ∈ lw_tbl := by
  unfold lw_tbl tables_1
  match k, h with
  | 0, h => exact List.mem_append_left _ (by cases h; exact hw)
  | 1, h => exact List.mem_append_right _ (List.mem_append_left _ (by cases h; exact hw))
  | 2, h => exact List.mem_append_right _ (List.mem_append_right _ (List.mem_append_left _ (by cases h; exact hw)))
  | 3, h => exact List.mem_append_right _ (List.mem_append_right _ (List.mem_append_right _ (List.mem_append_left _ (by cases h; exact hw))))
  | 4, h => exact List.mem_append_right _ (List.mem_append_right _ (List.mem_append_right _ (List.mem_append_right _ (List.mem_append_left _ (by cases h; exact hw)))))
  | 5, h => exact List.mem_append_right _ (List.mem_append_right _ (List.mem_append_right _ (List.mem_append_right _ (List.mem_append_right _ (List.mem_append_left _ (by cases h; exact hw))))))
  | 6, h => exact List.mem_append_right _ (List.mem_append_right _ (List.mem_append_right _ (List.mem_append_right _ (List.mem_append_right _ (List.mem_append_right _ (List.mem_append_left _ (by cases h; exact hw)))))))
  | 7, h => exact List.mem_append_right _ (List.mem_append_right _ (List.mem_append_right _ (List.mem_append_right _ (List.mem_append_right _ (List.mem_append_right _ (List.mem_append_right _ ((by cases h; exact hw))))))))
  | k + 8, h => simp [qsegs] at h
theorem qget_in {ws : List Jvm.Cond} {ps : List (Nat × Nat)} (h : ws = ps.filterMap qget) : ∀ w ∈ ws, w ∈ lw_tbl := by
  intro w hw
  rw [h] at hw
  obtain ⟨q, -, hq⟩ := List.mem_filterMap.mp hw
  unfold qget at hq
  split at hq
  · next l hl => exact qseg_in hl (List.mem_of_getElem? hq)
  · cases hq
theorem qcut {α : Type} {L : List α} {f : α → List Jvm.Cond} {w : Jvm.Cond} {a : Nat} (b : Nat) (h : w ∈ (L.drop a).flatMap f) : w ∈ ((L.drop a).take b).flatMap f ∨ w ∈ (L.drop (a + b)).flatMap f := by
  obtain ⟨x, h1, h2⟩ := List.mem_flatMap.mp h
  rw [← List.take_append_drop b (L.drop a)] at h1
  rcases List.mem_append.mp h1 with h3 | h3
  · exact Or.inl (List.mem_flatMap.mpr ⟨x, h3, h2⟩)
  · rw [List.drop_drop] at h3
    exact Or.inr (List.mem_flatMap.mpr ⟨x, h3, h2⟩)
set_option maxRecDepth 100000 in
set_option maxHeartbeats 4000000 in
theorem qin_M_0 : ((qms.drop 0).take 20).flatMap qwM = ([(1, 37), (1, 1), (1, 45), (1, 2), (1, 65), (1, 3), (1, 71), (1, 4), (1, 104), (1, 5), (1, 117), (1, 6), (1, 172), (1, 7), (1, 222), (1, 8), (2, 22), (1, 1), (2, 26), (1, 2), (2, 30), (1, 1), (2, 34), (1, 2), (2, 38), (1, 1), (2, 42), (1, 2), (2, 46), (1, 1), (2, 50), (1, 2), (2, 59), (1, 1), (2, 63), (1, 2), (2, 67), (1, 7), (2, 71), (1, 2)] : List (Nat × Nat)).filterMap qget := rfl
set_option maxRecDepth 100000 in
set_option maxHeartbeats 4000000 in
theorem qin_M_1 : ((qms.drop 20).take 20).flatMap qwM = ([(2, 141), (1, 2), (2, 146), (1, 2), (2, 150), (1, 2), (2, 169), (1, 3), (2, 173), (1, 4), (2, 180), (1, 4), (3, 204), (1, 3), (3, 208), (1, 4), (3, 212), (1, 3), (3, 216), (1, 2), (3, 220), (1, 3), (3, 223), (1, 3), (3, 227), (1, 3), (3, 231), (1, 3), (3, 235), (1, 4), (3, 239), (1, 3), (4, 3), (1, 4), (4, 7), (1, 3), (4, 11), (1, 3), (4, 14), (1, 26)] : List (Nat × Nat)).filterMap qget := rfl
set_option maxRecDepth 100000 in
set_option maxHeartbeats 4000000 in
theorem qin_M_2 : ((qms.drop 40).take 20).flatMap qwM = ([(4, 17), (1, 26), (4, 21), (1, 26), (4, 50), (1, 26), (4, 53), (1, 26), (4, 56), (1, 26), (4, 59), (1, 26), (4, 62), (1, 26), (4, 67), (1, 5), (4, 72), (1, 5), (4, 76), (1, 3), (4, 80), (1, 3), (4, 85), (1, 3), (4, 89), (1, 5), (4, 93), (1, 5), (4, 97), (1, 5), (4, 100), (1, 5), (4, 106), (1, 7), (4, 109), (1, 7), (4, 113), (1, 7), (4, 117), (1, 3)] : List (Nat × Nat)).filterMap qget := rfl
set_option maxRecDepth 100000 in
set_option maxHeartbeats 4000000 in
theorem qin_M_3 : ((qms.drop 60).take 20).flatMap qwM = ([(4, 125), (1, 7), (4, 129), (1, 7), (4, 132), (1, 7), (4, 142), (1, 3), (4, 145), (1, 7), (4, 150), (1, 3), (4, 153), (1, 26), (4, 157), (1, 7), (4, 162), (1, 3), (4, 166), (1, 6), (4, 172), (1, 3), (4, 176), (1, 6), (4, 182), (1, 3), (4, 190), (1, 2), (4, 204), (1, 6), (4, 211), (1, 6), (4, 215), (1, 2), (4, 220), (1, 6), (4, 224), (1, 3), (4, 228), (1, 6)] : List (Nat × Nat)).filterMap qget := rfl
set_option maxRecDepth 100000 in
set_option maxHeartbeats 4000000 in
theorem qin_M_4 : ((qms.drop 80).take 20).flatMap qwM = ([(4, 232), (1, 6), (4, 236), (1, 6), (5, 2), (1, 6), (5, 6), (1, 6), (5, 10), (1, 6), (5, 14), (1, 7), (5, 18), (1, 7), (5, 22), (1, 7), (5, 25), (1, 7), (5, 29), (1, 7), (5, 38), (1, 26), (5, 43), (1, 6), (5, 49), (1, 2), (5, 55), (1, 5), (5, 63), (1, 1), (5, 67), (1, 1), (5, 86), (1, 3), (5, 95), (1, 1), (5, 101), (1, 3), (5, 106), (1, 31)] : List (Nat × Nat)).filterMap qget := rfl
set_option maxRecDepth 100000 in
set_option maxHeartbeats 4000000 in
theorem qin_M_5 : ((qms.drop 100).take 20).flatMap qwM = ([(5, 109), (1, 31), (5, 128), (1, 31), (5, 132), (1, 31), (5, 142), (1, 1), (5, 146), (1, 3), (5, 154), (1, 1), (5, 158), (1, 8), (5, 163), (1, 8), (5, 171), (1, 8), (5, 175), (1, 8), (5, 179), (1, 8), (5, 183), (1, 8), (5, 196), (1, 8), (5, 203), (1, 8), (5, 208), (1, 8), (5, 212), (1, 8), (5, 217), (1, 8), (5, 224), (1, 1), (5, 228), (1, 3), (5, 236), (1, 1)] : List (Nat × Nat)).filterMap qget := rfl
set_option maxRecDepth 100000 in
set_option maxHeartbeats 4000000 in
theorem qin_M_6 : ((qms.drop 120).take 20).flatMap qwM = ([(6, 3), (1, 1), (6, 6), (1, 1), (6, 11), (1, 9), (6, 108), (1, 9), (6, 112), (1, 9), (6, 115), (1, 9), (6, 119), (1, 9), (6, 123), (1, 9), (6, 127), (1, 9), (6, 131), (1, 9), (6, 135), (1, 9), (6, 139), (1, 9), (6, 143), (1, 9), (6, 147), (1, 9), (6, 151), (1, 9), (6, 157), (1, 9), (6, 161), (1, 9), (6, 164), (1, 9), (6, 168), (1, 9), (6, 172), (1, 9)] : List (Nat × Nat)).filterMap qget := rfl
set_option maxRecDepth 100000 in
set_option maxHeartbeats 4000000 in
theorem qin_M_7 : ((qms.drop 140).take 20).flatMap qwM = ([(6, 176), (1, 9), (6, 180), (1, 9), (6, 184), (1, 9), (6, 188), (1, 9), (6, 192), (1, 9), (6, 196), (1, 9), (6, 200), (1, 9), (6, 204), (1, 9), (6, 208), (1, 9), (6, 211), (1, 9), (6, 215), (1, 9), (6, 219), (1, 9), (6, 223), (1, 9), (6, 227), (1, 9), (6, 231), (1, 9), (6, 235), (1, 9), (6, 239), (1, 9), (7, 3), (1, 9), (7, 7), (1, 9), (7, 11), (1, 9)] : List (Nat × Nat)).filterMap qget := rfl
set_option maxRecDepth 100000 in
set_option maxHeartbeats 4000000 in
theorem qin_M_8 : ((qms.drop 160).take 20).flatMap qwM = ([(7, 15), (1, 9), (7, 19), (1, 9), (7, 23), (1, 9), (7, 26), (1, 9), (7, 30), (1, 9), (7, 34), (1, 9), (7, 38), (1, 9), (7, 42), (1, 9), (7, 46), (1, 9), (7, 50), (1, 9), (7, 54), (1, 9), (7, 58), (1, 9), (7, 62), (1, 9), (7, 66), (1, 9), (7, 70), (1, 9), (7, 74), (1, 9), (7, 78), (1, 9), (7, 82), (1, 9), (7, 86), (1, 9), (7, 90), (1, 9)] : List (Nat × Nat)).filterMap qget := rfl
set_option maxRecDepth 100000 in
set_option maxHeartbeats 4000000 in
theorem qin_M_9 : ((qms.drop 180).take 20).flatMap qwM = ([(7, 96), (1, 9), (7, 104), (1, 9), (7, 108), (1, 9), (7, 112), (1, 9), (7, 116), (1, 9), (7, 120), (1, 9), (7, 124), (1, 9), (7, 128), (1, 9), (7, 132), (1, 9), (7, 136), (1, 9), (7, 140), (1, 9), (7, 144), (1, 9), (7, 148), (1, 9), (7, 152), (1, 9), (7, 156), (1, 9), (2, 53), (1, 0), (5, 58), (1, 0), (5, 90), (1, 0), (5, 138), (1, 0), (5, 150), (1, 0)] : List (Nat × Nat)).filterMap qget := rfl
set_option maxRecDepth 100000 in
set_option maxHeartbeats 4000000 in
theorem qin_M_10 : ((qms.drop 200).take 13).flatMap qwM = ([(5, 220), (1, 0), (5, 232), (1, 0), (5, 239), (1, 0), (2, 183), (1, 15), (2, 186), (1, 15), (4, 135), (1, 25), (3, 61), (1, 18), (3, 65), (1, 18), (4, 26), (1, 18), (4, 30), (1, 18), (4, 33), (1, 24), (4, 36), (1, 18), (4, 39), (1, 23)] : List (Nat × Nat)).filterMap qget := rfl
set_option maxRecDepth 100000 in
theorem qin_M : ∀ w ∈ qms.flatMap qwM, w ∈ lw_tbl := by
  intro w hw
  have hw : w ∈ (qms.drop 0).flatMap qwM := hw
  rcases qcut 20 hw with hw | hw
  · exact qget_in qin_M_0 w hw
  rcases qcut 20 hw with hw | hw
  · exact qget_in qin_M_1 w hw
  rcases qcut 20 hw with hw | hw
  · exact qget_in qin_M_2 w hw
  rcases qcut 20 hw with hw | hw
  · exact qget_in qin_M_3 w hw
  rcases qcut 20 hw with hw | hw
  · exact qget_in qin_M_4 w hw
  rcases qcut 20 hw with hw | hw
  · exact qget_in qin_M_5 w hw
  rcases qcut 20 hw with hw | hw
  · exact qget_in qin_M_6 w hw
  rcases qcut 20 hw with hw | hw
  · exact qget_in qin_M_7 w hw
  rcases qcut 20 hw with hw | hw
  · exact qget_in qin_M_8 w hw
  rcases qcut 20 hw with hw | hw
  · exact qget_in qin_M_9 w hw
  rcases qcut 13 hw with hw | hw
  · exact qget_in qin_M_10 w hw
  have e : qms.drop 213 = [] := rfl
  have hw : w ∈ (qms.drop 213).flatMap qwM := hw
  rw [e] at hw
  cases hw
set_option maxRecDepth 100000 in
set_option maxHeartbeats 4000000 in
theorem qin_L_0 : ((qml.drop 0).take 16).flatMap qwL = ([(1, 35), (1, 36), (1, 38), (1, 39), (1, 40), (1, 43), (1, 44), (1, 46), (1, 39), (1, 40), (1, 63), (1, 64), (1, 66), (1, 39), (1, 40), (1, 69), (1, 70), (1, 72), (1, 39), (1, 40), (1, 102), (1, 103), (1, 105), (1, 39), (1, 40), (1, 115), (1, 116), (1, 118), (1, 39), (1, 40), (1, 120), (1, 70), (1, 170), (1, 171), (1, 173), (1, 39), (1, 40), (1, 175), (1, 70)] : List (Nat × Nat)).filterMap qget := rfl
set_option maxRecDepth 100000 in
set_option maxHeartbeats 4000000 in
theorem qin_L_1 : ((qml.drop 16).take 14).flatMap qwL = ([(1, 220), (1, 221), (1, 223), (1, 39), (1, 40), (2, 19), (2, 20), (2, 21), (2, 23), (2, 24), (2, 25), (2, 27), (2, 28), (2, 29), (2, 31), (2, 32), (2, 33), (2, 35), (2, 36), (2, 37), (2, 39), (2, 40), (2, 41), (2, 43), (2, 44), (2, 45), (2, 47), (2, 48), (2, 49), (2, 51), (2, 52), (2, 56), (2, 57), (2, 58), (2, 60), (2, 61), (2, 62), (2, 64), (2, 65), (2, 66)] : List (Nat × Nat)).filterMap qget := rfl
set_option maxRecDepth 100000 in
set_option maxHeartbeats 4000000 in
theorem qin_L_2 : ((qml.drop 30).take 14).flatMap qwL = ([(2, 68), (2, 69), (2, 70), (2, 138), (2, 139), (2, 140), (2, 143), (2, 144), (2, 145), (2, 147), (2, 148), (2, 149), (2, 166), (2, 167), (2, 168), (2, 170), (2, 171), (2, 172), (2, 174), (2, 69), (2, 70), (2, 175), (2, 144), (2, 145), (2, 176), (2, 139), (2, 140), (2, 177), (2, 178), (2, 179), (2, 181), (2, 182), (2, 184), (2, 185), (3, 62), (3, 63), (3, 64), (3, 201), (3, 203), (0, 1)] : List (Nat × Nat)).filterMap qget := rfl
set_option maxRecDepth 100000 in
set_option maxHeartbeats 4000000 in
theorem qin_L_3 : ((qml.drop 44).take 14).flatMap qwL = ([(3, 205), (3, 206), (3, 207), (3, 209), (3, 211), (0, 2), (3, 213), (3, 214), (3, 215), (3, 217), (3, 219), (0, 3), (3, 221), (3, 222), (3, 224), (3, 226), (0, 4), (3, 228), (3, 229), (3, 230), (3, 232), (3, 233), (3, 234), (3, 236), (3, 237), (3, 238), (4, 0), (4, 1), (4, 2), (4, 4), (4, 5), (4, 6), (4, 8), (4, 9), (4, 10), (4, 12), (4, 13), (4, 15), (4, 16)] : List (Nat × Nat)).filterMap qget := rfl
set_option maxRecDepth 100000 in
set_option maxHeartbeats 4000000 in
theorem qin_L_4 : ((qml.drop 58).take 16).flatMap qwL = ([(4, 19), (4, 20), (4, 22), (3, 59), (3, 60), (4, 23), (4, 24), (4, 25), (4, 27), (4, 28), (4, 29), (4, 31), (4, 32), (4, 34), (4, 35), (4, 37), (4, 38), (4, 48), (4, 49), (4, 51), (4, 52), (4, 54), (4, 55), (4, 57), (4, 58), (4, 60), (4, 61), (4, 64), (4, 65), (4, 66), (4, 68), (3, 233), (3, 234), (4, 69), (4, 71), (0, 5), (4, 73), (4, 74), (4, 75)] : List (Nat × Nat)).filterMap qget := rfl
set_option maxRecDepth 100000 in
set_option maxHeartbeats 4000000 in
theorem qin_L_5 : ((qml.drop 74).take 14).flatMap qwL = ([(4, 77), (4, 78), (4, 79), (4, 81), (3, 237), (3, 238), (4, 82), (4, 83), (4, 84), (4, 86), (4, 88), (0, 6), (4, 90), (4, 92), (0, 7), (4, 94), (4, 96), (0, 8), (4, 98), (4, 99), (4, 101), (4, 1), (4, 2), (4, 102), (2, 139), (2, 140), (4, 103), (4, 104), (4, 105), (4, 107), (4, 108), (4, 110), (4, 112), (0, 9), (4, 114), (4, 115), (4, 116), (4, 118), (4, 74), (4, 75)] : List (Nat × Nat)).filterMap qget := rfl
set_option maxRecDepth 100000 in
set_option maxHeartbeats 4000000 in
theorem qin_L_6 : ((qml.drop 88).take 14).flatMap qwL = ([(4, 119), (4, 83), (4, 84), (4, 120), (2, 171), (2, 172), (4, 121), (2, 178), (2, 179), (4, 122), (4, 123), (4, 124), (4, 126), (4, 128), (0, 10), (4, 130), (4, 131), (4, 133), (4, 134), (4, 139), (4, 140), (4, 141), (4, 143), (4, 144), (4, 146), (3, 206), (3, 207), (4, 147), (4, 148), (4, 149), (4, 151), (4, 152), (4, 154), (4, 156), (0, 11), (4, 158), (4, 1), (4, 2)] : List (Nat × Nat)).filterMap qget := rfl
set_option maxRecDepth 100000 in
set_option maxHeartbeats 4000000 in
theorem qin_L_7 : ((qml.drop 102).take 13).flatMap qwL = ([(4, 159), (4, 160), (4, 161), (4, 163), (4, 164), (4, 165), (4, 167), (2, 69), (2, 70), (4, 168), (2, 144), (2, 145), (4, 169), (4, 170), (4, 171), (4, 173), (4, 175), (0, 12), (4, 179), (4, 180), (4, 181), (4, 183), (4, 20), (4, 186), (2, 139), (2, 140), (4, 187), (4, 188), (4, 189), (4, 191), (2, 69), (2, 70), (4, 192), (3, 214), (3, 215), (4, 201), (4, 203), (0, 13)] : List (Nat × Nat)).filterMap qget := rfl
set_option maxRecDepth 100000 in
set_option maxHeartbeats 4000000 in
theorem qin_L_8 : ((qml.drop 115).take 13).flatMap qwL = ([(4, 206), (4, 74), (4, 75), (4, 207), (4, 148), (4, 149), (4, 208), (4, 210), (0, 14), (4, 212), (4, 213), (4, 214), (4, 217), (4, 219), (0, 15), (4, 221), (4, 222), (4, 223), (4, 225), (4, 227), (0, 16), (4, 229), (4, 231), (0, 17), (4, 233), (4, 235), (0, 18), (4, 237), (2, 178), (2, 179), (4, 238), (3, 206), (3, 207), (4, 239), (5, 1), (0, 19), (5, 3), (5, 5), (0, 20)] : List (Nat × Nat)).filterMap qget := rfl
set_option maxRecDepth 100000 in
set_option maxHeartbeats 4000000 in
theorem qin_L_9 : ((qml.drop 128).take 14).flatMap qwL = ([(5, 7), (3, 237), (3, 238), (5, 8), (5, 9), (5, 11), (5, 13), (0, 21), (5, 15), (5, 16), (5, 17), (5, 19), (5, 21), (0, 22), (5, 23), (5, 24), (5, 26), (5, 28), (0, 23), (5, 30), (4, 83), (4, 84), (5, 32), (4, 180), (4, 181), (5, 33), (4, 74), (4, 75), (5, 34), (4, 5), (4, 6), (5, 35), (4, 9), (4, 10), (5, 36), (5, 37), (5, 39), (4, 152)] : List (Nat × Nat)).filterMap qget := rfl
set_option maxRecDepth 100000 in
set_option maxHeartbeats 4000000 in
theorem qin_L_10 : ((qml.drop 142).take 14).flatMap qwL = ([(5, 40), (5, 41), (5, 42), (5, 44), (2, 171), (2, 172), (5, 45), (4, 164), (4, 165), (5, 46), (5, 47), (5, 48), (5, 50), (2, 139), (2, 140), (5, 51), (3, 233), (3, 234), (5, 52), (5, 53), (5, 54), (5, 56), (5, 57), (5, 60), (5, 61), (5, 62), (5, 64), (5, 66), (0, 24), (5, 83), (5, 84), (5, 85), (5, 87), (4, 1), (4, 2), (5, 88), (5, 89), (5, 92), (5, 93), (5, 94)] : List (Nat × Nat)).filterMap qget := rfl
set_option maxRecDepth 100000 in
set_option maxHeartbeats 4000000 in
theorem qin_L_11 : ((qml.drop 156).take 15).flatMap qwL = ([(5, 96), (3, 237), (3, 238), (5, 97), (4, 74), (4, 75), (5, 98), (5, 99), (5, 100), (5, 102), (4, 78), (4, 79), (5, 104), (5, 105), (5, 107), (5, 108), (5, 126), (5, 127), (5, 130), (5, 131), (5, 136), (5, 137), (5, 139), (5, 140), (5, 141), (5, 143), (5, 144), (5, 145), (5, 147), (4, 148), (4, 149), (5, 148), (5, 149), (5, 151), (5, 152), (5, 153), (5, 155), (5, 156), (5, 157)] : List (Nat × Nat)).filterMap qget := rfl
set_option maxRecDepth 100000 in
set_option maxHeartbeats 4000000 in
theorem qin_L_12 : ((qml.drop 171).take 14).flatMap qwL = ([(5, 159), (3, 237), (3, 238), (5, 160), (5, 162), (0, 25), (5, 164), (4, 74), (4, 75), (5, 165), (4, 83), (4, 84), (5, 166), (4, 5), (4, 6), (5, 167), (4, 9), (4, 10), (5, 168), (5, 170), (0, 26), (5, 172), (5, 174), (0, 27), (5, 176), (5, 178), (0, 28), (5, 180), (4, 52), (5, 181), (5, 182), (5, 193), (5, 195), (0, 29), (5, 197), (3, 59), (3, 60), (5, 198), (4, 24), (4, 25)] : List (Nat × Nat)).filterMap qget := rfl
set_option maxRecDepth 100000 in
set_option maxHeartbeats 4000000 in
theorem qin_L_13 : ((qml.drop 185).take 15).flatMap qwL = ([(5, 200), (5, 202), (0, 30), (5, 204), (4, 61), (5, 205), (5, 207), (0, 31), (5, 209), (5, 211), (0, 32), (5, 213), (4, 78), (4, 79), (5, 214), (5, 216), (0, 33), (5, 218), (5, 219), (5, 221), (5, 222), (5, 223), (5, 225), (5, 226), (5, 227), (5, 229), (5, 84), (5, 85), (5, 230), (5, 231), (5, 233), (5, 234), (5, 235), (5, 237), (5, 238), (6, 0), (6, 1), (6, 2), (6, 4), (6, 5)] : List (Nat × Nat)).filterMap qget := rfl
set_option maxRecDepth 100000 in
set_option maxHeartbeats 4000000 in
theorem qin_L_14 : ((qml.drop 200).take 14).flatMap qwL = ([(6, 9), (6, 10), (6, 12), (1, 39), (1, 40), (6, 105), (6, 106), (6, 107), (6, 109), (6, 110), (6, 111), (6, 113), (6, 114), (6, 116), (6, 117), (6, 118), (6, 120), (6, 121), (6, 122), (6, 124), (6, 125), (6, 126), (6, 128), (6, 130), (0, 34), (6, 132), (6, 134), (0, 35), (6, 136), (6, 138), (0, 36), (6, 140), (6, 142), (0, 37), (6, 144), (6, 146), (0, 38), (6, 148), (6, 150), (0, 39)] : List (Nat × Nat)).filterMap qget := rfl
set_option maxRecDepth 100000 in
set_option maxHeartbeats 4000000 in
theorem qin_L_15 : ((qml.drop 214).take 13).flatMap qwL = ([(6, 154), (6, 156), (0, 40), (6, 158), (6, 160), (0, 41), (6, 162), (6, 163), (6, 165), (6, 167), (0, 42), (6, 169), (6, 171), (0, 43), (6, 173), (6, 175), (0, 44), (6, 177), (6, 179), (0, 45), (6, 181), (6, 183), (0, 46), (6, 185), (6, 187), (0, 47), (6, 189), (6, 191), (0, 48), (6, 193), (6, 195), (0, 49), (6, 197), (6, 199), (0, 50), (6, 201), (6, 203), (0, 51)] : List (Nat × Nat)).filterMap qget := rfl
set_option maxRecDepth 100000 in
set_option maxHeartbeats 4000000 in
theorem qin_L_16 : ((qml.drop 227).take 13).flatMap qwL = ([(6, 205), (6, 207), (0, 52), (6, 209), (6, 210), (6, 212), (6, 214), (0, 53), (6, 216), (6, 218), (0, 54), (6, 220), (6, 222), (0, 55), (6, 224), (6, 226), (0, 56), (6, 228), (6, 230), (0, 57), (6, 232), (6, 234), (0, 58), (6, 236), (6, 238), (0, 59), (7, 0), (7, 2), (0, 60), (7, 4), (7, 6), (0, 61), (7, 8), (7, 10), (0, 62), (7, 12), (7, 14), (0, 63)] : List (Nat × Nat)).filterMap qget := rfl
set_option maxRecDepth 100000 in
set_option maxHeartbeats 4000000 in
theorem qin_L_17 : ((qml.drop 240).take 13).flatMap qwL = ([(7, 16), (7, 18), (0, 64), (7, 20), (7, 22), (0, 65), (7, 24), (7, 25), (7, 27), (7, 29), (0, 66), (7, 31), (7, 33), (0, 67), (7, 35), (7, 37), (0, 68), (7, 39), (7, 41), (0, 69), (7, 43), (7, 45), (0, 70), (7, 47), (7, 49), (0, 71), (7, 51), (7, 53), (0, 72), (7, 55), (7, 57), (0, 73), (7, 59), (7, 61), (0, 74), (7, 63), (7, 65), (0, 75)] : List (Nat × Nat)).filterMap qget := rfl
set_option maxRecDepth 100000 in
set_option maxHeartbeats 4000000 in
theorem qin_L_18 : ((qml.drop 253).take 13).flatMap qwL = ([(7, 67), (7, 69), (0, 76), (7, 71), (7, 72), (7, 73), (7, 75), (7, 76), (7, 77), (7, 79), (7, 81), (0, 77), (7, 83), (7, 85), (0, 78), (7, 87), (7, 88), (7, 89), (7, 94), (7, 95), (7, 101), (7, 102), (7, 103), (7, 105), (7, 106), (7, 107), (7, 109), (7, 111), (0, 79), (7, 113), (7, 115), (0, 80), (7, 117), (7, 119), (0, 81), (7, 121), (7, 123), (0, 82)] : List (Nat × Nat)).filterMap qget := rfl
set_option maxRecDepth 100000 in
set_option maxHeartbeats 4000000 in
theorem qin_L_19 : ((qml.drop 266).take 8).flatMap qwL = ([(7, 125), (7, 127), (0, 83), (7, 129), (7, 131), (0, 84), (7, 133), (7, 135), (0, 85), (7, 137), (7, 139), (0, 86), (7, 141), (7, 142), (7, 143), (7, 145), (7, 146), (7, 147), (7, 149), (7, 151), (0, 87), (7, 153), (7, 154), (7, 155)] : List (Nat × Nat)).filterMap qget := rfl
set_option maxRecDepth 100000 in
theorem qin_L : ∀ w ∈ qml.flatMap qwL, w ∈ lw_tbl := by
  intro w hw
  have hw : w ∈ (qml.drop 0).flatMap qwL := hw
  rcases qcut 16 hw with hw | hw
  · exact qget_in qin_L_0 w hw
  rcases qcut 14 hw with hw | hw
  · exact qget_in qin_L_1 w hw
  rcases qcut 14 hw with hw | hw
  · exact qget_in qin_L_2 w hw
  rcases qcut 14 hw with hw | hw
  · exact qget_in qin_L_3 w hw
  rcases qcut 16 hw with hw | hw
  · exact qget_in qin_L_4 w hw
  rcases qcut 14 hw with hw | hw
  · exact qget_in qin_L_5 w hw
  rcases qcut 14 hw with hw | hw
  · exact qget_in qin_L_6 w hw
  rcases qcut 13 hw with hw | hw
  · exact qget_in qin_L_7 w hw
  rcases qcut 13 hw with hw | hw
  · exact qget_in qin_L_8 w hw
  rcases qcut 14 hw with hw | hw
  · exact qget_in qin_L_9 w hw
  rcases qcut 14 hw with hw | hw
  · exact qget_in qin_L_10 w hw
  rcases qcut 15 hw with hw | hw
  · exact qget_in qin_L_11 w hw
  rcases qcut 14 hw with hw | hw
  · exact qget_in qin_L_12 w hw
  rcases qcut 15 hw with hw | hw
  · exact qget_in qin_L_13 w hw
  rcases qcut 14 hw with hw | hw
  · exact qget_in qin_L_14 w hw
  rcases qcut 13 hw with hw | hw
  · exact qget_in qin_L_15 w hw
  rcases qcut 13 hw with hw | hw
  · exact qget_in qin_L_16 w hw
  rcases qcut 13 hw with hw | hw
  · exact qget_in qin_L_17 w hw
  rcases qcut 13 hw with hw | hw
  · exact qget_in qin_L_18 w hw
  rcases qcut 8 hw with hw | hw
  · exact qget_in qin_L_19 w hw
  have e : qml.drop 274 = [] := rfl
  have hw : w ∈ (qml.drop 274).flatMap qwL := hw
  rw [e] at hw
  cases hw
set_option maxRecDepth 100000 in
set_option maxHeartbeats 4000000 in
theorem qin_F_0 : ((qfl.drop 0).take 40).flatMap qwF = ([(1, 47), (1, 48), (1, 49), (1, 50), (1, 73), (1, 74), (1, 75), (1, 83), (1, 84), (1, 87), (1, 90), (1, 106), (1, 107), (1, 121), (1, 122), (1, 123), (1, 125), (1, 127), (1, 129), (1, 131), (1, 133), (1, 135), (1, 137), (1, 139), (1, 141), (1, 176), (1, 177), (1, 178), (1, 179), (1, 181), (1, 183), (1, 185), (1, 187), (1, 189), (1, 191), (1, 193), (1, 224), (1, 225), (1, 226), (1, 227)] : List (Nat × Nat)).filterMap qget := rfl
set_option maxRecDepth 100000 in
set_option maxHeartbeats 4000000 in
theorem qin_F_1 : ((qfl.drop 40).take 37).flatMap qwF = ([(1, 237), (1, 238), (1, 239), (2, 0), (2, 1), (2, 2), (2, 3), (6, 13), (6, 14), (6, 15), (6, 16), (6, 17), (6, 18), (6, 19), (6, 20), (6, 21), (6, 22), (6, 23), (6, 24), (6, 25), (6, 26), (6, 27), (6, 28), (6, 29), (6, 30), (6, 31), (6, 32), (6, 33), (6, 34), (6, 35), (6, 36), (6, 37), (6, 38), (6, 39), (6, 40), (6, 41), (6, 42)] : List (Nat × Nat)).filterMap qget := rfl
set_option maxRecDepth 100000 in
theorem qin_F : ∀ w ∈ qfl.flatMap qwF, w ∈ lw_tbl := by
  intro w hw
  have hw : w ∈ (qfl.drop 0).flatMap qwF := hw
  rcases qcut 40 hw with hw | hw
  · exact qget_in qin_F_0 w hw
  rcases qcut 37 hw with hw | hw
  · exact qget_in qin_F_1 w hw
  have e : qfl.drop 77 = [] := rfl
  have hw : w ∈ (qfl.drop 77).flatMap qwF := hw
  rw [e] at hw
  cases hw
set_option maxRecDepth 100000 in
set_option maxHeartbeats 4000000 in
theorem qin_N_0 : ((qnl.drop 0).take 11).flatMap qwN = ([(1, 33), (1, 34), (1, 1), (1, 41), (1, 42), (1, 2), (1, 61), (1, 62), (1, 3), (1, 67), (1, 68), (1, 4), (1, 100), (1, 101), (1, 5), (1, 113), (1, 114), (1, 6), (1, 119), (1, 68), (1, 4), (1, 168), (1, 169), (1, 7), (1, 174), (1, 68), (1, 4), (1, 218), (1, 219), (1, 8), (6, 7), (6, 8), (1, 9)] : List (Nat × Nat)).filterMap qget := rfl
set_option maxRecDepth 100000 in
theorem qin_N : ∀ w ∈ qnl.flatMap qwN, w ∈ lw_tbl := by
  intro w hw
  have hw : w ∈ (qnl.drop 0).flatMap qwN := hw
  rcases qcut 11 hw with hw | hw
  · exact qget_in qin_N_0 w hw
  have e : qnl.drop 11 = [] := rfl
  have hw : w ∈ (qnl.drop 11).flatMap qwN := hw
  rw [e] at hw
  cases hw
set_option maxRecDepth 100000 in
set_option maxHeartbeats 4000000 in
theorem qin_K_0 : ((qkl.drop 0).take 22).flatMap qwK = ([(2, 137), (2, 142), (4, 136), (4, 137), (4, 138), (4, 216), (5, 125), (6, 152), (6, 153), (7, 92), (7, 93), (5, 103), (5, 129), (5, 133), (5, 134), (7, 98), (7, 99), (7, 100), (7, 157), (5, 135), (7, 91), (7, 97)] : List (Nat × Nat)).filterMap qget := rfl
set_option maxRecDepth 100000 in
theorem qin_K : ∀ w ∈ qkl.flatMap qwK, w ∈ lw_tbl := by
  intro w hw
  have hw : w ∈ (qkl.drop 0).flatMap qwK := hw
  rcases qcut 22 hw with hw | hw
  · exact qget_in qin_K_0 w hw
  have e : qkl.drop 22 = [] := rfl
  have hw : w ∈ (qkl.drop 22).flatMap qwK := hw
  rw [e] at hw
  cases hw
set_option maxRecDepth 100000 in
set_option maxHeartbeats 4000000 in
theorem qin_C_0 : ((qcl.drop 0).take 6).flatMap (fun q => u_ws q.1 q.2.1 q.2.2) = ([(2, 4), (2, 6), (2, 8), (2, 10), (2, 12), (2, 14), (2, 16), (1, 51), (1, 53), (1, 55), (1, 57), (1, 91), (1, 93), (1, 95), (1, 97), (1, 76), (1, 78), (1, 80), (1, 108), (1, 110), (1, 143), (1, 145), (1, 147), (1, 149), (1, 151), (1, 153), (1, 155), (1, 157), (1, 159), (1, 161), (1, 163), (1, 165)] : List (Nat × Nat)).filterMap qget := rfl
set_option maxRecDepth 100000 in
set_option maxHeartbeats 4000000 in
theorem qin_C_1 : ((qcl.drop 6).take 2).flatMap (fun q => u_ws q.1 q.2.1 q.2.2) = ([(1, 195), (1, 197), (1, 199), (1, 201), (1, 203), (1, 205), (1, 207), (1, 209), (1, 211), (1, 213), (1, 215), (1, 228), (1, 230), (1, 232), (1, 234)] : List (Nat × Nat)).filterMap qget := rfl
set_option maxRecDepth 100000 in
set_option maxHeartbeats 4000000 in
theorem qin_C_2 : ((qcl.drop 8).take 1).flatMap (fun q => u_ws q.1 q.2.1 q.2.2) = ([(6, 43), (6, 45), (6, 47), (6, 49), (6, 51), (6, 53), (6, 55), (6, 57), (6, 59), (6, 61), (6, 63), (6, 65), (6, 67), (6, 69), (6, 71), (6, 73), (6, 75), (6, 77), (6, 79), (6, 81), (6, 83), (6, 85), (6, 87), (6, 89), (6, 91), (6, 93), (6, 95), (6, 97), (6, 99), (6, 101)] : List (Nat × Nat)).filterMap qget := rfl
set_option maxRecDepth 100000 in
theorem qin_C : ∀ w ∈ qcl.flatMap (fun q => u_ws q.1 q.2.1 q.2.2), w ∈ lw_tbl := by
  intro w hw
  have hw : w ∈ (qcl.drop 0).flatMap (fun q => u_ws q.1 q.2.1 q.2.2) := hw
  rcases qcut 6 hw with hw | hw
  · exact qget_in qin_C_0 w hw
  rcases qcut 2 hw with hw | hw
  · exact qget_in qin_C_1 w hw
  rcases qcut 1 hw with hw | hw
  · exact qget_in qin_C_2 w hw
  have e : qcl.drop 9 = [] := rfl
  have hw : w ∈ (qcl.drop 9).flatMap (fun q => u_ws q.1 q.2.1 q.2.2) := hw
  rw [e] at hw
  cases hw
theorem qin_A : ([.arrayClass .int, .arrayClass .boolean, .arrayClass .long, .arrayClass .double] : List Jvm.Cond) = ([(1, 60), (6, 104), (7, 158), (7, 159)] : List (Nat × Nat)).filterMap qget := rfl
theorem qNs_eq : qNs = ([(1, 85), (1, 86), (1, 88), (1, 89), (1, 124), (1, 126), (1, 128), (1, 130), (1, 132), (1, 134), (1, 136), (1, 138), (1, 140), (1, 142), (1, 180), (1, 182), (1, 184), (1, 186), (1, 188), (1, 190), (1, 192), (1, 194)] : List (Nat × Nat)).filterMap qget := rfl
theorem qNs_in : ∀ w ∈ qNs, w ∈ lw_tbl := qget_in qNs_eq
theorem qTs_in : ∀ w ∈ qTs, w ∈ lw_tbl := by
  intro w hw
  unfold qTs at hw
  rcases List.mem_append.mp hw with h | h
  · exact qin_M w h
  rcases List.mem_append.mp h with h | h
  · exact qin_L w h
  rcases List.mem_append.mp h with h | h
  · exact qin_F w h
  rcases List.mem_append.mp h with h | h
  · exact qin_N w h
  rcases List.mem_append.mp h with h | h
  · exact qin_K w h
  rcases List.mem_append.mp h with h | h
  · exact qin_C w h
  · exact qget_in qin_A w h
