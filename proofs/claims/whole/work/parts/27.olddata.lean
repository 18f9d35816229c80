/-! the old world of this class: printed by a program of mine (wip/whole/gen_old.py) out of what TURN laid -/
/-- Strings: class, pool number, bytes -/
def qStr : List (String × Nat × List Nat) := [("ClassReader$Grammar", 25, [60, 105, 110, 105, 116, 62]), ("ClassReader$Grammar", 30, [60, 99, 108, 105, 110, 105, 116, 62]), ("ClassReader$Grammar", 39, [86]), ("ClassReader$Attributes", 151, [76, 106, 97, 118, 97, 47, 108, 97, 110, 103, 47, 83, 116, 114, 105, 110, 103, 59]), ("ClassReader$Shape", 167, [40, 41, 86]), ("ClassReader$Words", 97, [98, 121, 116, 101]), ("ClassReader$Words", 99, [99, 104, 97, 114]), ("ClassReader$Words", 101, [100, 111, 117, 98, 108, 101]), ("ClassReader$Words", 103, [102, 108, 111, 97, 116]), ("ClassReader$Words", 105, [105, 110, 116]), ("ClassReader$Words", 107, [108, 111, 110, 103]), ("ClassReader$Words", 109, [115, 104, 111, 114, 116]), ("ClassReader$Words", 111, [98, 111, 111, 108, 101, 97, 110]), ("ClassReader$Words", 113, [118, 111, 105, 100]), ("ClassReader$Words", 95, [91, 93]), ("ClassReader$Known", 68, []), ("ClassReader$Known", 74, [67, 111, 110, 115, 116, 97, 110, 116, 86, 97, 108, 117, 101]), ("ClassReader$Known", 77, [67, 111, 100, 101]), ("ClassReader$Known", 80, [69, 120, 99, 101, 112, 116, 105, 111, 110, 115]), ("ClassReader$Known", 83, [73, 110, 110, 101, 114, 67, 108, 97, 115, 115, 101, 115]), ("ClassReader$Known", 86, [69, 110, 99, 108, 111, 115, 105, 110, 103, 77, 101, 116, 104, 111, 100]), ("ClassReader$Known", 89, [78, 101, 115, 116, 72, 111, 115, 116]), ("ClassReader$Known", 92, [78, 101, 115, 116, 77, 101, 109, 98, 101, 114, 115]), ("ClassReader$Known", 95, [80, 101, 114, 109, 105, 116, 116, 101, 100, 83, 117, 98, 99, 108, 97, 115, 115, 101, 115]), ("ClassReader$Known", 98, [66, 111, 111, 116, 115, 116, 114, 97, 112, 77, 101, 116, 104, 111, 100, 115])]
/-- Known's constants, in ALL's order: name, its word's number among the Strings, place, bit, rivals, ordinal -/
def qKn : List (String × Nat × Nat × Nat × Nat × Nat) := [("OTHER", 15, 0, 0, 0, 0), ("CONSTANT_VALUE", 16, 1, 1, 1, 1), ("CODE", 17, 2, 2, 2, 2), ("EXCEPTIONS", 18, 2, 4, 4, 3), ("INNER_CLASSES", 19, 3, 8, 8, 4), ("ENCLOSING_METHOD", 20, 3, 16, 16, 5), ("NEST_HOST", 21, 3, 32, 96, 6), ("NEST_MEMBERS", 22, 3, 64, 96, 7), ("PERMITTED_SUBCLASSES", 23, 3, 128, 128, 8), ("BOOTSTRAP_METHODS", 24, 3, 256, 256, 9)]
def qSw : List Nat := [0, 1, 2, 3, 4, 5, 6, 7, 8, 9]
def kN : String := "ClassReader$Known"
def kD : String := "LClassReader$Known;"
def qtS (e : String × Nat × List Nat) : Term := .string e.1 e.2.1
def qtV (e : String × Nat × List Nat) : Term := .field (qtS e) "java/lang/String" "value" "[B"
def qtK (n : String) : Term := .static "ClassReader$Known" n "LClassReader$Known;"
def qtA : Term := .static "ClassReader$Attributes" "ALL" "[LClassReader$Known;"
def qtW : Term := .static "ClassReader$1" "$SwitchMap$ClassReader$Known" "[I"
def qwS (e : String × Nat × List Nat) : List Jvm.Cond := [.exactly (qtS e) "java/lang/String", .eq (.field (qtS e) "java/lang/String" "coder" "B") (.int 0), .arrayOf (qtV e) .byte, .eq (.length (qtV e)) (.int (Int32.ofNat e.2.2.length))] ++ (List.range e.2.2.length).map (fun j => .eq (.elem (qtV e) (.int (Int32.ofNat j))) (.int (Int32.ofNat (e.2.2.getD j 0))))
def qsn (j : Nat) : Term := match qStr[j]? with
  | some e => qtS e
  | none => .int 0
def qwKn (e : String × Nat × Nat × Nat × Nat × Nat) : List Jvm.Cond := [.exactly (qtK e.1) "ClassReader$Known", .eq (.field (qtK e.1) "java/lang/Enum" "ordinal" "I") (.int (Int32.ofNat e.2.2.2.2.2)), .eq (.field (qtK e.1) "ClassReader$Known" "word" "Ljava/lang/String;") (qsn e.2.1), .eq (.field (qtK e.1) "ClassReader$Known" "place" "I") (.int (Int32.ofNat e.2.2.1)), .eq (.field (qtK e.1) "ClassReader$Known" "bit" "I") (.int (Int32.ofNat e.2.2.2.1)), .eq (.field (qtK e.1) "ClassReader$Known" "rivals" "I") (.int (Int32.ofNat e.2.2.2.2.1))]
def qwA : List Jvm.Cond := [.arrayOf qtA (.object "ClassReader$Known"), .eq (.length qtA) (.int (Int32.ofNat qKn.length))] ++ (List.range qKn.length).map (fun j => .eq (.elem qtA (.int (Int32.ofNat j))) (qtK (qKn.getD j ("", 0, 0, 0, 0, 0)).1))
def qwW : List Jvm.Cond := [.arrayOf qtW .int, .eq (.length qtW) (.int (Int32.ofNat qSw.length))] ++ (List.range qSw.length).map (fun j => .eq (.elem qtW (.int (Int32.ofNat j))) (.int (Int32.ofNat (qSw.getD j 0))))
def qwZ : List Jvm.Cond := [.eq (.static "java/lang/String" "COMPACT_STRINGS" "Z") (.int 1), .isRef (.static "jdk/internal/util/Preconditions" "SIOOBE_FORMATTER" "Ljava/util/function/BiFunction;"), .isRef (.static "java/lang/Throwable" "UNASSIGNED_STACK" "[Ljava/lang/StackTraceElement;"), .isRef (.static "java/lang/Throwable" "SUPPRESSED_SENTINEL" "Ljava/util/List;")]
/-- what the Statement gives of the start -/
def qN : List Jvm.Cond := flatC (Jvm.Cond.and given_1 narrow_1)
theorem qN_of {args : Array Value} {s : State} (h : (Jvm.Cond.and given_1 narrow_1).before args s = true) : ∀ w ∈ qN, w.before args s = true := flat_of_before _ h
theorem qN_in {ws : List Jvm.Cond} {ps : List Nat} (h : ws = ps.filterMap (fun k => qN[k]?)) : ∀ w ∈ ws, w ∈ qN := by
  intro w hw
  rw [h] at hw
  obtain ⟨k, -, hk⟩ := List.mem_filterMap.mp hw
  exact List.mem_of_getElem? hk
set_option maxRecDepth 100000 in
set_option maxHeartbeats 4000000 in
theorem qS_0 : qwS ("ClassReader$Grammar", 25, [60, 105, 110, 105, 116, 62]) = ([452, 453, 454, 455, 456, 457, 458, 459, 460, 461] : List Nat).filterMap (fun k => qN[k]?) := rfl
set_option maxRecDepth 100000 in
set_option maxHeartbeats 4000000 in
theorem qS_1 : qwS ("ClassReader$Grammar", 30, [60, 99, 108, 105, 110, 105, 116, 62]) = ([462, 463, 464, 465, 466, 467, 468, 469, 470, 471, 472, 473] : List Nat).filterMap (fun k => qN[k]?) := rfl
set_option maxRecDepth 100000 in
set_option maxHeartbeats 4000000 in
theorem qS_2 : qwS ("ClassReader$Grammar", 39, [86]) = ([474, 475, 476, 477, 478] : List Nat).filterMap (fun k => qN[k]?) := rfl
set_option maxRecDepth 100000 in
set_option maxHeartbeats 4000000 in
theorem qS_3 : qwS ("ClassReader$Attributes", 151, [76, 106, 97, 118, 97, 47, 108, 97, 110, 103, 47, 83, 116, 114, 105, 110, 103, 59]) = ([479, 480, 481, 482, 483, 484, 485, 486, 487, 488, 489, 490, 491, 492, 493, 494, 495, 496, 497, 498, 499, 500] : List Nat).filterMap (fun k => qN[k]?) := rfl
set_option maxRecDepth 100000 in
set_option maxHeartbeats 4000000 in
theorem qS_4 : qwS ("ClassReader$Shape", 167, [40, 41, 86]) = ([501, 502, 503, 504, 505, 506, 507] : List Nat).filterMap (fun k => qN[k]?) := rfl
set_option maxRecDepth 100000 in
set_option maxHeartbeats 4000000 in
theorem qS_5 : qwS ("ClassReader$Words", 97, [98, 121, 116, 101]) = ([508, 509, 510, 511, 512, 513, 514, 515] : List Nat).filterMap (fun k => qN[k]?) := rfl
set_option maxRecDepth 100000 in
set_option maxHeartbeats 4000000 in
theorem qS_6 : qwS ("ClassReader$Words", 99, [99, 104, 97, 114]) = ([516, 517, 518, 519, 520, 521, 522, 523] : List Nat).filterMap (fun k => qN[k]?) := rfl
set_option maxRecDepth 100000 in
set_option maxHeartbeats 4000000 in
theorem qS_7 : qwS ("ClassReader$Words", 101, [100, 111, 117, 98, 108, 101]) = ([524, 525, 526, 527, 528, 529, 530, 531, 532, 533] : List Nat).filterMap (fun k => qN[k]?) := rfl
set_option maxRecDepth 100000 in
set_option maxHeartbeats 4000000 in
theorem qS_8 : qwS ("ClassReader$Words", 103, [102, 108, 111, 97, 116]) = ([534, 535, 536, 537, 538, 539, 540, 541, 542] : List Nat).filterMap (fun k => qN[k]?) := rfl
set_option maxRecDepth 100000 in
set_option maxHeartbeats 4000000 in
theorem qS_9 : qwS ("ClassReader$Words", 105, [105, 110, 116]) = ([543, 544, 545, 546, 547, 548, 549] : List Nat).filterMap (fun k => qN[k]?) := rfl
set_option maxRecDepth 100000 in
set_option maxHeartbeats 4000000 in
theorem qS_10 : qwS ("ClassReader$Words", 107, [108, 111, 110, 103]) = ([550, 551, 552, 553, 554, 555, 556, 557] : List Nat).filterMap (fun k => qN[k]?) := rfl
set_option maxRecDepth 100000 in
set_option maxHeartbeats 4000000 in
theorem qS_11 : qwS ("ClassReader$Words", 109, [115, 104, 111, 114, 116]) = ([558, 559, 560, 561, 562, 563, 564, 565, 566] : List Nat).filterMap (fun k => qN[k]?) := rfl
set_option maxRecDepth 100000 in
set_option maxHeartbeats 4000000 in
theorem qS_12 : qwS ("ClassReader$Words", 111, [98, 111, 111, 108, 101, 97, 110]) = ([567, 568, 569, 570, 571, 572, 573, 574, 575, 576, 577] : List Nat).filterMap (fun k => qN[k]?) := rfl
set_option maxRecDepth 100000 in
set_option maxHeartbeats 4000000 in
theorem qS_13 : qwS ("ClassReader$Words", 113, [118, 111, 105, 100]) = ([578, 579, 580, 581, 582, 583, 584, 585] : List Nat).filterMap (fun k => qN[k]?) := rfl
set_option maxRecDepth 100000 in
set_option maxHeartbeats 4000000 in
theorem qS_14 : qwS ("ClassReader$Words", 95, [91, 93]) = ([586, 587, 588, 589, 590, 591] : List Nat).filterMap (fun k => qN[k]?) := rfl
set_option maxRecDepth 100000 in
set_option maxHeartbeats 4000000 in
theorem qS_15 : qwS ("ClassReader$Known", 68, []) = ([592, 593, 594, 595] : List Nat).filterMap (fun k => qN[k]?) := rfl
set_option maxRecDepth 100000 in
set_option maxHeartbeats 4000000 in
theorem qS_16 : qwS ("ClassReader$Known", 74, [67, 111, 110, 115, 116, 97, 110, 116, 86, 97, 108, 117, 101]) = ([596, 597, 598, 599, 600, 601, 602, 603, 604, 605, 606, 607, 608, 609, 610, 611, 612] : List Nat).filterMap (fun k => qN[k]?) := rfl
set_option maxRecDepth 100000 in
set_option maxHeartbeats 4000000 in
theorem qS_17 : qwS ("ClassReader$Known", 77, [67, 111, 100, 101]) = ([613, 614, 615, 616, 617, 618, 619, 620] : List Nat).filterMap (fun k => qN[k]?) := rfl
set_option maxRecDepth 100000 in
set_option maxHeartbeats 4000000 in
theorem qS_18 : qwS ("ClassReader$Known", 80, [69, 120, 99, 101, 112, 116, 105, 111, 110, 115]) = ([621, 622, 623, 624, 625, 626, 627, 628, 629, 630, 631, 632, 633, 634] : List Nat).filterMap (fun k => qN[k]?) := rfl
set_option maxRecDepth 100000 in
set_option maxHeartbeats 4000000 in
theorem qS_19 : qwS ("ClassReader$Known", 83, [73, 110, 110, 101, 114, 67, 108, 97, 115, 115, 101, 115]) = ([635, 636, 637, 638, 639, 640, 641, 642, 643, 644, 645, 646, 647, 648, 649, 650] : List Nat).filterMap (fun k => qN[k]?) := rfl
set_option maxRecDepth 100000 in
set_option maxHeartbeats 4000000 in
theorem qS_20 : qwS ("ClassReader$Known", 86, [69, 110, 99, 108, 111, 115, 105, 110, 103, 77, 101, 116, 104, 111, 100]) = ([651, 652, 653, 654, 655, 656, 657, 658, 659, 660, 661, 662, 663, 664, 665, 666, 667, 668, 669] : List Nat).filterMap (fun k => qN[k]?) := rfl
set_option maxRecDepth 100000 in
set_option maxHeartbeats 4000000 in
theorem qS_21 : qwS ("ClassReader$Known", 89, [78, 101, 115, 116, 72, 111, 115, 116]) = ([670, 671, 672, 673, 674, 675, 676, 677, 678, 679, 680, 681] : List Nat).filterMap (fun k => qN[k]?) := rfl
set_option maxRecDepth 100000 in
set_option maxHeartbeats 4000000 in
theorem qS_22 : qwS ("ClassReader$Known", 92, [78, 101, 115, 116, 77, 101, 109, 98, 101, 114, 115]) = ([682, 683, 684, 685, 686, 687, 688, 689, 690, 691, 692, 693, 694, 695, 696] : List Nat).filterMap (fun k => qN[k]?) := rfl
set_option maxRecDepth 100000 in
set_option maxHeartbeats 4000000 in
theorem qS_23 : qwS ("ClassReader$Known", 95, [80, 101, 114, 109, 105, 116, 116, 101, 100, 83, 117, 98, 99, 108, 97, 115, 115, 101, 115]) = ([697, 698, 699, 700, 701, 702, 703, 704, 705, 706, 707, 708, 709, 710, 711, 712, 713, 714, 715, 716, 717, 718, 719] : List Nat).filterMap (fun k => qN[k]?) := rfl
set_option maxRecDepth 100000 in
set_option maxHeartbeats 4000000 in
theorem qS_24 : qwS ("ClassReader$Known", 98, [66, 111, 111, 116, 115, 116, 114, 97, 112, 77, 101, 116, 104, 111, 100, 115]) = ([720, 721, 722, 723, 724, 725, 726, 727, 728, 729, 730, 731, 732, 733, 734, 735, 736, 737, 738, 739] : List Nat).filterMap (fun k => qN[k]?) := rfl
set_option maxRecDepth 100000 in
set_option maxHeartbeats 4000000 in
theorem qK_0 : qwKn ("OTHER", 15, 0, 0, 0, 0) = ([232, 233, 234, 235, 236, 237] : List Nat).filterMap (fun k => qN[k]?) := rfl
set_option maxRecDepth 100000 in
set_option maxHeartbeats 4000000 in
theorem qK_1 : qwKn ("CONSTANT_VALUE", 16, 1, 1, 1, 1) = ([251, 252, 253, 254, 255, 256] : List Nat).filterMap (fun k => qN[k]?) := rfl
set_option maxRecDepth 100000 in
set_option maxHeartbeats 4000000 in
theorem qK_2 : qwKn ("CODE", 17, 2, 2, 2, 2) = ([258, 259, 260, 261, 262, 263] : List Nat).filterMap (fun k => qN[k]?) := rfl
set_option maxRecDepth 100000 in
set_option maxHeartbeats 4000000 in
theorem qK_3 : qwKn ("EXCEPTIONS", 18, 2, 4, 4, 3) = ([266, 267, 268, 269, 270, 271] : List Nat).filterMap (fun k => qN[k]?) := rfl
set_option maxRecDepth 100000 in
set_option maxHeartbeats 4000000 in
theorem qK_4 : qwKn ("INNER_CLASSES", 19, 3, 8, 8, 4) = ([275, 276, 277, 278, 279, 280] : List Nat).filterMap (fun k => qN[k]?) := rfl
set_option maxRecDepth 100000 in
set_option maxHeartbeats 4000000 in
theorem qK_5 : qwKn ("ENCLOSING_METHOD", 20, 3, 16, 16, 5) = ([285, 286, 287, 288, 289, 290] : List Nat).filterMap (fun k => qN[k]?) := rfl
set_option maxRecDepth 100000 in
set_option maxHeartbeats 4000000 in
theorem qK_6 : qwKn ("NEST_HOST", 21, 3, 32, 96, 6) = ([296, 297, 298, 299, 300, 301] : List Nat).filterMap (fun k => qN[k]?) := rfl
set_option maxRecDepth 100000 in
set_option maxHeartbeats 4000000 in
theorem qK_7 : qwKn ("NEST_MEMBERS", 22, 3, 64, 96, 7) = ([308, 309, 310, 311, 312, 313] : List Nat).filterMap (fun k => qN[k]?) := rfl
set_option maxRecDepth 100000 in
set_option maxHeartbeats 4000000 in
theorem qK_8 : qwKn ("PERMITTED_SUBCLASSES", 23, 3, 128, 128, 8) = ([321, 322, 323, 324, 325, 326] : List Nat).filterMap (fun k => qN[k]?) := rfl
set_option maxRecDepth 100000 in
set_option maxHeartbeats 4000000 in
theorem qK_9 : qwKn ("BOOTSTRAP_METHODS", 24, 3, 256, 256, 9) = ([335, 336, 337, 338, 339, 340] : List Nat).filterMap (fun k => qN[k]?) := rfl
set_option maxRecDepth 100000 in
set_option maxHeartbeats 4000000 in
theorem qA_eq : qwA = ([219, 220, 222, 223, 224, 225, 226, 227, 228, 229, 230, 231] : List Nat).filterMap (fun k => qN[k]?) := rfl
set_option maxRecDepth 100000 in
set_option maxHeartbeats 4000000 in
theorem qW_eq : qwW = ([239, 240, 241, 242, 243, 244, 245, 246, 247, 248, 249, 250] : List Nat).filterMap (fun k => qN[k]?) := rfl
set_option maxRecDepth 100000 in
set_option maxHeartbeats 4000000 in
theorem qZ_eq : qwZ = ([6, 7, 4, 5] : List Nat).filterMap (fun k => qN[k]?) := rfl
theorem qS_in : ∀ e ∈ qStr, ∀ w ∈ qwS e, w ∈ qN := by
  intro e he
  simp only [qStr, List.mem_cons, List.not_mem_nil, or_false] at he
  rcases he with rfl | rfl | rfl | rfl | rfl | rfl | rfl | rfl | rfl | rfl | rfl | rfl | rfl | rfl | rfl | rfl | rfl | rfl | rfl | rfl | rfl | rfl | rfl | rfl | rfl
  · exact qN_in qS_0
  · exact qN_in qS_1
  · exact qN_in qS_2
  · exact qN_in qS_3
  · exact qN_in qS_4
  · exact qN_in qS_5
  · exact qN_in qS_6
  · exact qN_in qS_7
  · exact qN_in qS_8
  · exact qN_in qS_9
  · exact qN_in qS_10
  · exact qN_in qS_11
  · exact qN_in qS_12
  · exact qN_in qS_13
  · exact qN_in qS_14
  · exact qN_in qS_15
  · exact qN_in qS_16
  · exact qN_in qS_17
  · exact qN_in qS_18
  · exact qN_in qS_19
  · exact qN_in qS_20
  · exact qN_in qS_21
  · exact qN_in qS_22
  · exact qN_in qS_23
  · exact qN_in qS_24
theorem qK_in : ∀ e ∈ qKn, ∀ w ∈ qwKn e, w ∈ qN := by
  intro e he
  simp only [qKn, List.mem_cons, List.not_mem_nil, or_false] at he
  rcases he with rfl | rfl | rfl | rfl | rfl | rfl | rfl | rfl | rfl | rfl
  · exact qN_in qK_0
  · exact qN_in qK_1
  · exact qN_in qK_2
  · exact qN_in qK_3
  · exact qN_in qK_4
  · exact qN_in qK_5
  · exact qN_in qK_6
  · exact qN_in qK_7
  · exact qN_in qK_8
  · exact qN_in qK_9
