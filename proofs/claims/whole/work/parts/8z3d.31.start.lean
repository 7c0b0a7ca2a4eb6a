/-! WHAT IS GIVEN OF THE START -/
def am_fl : List Jvm.Cond := flatC (Jvm.Cond.and given_1 narrow_1)
def am_of : List Nat := [33, 72, 115, 151, 167, 249, 262, 276, 290, 314, 339, 366, 395, 423, 471, 501, 533]
def am_pr : List (List Nat) := [[0, 228, 298, 328, 490, 514, 540, 566, 612, 660, 712, 768, 822, 916, 974, 1036, 1096], [229, 0, 300, 330, 492, 516, 542, 568, 614, 662, 714, 770, 824, 918, 976, 1038, 1098], [299, 301, 0, 332, 494, 518, 544, 570, 616, 664, 716, 772, 826, 920, 978, 1040, 1100], [329, 331, 333, 0, 496, 520, 546, 572, 618, 666, 718, 774, 828, 922, 980, 1042, 1102], [491, 493, 495, 497, 0, 522, 548, 574, 620, 668, 720, 776, 830, 924, 982, 1044, 1104], [515, 517, 519, 521, 523, 0, 550, 576, 622, 670, 722, 778, 832, 926, 984, 1046, 1106], [541, 543, 545, 547, 549, 551, 0, 578, 624, 672, 724, 780, 834, 928, 986, 1048, 1108], [567, 569, 571, 573, 575, 577, 579, 0, 626, 674, 726, 782, 836, 930, 988, 1050, 1110], [613, 615, 617, 619, 621, 623, 625, 627, 0, 676, 728, 784, 838, 932, 990, 1052, 1112], [661, 663, 665, 667, 669, 671, 673, 675, 677, 0, 730, 786, 840, 934, 992, 1054, 1114], [713, 715, 717, 719, 721, 723, 725, 727, 729, 731, 0, 788, 842, 936, 994, 1056, 1116], [769, 771, 773, 775, 777, 779, 781, 783, 785, 787, 789, 0, 844, 938, 996, 1058, 1118], [823, 825, 827, 829, 831, 833, 835, 837, 839, 841, 843, 845, 0, 940, 998, 1060, 1120], [917, 919, 921, 923, 925, 927, 929, 931, 933, 935, 937, 939, 941, 0, 1000, 1062, 1122], [975, 977, 979, 981, 983, 985, 987, 989, 991, 993, 995, 997, 999, 1001, 0, 1064, 1124], [1037, 1039, 1041, 1043, 1045, 1047, 1049, 1051, 1053, 1055, 1057, 1059, 1061, 1063, 1065, 0, 1126], [1097, 1099, 1101, 1103, 1105, 1107, 1109, 1111, 1113, 1115, 1117, 1119, 1121, 1123, 1125, 1127, 0]]
def am_tm (k : Nat) : Jvm.Term := .string (am_so k).1 (am_so k).2.1
def am_fis (k : Nat) (w : Jvm.Cond) : Bool := match am_nth am_fl k with
  | some v => decide (v = w)
  | none => false
theorem am_fis_t {args : Array Value} {s : State} {k : Nat} {w : Jvm.Cond} (h : am_fis k w = true) (hg : (Jvm.Cond.and given_1 narrow_1).before args s = true) : w.before args s = true := by
  unfold am_fis at h
  split at h
  · rename_i v hv
    have := of_decide_eq_true h
    subst this
    exact flat_of_before _ hg _ (am_nth_mem _ _ hv)
  · cases h
abbrev am_sv (k : Nat) : Jvm.Term := .field (am_tm k) "java/lang/String" "value" "[B"
def am_c9 (k : Nat) : Bool := am_fis (am_of.getD k 0) (.exactly (am_tm k) "java/lang/String") && am_fis (am_of.getD k 0 + 1) (.eq (.field (am_tm k) "java/lang/String" "coder" "B") (.int 0))
  && am_fis (am_of.getD k 0 + 2) (.arrayOf (am_sv k) .byte) && am_fis (am_of.getD k 0 + 3) (.eq (.length (am_sv k)) (.int (Int32.ofNat (am_sl.getD k 0))))
  && ((List.range (am_sl.getD k 0)).all fun j => am_fis (am_of.getD k 0 + 4 + j) (.eq (.elem (am_sv k) (.int (Int32.ofNat j))) (.int ((am_sb.getD k []).getD j 0))))
theorem am_c9_all : ((List.range am_nstr).all am_c9) = true := by decide +kernel
def am_c8 (i j : Nat) : Bool := Nat.beq i j || cond (Nat.beq ((am_pr.getD i []).getD j 0 % 2) 0) (am_fis ((am_pr.getD i []).getD j 0 / 2) (.not (.eq (am_tm i) (am_tm j)))) (am_fis ((am_pr.getD i []).getD j 0 / 2) (.not (.eq (am_tm j) (am_tm i))))
theorem am_c8_all : ((List.range am_nstr).all fun i => (List.range am_nstr).all fun j => am_c8 i j) = true := by decide +kernel
def am_wk (k : Nat) (w : Jvm.Cond) : Bool := match am_nth lw_tbl k with
  | some v => decide (v = w)
  | none => false
theorem am_wk_t {k : Nat} {w : Jvm.Cond} (h : am_wk k w = true) : w ∈ lw_tbl := by
  unfold am_wk at h
  split at h
  · rename_i v hv
    have := of_decide_eq_true h
    subst this
    exact am_nth_mem _ _ hv
  · cases h
def am_sr : List Nat := [151, 172, 699, 766, 853, 963, 988, 989, 1026, 1044, 1069, 1091, 1113, 1162, 1227, 1356, 1376]
theorem am_c7_all : ((List.range am_nstr).all fun k => am_wk (am_sr.getD k 0) (.stringRef (am_so k).1 (am_so k).2.1 (am_so k).2.2) && decide (am_sl.getD k 0 < 1000)) = true := by decide +kernel
def am_ik : List (Nat × Nat) := [(282, 3), (150, 4), (144, 16), (138, 9), (316, 8), (174, 1), (299, 3), (357, 4), (130, 13), (1454, 80)]
theorem am_c6_all : ((List.range 10).all fun c => match am_nth vwCl c with
  | some q => am_wk (am_ik.getD c (0, 0)).1 (.instantiable q.1 (am_ik.getD c (0, 0)).2)
  | none => false) = true := by decide +kernel
theorem am_q1 : am_wk 780 (.laysStatic "java/lang/String" "COMPACT_STRINGS" "Z") = true := by decide +kernel
theorem am_q2 : am_wk 121 (.initialized "java/lang/String") = true := by decide +kernel
theorem am_q3 : am_wk 819 (.laysStatic "jdk/internal/util/Preconditions" "SIOOBE_FORMATTER" "Ljava/util/function/BiFunction;") = true := by decide +kernel
theorem am_q4 : am_wk 125 (.initialized "jdk/internal/util/Preconditions") = true := by decide +kernel
theorem am_q5 : am_wk 686 (.laysStatic Bundle.tN "UNASSIGNED_STACK" Bundle.steD) = true := by decide +kernel
theorem am_q6 : am_wk 688 (.laysStatic Bundle.tN "SUPPRESSED_SENTINEL" Bundle.listD) = true := by decide +kernel
theorem am_q7 : am_wk 117 (.initialized Bundle.tN) = true := by decide +kernel
theorem am_q8 : am_wk 170 (.arrayClass .int) = true := by decide +kernel
theorem am_q9 : am_wk 1700 (.arrayClass .boolean) = true := by decide +kernel
theorem am_q10 : am_wk 2174 (.arrayClass .long) = true := by decide +kernel
theorem am_g1 : am_fis 6 (.eq (.static "java/lang/String" "COMPACT_STRINGS" "Z") (.int 1)) = true := by decide +kernel
theorem am_g2 : am_fis 7 (.isRef (.static "jdk/internal/util/Preconditions" "SIOOBE_FORMATTER" "Ljava/util/function/BiFunction;")) = true := by decide +kernel
theorem am_g3 : am_fis 4 (.isRef (.static Bundle.tN "UNASSIGNED_STACK" Bundle.steD)) = true := by decide +kernel
theorem am_g4 : am_fis 5 (.isRef (.static Bundle.tN "SUPPRESSED_SENTINEL" Bundle.listD)) = true := by decide +kernel
theorem am_g5 : am_fis 32 (.not (.castable "java/lang/IllegalArgumentException" "java/util/NoSuchElementException")) = true := by decide +kernel
