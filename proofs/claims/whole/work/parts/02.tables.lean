/-! tables of the object graph and of the methods, by program (wip/whole/gen_tables.py) -/
def zg {α : Type} : List α → Nat → α → α
  | [], _, d => d
  | x :: _, 0, _ => x
  | _ :: t, n + 1, d => zg t n d
def zfcL : List (List (Nat × Nat × Nat)) := [
  [(0, 0, 0), (1, 12, 0), (1, 13, 0), (1, 14, 0), (1, 15, 0), (0, 0, 0), (1, 16, 0), (1, 17, 0), (0, 0, 0), (1, 18, 0), (1, 19, 0), (1, 20, 0), (0, 0, 0)],
  [(2, 7, 0), (3, 0, 0), (0, 1, 0), (0, 1, 0)],
  [(2, 8, 0), (2, 8, 5), (2, 8, 6), (2, 21, 0), (2, 22, 0)],
  [(2, 8, 0), (2, 8, 7), (2, 23, 0)],
  [(0, 0, 0), (1, 24, 0), (1, 25, 0), (0, 0, 0), (1, 26, 0), (1, 27, 0), (1, 28, 0)],
  [(2, 7, 0), (3, 4, 0), (0, 0, 0), (0, 1, 0), (0, 0, 0), (2, 29, 0), (0, 0, 0), (0, 0, 0), (0, 0, 0)],
  [(1, 30, 0), (0, 0, 0), (0, 0, 0)],
  [(2, 9, 0), (0, 0, 0), (0, 0, 0), (0, 0, 0), (0, 0, 0), (0, 0, 0)],
  [(1, 0, 1), (0, 0, 0), (0, 0, 0), (0, 0, 0), (0, 0, 0), (0, 0, 0), (1, 31, 0), (1, 32, 0), (1, 33, 0), (1, 34, 0), (1, 35, 0), (1, 36, 0), (0, 0, 0), (0, 0, 0), (0, 0, 0), (0, 0, 0), (0, 0, 0)],
  [(2, 37, 0), (0, 0, 0)],
  [(2, 9, 0), (2, 1, 0), (2, 5, 0), (2, 0, 0), (2, 38, 0), (0, 0, 0), (2, 8, 0), (2, 6, 0), (2, 39, 0), (2, 40, 0), (2, 41, 0), (2, 2, 0), (2, 3, 0)],
  [(0, 0, 0), (2, 42, 0), (2, 43, 0), (2, 44, 0), (2, 45, 0), (2, 46, 0), (2, 47, 0), (2, 48, 0), (2, 49, 0), (2, 50, 0), (2, 51, 0), (2, 52, 0), (2, 53, 0), (2, 54, 0), (2, 55, 0), (2, 56, 0), (2, 57, 0), (2, 58, 0), (2, 59, 0), (2, 60, 0), (2, 61, 0), (2, 62, 0), (2, 63, 0), (2, 64, 0), (2, 65, 0), (2, 66, 0), (2, 67, 0), (2, 68, 0), (2, 69, 0), (0, 0, 0), (0, 0, 0), (0, 0, 0), (0, 0, 0), (0, 0, 0), (0, 0, 0), (0, 0, 0), (0, 0, 0), (0, 0, 0), (0, 0, 0), (0, 0, 0), (0, 1, 0), (2, 70, 0), (2, 71, 0), (2, 72, 0), (2, 73, 0), (2, 74, 0), (2, 75, 0), (2, 76, 0), (2, 77, 0), (2, 78, 0), (2, 79, 0), (2, 80, 0), (2, 81, 0), (2, 82, 0), (2, 83, 0), (2, 84, 0), (2, 85, 0), (2, 86, 0), (2, 87, 0), (2, 88, 0), (0, 0, 0), (0, 0, 0), (2, 89, 0), (2, 90, 0), (2, 91, 0), (0, 0, 0), (0, 1, 0)]]
/-- what a field holds: 0 a number (type 0 int, 1 boolean), 1 a cell (kind, instance plus), 2 a cell (kind, instance), 3 a cell by its number -/
def fC (k j : Nat) : Nat × Nat × Nat := zg (zg zfcL k []) j (9, 0, 0)
def aC (k : Nat) : Nat × Nat × Nat × Nat := cond (Nat.blt k 92) (cond (Nat.blt k 46) (cond (Nat.blt k 23) (cond (Nat.blt k 11) (cond (Nat.blt k 5) (cond (Nat.blt k 2) (cond (Nat.blt k 1) ((9, 0, 0, 0)) ((9, 0, 0, 0))) (cond (Nat.blt k 3) ((9, 0, 0, 0)) (cond (Nat.blt k 4) ((9, 0, 0, 0)) ((9, 0, 0, 0))))) (cond (Nat.blt k 8) (cond (Nat.blt k 6) ((9, 0, 0, 0)) (cond (Nat.blt k 7) ((9, 0, 0, 0)) ((9, 0, 0, 0)))) (cond (Nat.blt k 9) ((9, 0, 0, 0)) (cond (Nat.blt k 10) ((9, 0, 0, 0)) ((9, 0, 0, 0)))))) (cond (Nat.blt k 17) (cond (Nat.blt k 14) (cond (Nat.blt k 12) ((9, 0, 0, 0)) (cond (Nat.blt k 13) ((0, 12, 0, 0)) ((0, 12, 0, 0)))) (cond (Nat.blt k 15) ((0, 12, 0, 0)) (cond (Nat.blt k 16) ((0, 12, 0, 0)) ((0, 8, 0, 0))))) (cond (Nat.blt k 20) (cond (Nat.blt k 18) ((0, 8, 0, 0)) (cond (Nat.blt k 19) ((0, 8, 0, 0)) ((0, 8, 0, 0)))) (cond (Nat.blt k 21) ((0, 8, 0, 0)) (cond (Nat.blt k 22) ((0, 12, 0, 0)) ((0, 3, 0, 0))))))) (cond (Nat.blt k 34) (cond (Nat.blt k 28) (cond (Nat.blt k 25) (cond (Nat.blt k 24) ((0, 192, 0, 0)) ((2, 12, 0, 0))) (cond (Nat.blt k 26) ((0, 13, 0, 0)) (cond (Nat.blt k 27) ((0, 400, 0, 0)) ((0, 400, 0, 0))))) (cond (Nat.blt k 31) (cond (Nat.blt k 29) ((3, 60, 0, 0)) (cond (Nat.blt k 30) ((0, 400, 0, 0)) ((0, 192, 0, 0)))) (cond (Nat.blt k 32) ((0, 12, 0, 0)) (cond (Nat.blt k 33) ((0, 12, 0, 0)) ((0, 12, 0, 0)))))) (cond (Nat.blt k 40) (cond (Nat.blt k 37) (cond (Nat.blt k 35) ((0, 12, 0, 0)) (cond (Nat.blt k 36) ((0, 12, 0, 0)) ((0, 12, 0, 0)))) (cond (Nat.blt k 38) ((0, 400, 0, 0)) (cond (Nat.blt k 39) ((4, 6, 4, 0)) ((5, 4, 8, 1))))) (cond (Nat.blt k 43) (cond (Nat.blt k 41) ((6, 4, 6, 1)) (cond (Nat.blt k 42) ((2, 4, 0, 0)) ((0, 11, 0, 0)))) (cond (Nat.blt k 44) ((0, 12, 0, 0)) (cond (Nat.blt k 45) ((0, 12, 0, 0)) ((0, 12, 0, 0)))))))) (cond (Nat.blt k 69) (cond (Nat.blt k 57) (cond (Nat.blt k 51) (cond (Nat.blt k 48) (cond (Nat.blt k 47) ((0, 12, 0, 0)) ((0, 8, 0, 0))) (cond (Nat.blt k 49) ((0, 8, 0, 0)) (cond (Nat.blt k 50) ((0, 8, 0, 0)) ((0, 8, 0, 0))))) (cond (Nat.blt k 54) (cond (Nat.blt k 52) ((0, 8, 0, 0)) (cond (Nat.blt k 53) ((0, 4, 0, 0)) ((0, 12, 0, 0)))) (cond (Nat.blt k 55) ((0, 12, 0, 0)) (cond (Nat.blt k 56) ((0, 12, 0, 0)) ((0, 12, 0, 0)))))) (cond (Nat.blt k 63) (cond (Nat.blt k 60) (cond (Nat.blt k 58) ((0, 8, 0, 0)) (cond (Nat.blt k 59) ((0, 8, 0, 0)) ((0, 8, 0, 0)))) (cond (Nat.blt k 61) ((0, 8, 0, 0)) (cond (Nat.blt k 62) ((0, 8, 0, 0)) ((0, 12, 0, 0))))) (cond (Nat.blt k 66) (cond (Nat.blt k 64) ((0, 12, 0, 0)) (cond (Nat.blt k 65) ((0, 12, 0, 0)) ((0, 12, 0, 0)))) (cond (Nat.blt k 67) ((0, 192, 0, 0)) (cond (Nat.blt k 68) ((0, 12, 0, 0)) ((0, 12, 0, 0))))))) (cond (Nat.blt k 80) (cond (Nat.blt k 74) (cond (Nat.blt k 71) (cond (Nat.blt k 70) ((0, 12, 0, 0)) ((1, 400, 0, 0))) (cond (Nat.blt k 72) ((0, 1800, 0, 0)) (cond (Nat.blt k 73) ((0, 1800, 0, 0)) ((0, 6, 0, 0))))) (cond (Nat.blt k 77) (cond (Nat.blt k 75) ((0, 72, 0, 0)) (cond (Nat.blt k 76) ((0, 72, 0, 0)) ((0, 72, 0, 0)))) (cond (Nat.blt k 78) ((0, 402, 0, 0)) (cond (Nat.blt k 79) ((3, 10, 0, 0)) ((3, 300, 0, 0)))))) (cond (Nat.blt k 86) (cond (Nat.blt k 83) (cond (Nat.blt k 81) ((0, 11, 0, 0)) (cond (Nat.blt k 82) ((0, 12, 0, 0)) ((0, 12, 0, 0)))) (cond (Nat.blt k 84) ((0, 12, 0, 0)) (cond (Nat.blt k 85) ((0, 12, 0, 0)) ((0, 192, 0, 0))))) (cond (Nat.blt k 89) (cond (Nat.blt k 87) ((0, 12, 0, 0)) (cond (Nat.blt k 88) ((0, 12, 0, 0)) ((0, 12, 0, 0)))) (cond (Nat.blt k 90) ((0, 12, 0, 0)) (cond (Nat.blt k 91) ((0, 1560, 0, 0)) ((2, 4, 0, 0))))))))) (9, 0, 0, 0)
/-- an array kind: its type's number, its length, of references: kind and first instance -/
def aT (k : Nat) : Nat := (aC k).1
def aN (k : Nat) : Nat := (aC k).2.1
def aK (k : Nat) : Nat := (aC k).2.2.1
def aB (k : Nat) : Nat := (aC k).2.2.2
def zcntL : List Nat := [9, 1, 1, 1, 6, 1, 5, 1, 8, 1, 1, 1, 9, 9, 9, 9, 9, 9, 9, 9, 9, 1, 1, 1, 6, 6, 6, 6, 6, 1, 5, 8, 8, 8, 8, 8, 8, 1, 1, 1, 1, 1, 1, 1, 1, 1, 1, 1, 1, 1, 1, 1, 1, 1, 1, 1, 1, 1, 1, 1, 1, 1, 1, 1, 1, 1, 1, 1, 1, 1, 1, 1, 1, 1, 1, 1, 1, 1, 1, 1, 1, 1, 1, 1, 1, 1, 1, 1, 1, 1, 1, 1]
def zcnt (k : Nat) : Nat := zg zcntL k 0
def tyF (t : Nat) : FieldType := match t with
  | 0 => .int
  | 1 => .byte
  | 2 => .boolean
  | 3 => .long
  | 4 => .object RX4
  | 5 => .object RX8
  | _ => .object RX6
def zcls : List vw_C := [(RX0, TX0, 13), (RX1, TX1, 4), (RX2, TX2, 5), (RX3, TX3, 3), (RX4, TX4, 7), (RX5, TX5, 9), (RX6, TX6, 3), (RX7, TX7, 6), (RX8, TX8, 17), (RX9, TX9, 2), (RX10, TX10, 13), (RX11, TX11, 67)]
def zcl (k : Nat) : vw_C := zg zcls k ("", TX0, 0)
def zcty (k : Nat) : Nat → FieldType := zg [tyX0, tyX1, tyX2, tyX3, tyX4, tyX5, tyX6, tyX7, tyX8, tyX9, tyX10, tyX11] k tyX0
def zkC : List Nat := [0, 1, 2, 3, 4, 5, 6, 7, 8, 9, 10, 12, 13, 14, 15, 16, 17, 18, 19, 20, 21, 22, 23, 24, 25, 26, 27, 28, 29, 30, 31, 32, 33, 34, 35, 36, 37, 38, 39, 40, 41]
def zkM : List Nat := [11, 42, 43, 44, 45, 46, 47, 48, 49, 50, 51, 52, 53, 54, 55, 56, 57, 58, 59, 60, 61, 62, 63, 64, 65, 66, 67, 68, 69, 70, 71, 72, 73, 74, 75, 76, 77, 78, 79, 80, 81, 82, 83, 84, 85, 86, 87, 88, 89, 90, 91]
def zdom (ks : List Nat) : List (Nat × Nat) := ks.flatMap fun k => (List.range (zcnt k)).map fun i => (k, i)
/-- name, code, locals, type, its number, static, depth, parameters; places of the words: code, instance or static, selects, initialized -/
abbrev zMT : Type := MethodName × ByteArray × Nat × Option FieldType × Nat × Nat × Nat × Nat × Nat × Nat × Nat × Nat
def zmt0 : List zMT := [
  (yX0_clear, cX0_clear, 1, none, 9, 0, 0, 0, 541, 539, 540, 101),
  (yX0_copyFrom, cX0_copyFrom, 2, none, 9, 0, 1, 1, 669, 667, 668, 101),
  (yX0_firstBell, cX0_firstBell, 3, (some (.int)), 0, 0, 0, 1, 804, 802, 803, 101),
  (yX0_firstDuty, cX0_firstDuty, 4, (some (.int)), 0, 0, 0, 2, 820, 818, 819, 101),
  (yX0_menOf, cX0_menOf, 4, (some (.int)), 0, 0, 0, 1, 680, 678, 679, 101),
  (yX0_dropBell, cX0_dropBell, 3, none, 9, 0, 0, 1, 1089, 1087, 1088, 101),
  (yX0_exchangeBeds, cX0_exchangeBeds, 4, none, 9, 0, 0, 2, 1114, 1112, 1113, 101),
  (yX1_readCamp, cX1_readCamp, 4, (some (.int)), 0, 0, 7, 1, 537, 535, 536, 99),
  (yX1_clauseFollows, cX1_clauseFollows, 2, (some (.boolean)), 1, 0, 3, 0, 657, 656, 10, 99),
  (yX1_isOneTooMany, cX1_isOneTooMany, 3, (some (.boolean)), 1, 0, 1, 1, 626, 625, 5, 99),
  (yX1_readCompany, cX1_readCompany, 2, none, 9, 0, 4, 0, 622, 621, 4, 99),
  (yX1_readBell, cX1_readBell, 2, none, 9, 0, 4, 0, 643, 642, 7, 99),
  (yX1_readDuty, cX1_readDuty, 2, none, 9, 0, 4, 0, 648, 647, 8, 99),
  (yX1_readWatch, cX1_readWatch, 1, none, 9, 0, 4, 0, 653, 652, 9, 99),
  (yX1_number, cX1_number, 3, (some (.int)), 0, 0, 3, 2, 634, 633, 6, 99),
  (yX2_restart, cX2_restart, 1, none, 9, 0, 3, 0, 1001, 1000, 34, 105),
  (yX2_keep, cX2_keep, 4, none, 9, 0, 0, 3, 1033, 1032, 35, 105),
  (yX2_play, cX2_play, 3, none, 9, 0, 5, 2, 997, 995, 996, 105),
  (yX2_playStruck, cX2_playStruck, 4, none, 9, 0, 5, 3, 1020, 1018, 1019, 105),
  (yX2_outcome, cX2_outcome, 2, (some (.int)), 0, 0, 1, 1, 1008, 1006, 1007, 105),
  (yX2_findTurn, cX2_findTurn, 7, none, 9, 0, 5, 3, 1029, 1027, 1028, 105),
  (yX2_findHarm, cX2_findHarm, 5, none, 9, 0, 5, 2, 1085, 1083, 1084, 105),
  (yX2_findFair, cX2_findFair, 7, none, 9, 0, 5, 2, 1097, 1095, 1096, 105),
  (yX2_findSwap, cX2_findSwap, 7, none, 9, 0, 5, 2, 1110, 1108, 1109, 105),
  (yX2_findStrike, cX2_findStrike, 5, none, 9, 0, 5, 2, 1122, 1120, 1121, 105),
  (yX3_foresee, cX3_foresee, 4, none, 9, 0, 5, 2, 1041, 1039, 1040, 106),
  (yX3_menOfMutiny, cX3_menOfMutiny, 6, (some (.int)), 0, 0, 2, 3, 1048, 1046, 1047, 106),
  (yX3_mutinyOn, cX3_mutinyOn, 5, (some (.int)), 0, 0, 1, 2, 1052, 1051, 36, 106),
  (yX3_firstToWin, cX3_firstToWin, 6, (some (.int)), 0, 0, 0, 2, 1056, 1055, 37, 106),
  (yX3_dreamOn, cX3_dreamOn, 6, (some (.int)), 0, 0, 1, 2, 1069, 1067, 1068, 106),
  (yX3_alike, cX3_alike, 5, (some (.int)), 0, 0, 0, 2, 1073, 1072, 38, 106),
  (yX4_clear, cX4_clear, 1, none, 9, 0, 0, 0, 701, 699, 700, 102),
  (yX4_isFull, cX4_isFull, 1, (some (.boolean)), 1, 0, 0, 0, 720, 718, 719, 102),
  (yX4_openClause, cX4_openClause, 2, none, 9, 0, 0, 1, 724, 722, 723, 102),
  (yX4_closeClause, cX4_closeClause, 1, none, 9, 0, 0, 0, 788, 786, 787, 102),
  (yX4_emit, cX4_emit, 3, none, 9, 0, 0, 2, 756, 754, 755, 102),
  (yX4_holds, cX4_holds, 5, (some (.boolean)), 1, 0, 2, 3, 824, 822, 823, 102),
  (yX4_clauseHolds, cX4_clauseHolds, 7, (some (.boolean)), 1, 0, 1, 3, 828, 827, 24, 102),
  (yX4_combine, cX4_combine, 5, (some (.long)), 3, 1, 0, 3, 835, 834, 0, 102),
  (yX5_readLaw, cX5_readLaw, 3, (some (.int)), 0, 0, 11, 1, 697, 695, 696, 100),
  (yX5_take, cX5_take, 1, none, 9, 0, 10, 0, 708, 707, 11, 100),
  (yX5_takeClause, cX5_takeClause, 2, none, 9, 0, 7, 0, 712, 711, 12, 100),
  (yX5_takeFact, cX5_takeFact, 2, none, 9, 0, 9, 0, 728, 727, 13, 100),
  (yX5_takeValue, cX5_takeValue, 2, none, 9, 0, 8, 0, 734, 733, 14, 100),
  (yX5_isPartTooMany, cX5_isPartTooMany, 1, (some (.boolean)), 1, 0, 0, 0, 752, 751, 16, 100),
  (yX5_takeOperator, cX5_takeOperator, 2, none, 9, 0, 8, 0, 764, 763, 18, 100),
  (yX5_takeJoint, cX5_takeJoint, 2, none, 9, 0, 7, 0, 775, 774, 20, 100),
  (yX5_hold, cX5_hold, 2, none, 9, 0, 0, 1, 760, 759, 17, 100),
  (yX5_release, cX5_release, 4, none, 9, 0, 1, 1, 771, 770, 19, 100),
  (yX5_closeBracket, cX5_closeBracket, 1, none, 9, 0, 1, 0, 781, 780, 21, 100),
  (yX5_wordNumber, cX5_wordNumber, 1, (some (.int)), 0, 0, 7, 0, 738, 737, 15, 100),
  (yX5_operatorOf, cX5_operatorOf, 1, (some (.int)), 0, 1, 0, 1, 767, 766, 0, 100),
  (yX6_clear, cX6_clear, 1, none, 9, 0, 0, 0, 688, 686, 687, 104),
  (yX6_copyFrom, cX6_copyFrom, 2, none, 9, 0, 1, 1, 929, 927, 928, 104),
  (yX6_add, cX6_add, 2, none, 9, 0, 1, 1, 883, 881, 882, 104),
  (yX6_upAgo, cX6_upAgo, 3, (some (.int)), 0, 0, 0, 1, 955, 953, 954, 104),
  (yX6_quartersWith, cX6_quartersWith, 4, (some (.int)), 0, 0, 1, 1, 963, 961, 962, 104),
  (yX6_longestRun, cX6_longestRun, 5, (some (.int)), 0, 0, 1, 1, 972, 970, 971, 104),
  (yX6_quartersOf, cX6_quartersOf, 4, (some (.int)), 0, 0, 1, 1, 985, 983, 984, 104),
  (yX6_lastOf, cX6_lastOf, 3, (some (.int)), 0, 0, 1, 1, 989, 987, 988, 104)]
def zmt1 : List zMT := [
  (yX7_begin, cX7_begin, 1, none, 9, 0, 0, 0, 545, 543, 544, 98),
  (yX7_fail, cX7_fail, 2, none, 9, 0, 0, 1, 630, 628, 629, 98),
  (yX7_failed, cX7_failed, 1, (some (.boolean)), 1, 0, 0, 0, 638, 636, 637, 98),
  (yX7_next, cX7_next, 2, none, 9, 0, 2, 0, 549, 547, 548, 98),
  (yX7_peek, cX7_peek, 1, (some (.int)), 0, 0, 0, 0, 553, 552, 0, 98),
  (yX7_readNumber, cX7_readNumber, 2, none, 9, 0, 1, 0, 557, 556, 1, 98),
  (yX7_readWord, cX7_readWord, 2, none, 9, 0, 1, 0, 561, 560, 2, 98),
  (yX7_readSign, cX7_readSign, 1, none, 9, 0, 1, 0, 565, 564, 3, 98),
  (yX7_isSign, cX7_isSign, 2, (some (.boolean)), 1, 0, 0, 1, 661, 659, 660, 98),
  (yX7_isWord, cX7_isWord, 3, (some (.boolean)), 1, 0, 6, 1, 570, 568, 569, 98),
  (yX8_begin, cX8_begin, 3, none, 9, 0, 2, 1, 665, 663, 664, 103),
  (yX8_beginCounts, cX8_beginCounts, 1, none, 9, 0, 1, 0, 684, 682, 683, 103),
  (yX8_copyFrom, cX8_copyFrom, 2, none, 9, 0, 2, 1, 924, 922, 923, 103),
  (yX8_isAsleep, cX8_isAsleep, 2, (some (.boolean)), 1, 0, 0, 1, 812, 810, 811, 103),
  (yX8_upBits, cX8_upBits, 1, (some (.int)), 0, 0, 0, 0, 676, 674, 675, 103),
  (yX8_tiredTogether, cX8_tiredTogether, 3, (some (.int)), 0, 0, 0, 0, 1012, 1010, 1011, 103),
  (yX8_bedIsTaken, cX8_bedIsTaken, 3, (some (.boolean)), 1, 0, 1, 1, 816, 814, 815, 103),
  (yX8_bedIsWarm, cX8_bedIsWarm, 3, (some (.boolean)), 1, 0, 0, 1, 839, 838, 25, 103),
  (yX8_lieDown, cX8_lieDown, 4, none, 9, 0, 1, 3, 843, 841, 842, 103),
  (yX8_getUp, cX8_getUp, 4, none, 9, 0, 1, 3, 855, 853, 854, 103),
  (yX8_keepWhy, cX8_keepWhy, 4, none, 9, 0, 0, 3, 847, 846, 26, 103),
  (yX8_wakeAll, cX8_wakeAll, 3, (some (.int)), 0, 0, 2, 0, 908, 906, 907, 103),
  (yX8_passQuarters, cX8_passQuarters, 5, none, 9, 0, 4, 2, 800, 798, 799, 103),
  (yX8_lieDownBy, cX8_lieDownBy, 3, none, 9, 0, 3, 1, 808, 807, 23, 103),
  (yX8_getUpBy, cX8_getUpBy, 5, none, 9, 0, 3, 2, 851, 850, 27, 103),
  (yX8_snore, cX8_snore, 2, none, 9, 0, 3, 0, 859, 858, 28, 103),
  (yX8_draw, cX8_draw, 1, (some (.int)), 0, 0, 0, 0, 863, 862, 29, 103),
  (yX8_wakeNextTo, cX8_wakeNextTo, 5, none, 9, 0, 2, 1, 870, 869, 30, 103),
  (yX8_tire, cX8_tire, 2, none, 9, 0, 1, 0, 874, 873, 31, 103),
  (yX8_valueOf, cX8_valueOf, 3, (some (.int)), 0, 0, 0, 2, 832, 830, 831, 103),
  (yX9_add, cX9_add, 3, none, 9, 0, 0, 1, 525, 523, 524, 97),
  (yX10_feed, cX10_feed, 6, (some (.int)), 0, 0, 1, 5, 521, 519, 520, 96),
  (yX10_end, cX10_end, 2, (some (.int)), 0, 0, 0, 1, 529, 527, 528, 96),
  (yX10_barracks, cX10_barracks, 2, (some (.int)), 0, 0, 8, 0, 533, 531, 532, 96),
  (yX10_law, cX10_law, 2, (some (.int)), 0, 0, 12, 0, 693, 691, 692, 96),
  (yX10_tick, cX10_tick, 4, (some (.int)), 0, 0, 5, 2, 792, 790, 791, 96),
  (yX10_lie, cX10_lie, 3, (some (.boolean)), 1, 0, 2, 2, 888, 886, 887, 96),
  (yX10_tires, cX10_tires, 4, (some (.int)), 0, 0, 1, 2, 900, 898, 899, 96),
  (yX10_drum, cX10_drum, 1, (some (.int)), 0, 0, 3, 0, 904, 902, 903, 96),
  (yX10_feast, cX10_feast, 2, (some (.int)), 0, 0, 0, 1, 912, 910, 911, 96),
  (yX10_seed, cX10_seed, 3, (some (.int)), 0, 0, 0, 1, 916, 914, 915, 96),
  (yX10_image, cX10_image, 2, (some (.int)), 0, 0, 3, 1, 920, 918, 919, 96),
  (yX10_back, cX10_back, 2, (some (.int)), 0, 0, 3, 1, 934, 932, 933, 96),
  (yX10_company, cX10_company, 3, (some (.int)), 0, 0, 1, 2, 938, 936, 937, 96),
  (yX10_why, cX10_why, 3, (some (.int)), 0, 0, 1, 2, 943, 941, 942, 96),
  (yX10_count, cX10_count, 2, (some (.int)), 0, 0, 0, 1, 947, 945, 946, 96),
  (yX10_log, cX10_log, 2, (some (.int)), 0, 0, 1, 1, 951, 949, 950, 96),
  (yX10_both, cX10_both, 3, (some (.int)), 0, 0, 2, 2, 959, 957, 958, 96),
  (yX10_run, cX10_run, 2, (some (.int)), 0, 0, 2, 1, 968, 966, 967, 96),
  (yX10_just, cX10_just, 3, (some (.int)), 0, 0, 2, 2, 977, 975, 976, 96),
  (yX10_ahead, cX10_ahead, 4, (some (.int)), 0, 0, 6, 3, 993, 991, 992, 96),
  (yX10_struck, cX10_struck, 5, (some (.int)), 0, 0, 6, 4, 1016, 1014, 1015, 96),
  (yX10_turned, cX10_turned, 5, (some (.int)), 0, 0, 6, 4, 1025, 1023, 1024, 96),
  (yX10_mutiny, cX10_mutiny, 5, (some (.int)), 0, 0, 6, 4, 1037, 1035, 1036, 96),
  (yX10_crest, cX10_crest, 10, (some (.int)), 0, 0, 6, 5, 1061, 1059, 1060, 96),
  (yX10_dream, cX10_dream, 6, (some (.int)), 0, 0, 6, 3, 1065, 1063, 1064, 96),
  (yX10_told, cX10_told, 7, (some (.int)), 0, 0, 6, 4, 1077, 1075, 1076, 96),
  (yX10_harm, cX10_harm, 4, (some (.int)), 0, 0, 6, 3, 1081, 1079, 1080, 96),
  (yX10_fair, cX10_fair, 4, (some (.int)), 0, 0, 6, 3, 1093, 1091, 1092, 96),
  (yX10_bestLaw, cX10_bestLaw, 8, (some (.int)), 0, 0, 6, 1, 1102, 1100, 1101, 96)]
def zmt2 : List zMT := [
  (yX10_swap, cX10_swap, 4, (some (.int)), 0, 0, 6, 3, 1106, 1104, 1105, 96),
  (yX10_strike, cX10_strike, 4, (some (.int)), 0, 0, 6, 3, 1118, 1116, 1117, 96),
  (yX10_isLaw, cX10_isLaw, 2, (some (.boolean)), 1, 0, 0, 1, 796, 795, 22, 96),
  (yX10_isCompany, cX10_isCompany, 2, (some (.boolean)), 1, 0, 0, 1, 892, 891, 32, 96),
  (yX10_areCompanies, cX10_areCompanies, 2, (some (.boolean)), 1, 0, 0, 1, 981, 980, 33, 96),
  (yX11_in, cX11_in, 6, (some (.boolean)), 1, 1, 0, 3, 1404, 1403, 0, 107),
  (yX11_has, cX11_has, 2, (some (.boolean)), 1, 1, 0, 2, 1523, 1522, 0, 107),
  (yX11_isCompany, cX11_isCompany, 2, (some (.boolean)), 1, 0, 1, 1, 1581, 1580, 83, 107),
  (yX11_upSet, cX11_upSet, 3, (some (.int)), 0, 0, 0, 0, 1496, 1495, 66, 107),
  (yX11_menOf, cX11_menOf, 4, (some (.int)), 0, 0, 1, 1, 1520, 1519, 72, 107),
  (yX11_hasDuty, cX11_hasDuty, 4, (some (.boolean)), 1, 0, 1, 1, 1504, 1503, 68, 107),
  (yX11_toneNow, cX11_toneNow, 2, (some (.int)), 0, 0, 0, 0, 1527, 1526, 73, 107),
  (yX11_feed, cX11_feed, 6, (some (.int)), 0, 0, 1, 5, 1333, 1331, 1332, 107),
  (yX11_put, cX11_put, 3, none, 9, 0, 0, 1, 1337, 1336, 39, 107),
  (yX11_end, cX11_end, 2, (some (.int)), 0, 0, 0, 1, 1341, 1339, 1340, 107),
  (yX11_wordOf, cX11_wordOf, 1, (some (.object "java/lang/String")), 4, 1, 0, 1, 1461, 1460, 0, 107),
  (yX11_barracksWord, cX11_barracksWord, 1, (some (.object "java/lang/String")), 4, 1, 0, 1, 1364, 1363, 0, 107),
  (yX11_fails, cX11_fails, 3, none, 9, 0, 0, 2, 1378, 1377, 45, 107),
  (yX11_sign, cX11_sign, 1, (some (.int)), 0, 0, 0, 0, 1361, 1360, 43, 107),
  (yX11_blanks, cX11_blanks, 1, none, 9, 0, 1, 0, 1357, 1356, 42, 107),
  (yX11_isDigit, cX11_isDigit, 1, (some (.boolean)), 1, 0, 1, 0, 1399, 1398, 50, 107),
  (yX11_stood, cX11_stood, 5, (some (.boolean)), 1, 0, 6, 1, 1372, 1371, 44, 107),
  (yX11_entry, cX11_entry, 3, none, 9, 0, 0, 2, 1458, 1457, 61, 107),
  (yX11_isCounted, cX11_isCounted, 2, none, 9, 0, 1, 1, 1454, 1453, 60, 107),
  (yX11_digits, cX11_digits, 4, (some (.int)), 0, 0, 2, 1, 1395, 1394, 49, 107),
  (yX11_value, cX11_value, 3, none, 9, 0, 7, 0, 1450, 1449, 59, 107),
  (yX11_term, cX11_term, 2, none, 9, 0, 8, 0, 1446, 1445, 58, 107),
  (yX11_sum, cX11_sum, 2, none, 9, 0, 9, 0, 1442, 1441, 57, 107),
  (yX11_compared, cX11_compared, 3, none, 9, 0, 10, 0, 1438, 1437, 56, 107),
  (yX11_top, cX11_top, 1, (some (.int)), 0, 0, 0, 0, 1477, 1476, 63, 107),
  (yX11_opens, cX11_opens, 2, none, 9, 0, 1, 1, 1434, 1433, 55, 107),
  (yX11_answers, cX11_answers, 2, none, 9, 0, 1, 1, 1473, 1472, 62, 107),
  (yX11_fact, cX11_fact, 1, (some (.boolean)), 1, 0, 11, 0, 1429, 1428, 54, 107),
  (yX11_test, cX11_test, 5, none, 9, 0, 12, 0, 1425, 1424, 53, 107),
  (yX11_amount, cX11_amount, 5, (some (.int)), 0, 0, 3, 2, 1390, 1389, 48, 107),
  (yX11_barracksPart, cX11_barracksPart, 3, none, 9, 0, 4, 1, 1386, 1385, 47, 107),
  (yX11_isFull, cX11_isFull, 3, (some (.boolean)), 1, 0, 0, 2, 1382, 1381, 46, 107),
  (yX11_barracksClause, cX11_barracksClause, 4, none, 9, 0, 7, 1, 1353, 1352, 41, 107),
  (yX11_lay, cX11_lay, 3, none, 9, 1, 0, 2, 1411, 1410, 0, 107),
  (yX11_goesOn, cX11_goesOn, 2, (some (.boolean)), 1, 0, 2, 0, 1408, 1407, 51, 107),
  (yX11_starts, cX11_starts, 1, none, 9, 0, 0, 0, 1349, 1348, 40, 107),
  (yX11_barracks, cX11_barracks, 4, (some (.int)), 0, 0, 8, 0, 1345, 1343, 1344, 107),
  (yX11_lawClause, cX11_lawClause, 5, none, 9, 0, 13, 1, 1419, 1418, 52, 107),
  (yX11_law, cX11_law, 3, (some (.int)), 0, 0, 14, 0, 1415, 1413, 1414, 107),
  (yX11_isLaw, cX11_isLaw, 2, (some (.boolean)), 1, 0, 1, 1, 1487, 1486, 64, 107),
  (yX11_truth, cX11_truth, 1, (some (.long)), 3, 1, 0, 1, 1537, 1536, 0, 107),
  (yX11_both, cX11_both, 5, (some (.long)), 3, 1, 1, 3, 1534, 1533, 0, 107),
  (yX11_answer, cX11_answer, 8, (some (.long)), 3, 0, 2, 3, 1531, 1530, 74, 107),
  (yX11_some, cX11_some, 6, (some (.boolean)), 1, 0, 3, 3, 1516, 1515, 71, 107),
  (yX11_isFree, cX11_isFree, 4, (some (.boolean)), 1, 0, 0, 1, 1512, 1511, 70, 107),
  (yX11_isWarm, cX11_isWarm, 4, (some (.boolean)), 1, 0, 0, 1, 1541, 1540, 75, 107),
  (yX11_changes, cX11_changes, 5, none, 9, 0, 0, 4, 1549, 1548, 77, 107),
  (yX11_bellNow, cX11_bellNow, 2, (some (.int)), 0, 0, 0, 0, 1545, 1544, 76, 107),
  (yX11_dutyNow, cX11_dutyNow, 3, (some (.int)), 0, 0, 1, 1, 1557, 1556, 79, 107),
  (yX11_isFeast, cX11_isFeast, 1, (some (.boolean)), 1, 0, 0, 0, 1508, 1507, 69, 107),
  (yX11_draws, cX11_draws, 2, (some (.int)), 0, 0, 0, 1, 1565, 1564, 81, 107),
  (yX11_neighbour, cX11_neighbour, 5, (some (.int)), 0, 0, 0, 1, 1573, 1572, 82, 107),
  (yX11_lieDown, cX11_lieDown, 3, none, 9, 0, 4, 1, 1500, 1499, 67, 107),
  (yX11_snores, cX11_snores, 3, none, 9, 0, 1, 0, 1561, 1560, 80, 107),
  (yX11_wakes, cX11_wakes, 3, none, 9, 0, 4, 2, 1553, 1552, 78, 107)]
def zmt3 : List zMT := [
  (yX11_quarter, cX11_quarter, 5, none, 9, 0, 5, 1, 1492, 1491, 65, 107),
  (yX11_tick, cX11_tick, 4, (some (.int)), 0, 0, 6, 2, 1483, 1481, 1482, 107),
  (yX11_company, cX11_company, 3, (some (.int)), 0, 0, 2, 2, 1577, 1575, 1576, 107),
  (yX11_lie, cX11_lie, 3, (some (.boolean)), 1, 0, 2, 2, 1585, 1583, 1584, 107),
  (yX11_tires, cX11_tires, 4, (some (.int)), 0, 0, 2, 2, 1589, 1587, 1588, 107),
  (yX11_drum, cX11_drum, 3, (some (.int)), 0, 0, 1, 0, 1594, 1592, 1593, 107),
  (yX11_feast, cX11_feast, 2, (some (.int)), 0, 0, 1, 1, 1598, 1596, 1597, 107),
  (yX11_keeps, cX11_keeps, 1, none, 9, 0, 1, 0, 1612, 1611, 85, 107),
  (yX11_laysBack, cX11_laysBack, 1, none, 9, 0, 1, 0, 1617, 1616, 86, 107),
  (yX11_tries, cX11_tries, 10, (some (.int)), 0, 0, 6, 4, 1608, 1607, 84, 107),
  (yX11_ahead, cX11_ahead, 4, (some (.int)), 0, 0, 7, 3, 1602, 1600, 1601, 107),
  (yX11_struck, cX11_struck, 5, (some (.int)), 0, 0, 7, 4, 1621, 1619, 1620, 107),
  (yX11_turns, cX11_turns, 7, (some (.boolean)), 1, 0, 6, 5, 1630, 1629, 87, 107),
  (yX11_turned, cX11_turned, 7, (some (.int)), 0, 0, 7, 4, 1625, 1623, 1624, 107),
  (yX11_wonBy, cX11_wonBy, 4, (some (.int)), 0, 0, 1, 2, 1642, 1641, 89, 107),
  (yX11_mutineers, cX11_mutineers, 9, (some (.int)), 0, 0, 6, 4, 1638, 1637, 88, 107),
  (yX11_mutiny, cX11_mutiny, 5, (some (.int)), 0, 0, 7, 4, 1634, 1632, 1633, 107),
  (yX11_crest, cX11_crest, 10, (some (.int)), 0, 0, 7, 5, 1646, 1644, 1645, 107),
  (yX11_tellsOn, cX11_tellsOn, 6, (some (.int)), 0, 0, 1, 1, 1658, 1657, 91, 107),
  (yX11_dreams, cX11_dreams, 7, (some (.int)), 0, 0, 6, 4, 1654, 1653, 90, 107),
  (yX11_dream, cX11_dream, 4, (some (.int)), 0, 0, 7, 3, 1650, 1648, 1649, 107),
  (yX11_told, cX11_told, 5, (some (.int)), 0, 0, 7, 4, 1662, 1660, 1661, 107),
  (yX11_harm, cX11_harm, 8, (some (.int)), 0, 0, 7, 3, 1666, 1664, 1665, 107),
  (yX11_log, cX11_log, 2, (some (.int)), 0, 0, 1, 1, 1670, 1668, 1669, 107),
  (yX11_both_, cX11_both_, 5, (some (.int)), 0, 0, 2, 2, 1674, 1672, 1673, 107),
  (yX11_run, cX11_run, 5, (some (.int)), 0, 0, 2, 1, 1678, 1676, 1677, 107),
  (yX11_why, cX11_why, 3, (some (.int)), 0, 0, 2, 2, 1682, 1680, 1681, 107),
  (yX11_fair, cX11_fair, 7, (some (.int)), 0, 0, 6, 3, 1686, 1684, 1685, 107),
  (yX11_bestLaw, cX11_bestLaw, 8, (some (.int)), 0, 0, 7, 1, 1690, 1688, 1689, 107),
  (yX11_swaps, cX11_swaps, 4, none, 9, 0, 0, 2, 1698, 1697, 92, 107),
  (yX11_swap, cX11_swap, 9, (some (.int)), 0, 0, 7, 3, 1694, 1692, 1693, 107),
  (yX11_strike, cX11_strike, 8, (some (.int)), 0, 0, 7, 3, 1702, 1700, 1701, 107),
  (yX11_just, cX11_just, 6, (some (.int)), 0, 0, 1, 2, 1706, 1704, 1705, 107),
  (yX11_seed, cX11_seed, 3, (some (.int)), 0, 0, 0, 1, 1710, 1708, 1709, 107),
  (yX11_count, cX11_count, 2, (some (.int)), 0, 0, 2, 1, 1714, 1712, 1713, 107),
  (yX11_carry, cX11_carry, 3, none, 9, 0, 0, 1, 1727, 1726, 94, 107),
  (yX11_carriesAll, cX11_carriesAll, 3, none, 9, 0, 1, 2, 1723, 1722, 93, 107),
  (yX11_image, cX11_image, 2, (some (.int)), 0, 0, 2, 1, 1718, 1716, 1717, 107),
  (yX11_back, cX11_back, 2, (some (.int)), 0, 0, 2, 1, 1731, 1729, 1730, 107)]
def zmt : List zMT := zmt0 ++ zmt1 ++ zmt2 ++ zmt3
def zm (m : Nat) : zMT := zg zmt m (yX0_clear, cX0_clear, 0, none, 9, 0, 0, 0, 0, 0, 0, 0)
def mY (m : Nat) : MethodName := (zm m).1
def mB (m : Nat) : ByteArray := (zm m).2.1
def mL (m : Nat) : Nat := (zm m).2.2.1
def mR (m : Nat) : Option FieldType := (zm m).2.2.2.1
def mRc (m : Nat) : Nat := (zm m).2.2.2.2.1
def mSt (m : Nat) : Nat := (zm m).2.2.2.2.2.1
def mD (m : Nat) : Nat := (zm m).2.2.2.2.2.2.1
def mP (m : Nat) : Nat := (zm m).2.2.2.2.2.2.2.1
def mWc (m : Nat) : Nat := (zm m).2.2.2.2.2.2.2.2.1
def mWi (m : Nat) : Nat := (zm m).2.2.2.2.2.2.2.2.2.1
def mWs (m : Nat) : Nat := (zm m).2.2.2.2.2.2.2.2.2.2.1
def mWn (m : Nat) : Nat := (zm m).2.2.2.2.2.2.2.2.2.2.2
def zNM : Nat := 219
def zsL : List (String × Nat × String × Nat) := [("SleepWaves$CampReader", 39, "company", 566), ("SleepWaves$CampReader", 48, "bell", 639), ("SleepWaves$CampReader", 53, "duty", 644), ("SleepWaves$CampReader", 58, "watch", 649), ("SleepWaves$LawReader", 79, "sleep", 713), ("SleepWaves$LawReader", 85, "wake", 715), ("SleepWaves$LawReader", 102, "not", 730), ("SleepWaves$LawReader", 151, "now", 739), ("SleepWaves$LawReader", 155, "day", 740), ("SleepWaves$LawReader", 157, "tired", 741), ("SleepWaves$LawReader", 159, "long", 742), ("SleepWaves$LawReader", 161, "company", 743), ("SleepWaves$LawReader", 163, "men", 744), ("SleepWaves$LawReader", 165, "hall", 745), ("SleepWaves$LawReader", 167, "up", 746), ("SleepWaves$LawReader", 169, "bell", 747), ("SleepWaves$LawReader", 171, "snore", 748), ("SleepWaves$LawReader", 135, "and", 776), ("SleepWaves$LawReader", 137, "or", 777), ("SleepWavesModel", 195, "company", 1365), ("SleepWavesModel", 201, "bell", 1366), ("SleepWavesModel", 204, "duty", 1367), ("SleepWavesModel", 206, "watch", 1368), ("SleepWavesModel", 335, "wake", 1420), ("SleepWavesModel", 337, "sleep", 1421), ("SleepWavesModel", 287, "not", 1430), ("SleepWavesModel", 188, "now", 1462), ("SleepWavesModel", 190, "day", 1463), ("SleepWavesModel", 192, "tired", 1464), ("SleepWavesModel", 193, "long", 1465), ("SleepWavesModel", 197, "men", 1466), ("SleepWavesModel", 198, "hall", 1467), ("SleepWavesModel", 199, "up", 1468), ("SleepWavesModel", 203, "snore", 1469), ("SleepWavesModel", 301, "and", 1478), ("SleepWavesModel", 303, "or", 1479)]
def zsB : List (List Int32) := [[99, 111, 109, 112, 97, 110, 121], [98, 101, 108, 108], [100, 117, 116, 121], [119, 97, 116, 99, 104], [115, 108, 101, 101, 112], [119, 97, 107, 101], [110, 111, 116], [110, 111, 119], [100, 97, 121], [116, 105, 114, 101, 100], [108, 111, 110, 103], [99, 111, 109, 112, 97, 110, 121], [109, 101, 110], [104, 97, 108, 108], [117, 112], [98, 101, 108, 108], [115, 110, 111, 114, 101], [97, 110, 100], [111, 114], [99, 111, 109, 112, 97, 110, 121], [98, 101, 108, 108], [100, 117, 116, 121], [119, 97, 116, 99, 104], [119, 97, 107, 101], [115, 108, 101, 101, 112], [110, 111, 116], [110, 111, 119], [100, 97, 121], [116, 105, 114, 101, 100], [108, 111, 110, 103], [109, 101, 110], [104, 97, 108, 108], [117, 112], [115, 110, 111, 114, 101], [97, 110, 100], [111, 114]]
def zsO (e : Nat) : String := (zg zsL e ("", 0, "", 0)).1
def zsI (e : Nat) : Nat := (zg zsL e ("", 0, "", 0)).2.1
def zsT (e : Nat) : String := (zg zsL e ("", 0, "", 0)).2.2.1
def zsN (e : Nat) : Nat := (zg zsB e []).length
def zsC (e n : Nat) : Int32 := zg (zg zsB e []) n 0
def zNS : Nat := 36
