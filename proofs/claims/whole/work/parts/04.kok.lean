set_option maxRecDepth 100000 in
theorem ko_0 : mm_kok 0 = true := by decide +kernel
set_option maxRecDepth 100000 in
theorem ko_1 : mm_kok 1 = true := by decide +kernel
set_option maxRecDepth 100000 in
theorem ko_2 : mm_kok 2 = true := by decide +kernel
set_option maxRecDepth 100000 in
theorem ko_3 : mm_kok 3 = true := by decide +kernel
set_option maxRecDepth 100000 in
theorem ko_4 : mm_kok 4 = true := by decide +kernel
set_option maxRecDepth 100000 in
theorem ko_5 : mm_kok 5 = true := by decide +kernel
set_option maxRecDepth 100000 in
theorem ko_6 : mm_kok 6 = true := by decide +kernel
set_option maxRecDepth 100000 in
theorem ko_7 : mm_kok 7 = true := by decide +kernel
set_option maxRecDepth 100000 in
theorem ko_8 : mm_kok 8 = true := by decide +kernel
set_option maxRecDepth 100000 in
theorem ko_9 : mm_kok 9 = true := by decide +kernel
set_option maxRecDepth 100000 in
theorem ko_10 : mm_kok 10 = true := by decide +kernel
set_option maxRecDepth 100000 in
theorem ko_11 : mm_kok 11 = true := by decide +kernel
set_option maxRecDepth 100000 in
theorem ko_12 : mm_kok 12 = true := by decide +kernel
set_option maxRecDepth 100000 in
theorem ko_13 : mm_kok 13 = true := by decide +kernel
set_option maxRecDepth 100000 in
theorem ko_14 : mm_kok 14 = true := by decide +kernel
set_option maxRecDepth 100000 in
theorem ko_15 : mm_kok 15 = true := by decide +kernel
set_option maxRecDepth 100000 in
theorem ko_16 : mm_kok 16 = true := by decide +kernel
set_option maxRecDepth 100000 in
theorem ko_17 : mm_kok 17 = true := by decide +kernel
set_option maxRecDepth 100000 in
theorem ko_18 : mm_kok 18 = true := by decide +kernel
set_option maxRecDepth 100000 in
theorem ko_19 : mm_kok 19 = true := by decide +kernel
set_option maxRecDepth 100000 in
theorem ko_20 : mm_kok 20 = true := by decide +kernel
set_option maxRecDepth 100000 in
theorem ko_21 : mm_kok 21 = true := by decide +kernel
set_option maxRecDepth 100000 in
theorem ko_22 : mm_kok 22 = true := by decide +kernel
set_option maxRecDepth 100000 in
theorem ko_23 : mm_kok 23 = true := by decide +kernel
set_option maxRecDepth 100000 in
theorem ko_24 : mm_kok 24 = true := by decide +kernel
set_option maxRecDepth 100000 in
theorem ko_25 : mm_kok 25 = true := by decide +kernel
set_option maxRecDepth 100000 in
theorem ko_26 : mm_kok 26 = true := by decide +kernel
set_option maxRecDepth 100000 in
theorem ko_27 : mm_kok 27 = true := by decide +kernel
set_option maxRecDepth 100000 in
theorem ko_28 : mm_kok 28 = true := by decide +kernel
set_option maxRecDepth 100000 in
theorem ko_29 : mm_kok 29 = true := by decide +kernel
set_option maxRecDepth 100000 in
theorem ko_30 : mm_kok 30 = true := by decide +kernel
set_option maxRecDepth 100000 in
theorem ko_31 : mm_kok 31 = true := by decide +kernel
set_option maxRecDepth 100000 in
theorem ko_32 : mm_kok 32 = true := by decide +kernel
set_option maxRecDepth 100000 in
theorem ko_33 : mm_kok 33 = true := by decide +kernel
set_option maxRecDepth 100000 in
theorem ko_34 : mm_kok 34 = true := by decide +kernel
set_option maxRecDepth 100000 in
theorem ko_35 : mm_kok 35 = true := by decide +kernel
set_option maxRecDepth 100000 in
theorem ko_36 : mm_kok 36 = true := by decide +kernel
set_option maxRecDepth 100000 in
theorem ko_37 : mm_kok 37 = true := by decide +kernel
set_option maxRecDepth 100000 in
theorem ko_38 : mm_kok 38 = true := by decide +kernel
set_option maxRecDepth 100000 in
theorem ko_39 : mm_kok 39 = true := by decide +kernel
set_option maxRecDepth 100000 in
theorem ko_40 : mm_kok 40 = true := by decide +kernel
set_option maxRecDepth 100000 in
theorem ko_41 : mm_kok 41 = true := by decide +kernel
set_option maxRecDepth 100000 in
theorem ko_42 : mm_kok 42 = true := by decide +kernel
set_option maxRecDepth 100000 in
theorem ko_43 : mm_kok 43 = true := by decide +kernel
set_option maxRecDepth 100000 in
theorem ko_44 : mm_kok 44 = true := by decide +kernel
set_option maxRecDepth 100000 in
theorem ko_45 : mm_kok 45 = true := by decide +kernel
set_option maxRecDepth 100000 in
theorem ko_46 : mm_kok 46 = true := by decide +kernel
set_option maxRecDepth 100000 in
theorem ko_47 : mm_kok 47 = true := by decide +kernel
set_option maxRecDepth 100000 in
theorem ko_48 : mm_kok 48 = true := by decide +kernel
set_option maxRecDepth 100000 in
theorem ko_49 : mm_kok 49 = true := by decide +kernel
set_option maxRecDepth 100000 in
theorem ko_50 : mm_kok 50 = true := by decide +kernel
set_option maxRecDepth 100000 in
theorem ko_51 : mm_kok 51 = true := by decide +kernel
set_option maxRecDepth 100000 in
theorem ko_52 : mm_kok 52 = true := by decide +kernel
set_option maxRecDepth 100000 in
theorem ko_53 : mm_kok 53 = true := by decide +kernel
set_option maxRecDepth 100000 in
theorem ko_54 : mm_kok 54 = true := by decide +kernel
set_option maxRecDepth 100000 in
theorem ko_55 : mm_kok 55 = true := by decide +kernel
set_option maxRecDepth 100000 in
theorem ko_56 : mm_kok 56 = true := by decide +kernel
set_option maxRecDepth 100000 in
theorem ko_57 : mm_kok 57 = true := by decide +kernel
set_option maxRecDepth 100000 in
theorem ko_58 : mm_kok 58 = true := by decide +kernel
set_option maxRecDepth 100000 in
theorem ko_59 : mm_kok 59 = true := by decide +kernel
set_option maxRecDepth 100000 in
theorem ko_60 : mm_kok 60 = true := by decide +kernel
set_option maxRecDepth 100000 in
theorem ko_61 : mm_kok 61 = true := by decide +kernel
set_option maxRecDepth 100000 in
theorem ko_62 : mm_kok 62 = true := by decide +kernel
set_option maxRecDepth 100000 in
theorem ko_63 : mm_kok 63 = true := by decide +kernel
set_option maxRecDepth 100000 in
theorem ko_64 : mm_kok 64 = true := by decide +kernel
set_option maxRecDepth 100000 in
theorem ko_65 : mm_kok 65 = true := by decide +kernel
set_option maxRecDepth 100000 in
theorem ko_66 : mm_kok 66 = true := by decide +kernel
set_option maxRecDepth 100000 in
theorem ko_67 : mm_kok 67 = true := by decide +kernel
set_option maxRecDepth 100000 in
theorem ko_68 : mm_kok 68 = true := by decide +kernel
set_option maxRecDepth 100000 in
theorem ko_69 : mm_kok 69 = true := by decide +kernel
set_option maxRecDepth 100000 in
theorem ko_70 : mm_kok 70 = true := by decide +kernel
set_option maxRecDepth 100000 in
theorem ko_71 : mm_kok 71 = true := by decide +kernel
set_option maxRecDepth 100000 in
theorem ko_72 : mm_kok 72 = true := by decide +kernel
set_option maxRecDepth 100000 in
theorem ko_73 : mm_kok 73 = true := by decide +kernel
set_option maxRecDepth 100000 in
theorem ko_74 : mm_kok 74 = true := by decide +kernel
set_option maxRecDepth 100000 in
theorem ko_75 : mm_kok 75 = true := by decide +kernel
set_option maxRecDepth 100000 in
theorem ko_76 : mm_kok 76 = true := by decide +kernel
set_option maxRecDepth 100000 in
theorem ko_77 : mm_kok 77 = true := by decide +kernel
set_option maxRecDepth 100000 in
theorem ko_78 : mm_kok 78 = true := by decide +kernel
set_option maxRecDepth 100000 in
theorem ko_79 : mm_kok 79 = true := by decide +kernel
set_option maxRecDepth 100000 in
theorem ko_80 : mm_kok 80 = true := by decide +kernel
set_option maxRecDepth 100000 in
theorem ko_81 : mm_kok 81 = true := by decide +kernel
set_option maxRecDepth 100000 in
theorem ko_82 : mm_kok 82 = true := by decide +kernel
set_option maxRecDepth 100000 in
theorem ko_83 : mm_kok 83 = true := by decide +kernel
set_option maxRecDepth 100000 in
theorem ko_84 : mm_kok 84 = true := by decide +kernel
set_option maxRecDepth 100000 in
theorem ko_85 : mm_kok 85 = true := by decide +kernel
set_option maxRecDepth 100000 in
theorem ko_86 : mm_kok 86 = true := by decide +kernel
set_option maxRecDepth 100000 in
theorem ko_87 : mm_kok 87 = true := by decide +kernel
set_option maxRecDepth 100000 in
theorem ko_88 : mm_kok 88 = true := by decide +kernel
set_option maxRecDepth 100000 in
theorem ko_89 : mm_kok 89 = true := by decide +kernel
set_option maxRecDepth 100000 in
theorem ko_90 : mm_kok 90 = true := by decide +kernel
set_option maxRecDepth 100000 in
theorem ko_91 : mm_kok 91 = true := by decide +kernel
set_option maxRecDepth 100000 in
theorem ko_92 : mm_kok 92 = true := by decide +kernel
set_option maxRecDepth 100000 in
theorem ko_93 : mm_kok 93 = true := by decide +kernel
set_option maxRecDepth 100000 in
theorem ko_94 : mm_kok 94 = true := by decide +kernel
set_option maxRecDepth 100000 in
theorem ko_95 : mm_kok 95 = true := by decide +kernel
set_option maxRecDepth 100000 in
theorem ko_96 : mm_kok 96 = true := by decide +kernel
set_option maxRecDepth 100000 in
theorem ko_97 : mm_kok 97 = true := by decide +kernel
set_option maxRecDepth 100000 in
theorem ko_98 : mm_kok 98 = true := by decide +kernel
set_option maxRecDepth 100000 in
theorem ko_99 : mm_kok 99 = true := by decide +kernel
set_option maxRecDepth 100000 in
theorem ko_100 : mm_kok 100 = true := by decide +kernel
set_option maxRecDepth 100000 in
theorem ko_101 : mm_kok 101 = true := by decide +kernel
set_option maxRecDepth 100000 in
theorem ko_102 : mm_kok 102 = true := by decide +kernel
theorem mm_koks : ∀ a, a < 103 → mm_kok a = true := fun a h => by
  match a, h with
  | 0, _ => exact ko_0
  | 1, _ => exact ko_1
  | 2, _ => exact ko_2
  | 3, _ => exact ko_3
  | 4, _ => exact ko_4
  | 5, _ => exact ko_5
  | 6, _ => exact ko_6
  | 7, _ => exact ko_7
  | 8, _ => exact ko_8
  | 9, _ => exact ko_9
  | 10, _ => exact ko_10
  | 11, _ => exact ko_11
  | 12, _ => exact ko_12
  | 13, _ => exact ko_13
  | 14, _ => exact ko_14
  | 15, _ => exact ko_15
  | 16, _ => exact ko_16
  | 17, _ => exact ko_17
  | 18, _ => exact ko_18
  | 19, _ => exact ko_19
  | 20, _ => exact ko_20
  | 21, _ => exact ko_21
  | 22, _ => exact ko_22
  | 23, _ => exact ko_23
  | 24, _ => exact ko_24
  | 25, _ => exact ko_25
  | 26, _ => exact ko_26
  | 27, _ => exact ko_27
  | 28, _ => exact ko_28
  | 29, _ => exact ko_29
  | 30, _ => exact ko_30
  | 31, _ => exact ko_31
  | 32, _ => exact ko_32
  | 33, _ => exact ko_33
  | 34, _ => exact ko_34
  | 35, _ => exact ko_35
  | 36, _ => exact ko_36
  | 37, _ => exact ko_37
  | 38, _ => exact ko_38
  | 39, _ => exact ko_39
  | 40, _ => exact ko_40
  | 41, _ => exact ko_41
  | 42, _ => exact ko_42
  | 43, _ => exact ko_43
  | 44, _ => exact ko_44
  | 45, _ => exact ko_45
  | 46, _ => exact ko_46
  | 47, _ => exact ko_47
  | 48, _ => exact ko_48
  | 49, _ => exact ko_49
  | 50, _ => exact ko_50
  | 51, _ => exact ko_51
  | 52, _ => exact ko_52
  | 53, _ => exact ko_53
  | 54, _ => exact ko_54
  | 55, _ => exact ko_55
  | 56, _ => exact ko_56
  | 57, _ => exact ko_57
  | 58, _ => exact ko_58
  | 59, _ => exact ko_59
  | 60, _ => exact ko_60
  | 61, _ => exact ko_61
  | 62, _ => exact ko_62
  | 63, _ => exact ko_63
  | 64, _ => exact ko_64
  | 65, _ => exact ko_65
  | 66, _ => exact ko_66
  | 67, _ => exact ko_67
  | 68, _ => exact ko_68
  | 69, _ => exact ko_69
  | 70, _ => exact ko_70
  | 71, _ => exact ko_71
  | 72, _ => exact ko_72
  | 73, _ => exact ko_73
  | 74, _ => exact ko_74
  | 75, _ => exact ko_75
  | 76, _ => exact ko_76
  | 77, _ => exact ko_77
  | 78, _ => exact ko_78
  | 79, _ => exact ko_79
  | 80, _ => exact ko_80
  | 81, _ => exact ko_81
  | 82, _ => exact ko_82
  | 83, _ => exact ko_83
  | 84, _ => exact ko_84
  | 85, _ => exact ko_85
  | 86, _ => exact ko_86
  | 87, _ => exact ko_87
  | 88, _ => exact ko_88
  | 89, _ => exact ko_89
  | 90, _ => exact ko_90
  | 91, _ => exact ko_91
  | 92, _ => exact ko_92
  | 93, _ => exact ko_93
  | 94, _ => exact ko_94
  | 95, _ => exact ko_95
  | 96, _ => exact ko_96
  | 97, _ => exact ko_97
  | 98, _ => exact ko_98
  | 99, _ => exact ko_99
  | 100, _ => exact ko_100
  | 101, _ => exact ko_101
  | 102, _ => exact ko_102
  | n + 103, h => omega
theorem mm_kokh {a k : Nat} (h : Nat.beq (pg_kd a) k = true) (hk : k < 3) : mm_kok a = true := by
  by_cases ha : a < 103
  · exact mm_koks a ha
  · have h9 : pg_kd a = 9 := by
      unfold pg_kd
      rw [List.getD_eq_getElem?_getD, List.getElem?_eq_none (by show 103 ≤ a; omega)]
      rfl
    have := Nat.eq_of_beq_eq_true h
    omega
