set_option maxRecDepth 100000 in
theorem fb_0 : tb_0.all (fun b => b.all (mm_fact 0)) = true := by decide +kernel
theorem fc_0 : ∀ b ∈ tb_0, b.all (mm_fact 0) = true := List.all_eq_true.mp fb_0
set_option maxRecDepth 100000 in
theorem fb_1 : tb_1.all (fun b => b.all (mm_fact 1)) = true := by decide +kernel
theorem fc_1 : ∀ b ∈ tb_1, b.all (mm_fact 1) = true := List.all_eq_true.mp fb_1
set_option maxRecDepth 100000 in
theorem fb_2 : tb_2.all (fun b => b.all (mm_fact 2)) = true := by decide +kernel
theorem fc_2 : ∀ b ∈ tb_2, b.all (mm_fact 2) = true := List.all_eq_true.mp fb_2
set_option maxRecDepth 100000 in
theorem fb_3 : tb_3.all (fun b => b.all (mm_fact 3)) = true := by decide +kernel
theorem fc_3 : ∀ b ∈ tb_3, b.all (mm_fact 3) = true := List.all_eq_true.mp fb_3
set_option maxRecDepth 100000 in
theorem fb_4 : tb_4.all (fun b => b.all (mm_fact 4)) = true := by decide +kernel
theorem fc_4 : ∀ b ∈ tb_4, b.all (mm_fact 4) = true := List.all_eq_true.mp fb_4
set_option maxRecDepth 100000 in
theorem fb_5 : tb_5.all (fun b => b.all (mm_fact 5)) = true := by decide +kernel
theorem fc_5 : ∀ b ∈ tb_5, b.all (mm_fact 5) = true := List.all_eq_true.mp fb_5
set_option maxRecDepth 100000 in
theorem fb_6 : tb_6.all (fun b => b.all (mm_fact 6)) = true := by decide +kernel
theorem fc_6 : ∀ b ∈ tb_6, b.all (mm_fact 6) = true := List.all_eq_true.mp fb_6
set_option maxRecDepth 100000 in
theorem fb_7 : tb_7.all (fun b => b.all (mm_fact 7)) = true := by decide +kernel
theorem fc_7 : ∀ b ∈ tb_7, b.all (mm_fact 7) = true := List.all_eq_true.mp fb_7
set_option maxRecDepth 100000 in
theorem fb_8 : tb_8.all (fun b => b.all (mm_fact 8)) = true := by decide +kernel
theorem fc_8 : ∀ b ∈ tb_8, b.all (mm_fact 8) = true := List.all_eq_true.mp fb_8
set_option maxRecDepth 100000 in
theorem fb_9 : tb_9.all (fun b => b.all (mm_fact 9)) = true := by decide +kernel
theorem fc_9 : ∀ b ∈ tb_9, b.all (mm_fact 9) = true := List.all_eq_true.mp fb_9
set_option maxRecDepth 100000 in
theorem fb_10 : tb_10.all (fun b => b.all (mm_fact 10)) = true := by decide +kernel
theorem fc_10 : ∀ b ∈ tb_10, b.all (mm_fact 10) = true := List.all_eq_true.mp fb_10
set_option maxRecDepth 100000 in
theorem fb_11 : tb_11.all (fun b => b.all (mm_fact 11)) = true := by decide +kernel
theorem fc_11 : ∀ b ∈ tb_11, b.all (mm_fact 11) = true := List.all_eq_true.mp fb_11
set_option maxRecDepth 100000 in
theorem fb_12 : tb_12.all (fun b => b.all (mm_fact 12)) = true := by decide +kernel
theorem fc_12 : ∀ b ∈ tb_12, b.all (mm_fact 12) = true := List.all_eq_true.mp fb_12
set_option maxRecDepth 100000 in
theorem fb_13 : tb_13.all (fun b => b.all (mm_fact 13)) = true := by decide +kernel
theorem fc_13 : ∀ b ∈ tb_13, b.all (mm_fact 13) = true := List.all_eq_true.mp fb_13
set_option maxRecDepth 100000 in
theorem fb_14 : tb_14.all (fun b => b.all (mm_fact 14)) = true := by decide +kernel
theorem fc_14 : ∀ b ∈ tb_14, b.all (mm_fact 14) = true := List.all_eq_true.mp fb_14
set_option maxRecDepth 100000 in
theorem fb_15 : tb_15.all (fun b => b.all (mm_fact 15)) = true := by decide +kernel
theorem fc_15 : ∀ b ∈ tb_15, b.all (mm_fact 15) = true := List.all_eq_true.mp fb_15
set_option maxRecDepth 100000 in
theorem fb_16 : tb_16.all (fun b => b.all (mm_fact 16)) = true := by decide +kernel
theorem fc_16 : ∀ b ∈ tb_16, b.all (mm_fact 16) = true := List.all_eq_true.mp fb_16
set_option maxRecDepth 100000 in
theorem fb_17 : tb_17.all (fun b => b.all (mm_fact 17)) = true := by decide +kernel
theorem fc_17 : ∀ b ∈ tb_17, b.all (mm_fact 17) = true := List.all_eq_true.mp fb_17
set_option maxRecDepth 100000 in
theorem fb_18 : tb_18.all (fun b => b.all (mm_fact 18)) = true := by decide +kernel
theorem fc_18 : ∀ b ∈ tb_18, b.all (mm_fact 18) = true := List.all_eq_true.mp fb_18
set_option maxRecDepth 100000 in
theorem fb_19 : tb_19.all (fun b => b.all (mm_fact 19)) = true := by decide +kernel
theorem fc_19 : ∀ b ∈ tb_19, b.all (mm_fact 19) = true := List.all_eq_true.mp fb_19
set_option maxRecDepth 100000 in
theorem fb_20 : tb_20.all (fun b => b.all (mm_fact 20)) = true := by decide +kernel
theorem fc_20 : ∀ b ∈ tb_20, b.all (mm_fact 20) = true := List.all_eq_true.mp fb_20
set_option maxRecDepth 100000 in
theorem fb_21 : tb_21.all (fun b => b.all (mm_fact 21)) = true := by decide +kernel
theorem fc_21 : ∀ b ∈ tb_21, b.all (mm_fact 21) = true := List.all_eq_true.mp fb_21
set_option maxRecDepth 100000 in
theorem fb_22 : tb_22.all (fun b => b.all (mm_fact 22)) = true := by decide +kernel
theorem fc_22 : ∀ b ∈ tb_22, b.all (mm_fact 22) = true := List.all_eq_true.mp fb_22
set_option maxRecDepth 100000 in
theorem fb_23 : tb_23.all (fun b => b.all (mm_fact 23)) = true := by decide +kernel
theorem fc_23 : ∀ b ∈ tb_23, b.all (mm_fact 23) = true := List.all_eq_true.mp fb_23
set_option maxRecDepth 100000 in
theorem fb_24 : tb_24.all (fun b => b.all (mm_fact 24)) = true := by decide +kernel
theorem fc_24 : ∀ b ∈ tb_24, b.all (mm_fact 24) = true := List.all_eq_true.mp fb_24
set_option maxRecDepth 100000 in
theorem fb_25 : tb_25.all (fun b => b.all (mm_fact 25)) = true := by decide +kernel
theorem fc_25 : ∀ b ∈ tb_25, b.all (mm_fact 25) = true := List.all_eq_true.mp fb_25
set_option maxRecDepth 100000 in
theorem fb_26 : tb_26.all (fun b => b.all (mm_fact 26)) = true := by decide +kernel
theorem fc_26 : ∀ b ∈ tb_26, b.all (mm_fact 26) = true := List.all_eq_true.mp fb_26
set_option maxRecDepth 100000 in
theorem fb_27 : tb_27.all (fun b => b.all (mm_fact 27)) = true := by decide +kernel
theorem fc_27 : ∀ b ∈ tb_27, b.all (mm_fact 27) = true := List.all_eq_true.mp fb_27
set_option maxRecDepth 100000 in
theorem fb_28 : tb_28.all (fun b => b.all (mm_fact 28)) = true := by decide +kernel
theorem fc_28 : ∀ b ∈ tb_28, b.all (mm_fact 28) = true := List.all_eq_true.mp fb_28
set_option maxRecDepth 100000 in
theorem fb_29 : tb_29.all (fun b => b.all (mm_fact 29)) = true := by decide +kernel
theorem fc_29 : ∀ b ∈ tb_29, b.all (mm_fact 29) = true := List.all_eq_true.mp fb_29
set_option maxRecDepth 100000 in
theorem fb_30 : tb_30.all (fun b => b.all (mm_fact 30)) = true := by decide +kernel
theorem fc_30 : ∀ b ∈ tb_30, b.all (mm_fact 30) = true := List.all_eq_true.mp fb_30
set_option maxRecDepth 100000 in
theorem fb_31 : tb_31.all (fun b => b.all (mm_fact 31)) = true := by decide +kernel
theorem fc_31 : ∀ b ∈ tb_31, b.all (mm_fact 31) = true := List.all_eq_true.mp fb_31
set_option maxRecDepth 100000 in
theorem fb_32 : tb_32.all (fun b => b.all (mm_fact 32)) = true := by decide +kernel
theorem fc_32 : ∀ b ∈ tb_32, b.all (mm_fact 32) = true := List.all_eq_true.mp fb_32
set_option maxRecDepth 100000 in
theorem fb_33 : tb_33.all (fun b => b.all (mm_fact 33)) = true := by decide +kernel
theorem fc_33 : ∀ b ∈ tb_33, b.all (mm_fact 33) = true := List.all_eq_true.mp fb_33
set_option maxRecDepth 100000 in
theorem fb_34 : tb_34.all (fun b => b.all (mm_fact 34)) = true := by decide +kernel
theorem fc_34 : ∀ b ∈ tb_34, b.all (mm_fact 34) = true := List.all_eq_true.mp fb_34
set_option maxRecDepth 100000 in
theorem fb_35 : tb_35.all (fun b => b.all (mm_fact 35)) = true := by decide +kernel
theorem fc_35 : ∀ b ∈ tb_35, b.all (mm_fact 35) = true := List.all_eq_true.mp fb_35
set_option maxRecDepth 100000 in
theorem fb_36 : tb_36.all (fun b => b.all (mm_fact 36)) = true := by decide +kernel
theorem fc_36 : ∀ b ∈ tb_36, b.all (mm_fact 36) = true := List.all_eq_true.mp fb_36
set_option maxRecDepth 100000 in
theorem fb_37 : tb_37.all (fun b => b.all (mm_fact 37)) = true := by decide +kernel
theorem fc_37 : ∀ b ∈ tb_37, b.all (mm_fact 37) = true := List.all_eq_true.mp fb_37
set_option maxRecDepth 100000 in
theorem fb_38 : tb_38.all (fun b => b.all (mm_fact 38)) = true := by decide +kernel
theorem fc_38 : ∀ b ∈ tb_38, b.all (mm_fact 38) = true := List.all_eq_true.mp fb_38
set_option maxRecDepth 100000 in
theorem fb_39 : tb_39.all (fun b => b.all (mm_fact 39)) = true := by decide +kernel
theorem fc_39 : ∀ b ∈ tb_39, b.all (mm_fact 39) = true := List.all_eq_true.mp fb_39
set_option maxRecDepth 100000 in
theorem fb_40 : tb_40.all (fun b => b.all (mm_fact 40)) = true := by decide +kernel
theorem fc_40 : ∀ b ∈ tb_40, b.all (mm_fact 40) = true := List.all_eq_true.mp fb_40
set_option maxRecDepth 100000 in
theorem fb_41 : tb_41.all (fun b => b.all (mm_fact 41)) = true := by decide +kernel
theorem fc_41 : ∀ b ∈ tb_41, b.all (mm_fact 41) = true := List.all_eq_true.mp fb_41
set_option maxRecDepth 100000 in
theorem fb_42 : tb_42.all (fun b => b.all (mm_fact 42)) = true := by decide +kernel
theorem fc_42 : ∀ b ∈ tb_42, b.all (mm_fact 42) = true := List.all_eq_true.mp fb_42
set_option maxRecDepth 100000 in
theorem fb_43 : tb_43.all (fun b => b.all (mm_fact 43)) = true := by decide +kernel
theorem fc_43 : ∀ b ∈ tb_43, b.all (mm_fact 43) = true := List.all_eq_true.mp fb_43
set_option maxRecDepth 100000 in
theorem fb_44 : tb_44.all (fun b => b.all (mm_fact 44)) = true := by decide +kernel
theorem fc_44 : ∀ b ∈ tb_44, b.all (mm_fact 44) = true := List.all_eq_true.mp fb_44
set_option maxRecDepth 100000 in
theorem fb_45 : tb_45.all (fun b => b.all (mm_fact 45)) = true := by decide +kernel
theorem fc_45 : ∀ b ∈ tb_45, b.all (mm_fact 45) = true := List.all_eq_true.mp fb_45
set_option maxRecDepth 100000 in
theorem fb_46 : tb_46.all (fun b => b.all (mm_fact 46)) = true := by decide +kernel
theorem fc_46 : ∀ b ∈ tb_46, b.all (mm_fact 46) = true := List.all_eq_true.mp fb_46
set_option maxRecDepth 100000 in
theorem fb_47 : tb_47.all (fun b => b.all (mm_fact 47)) = true := by decide +kernel
theorem fc_47 : ∀ b ∈ tb_47, b.all (mm_fact 47) = true := List.all_eq_true.mp fb_47
set_option maxRecDepth 100000 in
theorem fb_48 : tb_48.all (fun b => b.all (mm_fact 48)) = true := by decide +kernel
theorem fc_48 : ∀ b ∈ tb_48, b.all (mm_fact 48) = true := List.all_eq_true.mp fb_48
set_option maxRecDepth 100000 in
theorem fb_49 : tb_49.all (fun b => b.all (mm_fact 49)) = true := by decide +kernel
theorem fc_49 : ∀ b ∈ tb_49, b.all (mm_fact 49) = true := List.all_eq_true.mp fb_49
set_option maxRecDepth 100000 in
theorem fb_50 : tb_50.all (fun b => b.all (mm_fact 50)) = true := by decide +kernel
theorem fc_50 : ∀ b ∈ tb_50, b.all (mm_fact 50) = true := List.all_eq_true.mp fb_50
set_option maxRecDepth 100000 in
theorem fb_51 : tb_51.all (fun b => b.all (mm_fact 51)) = true := by decide +kernel
theorem fc_51 : ∀ b ∈ tb_51, b.all (mm_fact 51) = true := List.all_eq_true.mp fb_51
set_option maxRecDepth 100000 in
theorem fb_52 : tb_52.all (fun b => b.all (mm_fact 52)) = true := by decide +kernel
theorem fc_52 : ∀ b ∈ tb_52, b.all (mm_fact 52) = true := List.all_eq_true.mp fb_52
set_option maxRecDepth 100000 in
theorem fb_53 : tb_53.all (fun b => b.all (mm_fact 53)) = true := by decide +kernel
theorem fc_53 : ∀ b ∈ tb_53, b.all (mm_fact 53) = true := List.all_eq_true.mp fb_53
set_option maxRecDepth 100000 in
theorem fb_54 : tb_54.all (fun b => b.all (mm_fact 54)) = true := by decide +kernel
theorem fc_54 : ∀ b ∈ tb_54, b.all (mm_fact 54) = true := List.all_eq_true.mp fb_54
set_option maxRecDepth 100000 in
theorem fb_55 : tb_55.all (fun b => b.all (mm_fact 55)) = true := by decide +kernel
theorem fc_55 : ∀ b ∈ tb_55, b.all (mm_fact 55) = true := List.all_eq_true.mp fb_55
set_option maxRecDepth 100000 in
theorem fb_56 : tb_56.all (fun b => b.all (mm_fact 56)) = true := by decide +kernel
theorem fc_56 : ∀ b ∈ tb_56, b.all (mm_fact 56) = true := List.all_eq_true.mp fb_56
set_option maxRecDepth 100000 in
theorem fb_57 : tb_57.all (fun b => b.all (mm_fact 57)) = true := by decide +kernel
theorem fc_57 : ∀ b ∈ tb_57, b.all (mm_fact 57) = true := List.all_eq_true.mp fb_57
set_option maxRecDepth 100000 in
theorem fb_58 : tb_58.all (fun b => b.all (mm_fact 58)) = true := by decide +kernel
theorem fc_58 : ∀ b ∈ tb_58, b.all (mm_fact 58) = true := List.all_eq_true.mp fb_58
set_option maxRecDepth 100000 in
theorem fb_59 : tb_59.all (fun b => b.all (mm_fact 59)) = true := by decide +kernel
theorem fc_59 : ∀ b ∈ tb_59, b.all (mm_fact 59) = true := List.all_eq_true.mp fb_59
set_option maxRecDepth 100000 in
theorem fb_60 : tb_60.all (fun b => b.all (mm_fact 60)) = true := by decide +kernel
theorem fc_60 : ∀ b ∈ tb_60, b.all (mm_fact 60) = true := List.all_eq_true.mp fb_60
set_option maxRecDepth 100000 in
theorem fb_61 : tb_61.all (fun b => b.all (mm_fact 61)) = true := by decide +kernel
theorem fc_61 : ∀ b ∈ tb_61, b.all (mm_fact 61) = true := List.all_eq_true.mp fb_61
set_option maxRecDepth 100000 in
theorem fb_62 : tb_62.all (fun b => b.all (mm_fact 62)) = true := by decide +kernel
theorem fc_62 : ∀ b ∈ tb_62, b.all (mm_fact 62) = true := List.all_eq_true.mp fb_62
set_option maxRecDepth 100000 in
theorem fb_63 : tb_63.all (fun b => b.all (mm_fact 63)) = true := by decide +kernel
theorem fc_63 : ∀ b ∈ tb_63, b.all (mm_fact 63) = true := List.all_eq_true.mp fb_63
set_option maxRecDepth 100000 in
theorem fb_64 : tb_64.all (fun b => b.all (mm_fact 64)) = true := by decide +kernel
theorem fc_64 : ∀ b ∈ tb_64, b.all (mm_fact 64) = true := List.all_eq_true.mp fb_64
set_option maxRecDepth 100000 in
theorem fb_65 : tb_65.all (fun b => b.all (mm_fact 65)) = true := by decide +kernel
theorem fc_65 : ∀ b ∈ tb_65, b.all (mm_fact 65) = true := List.all_eq_true.mp fb_65
set_option maxRecDepth 100000 in
theorem fb_66 : tb_66.all (fun b => b.all (mm_fact 66)) = true := by decide +kernel
theorem fc_66 : ∀ b ∈ tb_66, b.all (mm_fact 66) = true := List.all_eq_true.mp fb_66
set_option maxRecDepth 100000 in
theorem fb_67 : tb_67.all (fun b => b.all (mm_fact 67)) = true := by decide +kernel
theorem fc_67 : ∀ b ∈ tb_67, b.all (mm_fact 67) = true := List.all_eq_true.mp fb_67
set_option maxRecDepth 100000 in
theorem fb_68 : tb_68.all (fun b => b.all (mm_fact 68)) = true := by decide +kernel
theorem fc_68 : ∀ b ∈ tb_68, b.all (mm_fact 68) = true := List.all_eq_true.mp fb_68
set_option maxRecDepth 100000 in
theorem fb_69 : tb_69.all (fun b => b.all (mm_fact 69)) = true := by decide +kernel
theorem fc_69 : ∀ b ∈ tb_69, b.all (mm_fact 69) = true := List.all_eq_true.mp fb_69
set_option maxRecDepth 100000 in
theorem fb_70 : tb_70.all (fun b => b.all (mm_fact 70)) = true := by decide +kernel
theorem fc_70 : ∀ b ∈ tb_70, b.all (mm_fact 70) = true := List.all_eq_true.mp fb_70
set_option maxRecDepth 100000 in
theorem fb_71 : tb_71.all (fun b => b.all (mm_fact 71)) = true := by decide +kernel
theorem fc_71 : ∀ b ∈ tb_71, b.all (mm_fact 71) = true := List.all_eq_true.mp fb_71
set_option maxRecDepth 100000 in
theorem fb_72 : tb_72.all (fun b => b.all (mm_fact 72)) = true := by decide +kernel
theorem fc_72 : ∀ b ∈ tb_72, b.all (mm_fact 72) = true := List.all_eq_true.mp fb_72
set_option maxRecDepth 100000 in
theorem fb_73 : tb_73.all (fun b => b.all (mm_fact 73)) = true := by decide +kernel
theorem fc_73 : ∀ b ∈ tb_73, b.all (mm_fact 73) = true := List.all_eq_true.mp fb_73
set_option maxRecDepth 100000 in
theorem fb_74 : tb_74.all (fun b => b.all (mm_fact 74)) = true := by decide +kernel
theorem fc_74 : ∀ b ∈ tb_74, b.all (mm_fact 74) = true := List.all_eq_true.mp fb_74
set_option maxRecDepth 100000 in
theorem fb_75 : tb_75.all (fun b => b.all (mm_fact 75)) = true := by decide +kernel
theorem fc_75 : ∀ b ∈ tb_75, b.all (mm_fact 75) = true := List.all_eq_true.mp fb_75
set_option maxRecDepth 100000 in
theorem fb_76 : tb_76.all (fun b => b.all (mm_fact 76)) = true := by decide +kernel
theorem fc_76 : ∀ b ∈ tb_76, b.all (mm_fact 76) = true := List.all_eq_true.mp fb_76
set_option maxRecDepth 100000 in
theorem fb_77 : tb_77.all (fun b => b.all (mm_fact 77)) = true := by decide +kernel
theorem fc_77 : ∀ b ∈ tb_77, b.all (mm_fact 77) = true := List.all_eq_true.mp fb_77
set_option maxRecDepth 100000 in
theorem fb_78 : tb_78.all (fun b => b.all (mm_fact 78)) = true := by decide +kernel
theorem fc_78 : ∀ b ∈ tb_78, b.all (mm_fact 78) = true := List.all_eq_true.mp fb_78
set_option maxRecDepth 100000 in
theorem fb_79 : tb_79.all (fun b => b.all (mm_fact 79)) = true := by decide +kernel
theorem fc_79 : ∀ b ∈ tb_79, b.all (mm_fact 79) = true := List.all_eq_true.mp fb_79
set_option maxRecDepth 100000 in
theorem fb_80 : tb_80.all (fun b => b.all (mm_fact 80)) = true := by decide +kernel
theorem fc_80 : ∀ b ∈ tb_80, b.all (mm_fact 80) = true := List.all_eq_true.mp fb_80
set_option maxRecDepth 100000 in
theorem fb_81 : tb_81.all (fun b => b.all (mm_fact 81)) = true := by decide +kernel
theorem fc_81 : ∀ b ∈ tb_81, b.all (mm_fact 81) = true := List.all_eq_true.mp fb_81
set_option maxRecDepth 100000 in
theorem fb_82 : tb_82.all (fun b => b.all (mm_fact 82)) = true := by decide +kernel
theorem fc_82 : ∀ b ∈ tb_82, b.all (mm_fact 82) = true := List.all_eq_true.mp fb_82
set_option maxRecDepth 100000 in
theorem fb_83 : tb_83.all (fun b => b.all (mm_fact 83)) = true := by decide +kernel
theorem fc_83 : ∀ b ∈ tb_83, b.all (mm_fact 83) = true := List.all_eq_true.mp fb_83
set_option maxRecDepth 100000 in
theorem fb_84 : tb_84.all (fun b => b.all (mm_fact 84)) = true := by decide +kernel
theorem fc_84 : ∀ b ∈ tb_84, b.all (mm_fact 84) = true := List.all_eq_true.mp fb_84
set_option maxRecDepth 100000 in
theorem fb_85 : tb_85.all (fun b => b.all (mm_fact 85)) = true := by decide +kernel
theorem fc_85 : ∀ b ∈ tb_85, b.all (mm_fact 85) = true := List.all_eq_true.mp fb_85
set_option maxRecDepth 100000 in
theorem fb_86 : tb_86.all (fun b => b.all (mm_fact 86)) = true := by decide +kernel
theorem fc_86 : ∀ b ∈ tb_86, b.all (mm_fact 86) = true := List.all_eq_true.mp fb_86
set_option maxRecDepth 100000 in
theorem fb_87 : tb_87.all (fun b => b.all (mm_fact 87)) = true := by decide +kernel
theorem fc_87 : ∀ b ∈ tb_87, b.all (mm_fact 87) = true := List.all_eq_true.mp fb_87
set_option maxRecDepth 100000 in
theorem fb_88 : tb_88.all (fun b => b.all (mm_fact 88)) = true := by decide +kernel
theorem fc_88 : ∀ b ∈ tb_88, b.all (mm_fact 88) = true := List.all_eq_true.mp fb_88
set_option maxRecDepth 100000 in
theorem fb_89 : tb_89.all (fun b => b.all (mm_fact 89)) = true := by decide +kernel
theorem fc_89 : ∀ b ∈ tb_89, b.all (mm_fact 89) = true := List.all_eq_true.mp fb_89
set_option maxRecDepth 100000 in
theorem fb_90 : tb_90.all (fun b => b.all (mm_fact 90)) = true := by decide +kernel
theorem fc_90 : ∀ b ∈ tb_90, b.all (mm_fact 90) = true := List.all_eq_true.mp fb_90
set_option maxRecDepth 100000 in
theorem fb_91 : tb_91.all (fun b => b.all (mm_fact 91)) = true := by decide +kernel
theorem fc_91 : ∀ b ∈ tb_91, b.all (mm_fact 91) = true := List.all_eq_true.mp fb_91
set_option maxRecDepth 100000 in
theorem fb_92 : tb_92.all (fun b => b.all (mm_fact 92)) = true := by decide +kernel
theorem fc_92 : ∀ b ∈ tb_92, b.all (mm_fact 92) = true := List.all_eq_true.mp fb_92
set_option maxRecDepth 100000 in
theorem fb_93 : tb_93.all (fun b => b.all (mm_fact 93)) = true := by decide +kernel
theorem fc_93 : ∀ b ∈ tb_93, b.all (mm_fact 93) = true := List.all_eq_true.mp fb_93
set_option maxRecDepth 100000 in
theorem fb_94 : tb_94.all (fun b => b.all (mm_fact 94)) = true := by decide +kernel
theorem fc_94 : ∀ b ∈ tb_94, b.all (mm_fact 94) = true := List.all_eq_true.mp fb_94
set_option maxRecDepth 100000 in
theorem fb_95 : tb_95.all (fun b => b.all (mm_fact 95)) = true := by decide +kernel
theorem fc_95 : ∀ b ∈ tb_95, b.all (mm_fact 95) = true := List.all_eq_true.mp fb_95
set_option maxRecDepth 100000 in
theorem fb_96 : tb_96.all (fun b => b.all (mm_fact 96)) = true := by decide +kernel
theorem fc_96 : ∀ b ∈ tb_96, b.all (mm_fact 96) = true := List.all_eq_true.mp fb_96
set_option maxRecDepth 100000 in
theorem fb_97 : tb_97.all (fun b => b.all (mm_fact 97)) = true := by decide +kernel
theorem fc_97 : ∀ b ∈ tb_97, b.all (mm_fact 97) = true := List.all_eq_true.mp fb_97
set_option maxRecDepth 100000 in
theorem fb_98 : tb_98.all (fun b => b.all (mm_fact 98)) = true := by decide +kernel
theorem fc_98 : ∀ b ∈ tb_98, b.all (mm_fact 98) = true := List.all_eq_true.mp fb_98
set_option maxRecDepth 100000 in
theorem fb_99 : tb_99.all (fun b => b.all (mm_fact 99)) = true := by decide +kernel
theorem fc_99 : ∀ b ∈ tb_99, b.all (mm_fact 99) = true := List.all_eq_true.mp fb_99
set_option maxRecDepth 100000 in
theorem fcL_0 : (tb_100.getD 0 []).all (mm_fact 100) = true := by decide +kernel
set_option maxRecDepth 100000 in
theorem fcL_1 : (tb_100.getD 1 []).all (mm_fact 100) = true := by decide +kernel
set_option maxRecDepth 100000 in
theorem fcL_2 : (tb_100.getD 2 []).all (mm_fact 100) = true := by decide +kernel
set_option maxRecDepth 100000 in
theorem fcL_3 : (tb_100.getD 3 []).all (mm_fact 100) = true := by decide +kernel
set_option maxRecDepth 100000 in
theorem fcL_4 : (tb_100.getD 4 []).all (mm_fact 100) = true := by decide +kernel
set_option maxRecDepth 100000 in
theorem fcL_5 : (tb_100.getD 5 []).all (mm_fact 100) = true := by decide +kernel
set_option maxRecDepth 100000 in
theorem fcL_6 : (tb_100.getD 6 []).all (mm_fact 100) = true := by decide +kernel
set_option maxRecDepth 100000 in
theorem fcL_7 : (tb_100.getD 7 []).all (mm_fact 100) = true := by decide +kernel
set_option maxRecDepth 100000 in
theorem fcL_8 : (tb_100.getD 8 []).all (mm_fact 100) = true := by decide +kernel
set_option maxRecDepth 100000 in
theorem fcL_9 : (tb_100.getD 9 []).all (mm_fact 100) = true := by decide +kernel
set_option maxRecDepth 100000 in
theorem fcL_10 : (tb_100.getD 10 []).all (mm_fact 100) = true := by decide +kernel
set_option maxRecDepth 100000 in
theorem fcL_11 : (tb_100.getD 11 []).all (mm_fact 100) = true := by decide +kernel
set_option maxRecDepth 100000 in
theorem fcL_12 : (tb_100.getD 12 []).all (mm_fact 100) = true := by decide +kernel
set_option maxRecDepth 100000 in
theorem fcL_13 : (tb_100.getD 13 []).all (mm_fact 100) = true := by decide +kernel
set_option maxRecDepth 100000 in
theorem fcL_14 : (tb_100.getD 14 []).all (mm_fact 100) = true := by decide +kernel
set_option maxRecDepth 100000 in
theorem fcL_15 : (tb_100.getD 15 []).all (mm_fact 100) = true := by decide +kernel
set_option maxRecDepth 100000 in
theorem fcL_16 : (tb_100.getD 16 []).all (mm_fact 100) = true := by decide +kernel
set_option maxRecDepth 100000 in
theorem fcL_17 : (tb_100.getD 17 []).all (mm_fact 100) = true := by decide +kernel
set_option maxRecDepth 100000 in
theorem fcL_18 : (tb_100.getD 18 []).all (mm_fact 100) = true := by decide +kernel
set_option maxRecDepth 100000 in
theorem fcL_19 : (tb_100.getD 19 []).all (mm_fact 100) = true := by decide +kernel
set_option maxRecDepth 100000 in
theorem fcL_20 : (tb_100.getD 20 []).all (mm_fact 100) = true := by decide +kernel
set_option maxRecDepth 100000 in
theorem fcL_21 : (tb_100.getD 21 []).all (mm_fact 100) = true := by decide +kernel
set_option maxRecDepth 100000 in
theorem fcL_22 : (tb_100.getD 22 []).all (mm_fact 100) = true := by decide +kernel
set_option maxRecDepth 100000 in
theorem fcL_23 : (tb_100.getD 23 []).all (mm_fact 100) = true := by decide +kernel
set_option maxRecDepth 100000 in
theorem fcL_24 : (tb_100.getD 24 []).all (mm_fact 100) = true := by decide +kernel
set_option maxRecDepth 100000 in
theorem fcL_25 : (tb_100.getD 25 []).all (mm_fact 100) = true := by decide +kernel
set_option maxRecDepth 100000 in
theorem fcL_26 : (tb_100.getD 26 []).all (mm_fact 100) = true := by decide +kernel
set_option maxRecDepth 100000 in
theorem fcL_27 : (tb_100.getD 27 []).all (mm_fact 100) = true := by decide +kernel
set_option maxRecDepth 100000 in
theorem fcL_28 : (tb_100.getD 28 []).all (mm_fact 100) = true := by decide +kernel
set_option maxRecDepth 100000 in
theorem fcL_29 : (tb_100.getD 29 []).all (mm_fact 100) = true := by decide +kernel
set_option maxRecDepth 100000 in
theorem fcL_30 : (tb_100.getD 30 []).all (mm_fact 100) = true := by decide +kernel
set_option maxRecDepth 100000 in
theorem fcL_31 : (tb_100.getD 31 []).all (mm_fact 100) = true := by decide +kernel
set_option maxRecDepth 100000 in
theorem fcL_32 : (tb_100.getD 32 []).all (mm_fact 100) = true := by decide +kernel
set_option maxRecDepth 100000 in
theorem fcL_33 : (tb_100.getD 33 []).all (mm_fact 100) = true := by decide +kernel
set_option maxRecDepth 100000 in
theorem fcL_34 : (tb_100.getD 34 []).all (mm_fact 100) = true := by decide +kernel
set_option maxRecDepth 100000 in
theorem fcL_35 : (tb_100.getD 35 []).all (mm_fact 100) = true := by decide +kernel
set_option maxRecDepth 100000 in
theorem fcL_36 : (tb_100.getD 36 []).all (mm_fact 100) = true := by decide +kernel
set_option maxRecDepth 100000 in
theorem fcL_37 : (tb_100.getD 37 []).all (mm_fact 100) = true := by decide +kernel
set_option maxRecDepth 100000 in
theorem fcL_38 : (tb_100.getD 38 []).all (mm_fact 100) = true := by decide +kernel
set_option maxRecDepth 100000 in
theorem fcL_39 : (tb_100.getD 39 []).all (mm_fact 100) = true := by decide +kernel
set_option maxRecDepth 100000 in
theorem fcL_40 : (tb_100.getD 40 []).all (mm_fact 100) = true := by decide +kernel
set_option maxRecDepth 100000 in
theorem fcL_41 : (tb_100.getD 41 []).all (mm_fact 100) = true := by decide +kernel
set_option maxRecDepth 100000 in
theorem fcL_42 : (tb_100.getD 42 []).all (mm_fact 100) = true := by decide +kernel
set_option maxRecDepth 100000 in
theorem fcL_43 : (tb_100.getD 43 []).all (mm_fact 100) = true := by decide +kernel
set_option maxRecDepth 100000 in
theorem fcL_44 : (tb_100.getD 44 []).all (mm_fact 100) = true := by decide +kernel
set_option maxRecDepth 100000 in
theorem fcL_45 : (tb_100.getD 45 []).all (mm_fact 100) = true := by decide +kernel
set_option maxRecDepth 100000 in
theorem fcL_46 : (tb_100.getD 46 []).all (mm_fact 100) = true := by decide +kernel
set_option maxRecDepth 100000 in
theorem fcL_47 : (tb_100.getD 47 []).all (mm_fact 100) = true := by decide +kernel
set_option maxRecDepth 100000 in
theorem fcL_48 : (tb_100.getD 48 []).all (mm_fact 100) = true := by decide +kernel
set_option maxRecDepth 100000 in
theorem fcL_49 : (tb_100.getD 49 []).all (mm_fact 100) = true := by decide +kernel
set_option maxRecDepth 100000 in
theorem fcL_50 : (tb_100.getD 50 []).all (mm_fact 100) = true := by decide +kernel
set_option maxRecDepth 100000 in
theorem fcL_51 : (tb_100.getD 51 []).all (mm_fact 100) = true := by decide +kernel
set_option maxRecDepth 100000 in
theorem fcL_52 : (tb_100.getD 52 []).all (mm_fact 100) = true := by decide +kernel
set_option maxRecDepth 100000 in
theorem fcL_53 : (tb_100.getD 53 []).all (mm_fact 100) = true := by decide +kernel
set_option maxRecDepth 100000 in
theorem fcL_54 : (tb_100.getD 54 []).all (mm_fact 100) = true := by decide +kernel
set_option maxRecDepth 100000 in
theorem fcL_55 : (tb_100.getD 55 []).all (mm_fact 100) = true := by decide +kernel
set_option maxRecDepth 100000 in
theorem fcL_56 : (tb_100.getD 56 []).all (mm_fact 100) = true := by decide +kernel
set_option maxRecDepth 100000 in
theorem fcL_57 : (tb_100.getD 57 []).all (mm_fact 100) = true := by decide +kernel
set_option maxRecDepth 100000 in
theorem fcL_58 : (tb_100.getD 58 []).all (mm_fact 100) = true := by decide +kernel
set_option maxRecDepth 100000 in
theorem fcL_59 : (tb_100.getD 59 []).all (mm_fact 100) = true := by decide +kernel
set_option maxRecDepth 100000 in
theorem fcL_60 : (tb_100.getD 60 []).all (mm_fact 100) = true := by decide +kernel
set_option maxRecDepth 100000 in
theorem fcL_61 : (tb_100.getD 61 []).all (mm_fact 100) = true := by decide +kernel
set_option maxRecDepth 100000 in
theorem fcL_62 : (tb_100.getD 62 []).all (mm_fact 100) = true := by decide +kernel
set_option maxRecDepth 100000 in
theorem fcL_63 : (tb_100.getD 63 []).all (mm_fact 100) = true := by decide +kernel
set_option maxRecDepth 100000 in
theorem fcL_64 : (tb_100.getD 64 []).all (mm_fact 100) = true := by decide +kernel
set_option maxRecDepth 100000 in
theorem fcL_65 : (tb_100.getD 65 []).all (mm_fact 100) = true := by decide +kernel
set_option maxRecDepth 100000 in
theorem fcL_66 : (tb_100.getD 66 []).all (mm_fact 100) = true := by decide +kernel
set_option maxRecDepth 100000 in
theorem fcL_67 : (tb_100.getD 67 []).all (mm_fact 100) = true := by decide +kernel
set_option maxRecDepth 100000 in
theorem fcL_68 : (tb_100.getD 68 []).all (mm_fact 100) = true := by decide +kernel
theorem fcL (j : Nat) : (tb_100.getD j []).all (mm_fact 100) = true := by
  match j with
  | 0 => exact fcL_0
  | 1 => exact fcL_1
  | 2 => exact fcL_2
  | 3 => exact fcL_3
  | 4 => exact fcL_4
  | 5 => exact fcL_5
  | 6 => exact fcL_6
  | 7 => exact fcL_7
  | 8 => exact fcL_8
  | 9 => exact fcL_9
  | 10 => exact fcL_10
  | 11 => exact fcL_11
  | 12 => exact fcL_12
  | 13 => exact fcL_13
  | 14 => exact fcL_14
  | 15 => exact fcL_15
  | 16 => exact fcL_16
  | 17 => exact fcL_17
  | 18 => exact fcL_18
  | 19 => exact fcL_19
  | 20 => exact fcL_20
  | 21 => exact fcL_21
  | 22 => exact fcL_22
  | 23 => exact fcL_23
  | 24 => exact fcL_24
  | 25 => exact fcL_25
  | 26 => exact fcL_26
  | 27 => exact fcL_27
  | 28 => exact fcL_28
  | 29 => exact fcL_29
  | 30 => exact fcL_30
  | 31 => exact fcL_31
  | 32 => exact fcL_32
  | 33 => exact fcL_33
  | 34 => exact fcL_34
  | 35 => exact fcL_35
  | 36 => exact fcL_36
  | 37 => exact fcL_37
  | 38 => exact fcL_38
  | 39 => exact fcL_39
  | 40 => exact fcL_40
  | 41 => exact fcL_41
  | 42 => exact fcL_42
  | 43 => exact fcL_43
  | 44 => exact fcL_44
  | 45 => exact fcL_45
  | 46 => exact fcL_46
  | 47 => exact fcL_47
  | 48 => exact fcL_48
  | 49 => exact fcL_49
  | 50 => exact fcL_50
  | 51 => exact fcL_51
  | 52 => exact fcL_52
  | 53 => exact fcL_53
  | 54 => exact fcL_54
  | 55 => exact fcL_55
  | 56 => exact fcL_56
  | 57 => exact fcL_57
  | 58 => exact fcL_58
  | 59 => exact fcL_59
  | 60 => exact fcL_60
  | 61 => exact fcL_61
  | 62 => exact fcL_62
  | 63 => exact fcL_63
  | 64 => exact fcL_64
  | 65 => exact fcL_65
  | 66 => exact fcL_66
  | 67 => exact fcL_67
  | 68 => exact fcL_68
  | n + 69 => rfl
theorem fc_100 : ∀ b ∈ tb_100, b.all (mm_fact 100) = true := fun b hb => by
  obtain ⟨j, hj⟩ := List.getElem?_of_mem hb
  have := fcL j
  rw [List.getD_eq_getElem?_getD, hj] at this
  exact this
set_option maxRecDepth 100000 in
theorem fb_101 : tb_101.all (fun b => b.all (mm_fact 101)) = true := by decide +kernel
theorem fc_101 : ∀ b ∈ tb_101, b.all (mm_fact 101) = true := List.all_eq_true.mp fb_101
set_option maxRecDepth 100000 in
theorem fb_102 : tb_102.all (fun b => b.all (mm_fact 102)) = true := by decide +kernel
theorem fc_102 : ∀ b ∈ tb_102, b.all (mm_fact 102) = true := List.all_eq_true.mp fb_102
theorem pg_fct (mi : Nat) : ∀ b ∈ pg_t mi, b.all (mm_fact mi) = true := by
  match mi with
  | 0 => exact fc_0
  | 1 => exact fc_1
  | 2 => exact fc_2
  | 3 => exact fc_3
  | 4 => exact fc_4
  | 5 => exact fc_5
  | 6 => exact fc_6
  | 7 => exact fc_7
  | 8 => exact fc_8
  | 9 => exact fc_9
  | 10 => exact fc_10
  | 11 => exact fc_11
  | 12 => exact fc_12
  | 13 => exact fc_13
  | 14 => exact fc_14
  | 15 => exact fc_15
  | 16 => exact fc_16
  | 17 => exact fc_17
  | 18 => exact fc_18
  | 19 => exact fc_19
  | 20 => exact fc_20
  | 21 => exact fc_21
  | 22 => exact fc_22
  | 23 => exact fc_23
  | 24 => exact fc_24
  | 25 => exact fc_25
  | 26 => exact fc_26
  | 27 => exact fc_27
  | 28 => exact fc_28
  | 29 => exact fc_29
  | 30 => exact fc_30
  | 31 => exact fc_31
  | 32 => exact fc_32
  | 33 => exact fc_33
  | 34 => exact fc_34
  | 35 => exact fc_35
  | 36 => exact fc_36
  | 37 => exact fc_37
  | 38 => exact fc_38
  | 39 => exact fc_39
  | 40 => exact fc_40
  | 41 => exact fc_41
  | 42 => exact fc_42
  | 43 => exact fc_43
  | 44 => exact fc_44
  | 45 => exact fc_45
  | 46 => exact fc_46
  | 47 => exact fc_47
  | 48 => exact fc_48
  | 49 => exact fc_49
  | 50 => exact fc_50
  | 51 => exact fc_51
  | 52 => exact fc_52
  | 53 => exact fc_53
  | 54 => exact fc_54
  | 55 => exact fc_55
  | 56 => exact fc_56
  | 57 => exact fc_57
  | 58 => exact fc_58
  | 59 => exact fc_59
  | 60 => exact fc_60
  | 61 => exact fc_61
  | 62 => exact fc_62
  | 63 => exact fc_63
  | 64 => exact fc_64
  | 65 => exact fc_65
  | 66 => exact fc_66
  | 67 => exact fc_67
  | 68 => exact fc_68
  | 69 => exact fc_69
  | 70 => exact fc_70
  | 71 => exact fc_71
  | 72 => exact fc_72
  | 73 => exact fc_73
  | 74 => exact fc_74
  | 75 => exact fc_75
  | 76 => exact fc_76
  | 77 => exact fc_77
  | 78 => exact fc_78
  | 79 => exact fc_79
  | 80 => exact fc_80
  | 81 => exact fc_81
  | 82 => exact fc_82
  | 83 => exact fc_83
  | 84 => exact fc_84
  | 85 => exact fc_85
  | 86 => exact fc_86
  | 87 => exact fc_87
  | 88 => exact fc_88
  | 89 => exact fc_89
  | 90 => exact fc_90
  | 91 => exact fc_91
  | 92 => exact fc_92
  | 93 => exact fc_93
  | 94 => exact fc_94
  | 95 => exact fc_95
  | 96 => exact fc_96
  | 97 => exact fc_97
  | 98 => exact fc_98
  | 99 => exact fc_99
  | 100 => exact fc_100
  | 101 => exact fc_101
  | 102 => exact fc_102
  | n + 103 =>
    intro b hb
    have h : pg_t (n + 103) = [] := by
      unfold pg_t
      rw [List.getD_eq_getElem?_getD, List.getElem?_eq_none (by show 103 ≤ n + 103; omega)]
      rfl
    rw [h] at hb
    cases hb
theorem mm_findm : ∀ {l : List mm_I} {pc : Nat} {q : mm_I}, mm_find pc l = some q → q ∈ l ∧ q.1 = pc := by
  intro l
  induction l with
  | nil => intro pc q h; simp [mm_find] at h
  | cons x r ih =>
    intro pc q h
    unfold mm_find at h
    split at h
    · next hx =>
      cases h
      exact ⟨List.mem_cons_self, mm_beq hx⟩
    · obtain ⟨h1, h2⟩ := ih h
      exact ⟨List.mem_cons_of_mem _ h1, h2⟩
/-- every row of the tables is right -/
theorem pg_facts {mi pc : Nat} {q : mm_I} (h : mm_at (pg_t mi) pc = some q) : mm_fact mi q = true ∧ q.1 = pc := by
  unfold mm_at at h
  split at h
  · simp at h
  · next b hb =>
    obtain ⟨h1, h2⟩ := mm_findm h
    exact ⟨List.all_eq_true.mp (pg_fct mi b (List.mem_of_getElem? hb)) q h1, h2⟩
