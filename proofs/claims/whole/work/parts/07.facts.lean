set_option maxRecDepth 100000 in
theorem fc_0 : tb_0.all (fun b => b.all (mm_fact 0)) = true := by decide +kernel
set_option maxRecDepth 100000 in
theorem fc_1 : tb_1.all (fun b => b.all (mm_fact 1)) = true := by decide +kernel
set_option maxRecDepth 100000 in
theorem fc_2 : tb_2.all (fun b => b.all (mm_fact 2)) = true := by decide +kernel
set_option maxRecDepth 100000 in
theorem fc_3 : tb_3.all (fun b => b.all (mm_fact 3)) = true := by decide +kernel
set_option maxRecDepth 100000 in
theorem fc_4 : tb_4.all (fun b => b.all (mm_fact 4)) = true := by decide +kernel
set_option maxRecDepth 100000 in
theorem fc_5 : tb_5.all (fun b => b.all (mm_fact 5)) = true := by decide +kernel
set_option maxRecDepth 100000 in
theorem fc_6 : tb_6.all (fun b => b.all (mm_fact 6)) = true := by decide +kernel
set_option maxRecDepth 100000 in
theorem fc_7 : tb_7.all (fun b => b.all (mm_fact 7)) = true := by decide +kernel
set_option maxRecDepth 100000 in
theorem fc_8 : tb_8.all (fun b => b.all (mm_fact 8)) = true := by decide +kernel
set_option maxRecDepth 100000 in
theorem fc_9 : tb_9.all (fun b => b.all (mm_fact 9)) = true := by decide +kernel
set_option maxRecDepth 100000 in
theorem fc_10 : tb_10.all (fun b => b.all (mm_fact 10)) = true := by decide +kernel
set_option maxRecDepth 100000 in
theorem fc_11 : tb_11.all (fun b => b.all (mm_fact 11)) = true := by decide +kernel
set_option maxRecDepth 100000 in
theorem fc_12 : tb_12.all (fun b => b.all (mm_fact 12)) = true := by decide +kernel
set_option maxRecDepth 100000 in
theorem fc_13 : tb_13.all (fun b => b.all (mm_fact 13)) = true := by decide +kernel
set_option maxRecDepth 100000 in
theorem fc_14 : tb_14.all (fun b => b.all (mm_fact 14)) = true := by decide +kernel
set_option maxRecDepth 100000 in
theorem fc_15 : tb_15.all (fun b => b.all (mm_fact 15)) = true := by decide +kernel
set_option maxRecDepth 100000 in
theorem fc_16 : tb_16.all (fun b => b.all (mm_fact 16)) = true := by decide +kernel
set_option maxRecDepth 100000 in
theorem fc_17 : tb_17.all (fun b => b.all (mm_fact 17)) = true := by decide +kernel
set_option maxRecDepth 100000 in
theorem fc_18 : tb_18.all (fun b => b.all (mm_fact 18)) = true := by decide +kernel
set_option maxRecDepth 100000 in
theorem fc_19 : tb_19.all (fun b => b.all (mm_fact 19)) = true := by decide +kernel
set_option maxRecDepth 100000 in
theorem fc_20 : tb_20.all (fun b => b.all (mm_fact 20)) = true := by decide +kernel
set_option maxRecDepth 100000 in
theorem fc_21 : tb_21.all (fun b => b.all (mm_fact 21)) = true := by decide +kernel
set_option maxRecDepth 100000 in
theorem fc_22 : tb_22.all (fun b => b.all (mm_fact 22)) = true := by decide +kernel
set_option maxRecDepth 100000 in
theorem fc_23 : tb_23.all (fun b => b.all (mm_fact 23)) = true := by decide +kernel
set_option maxRecDepth 100000 in
theorem fc_24 : tb_24.all (fun b => b.all (mm_fact 24)) = true := by decide +kernel
set_option maxRecDepth 100000 in
theorem fc_25 : tb_25.all (fun b => b.all (mm_fact 25)) = true := by decide +kernel
set_option maxRecDepth 100000 in
theorem fc_26 : tb_26.all (fun b => b.all (mm_fact 26)) = true := by decide +kernel
set_option maxRecDepth 100000 in
theorem fc_27 : tb_27.all (fun b => b.all (mm_fact 27)) = true := by decide +kernel
set_option maxRecDepth 100000 in
theorem fc_28 : tb_28.all (fun b => b.all (mm_fact 28)) = true := by decide +kernel
set_option maxRecDepth 100000 in
theorem fc_29 : tb_29.all (fun b => b.all (mm_fact 29)) = true := by decide +kernel
set_option maxRecDepth 100000 in
theorem fc_30 : tb_30.all (fun b => b.all (mm_fact 30)) = true := by decide +kernel
set_option maxRecDepth 100000 in
theorem fc_31 : tb_31.all (fun b => b.all (mm_fact 31)) = true := by decide +kernel
set_option maxRecDepth 100000 in
theorem fc_32 : tb_32.all (fun b => b.all (mm_fact 32)) = true := by decide +kernel
set_option maxRecDepth 100000 in
theorem fc_33 : tb_33.all (fun b => b.all (mm_fact 33)) = true := by decide +kernel
set_option maxRecDepth 100000 in
theorem fc_34 : tb_34.all (fun b => b.all (mm_fact 34)) = true := by decide +kernel
set_option maxRecDepth 100000 in
theorem fc_35 : tb_35.all (fun b => b.all (mm_fact 35)) = true := by decide +kernel
set_option maxRecDepth 100000 in
theorem fc_36 : tb_36.all (fun b => b.all (mm_fact 36)) = true := by decide +kernel
set_option maxRecDepth 100000 in
theorem fc_37 : tb_37.all (fun b => b.all (mm_fact 37)) = true := by decide +kernel
set_option maxRecDepth 100000 in
theorem fc_38 : tb_38.all (fun b => b.all (mm_fact 38)) = true := by decide +kernel
set_option maxRecDepth 100000 in
theorem fc_39 : tb_39.all (fun b => b.all (mm_fact 39)) = true := by decide +kernel
set_option maxRecDepth 100000 in
theorem fc_40 : tb_40.all (fun b => b.all (mm_fact 40)) = true := by decide +kernel
set_option maxRecDepth 100000 in
theorem fc_41 : tb_41.all (fun b => b.all (mm_fact 41)) = true := by decide +kernel
set_option maxRecDepth 100000 in
theorem fc_42 : tb_42.all (fun b => b.all (mm_fact 42)) = true := by decide +kernel
set_option maxRecDepth 100000 in
theorem fc_43 : tb_43.all (fun b => b.all (mm_fact 43)) = true := by decide +kernel
set_option maxRecDepth 100000 in
theorem fc_44 : tb_44.all (fun b => b.all (mm_fact 44)) = true := by decide +kernel
set_option maxRecDepth 100000 in
theorem fc_45 : tb_45.all (fun b => b.all (mm_fact 45)) = true := by decide +kernel
set_option maxRecDepth 100000 in
theorem fc_46 : tb_46.all (fun b => b.all (mm_fact 46)) = true := by decide +kernel
set_option maxRecDepth 100000 in
theorem fc_47 : tb_47.all (fun b => b.all (mm_fact 47)) = true := by decide +kernel
set_option maxRecDepth 100000 in
theorem fc_48 : tb_48.all (fun b => b.all (mm_fact 48)) = true := by decide +kernel
set_option maxRecDepth 100000 in
theorem fc_49 : tb_49.all (fun b => b.all (mm_fact 49)) = true := by decide +kernel
set_option maxRecDepth 100000 in
theorem fc_50 : tb_50.all (fun b => b.all (mm_fact 50)) = true := by decide +kernel
set_option maxRecDepth 100000 in
theorem fc_51 : tb_51.all (fun b => b.all (mm_fact 51)) = true := by decide +kernel
set_option maxRecDepth 100000 in
theorem fc_52 : tb_52.all (fun b => b.all (mm_fact 52)) = true := by decide +kernel
set_option maxRecDepth 100000 in
theorem fc_53 : tb_53.all (fun b => b.all (mm_fact 53)) = true := by decide +kernel
set_option maxRecDepth 100000 in
theorem fc_54 : tb_54.all (fun b => b.all (mm_fact 54)) = true := by decide +kernel
set_option maxRecDepth 100000 in
theorem fc_55 : tb_55.all (fun b => b.all (mm_fact 55)) = true := by decide +kernel
set_option maxRecDepth 100000 in
theorem fc_56 : tb_56.all (fun b => b.all (mm_fact 56)) = true := by decide +kernel
set_option maxRecDepth 100000 in
theorem fc_57 : tb_57.all (fun b => b.all (mm_fact 57)) = true := by decide +kernel
set_option maxRecDepth 100000 in
theorem fc_58 : tb_58.all (fun b => b.all (mm_fact 58)) = true := by decide +kernel
set_option maxRecDepth 100000 in
theorem fc_59 : tb_59.all (fun b => b.all (mm_fact 59)) = true := by decide +kernel
set_option maxRecDepth 100000 in
theorem fc_60 : tb_60.all (fun b => b.all (mm_fact 60)) = true := by decide +kernel
set_option maxRecDepth 100000 in
theorem fc_61 : tb_61.all (fun b => b.all (mm_fact 61)) = true := by decide +kernel
set_option maxRecDepth 100000 in
theorem fc_62 : tb_62.all (fun b => b.all (mm_fact 62)) = true := by decide +kernel
set_option maxRecDepth 100000 in
theorem fc_63 : tb_63.all (fun b => b.all (mm_fact 63)) = true := by decide +kernel
set_option maxRecDepth 100000 in
theorem fc_64 : tb_64.all (fun b => b.all (mm_fact 64)) = true := by decide +kernel
set_option maxRecDepth 100000 in
theorem fc_65 : tb_65.all (fun b => b.all (mm_fact 65)) = true := by decide +kernel
set_option maxRecDepth 100000 in
theorem fc_66 : tb_66.all (fun b => b.all (mm_fact 66)) = true := by decide +kernel
set_option maxRecDepth 100000 in
theorem fc_67 : tb_67.all (fun b => b.all (mm_fact 67)) = true := by decide +kernel
set_option maxRecDepth 100000 in
theorem fc_68 : tb_68.all (fun b => b.all (mm_fact 68)) = true := by decide +kernel
set_option maxRecDepth 100000 in
theorem fc_69 : tb_69.all (fun b => b.all (mm_fact 69)) = true := by decide +kernel
set_option maxRecDepth 100000 in
theorem fc_70 : tb_70.all (fun b => b.all (mm_fact 70)) = true := by decide +kernel
set_option maxRecDepth 100000 in
theorem fc_71 : tb_71.all (fun b => b.all (mm_fact 71)) = true := by decide +kernel
set_option maxRecDepth 100000 in
theorem fc_72 : tb_72.all (fun b => b.all (mm_fact 72)) = true := by decide +kernel
set_option maxRecDepth 100000 in
theorem fc_73 : tb_73.all (fun b => b.all (mm_fact 73)) = true := by decide +kernel
set_option maxRecDepth 100000 in
theorem fc_74 : tb_74.all (fun b => b.all (mm_fact 74)) = true := by decide +kernel
set_option maxRecDepth 100000 in
theorem fc_75 : tb_75.all (fun b => b.all (mm_fact 75)) = true := by decide +kernel
set_option maxRecDepth 100000 in
theorem fc_76 : tb_76.all (fun b => b.all (mm_fact 76)) = true := by decide +kernel
set_option maxRecDepth 100000 in
theorem fc_77 : tb_77.all (fun b => b.all (mm_fact 77)) = true := by decide +kernel
set_option maxRecDepth 100000 in
theorem fc_78 : tb_78.all (fun b => b.all (mm_fact 78)) = true := by decide +kernel
set_option maxRecDepth 100000 in
theorem fc_79 : tb_79.all (fun b => b.all (mm_fact 79)) = true := by decide +kernel
set_option maxRecDepth 100000 in
theorem fc_80 : tb_80.all (fun b => b.all (mm_fact 80)) = true := by decide +kernel
set_option maxRecDepth 100000 in
theorem fc_81 : tb_81.all (fun b => b.all (mm_fact 81)) = true := by decide +kernel
set_option maxRecDepth 100000 in
theorem fc_82 : tb_82.all (fun b => b.all (mm_fact 82)) = true := by decide +kernel
set_option maxRecDepth 100000 in
theorem fc_83 : tb_83.all (fun b => b.all (mm_fact 83)) = true := by decide +kernel
set_option maxRecDepth 100000 in
theorem fc_84 : tb_84.all (fun b => b.all (mm_fact 84)) = true := by decide +kernel
set_option maxRecDepth 100000 in
theorem fc_85 : tb_85.all (fun b => b.all (mm_fact 85)) = true := by decide +kernel
set_option maxRecDepth 100000 in
theorem fc_86 : tb_86.all (fun b => b.all (mm_fact 86)) = true := by decide +kernel
set_option maxRecDepth 100000 in
theorem fc_87 : tb_87.all (fun b => b.all (mm_fact 87)) = true := by decide +kernel
set_option maxRecDepth 100000 in
theorem fc_88 : tb_88.all (fun b => b.all (mm_fact 88)) = true := by decide +kernel
set_option maxRecDepth 100000 in
theorem fc_89 : tb_89.all (fun b => b.all (mm_fact 89)) = true := by decide +kernel
set_option maxRecDepth 100000 in
theorem fc_90 : tb_90.all (fun b => b.all (mm_fact 90)) = true := by decide +kernel
set_option maxRecDepth 100000 in
theorem fc_91 : tb_91.all (fun b => b.all (mm_fact 91)) = true := by decide +kernel
set_option maxRecDepth 100000 in
theorem fc_92 : tb_92.all (fun b => b.all (mm_fact 92)) = true := by decide +kernel
set_option maxRecDepth 100000 in
theorem fc_93 : tb_93.all (fun b => b.all (mm_fact 93)) = true := by decide +kernel
set_option maxRecDepth 100000 in
theorem fc_94 : tb_94.all (fun b => b.all (mm_fact 94)) = true := by decide +kernel
set_option maxRecDepth 100000 in
theorem fc_95 : tb_95.all (fun b => b.all (mm_fact 95)) = true := by decide +kernel
set_option maxRecDepth 100000 in
theorem fc_96 : tb_96.all (fun b => b.all (mm_fact 96)) = true := by decide +kernel
set_option maxRecDepth 100000 in
theorem fc_97 : tb_97.all (fun b => b.all (mm_fact 97)) = true := by decide +kernel
set_option maxRecDepth 100000 in
theorem fc_98 : tb_98.all (fun b => b.all (mm_fact 98)) = true := by decide +kernel
set_option maxRecDepth 100000 in
theorem fc_99 : tb_99.all (fun b => b.all (mm_fact 99)) = true := by decide +kernel
set_option maxRecDepth 100000 in
theorem fc_101 : tb_101.all (fun b => b.all (mm_fact 101)) = true := by decide +kernel
set_option maxRecDepth 100000 in
theorem fc_102 : tb_102.all (fun b => b.all (mm_fact 102)) = true := by decide +kernel
