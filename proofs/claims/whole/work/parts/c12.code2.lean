/-! ===== written by gen_c12.py: do not edit ===== -/
set_option maxRecDepth 100000 in
theorem cdok_72 : codeB prog_8_method_15_code cd_72 = true := by decide +kernel
set_option maxRecDepth 100000 in
theorem cdok_73 : codeB prog_1_method_14_code cd_73 = true := by decide +kernel
set_option maxRecDepth 100000 in
theorem cdok_74 : codeB prog_8_method_16_code cd_74 = true := by decide +kernel
set_option maxRecDepth 100000 in
theorem cdok_75 : codeB prog_1_method_46_code cd_75 = true := by decide +kernel
set_option maxRecDepth 100000 in
theorem cdok_76 : codeB prog_1_method_15_code cd_76 = true := by decide +kernel
set_option maxRecDepth 100000 in
theorem cdok_77 : codeB prog_6_method_3_code cd_77 = true := by decide +kernel
set_option maxRecDepth 100000 in
theorem cdok_78 : codeB prog_1_method_16_code cd_78 = true := by decide +kernel
set_option maxRecDepth 100000 in
theorem cdok_79 : codeB prog_5_method_2_code cd_79 = true := by decide +kernel
set_option maxRecDepth 100000 in
theorem cdok_80 : codeB prog_5_method_4_code cd_80 = true := by decide +kernel
set_option maxRecDepth 100000 in
theorem cdok_81 : codeB prog_5_method_5_code cd_81 = true := by decide +kernel
set_option maxRecDepth 100000 in
theorem cdok_82 : codeB prog_5_method_3_code cd_82 = true := by decide +kernel
set_option maxRecDepth 100000 in
theorem cdok_83 : codeB prog_1_method_17_code cd_83 = true := by decide +kernel
set_option maxRecDepth 100000 in
theorem cdok_84 : codeB prog_1_method_18_code cd_84 = true := by decide +kernel
set_option maxRecDepth 100000 in
theorem cdok_85 : codeB prog_1_method_47_code cd_85 = true := by decide +kernel
set_option maxRecDepth 100000 in
theorem cdok_86 : codeB prog_1_method_19_code cd_86 = true := by decide +kernel
set_option maxRecDepth 100000 in
theorem cdok_87 : codeB prog_1_method_20_code cd_87 = true := by decide +kernel
set_option maxRecDepth 100000 in
theorem cdok_88 : codeB prog_1_method_21_code cd_88 = true := by decide +kernel
set_option maxRecDepth 100000 in
theorem cdok_89 : codeB prog_1_method_48_code cd_89 = true := by decide +kernel
set_option maxRecDepth 100000 in
theorem cdok_90 : codeB prog_1_method_22_code cd_90 = true := by decide +kernel
set_option maxRecDepth 100000 in
theorem cdok_91 : codeB prog_1_method_49_code cd_91 = true := by decide +kernel
set_option maxRecDepth 100000 in
theorem cdok_92 : codeB prog_1_method_23_code cd_92 = true := by decide +kernel
set_option maxRecDepth 100000 in
theorem cdok_93 : codeB prog_1_method_24_code cd_93 = true := by decide +kernel
set_option maxRecDepth 100000 in
theorem cdok_94 : codeB prog_10_method_3_code cd_94 = true := by decide +kernel
set_option maxRecDepth 100000 in
theorem cdok_95 : codeB prog_9_method_3_code cd_95 = true := by decide +kernel
set_option maxRecDepth 100000 in
theorem cdok_96 : codeB prog_1_method_51_code cd_96 = true := by decide +kernel
set_option maxRecDepth 100000 in
theorem cdok_97 : codeB prog_1_method_50_code cd_97 = true := by decide +kernel
set_option maxRecDepth 100000 in
theorem cdok_98 : codeB prog_1_method_52_code cd_98 = true := by decide +kernel
set_option maxRecDepth 100000 in
theorem cdok_99 : codeB prog_1_method_53_code cd_99 = true := by decide +kernel
set_option maxRecDepth 100000 in
theorem cdok_100 : codeB prog_20_method_49_code cd_100 = true := by decide +kernel
set_option maxRecDepth 100000 in
theorem cdok_101 : codeB prog_1_method_25_code cd_101 = true := by decide +kernel
set_option maxRecDepth 100000 in
theorem cdok_102 : codeB prog_1_method_26_code cd_102 = true := by decide +kernel
set_option maxRecDepth 100000 in
theorem cdok_103 : codeB prog_10_method_5_code cd_103 = true := by decide +kernel
set_option maxRecDepth 100000 in
theorem cdok_104 : codeB prog_1_method_27_code cd_104 = true := by decide +kernel
set_option maxRecDepth 100000 in
theorem cdok_105 : codeB prog_1_method_30_code cd_105 = true := by decide +kernel
set_option maxRecDepth 100000 in
theorem cdok_106 : codeB prog_1_method_31_code cd_106 = true := by decide +kernel
set_option maxRecDepth 100000 in
theorem cdok_107 : codeB prog_1_method_55_code cd_107 = true := by decide +kernel
set_option maxRecDepth 100000 in
theorem cdok_108 : codeB prog_1_method_56_code cd_108 = true := by decide +kernel
set_option maxRecDepth 100000 in
theorem cdok_109 : codeB prog_1_method_54_code cd_109 = true := by decide +kernel
set_option maxRecDepth 100000 in
theorem cdok_121 : codeB prog_1_method_32_code cd_121 = true := by decide +kernel
set_option maxRecDepth 100000 in
theorem cdok_122 : codeB prog_1_method_33_code cd_122 = true := by decide +kernel
set_option maxRecDepth 100000 in
theorem cdok_123 : codeB prog_4_method_3_code cd_123 = true := by decide +kernel
set_option maxRecDepth 100000 in
theorem cdok_124 : codeB prog_4_method_4_code cd_124 = true := by decide +kernel
set_option maxRecDepth 100000 in
theorem cdok_125 : codeB prog_4_method_2_code cd_125 = true := by decide +kernel
set_option maxRecDepth 100000 in
theorem cdok_126 : codeB prog_1_method_34_code cd_126 = true := by decide +kernel
set_option maxRecDepth 100000 in
theorem cdok_127 : codeB prog_1_method_35_code cd_127 = true := by decide +kernel
set_option maxRecDepth 100000 in
theorem cdok_128 : codeB prog_3_method_2_code cd_128 = true := by decide +kernel
set_option maxRecDepth 100000 in
theorem cdok_129 : codeB prog_3_method_3_code cd_129 = true := by decide +kernel
set_option maxRecDepth 100000 in
theorem cdok_130 : codeB prog_3_method_5_code cd_130 = true := by decide +kernel
set_option maxRecDepth 100000 in
theorem cdok_131 : codeB prog_3_method_4_code cd_131 = true := by decide +kernel
set_option maxRecDepth 100000 in
theorem cdok_132 : codeB prog_10_method_22_code cd_132 = true := by decide +kernel
set_option maxRecDepth 100000 in
theorem cdok_133 : codeB prog_1_method_57_code cd_133 = true := by decide +kernel
set_option maxRecDepth 100000 in
theorem cdok_134 : codeB prog_3_method_6_code cd_134 = true := by decide +kernel
set_option maxRecDepth 100000 in
theorem cdok_135 : codeB prog_3_method_7_code cd_135 = true := by decide +kernel
set_option maxRecDepth 100000 in
theorem cdok_136 : codeB prog_1_method_36_code cd_136 = true := by decide +kernel
set_option maxRecDepth 100000 in
theorem cdok_137 : codeB prog_1_method_37_code cd_137 = true := by decide +kernel
set_option maxRecDepth 100000 in
theorem cdok_138 : codeB prog_7_method_4_code cd_138 = true := by decide +kernel
set_option maxRecDepth 100000 in
theorem cdok_139 : codeB prog_7_method_5_code cd_139 = true := by decide +kernel
set_option maxRecDepth 100000 in
theorem cdok_140 : codeB prog_7_method_6_code cd_140 = true := by decide +kernel
set_option maxRecDepth 100000 in
theorem cdok_141 : codeB prog_7_method_7_code cd_141 = true := by decide +kernel
set_option maxRecDepth 100000 in
theorem cdok_142 : codeB prog_7_method_11_code cd_142 = true := by decide +kernel
set_option maxRecDepth 100000 in
theorem cdok_143 : codeB prog_7_method_8_code cd_143 = true := by decide +kernel
set_option maxRecDepth 100000 in
theorem cdok_144 : codeB prog_7_method_9_code cd_144 = true := by decide +kernel
set_option maxRecDepth 100000 in
theorem cdok_145 : codeB prog_7_method_10_code cd_145 = true := by decide +kernel
set_option maxRecDepth 100000 in
theorem cdok_146 : codeB prog_9_method_8_code cd_146 = true := by decide +kernel
set_option maxRecDepth 100000 in
theorem cdok_147 : codeB prog_7_method_3_code cd_147 = true := by decide +kernel
set_option maxRecDepth 100000 in
theorem cdok_148 : codeB prog_1_method_38_code cd_148 = true := by decide +kernel
set_option maxRecDepth 100000 in
theorem cdok_149 : codeB prog_7_method_12_code cd_149 = true := by decide +kernel
set_option maxRecDepth 100000 in
theorem cdok_150 : codeB prog_7_method_13_code cd_150 = true := by decide +kernel
set_option maxRecDepth 100000 in
theorem cdok_151 : codeB prog_7_method_14_code cd_151 = true := by decide +kernel
set_option maxRecDepth 100000 in
theorem cdok_152 : codeB prog_7_method_15_code cd_152 = true := by decide +kernel
set_option maxRecDepth 100000 in
theorem cdok_153 : codeB prog_1_method_39_code cd_153 = true := by decide +kernel
