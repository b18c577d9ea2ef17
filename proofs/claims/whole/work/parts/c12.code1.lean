/-! ===== written by gen_c12.py: do not edit ===== -/
def codeB (cc : ByteArray) (cd : List mI) : Bool := cd.all fun r => decide (decode cc r.1 = .ok (r.2.1, r.2.2.1)) && tgOk r.1 r.2.1 r.2.2.1 r.2.2.2
theorem codeOk_of {cc : ByteArray} {cd : List mI} (h : codeB cc cd = true) : codeOk cc cd := by
  intro r hr
  have := List.all_eq_true.mp h r hr
  simp only [Bool.and_eq_true, decide_eq_true_eq] at this
  exact this
theorem codeB_app {cc : ByteArray} {a b : List mI} (h1 : codeB cc a = true) (h2 : codeB cc b = true) : codeB cc (a ++ b) = true := by
  unfold codeB at h1 h2 ⊢
  rw [List.all_append, h1, h2]; rfl
set_option maxRecDepth 100000 in
theorem cdok_0 : codeB prog_1_method_1_code cd_0 = true := by decide +kernel
set_option maxRecDepth 100000 in
theorem cdok_2 : codeB prog_9_method_1_code cd_2 = true := by decide +kernel
set_option maxRecDepth 100000 in
theorem cdok_3 : codeB prog_12_method_1_code cd_3 = true := by decide +kernel
set_option maxRecDepth 100000 in
theorem cdok_4 : codeB prog_10_method_1_code cd_4 = true := by decide +kernel
set_option maxRecDepth 100000 in
theorem cdok_5 : codeB prog_8_method_1_code cd_5 = true := by decide +kernel
set_option maxRecDepth 100000 in
theorem cdok_6 : codeB prog_7_method_1_code cd_6 = true := by decide +kernel
set_option maxRecDepth 100000 in
theorem cdok_7 : codeB prog_8_method_3_code cd_7 = true := by decide +kernel
set_option maxRecDepth 100000 in
theorem cdok_8 : codeB prog_30_method_103_code cd_8 = true := by decide +kernel
set_option maxRecDepth 100000 in
theorem cdok_9 : codeB prog_8_method_4_code cd_9 = true := by decide +kernel
set_option maxRecDepth 100000 in
theorem cdok_10 : codeB prog_6_method_1_code cd_10 = true := by decide +kernel
set_option maxRecDepth 100000 in
theorem cdok_11 : codeB prog_3_method_1_code cd_11 = true := by decide +kernel
set_option maxRecDepth 100000 in
theorem cdok_12 : codeB prog_5_method_1_code cd_12 = true := by decide +kernel
set_option maxRecDepth 100000 in
theorem cdok_13 : codeB prog_4_method_1_code cd_13 = true := by decide +kernel
set_option maxRecDepth 100000 in
theorem cdok_14 : codeB prog_1_method_2_code cd_14 = true := by decide +kernel
set_option maxRecDepth 100000 in
theorem cdok_15 : codeB prog_9_method_2_code cd_15 = true := by decide +kernel
set_option maxRecDepth 100000 in
theorem cdok_16 : codeB prog_1_method_3_code cd_16 = true := by decide +kernel
set_option maxRecDepth 100000 in
theorem cdok_17 : codeB prog_1_method_4_code cd_17 = true := by decide +kernel
set_option maxRecDepth 100000 in
theorem cdok_18 : codeB prog_9_method_4_code cd_18 = true := by decide +kernel
set_option maxRecDepth 100000 in
theorem cdok_19 : codeB prog_9_method_5_code cd_19 = true := by decide +kernel
set_option maxRecDepth 100000 in
theorem cdok_20 : codeB prog_21_method_69_code cd_20 = true := by decide +kernel
set_option maxRecDepth 100000 in
theorem cdok_21 : codeB prog_9_method_6_code cd_21 = true := by decide +kernel
set_option maxRecDepth 100000 in
theorem cdok_22 : codeB prog_11_method_4_code cd_22 = true := by decide +kernel
set_option maxRecDepth 100000 in
theorem cdok_23 : codeB prog_10_method_7_code cd_23 = true := by decide +kernel
set_option maxRecDepth 100000 in
theorem cdok_24 : codeB prog_10_method_8_code cd_24 = true := by decide +kernel
set_option maxRecDepth 100000 in
theorem cdok_25 : codeB prog_9_method_7_code cd_25 = true := by decide +kernel
set_option maxRecDepth 100000 in
theorem cdok_26 : codeB prog_18_method_2_code cd_26 = true := by decide +kernel
set_option maxRecDepth 100000 in
theorem cdok_27 : codeB prog_10_method_9_code cd_27 = true := by decide +kernel
set_option maxRecDepth 100000 in
theorem cdok_28 : codeB prog_10_method_16_code cd_28 = true := by decide +kernel
set_option maxRecDepth 100000 in
theorem cdok_29 : codeB prog_10_method_17_code cd_29 = true := by decide +kernel
set_option maxRecDepth 100000 in
theorem cdok_30 : codeB prog_9_method_10_code cd_30 = true := by decide +kernel
set_option maxRecDepth 100000 in
theorem cdok_31 : codeB prog_10_method_10_code cd_31 = true := by decide +kernel
set_option maxRecDepth 100000 in
theorem cdok_32 : codeB prog_10_method_11_code cd_32 = true := by decide +kernel
set_option maxRecDepth 100000 in
theorem cdok_33 : codeB prog_10_method_12_code cd_33 = true := by decide +kernel
set_option maxRecDepth 100000 in
theorem cdok_34 : codeB prog_10_method_20_code cd_34 = true := by decide +kernel
set_option maxRecDepth 100000 in
theorem cdok_35 : codeB prog_10_method_18_code cd_35 = true := by decide +kernel
set_option maxRecDepth 100000 in
theorem cdok_36 : codeB prog_10_method_19_code cd_36 = true := by decide +kernel
set_option maxRecDepth 100000 in
theorem cdok_37 : codeB prog_10_method_4_code cd_37 = true := by decide +kernel
set_option maxRecDepth 100000 in
theorem cdok_38 : codeB prog_10_method_13_code cd_38 = true := by decide +kernel
set_option maxRecDepth 100000 in
theorem cdok_39 : codeB prog_10_method_21_code cd_39 = true := by decide +kernel
set_option maxRecDepth 100000 in
theorem cdok_40 : codeB prog_10_method_14_code cd_40 = true := by decide +kernel
set_option maxRecDepth 100000 in
theorem cdok_41 : codeB prog_10_method_15_code cd_41 = true := by decide +kernel
set_option maxRecDepth 100000 in
theorem cdok_42 : codeB prog_9_method_9_code cd_42 = true := by decide +kernel
set_option maxRecDepth 100000 in
theorem cdok_43 : codeB prog_10_method_2_code cd_43 = true := by decide +kernel
set_option maxRecDepth 100000 in
theorem cdok_44 : codeB prog_7_method_2_code cd_44 = true := by decide +kernel
set_option maxRecDepth 100000 in
theorem cdok_45 : codeB prog_6_method_4_code cd_45 = true := by decide +kernel
set_option maxRecDepth 100000 in
theorem cdok_46 : codeB prog_1_method_5_code cd_46 = true := by decide +kernel
set_option maxRecDepth 100000 in
theorem cdok_47 : codeB prog_1_method_6_code cd_47 = true := by decide +kernel
set_option maxRecDepth 100000 in
theorem cdok_48 : codeB prog_1_method_42_code cd_48 = true := by decide +kernel
set_option maxRecDepth 100000 in
theorem cdok_49 : codeB prog_8_method_5_code cd_49 = true := by decide +kernel
set_option maxRecDepth 100000 in
theorem cdok_50 : codeB prog_8_method_7_code cd_50 = true := by decide +kernel
set_option maxRecDepth 100000 in
theorem cdok_51 : codeB prog_21_method_65_code cd_51 = true := by decide +kernel
set_option maxRecDepth 100000 in
theorem cdok_52 : codeB prog_1_method_7_code cd_52 = true := by decide +kernel
set_option maxRecDepth 100000 in
theorem cdok_53 : codeB prog_1_method_43_code cd_53 = true := by decide +kernel
set_option maxRecDepth 100000 in
theorem cdok_54 : codeB prog_1_method_9_code cd_54 = true := by decide +kernel
set_option maxRecDepth 100000 in
theorem cdok_55 : codeB prog_8_method_8_code cd_55 = true := by decide +kernel
set_option maxRecDepth 100000 in
theorem cdok_56 : codeB prog_8_method_9_code cd_56 = true := by decide +kernel
set_option maxRecDepth 100000 in
theorem cdok_57 : codeB prog_8_method_10_code cd_57 = true := by decide +kernel
set_option maxRecDepth 100000 in
theorem cdok_58 : codeB prog_8_method_6_code cd_58 = true := by decide +kernel
set_option maxRecDepth 100000 in
theorem cdok_59 : codeB prog_10_method_6_code cd_59 = true := by decide +kernel
set_option maxRecDepth 100000 in
theorem cdok_60 : codeB prog_1_method_10_code cd_60 = true := by decide +kernel
set_option maxRecDepth 100000 in
theorem cdok_61 : codeB prog_1_method_44_code cd_61 = true := by decide +kernel
set_option maxRecDepth 100000 in
theorem cdok_62 : codeB prog_8_method_2_code cd_62 = true := by decide +kernel
set_option maxRecDepth 100000 in
theorem cdok_63 : codeB prog_8_method_12_code cd_63 = true := by decide +kernel
set_option maxRecDepth 100000 in
theorem cdok_64 : codeB prog_8_method_11_code cd_64 = true := by decide +kernel
set_option maxRecDepth 100000 in
theorem cdok_65 : codeB prog_1_method_45_code cd_65 = true := by decide +kernel
set_option maxRecDepth 100000 in
theorem cdok_66 : codeB prog_6_method_2_code cd_66 = true := by decide +kernel
set_option maxRecDepth 100000 in
theorem cdok_67 : codeB prog_1_method_11_code cd_67 = true := by decide +kernel
set_option maxRecDepth 100000 in
theorem cdok_68 : codeB prog_8_method_13_code cd_68 = true := by decide +kernel
set_option maxRecDepth 100000 in
theorem cdok_69 : codeB prog_1_method_12_code cd_69 = true := by decide +kernel
set_option maxRecDepth 100000 in
theorem cdok_70 : codeB prog_8_method_14_code cd_70 = true := by decide +kernel
set_option maxRecDepth 100000 in
theorem cdok_71 : codeB prog_1_method_13_code cd_71 = true := by decide +kernel
