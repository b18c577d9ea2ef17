/-! ===== the law's own bytes ===== -/
theorem codeB_cut {cc : ByteArray} {l : List mI} (n : Nat) (h1 : codeB cc (l.take n) = true) (h2 : codeB cc (l.drop n) = true) : codeB cc l = true := by
  rw [← List.take_append_drop n l]; exact codeB_app h1 h2
set_option maxRecDepth 100000 in
theorem ck_0 : codeB code ((cd_305.drop 0).take 15) = true := by decide +kernel
set_option maxRecDepth 100000 in
theorem ck_1 : codeB code ((cd_305.drop 15).take 15) = true := by decide +kernel
set_option maxRecDepth 100000 in
theorem ck_2 : codeB code ((cd_305.drop 30).take 15) = true := by decide +kernel
set_option maxRecDepth 100000 in
theorem ck_3 : codeB code ((cd_305.drop 45).take 15) = true := by decide +kernel
set_option maxRecDepth 100000 in
theorem ck_4 : codeB code ((cd_305.drop 60).take 15) = true := by decide +kernel
set_option maxRecDepth 100000 in
theorem ck_5 : codeB code ((cd_305.drop 75).take 15) = true := by decide +kernel
set_option maxRecDepth 100000 in
theorem ck_6 : codeB code ((cd_305.drop 90).take 15) = true := by decide +kernel
set_option maxRecDepth 100000 in
theorem ck_7 : codeB code ((cd_305.drop 105).take 15) = true := by decide +kernel
set_option maxRecDepth 100000 in
theorem ck_8 : codeB code ((cd_305.drop 120).take 15) = true := by decide +kernel
set_option maxRecDepth 100000 in
theorem ck_9 : codeB code ((cd_305.drop 135).take 15) = true := by decide +kernel
set_option maxRecDepth 100000 in
theorem ck_10 : codeB code ((cd_305.drop 150).take 15) = true := by decide +kernel
set_option maxRecDepth 100000 in
theorem ck_11 : codeB code ((cd_305.drop 165).take 15) = true := by decide +kernel
set_option maxRecDepth 100000 in
theorem ck_12 : codeB code ((cd_305.drop 180).take 15) = true := by decide +kernel
set_option maxRecDepth 100000 in
theorem ck_13 : codeB code ((cd_305.drop 195).take 15) = true := by decide +kernel
set_option maxRecDepth 100000 in
theorem ck_14 : codeB code ((cd_305.drop 210).take 15) = true := by decide +kernel
set_option maxRecDepth 100000 in
theorem ck_15 : codeB code ((cd_305.drop 225).take 15) = true := by decide +kernel
set_option maxRecDepth 100000 in
theorem ck_16 : codeB code ((cd_305.drop 240).take 15) = true := by decide +kernel
set_option maxRecDepth 100000 in
theorem ck_17 : codeB code ((cd_305.drop 255).take 15) = true := by decide +kernel
set_option maxRecDepth 100000 in
theorem ck_18 : codeB code ((cd_305.drop 270).take 15) = true := by decide +kernel
set_option maxRecDepth 100000 in
theorem ck_19 : codeB code ((cd_305.drop 285).take 15) = true := by decide +kernel
set_option maxRecDepth 100000 in
theorem ck_20 : codeB code ((cd_305.drop 300).take 15) = true := by decide +kernel
set_option maxRecDepth 100000 in
theorem ck_21 : codeB code ((cd_305.drop 315).take 15) = true := by decide +kernel
set_option maxRecDepth 100000 in
theorem ck_22 : codeB code ((cd_305.drop 330).take 15) = true := by decide +kernel
set_option maxRecDepth 100000 in
theorem ck_23 : codeB code ((cd_305.drop 345).take 15) = true := by decide +kernel
set_option maxRecDepth 100000 in
theorem ck_24 : codeB code ((cd_305.drop 360).take 15) = true := by decide +kernel
set_option maxRecDepth 100000 in
theorem ck_25 : codeB code ((cd_305.drop 375).take 15) = true := by decide +kernel
set_option maxRecDepth 100000 in
theorem ck_26 : codeB code ((cd_305.drop 390).take 15) = true := by decide +kernel
set_option maxRecDepth 100000 in
theorem ck_27 : codeB code ((cd_305.drop 405).take 15) = true := by decide +kernel
set_option maxRecDepth 100000 in
theorem ck_28 : codeB code ((cd_305.drop 420).take 15) = true := by decide +kernel
set_option maxRecDepth 100000 in
theorem ck_29 : codeB code ((cd_305.drop 435).take 15) = true := by decide +kernel
set_option maxRecDepth 100000 in
theorem ck_30 : codeB code ((cd_305.drop 450).take 15) = true := by decide +kernel
set_option maxRecDepth 100000 in
theorem ck_31 : codeB code ((cd_305.drop 465).take 15) = true := by decide +kernel
set_option maxRecDepth 100000 in
theorem ck_32 : codeB code ((cd_305.drop 480).take 15) = true := by decide +kernel
set_option maxRecDepth 100000 in
theorem ck_33 : codeB code ((cd_305.drop 495).take 15) = true := by decide +kernel
set_option maxRecDepth 100000 in
theorem ck_34 : codeB code ((cd_305.drop 510).take 15) = true := by decide +kernel
set_option maxRecDepth 100000 in
theorem ck_35 : codeB code ((cd_305.drop 525).take 15) = true := by decide +kernel
set_option maxRecDepth 100000 in
theorem ck_36 : codeB code ((cd_305.drop 540).take 15) = true := by decide +kernel
set_option maxRecDepth 100000 in
theorem ck_37 : codeB code ((cd_305.drop 555).take 15) = true := by decide +kernel
set_option maxRecDepth 100000 in
theorem ck_38 : codeB code ((cd_305.drop 570).take 15) = true := by decide +kernel
set_option maxRecDepth 100000 in
theorem ck_39 : codeB code ((cd_305.drop 585).take 15) = true := by decide +kernel
set_option maxRecDepth 100000 in
theorem ck_40 : codeB code ((cd_305.drop 600).take 15) = true := by decide +kernel
set_option maxRecDepth 100000 in
theorem ck_41 : codeB code ((cd_305.drop 615).take 15) = true := by decide +kernel
set_option maxRecDepth 100000 in
theorem ck_42 : codeB code ((cd_305.drop 630).take 15) = true := by decide +kernel
set_option maxRecDepth 100000 in
theorem ck_43 : codeB code ((cd_305.drop 645).take 15) = true := by decide +kernel
set_option maxRecDepth 100000 in
theorem ck_44 : codeB code ((cd_305.drop 660).take 15) = true := by decide +kernel
set_option maxRecDepth 100000 in
theorem ck_45 : codeB code ((cd_305.drop 675).take 15) = true := by decide +kernel
set_option maxRecDepth 100000 in
theorem ck_46 : codeB code ((cd_305.drop 690).take 15) = true := by decide +kernel
set_option maxRecDepth 100000 in
theorem ck_47 : codeB code ((cd_305.drop 705).take 15) = true := by decide +kernel
set_option maxRecDepth 100000 in
theorem ck_48 : codeB code ((cd_305.drop 720).take 15) = true := by decide +kernel
set_option maxRecDepth 100000 in
theorem ck_49 : codeB code ((cd_305.drop 735).take 15) = true := by decide +kernel
set_option maxRecDepth 100000 in
theorem ck_50 : codeB code ((cd_305.drop 750).take 15) = true := by decide +kernel
set_option maxRecDepth 100000 in
theorem ck_51 : codeB code ((cd_305.drop 765).take 15) = true := by decide +kernel
set_option maxRecDepth 100000 in
theorem ck_52 : codeB code ((cd_305.drop 780).take 15) = true := by decide +kernel
set_option maxRecDepth 100000 in
theorem ck_53 : codeB code ((cd_305.drop 795).take 15) = true := by decide +kernel
set_option maxRecDepth 100000 in
theorem ck_54 : codeB code ((cd_305.drop 810).take 15) = true := by decide +kernel
set_option maxRecDepth 100000 in
theorem ck_55 : codeB code ((cd_305.drop 825).take 15) = true := by decide +kernel
set_option maxRecDepth 100000 in
theorem ck_56 : codeB code ((cd_305.drop 840).take 15) = true := by decide +kernel
set_option maxRecDepth 100000 in
theorem cx_57 : codeB code (cd_305.drop 855) = true := by decide +kernel
theorem cx_56 : codeB code (cd_305.drop 840) = true := codeB_cut 15 ck_56 (by rw [List.drop_drop]; exact cx_57)
theorem cx_55 : codeB code (cd_305.drop 825) = true := codeB_cut 15 ck_55 (by rw [List.drop_drop]; exact cx_56)
theorem cx_54 : codeB code (cd_305.drop 810) = true := codeB_cut 15 ck_54 (by rw [List.drop_drop]; exact cx_55)
theorem cx_53 : codeB code (cd_305.drop 795) = true := codeB_cut 15 ck_53 (by rw [List.drop_drop]; exact cx_54)
theorem cx_52 : codeB code (cd_305.drop 780) = true := codeB_cut 15 ck_52 (by rw [List.drop_drop]; exact cx_53)
theorem cx_51 : codeB code (cd_305.drop 765) = true := codeB_cut 15 ck_51 (by rw [List.drop_drop]; exact cx_52)
theorem cx_50 : codeB code (cd_305.drop 750) = true := codeB_cut 15 ck_50 (by rw [List.drop_drop]; exact cx_51)
theorem cx_49 : codeB code (cd_305.drop 735) = true := codeB_cut 15 ck_49 (by rw [List.drop_drop]; exact cx_50)
theorem cx_48 : codeB code (cd_305.drop 720) = true := codeB_cut 15 ck_48 (by rw [List.drop_drop]; exact cx_49)
theorem cx_47 : codeB code (cd_305.drop 705) = true := codeB_cut 15 ck_47 (by rw [List.drop_drop]; exact cx_48)
theorem cx_46 : codeB code (cd_305.drop 690) = true := codeB_cut 15 ck_46 (by rw [List.drop_drop]; exact cx_47)
theorem cx_45 : codeB code (cd_305.drop 675) = true := codeB_cut 15 ck_45 (by rw [List.drop_drop]; exact cx_46)
theorem cx_44 : codeB code (cd_305.drop 660) = true := codeB_cut 15 ck_44 (by rw [List.drop_drop]; exact cx_45)
theorem cx_43 : codeB code (cd_305.drop 645) = true := codeB_cut 15 ck_43 (by rw [List.drop_drop]; exact cx_44)
theorem cx_42 : codeB code (cd_305.drop 630) = true := codeB_cut 15 ck_42 (by rw [List.drop_drop]; exact cx_43)
theorem cx_41 : codeB code (cd_305.drop 615) = true := codeB_cut 15 ck_41 (by rw [List.drop_drop]; exact cx_42)
theorem cx_40 : codeB code (cd_305.drop 600) = true := codeB_cut 15 ck_40 (by rw [List.drop_drop]; exact cx_41)
theorem cx_39 : codeB code (cd_305.drop 585) = true := codeB_cut 15 ck_39 (by rw [List.drop_drop]; exact cx_40)
theorem cx_38 : codeB code (cd_305.drop 570) = true := codeB_cut 15 ck_38 (by rw [List.drop_drop]; exact cx_39)
theorem cx_37 : codeB code (cd_305.drop 555) = true := codeB_cut 15 ck_37 (by rw [List.drop_drop]; exact cx_38)
theorem cx_36 : codeB code (cd_305.drop 540) = true := codeB_cut 15 ck_36 (by rw [List.drop_drop]; exact cx_37)
theorem cx_35 : codeB code (cd_305.drop 525) = true := codeB_cut 15 ck_35 (by rw [List.drop_drop]; exact cx_36)
theorem cx_34 : codeB code (cd_305.drop 510) = true := codeB_cut 15 ck_34 (by rw [List.drop_drop]; exact cx_35)
theorem cx_33 : codeB code (cd_305.drop 495) = true := codeB_cut 15 ck_33 (by rw [List.drop_drop]; exact cx_34)
theorem cx_32 : codeB code (cd_305.drop 480) = true := codeB_cut 15 ck_32 (by rw [List.drop_drop]; exact cx_33)
theorem cx_31 : codeB code (cd_305.drop 465) = true := codeB_cut 15 ck_31 (by rw [List.drop_drop]; exact cx_32)
theorem cx_30 : codeB code (cd_305.drop 450) = true := codeB_cut 15 ck_30 (by rw [List.drop_drop]; exact cx_31)
theorem cx_29 : codeB code (cd_305.drop 435) = true := codeB_cut 15 ck_29 (by rw [List.drop_drop]; exact cx_30)
theorem cx_28 : codeB code (cd_305.drop 420) = true := codeB_cut 15 ck_28 (by rw [List.drop_drop]; exact cx_29)
theorem cx_27 : codeB code (cd_305.drop 405) = true := codeB_cut 15 ck_27 (by rw [List.drop_drop]; exact cx_28)
theorem cx_26 : codeB code (cd_305.drop 390) = true := codeB_cut 15 ck_26 (by rw [List.drop_drop]; exact cx_27)
theorem cx_25 : codeB code (cd_305.drop 375) = true := codeB_cut 15 ck_25 (by rw [List.drop_drop]; exact cx_26)
theorem cx_24 : codeB code (cd_305.drop 360) = true := codeB_cut 15 ck_24 (by rw [List.drop_drop]; exact cx_25)
theorem cx_23 : codeB code (cd_305.drop 345) = true := codeB_cut 15 ck_23 (by rw [List.drop_drop]; exact cx_24)
theorem cx_22 : codeB code (cd_305.drop 330) = true := codeB_cut 15 ck_22 (by rw [List.drop_drop]; exact cx_23)
theorem cx_21 : codeB code (cd_305.drop 315) = true := codeB_cut 15 ck_21 (by rw [List.drop_drop]; exact cx_22)
theorem cx_20 : codeB code (cd_305.drop 300) = true := codeB_cut 15 ck_20 (by rw [List.drop_drop]; exact cx_21)
theorem cx_19 : codeB code (cd_305.drop 285) = true := codeB_cut 15 ck_19 (by rw [List.drop_drop]; exact cx_20)
theorem cx_18 : codeB code (cd_305.drop 270) = true := codeB_cut 15 ck_18 (by rw [List.drop_drop]; exact cx_19)
theorem cx_17 : codeB code (cd_305.drop 255) = true := codeB_cut 15 ck_17 (by rw [List.drop_drop]; exact cx_18)
theorem cx_16 : codeB code (cd_305.drop 240) = true := codeB_cut 15 ck_16 (by rw [List.drop_drop]; exact cx_17)
theorem cx_15 : codeB code (cd_305.drop 225) = true := codeB_cut 15 ck_15 (by rw [List.drop_drop]; exact cx_16)
theorem cx_14 : codeB code (cd_305.drop 210) = true := codeB_cut 15 ck_14 (by rw [List.drop_drop]; exact cx_15)
theorem cx_13 : codeB code (cd_305.drop 195) = true := codeB_cut 15 ck_13 (by rw [List.drop_drop]; exact cx_14)
theorem cx_12 : codeB code (cd_305.drop 180) = true := codeB_cut 15 ck_12 (by rw [List.drop_drop]; exact cx_13)
theorem cx_11 : codeB code (cd_305.drop 165) = true := codeB_cut 15 ck_11 (by rw [List.drop_drop]; exact cx_12)
theorem cx_10 : codeB code (cd_305.drop 150) = true := codeB_cut 15 ck_10 (by rw [List.drop_drop]; exact cx_11)
theorem cx_9 : codeB code (cd_305.drop 135) = true := codeB_cut 15 ck_9 (by rw [List.drop_drop]; exact cx_10)
theorem cx_8 : codeB code (cd_305.drop 120) = true := codeB_cut 15 ck_8 (by rw [List.drop_drop]; exact cx_9)
theorem cx_7 : codeB code (cd_305.drop 105) = true := codeB_cut 15 ck_7 (by rw [List.drop_drop]; exact cx_8)
theorem cx_6 : codeB code (cd_305.drop 90) = true := codeB_cut 15 ck_6 (by rw [List.drop_drop]; exact cx_7)
theorem cx_5 : codeB code (cd_305.drop 75) = true := codeB_cut 15 ck_5 (by rw [List.drop_drop]; exact cx_6)
theorem cx_4 : codeB code (cd_305.drop 60) = true := codeB_cut 15 ck_4 (by rw [List.drop_drop]; exact cx_5)
theorem cx_3 : codeB code (cd_305.drop 45) = true := codeB_cut 15 ck_3 (by rw [List.drop_drop]; exact cx_4)
theorem cx_2 : codeB code (cd_305.drop 30) = true := codeB_cut 15 ck_2 (by rw [List.drop_drop]; exact cx_3)
theorem cx_1 : codeB code (cd_305.drop 15) = true := codeB_cut 15 ck_1 (by rw [List.drop_drop]; exact cx_2)
theorem cx_0 : codeB code (cd_305.drop 0) = true := codeB_cut 15 ck_0 (by rw [List.drop_drop]; exact cx_1)
theorem cdok_305 : codeB code cd_305 = true := cx_0
