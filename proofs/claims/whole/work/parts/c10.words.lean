/-! ===== written by gen_c10.py: do not edit ===== -/
theorem app_r {A B : List Cond} {n i : Nat} {w : Cond} (hl : A.length = n) (h : B[i]? = some w) : (A ++ B)[n + i]? = some w := by
  rw [List.getElem?_append_right (by omega), hl, Nat.add_sub_cancel_left]; exact h
theorem app_l {A B : List Cond} {i : Nat} {w : Cond} (h : A[i]? = some w) : (A ++ B)[i]? = some w := by
  rw [List.getElem?_append_left]; exact h
  exact (List.getElem?_eq_some_iff.mp h).1
theorem tw_of {w : Cond} (h : w ∈ lw_tbl) (hg : goodWord w = true) : w ∈ Tw := List.mem_filter.mpr ⟨h, hg⟩
theorem tl_1 {i : Nat} {w : Cond} (h : tables_1_1[i]? = some w) : w ∈ lw_tbl := (show w ∈ k2_sels lw_privs ++ (tables_1_1 ++ (tables_1_2 ++ (tables_1_3 ++ (tables_1_4 ++ (tables_1_5 ++ (tables_1_6 ++ (tables_1_7 ++ (tables_1_8)))))))) from List.mem_append_right _ (List.mem_append_left _ (List.mem_of_getElem? h)))
theorem tm_1 {i : Nat} {w : Cond} (h : tables_1_1[i]? = some w) (hg : goodWord w = true) : w ∈ Tw := tw_of (tl_1 h) hg
theorem tl_2 {i : Nat} {w : Cond} (h : tables_1_2[i]? = some w) : w ∈ lw_tbl := (show w ∈ k2_sels lw_privs ++ (tables_1_1 ++ (tables_1_2 ++ (tables_1_3 ++ (tables_1_4 ++ (tables_1_5 ++ (tables_1_6 ++ (tables_1_7 ++ (tables_1_8)))))))) from List.mem_append_right _ (List.mem_append_right _ (List.mem_append_left _ (List.mem_of_getElem? h))))
theorem tm_2 {i : Nat} {w : Cond} (h : tables_1_2[i]? = some w) (hg : goodWord w = true) : w ∈ Tw := tw_of (tl_2 h) hg
theorem tl_3 {i : Nat} {w : Cond} (h : tables_1_3[i]? = some w) : w ∈ lw_tbl := (show w ∈ k2_sels lw_privs ++ (tables_1_1 ++ (tables_1_2 ++ (tables_1_3 ++ (tables_1_4 ++ (tables_1_5 ++ (tables_1_6 ++ (tables_1_7 ++ (tables_1_8)))))))) from List.mem_append_right _ (List.mem_append_right _ (List.mem_append_right _ (List.mem_append_left _ (List.mem_of_getElem? h)))))
theorem tm_3 {i : Nat} {w : Cond} (h : tables_1_3[i]? = some w) (hg : goodWord w = true) : w ∈ Tw := tw_of (tl_3 h) hg
theorem tl_4 {i : Nat} {w : Cond} (h : tables_1_4[i]? = some w) : w ∈ lw_tbl := (show w ∈ k2_sels lw_privs ++ (tables_1_1 ++ (tables_1_2 ++ (tables_1_3 ++ (tables_1_4 ++ (tables_1_5 ++ (tables_1_6 ++ (tables_1_7 ++ (tables_1_8)))))))) from List.mem_append_right _ (List.mem_append_right _ (List.mem_append_right _ (List.mem_append_right _ (List.mem_append_left _ (List.mem_of_getElem? h))))))
theorem tm_4 {i : Nat} {w : Cond} (h : tables_1_4[i]? = some w) (hg : goodWord w = true) : w ∈ Tw := tw_of (tl_4 h) hg
theorem tl_5 {i : Nat} {w : Cond} (h : tables_1_5[i]? = some w) : w ∈ lw_tbl := (show w ∈ k2_sels lw_privs ++ (tables_1_1 ++ (tables_1_2 ++ (tables_1_3 ++ (tables_1_4 ++ (tables_1_5 ++ (tables_1_6 ++ (tables_1_7 ++ (tables_1_8)))))))) from List.mem_append_right _ (List.mem_append_right _ (List.mem_append_right _ (List.mem_append_right _ (List.mem_append_right _ (List.mem_append_left _ (List.mem_of_getElem? h)))))))
theorem tm_5 {i : Nat} {w : Cond} (h : tables_1_5[i]? = some w) (hg : goodWord w = true) : w ∈ Tw := tw_of (tl_5 h) hg
theorem tl_6 {i : Nat} {w : Cond} (h : tables_1_6[i]? = some w) : w ∈ lw_tbl := (show w ∈ k2_sels lw_privs ++ (tables_1_1 ++ (tables_1_2 ++ (tables_1_3 ++ (tables_1_4 ++ (tables_1_5 ++ (tables_1_6 ++ (tables_1_7 ++ (tables_1_8)))))))) from List.mem_append_right _ (List.mem_append_right _ (List.mem_append_right _ (List.mem_append_right _ (List.mem_append_right _ (List.mem_append_right _ (List.mem_append_left _ (List.mem_of_getElem? h))))))))
theorem tm_6 {i : Nat} {w : Cond} (h : tables_1_6[i]? = some w) (hg : goodWord w = true) : w ∈ Tw := tw_of (tl_6 h) hg
theorem tl_7 {i : Nat} {w : Cond} (h : tables_1_7[i]? = some w) : w ∈ lw_tbl := (show w ∈ k2_sels lw_privs ++ (tables_1_1 ++ (tables_1_2 ++ (tables_1_3 ++ (tables_1_4 ++ (tables_1_5 ++ (tables_1_6 ++ (tables_1_7 ++ (tables_1_8)))))))) from List.mem_append_right _ (List.mem_append_right _ (List.mem_append_right _ (List.mem_append_right _ (List.mem_append_right _ (List.mem_append_right _ (List.mem_append_right _ (List.mem_append_left _ (List.mem_of_getElem? h)))))))))
theorem tm_7 {i : Nat} {w : Cond} (h : tables_1_7[i]? = some w) (hg : goodWord w = true) : w ∈ Tw := tw_of (tl_7 h) hg
theorem tl_8 {i : Nat} {w : Cond} (h : tables_1_8[i]? = some w) : w ∈ lw_tbl := (show w ∈ k2_sels lw_privs ++ (tables_1_1 ++ (tables_1_2 ++ (tables_1_3 ++ (tables_1_4 ++ (tables_1_5 ++ (tables_1_6 ++ (tables_1_7 ++ (tables_1_8)))))))) from List.mem_append_right _ (List.mem_append_right _ (List.mem_append_right _ (List.mem_append_right _ (List.mem_append_right _ (List.mem_append_right _ (List.mem_append_right _ (List.mem_append_right _ (List.mem_of_getElem? h)))))))))
theorem tm_8 {i : Nat} {w : Cond} (h : tables_1_8[i]? = some w) (hg : goodWord w = true) : w ∈ Tw := tw_of (tl_8 h) hg
theorem tp_1 {i : Nat} {q : MethodName × Nat} (h : lw_privs_1[i]? = some q) : Cond.selects q.1.cls q.1 q.1 ∈ Tw := tw_of (List.mem_append_left _ (List.mem_map.mpr ⟨q, (show q ∈ lw_privs_1 ++ (lw_privs_2 ++ (lw_privs_3 ++ (lw_privs_4 ++ (lw_privs_5 ++ (lw_privs_6 ++ (lw_privs_7 ++ (lw_privs_8))))))) from List.mem_append_left _ (List.mem_of_getElem? h)), rfl⟩)) rfl
theorem tp_2 {i : Nat} {q : MethodName × Nat} (h : lw_privs_2[i]? = some q) : Cond.selects q.1.cls q.1 q.1 ∈ Tw := tw_of (List.mem_append_left _ (List.mem_map.mpr ⟨q, (show q ∈ lw_privs_1 ++ (lw_privs_2 ++ (lw_privs_3 ++ (lw_privs_4 ++ (lw_privs_5 ++ (lw_privs_6 ++ (lw_privs_7 ++ (lw_privs_8))))))) from List.mem_append_right _ (List.mem_append_left _ (List.mem_of_getElem? h))), rfl⟩)) rfl
theorem tp_3 {i : Nat} {q : MethodName × Nat} (h : lw_privs_3[i]? = some q) : Cond.selects q.1.cls q.1 q.1 ∈ Tw := tw_of (List.mem_append_left _ (List.mem_map.mpr ⟨q, (show q ∈ lw_privs_1 ++ (lw_privs_2 ++ (lw_privs_3 ++ (lw_privs_4 ++ (lw_privs_5 ++ (lw_privs_6 ++ (lw_privs_7 ++ (lw_privs_8))))))) from List.mem_append_right _ (List.mem_append_right _ (List.mem_append_left _ (List.mem_of_getElem? h)))), rfl⟩)) rfl
theorem tp_4 {i : Nat} {q : MethodName × Nat} (h : lw_privs_4[i]? = some q) : Cond.selects q.1.cls q.1 q.1 ∈ Tw := tw_of (List.mem_append_left _ (List.mem_map.mpr ⟨q, (show q ∈ lw_privs_1 ++ (lw_privs_2 ++ (lw_privs_3 ++ (lw_privs_4 ++ (lw_privs_5 ++ (lw_privs_6 ++ (lw_privs_7 ++ (lw_privs_8))))))) from List.mem_append_right _ (List.mem_append_right _ (List.mem_append_right _ (List.mem_append_left _ (List.mem_of_getElem? h))))), rfl⟩)) rfl
theorem tp_5 {i : Nat} {q : MethodName × Nat} (h : lw_privs_5[i]? = some q) : Cond.selects q.1.cls q.1 q.1 ∈ Tw := tw_of (List.mem_append_left _ (List.mem_map.mpr ⟨q, (show q ∈ lw_privs_1 ++ (lw_privs_2 ++ (lw_privs_3 ++ (lw_privs_4 ++ (lw_privs_5 ++ (lw_privs_6 ++ (lw_privs_7 ++ (lw_privs_8))))))) from List.mem_append_right _ (List.mem_append_right _ (List.mem_append_right _ (List.mem_append_right _ (List.mem_append_left _ (List.mem_of_getElem? h)))))), rfl⟩)) rfl
theorem tp_6 {i : Nat} {q : MethodName × Nat} (h : lw_privs_6[i]? = some q) : Cond.selects q.1.cls q.1 q.1 ∈ Tw := tw_of (List.mem_append_left _ (List.mem_map.mpr ⟨q, (show q ∈ lw_privs_1 ++ (lw_privs_2 ++ (lw_privs_3 ++ (lw_privs_4 ++ (lw_privs_5 ++ (lw_privs_6 ++ (lw_privs_7 ++ (lw_privs_8))))))) from List.mem_append_right _ (List.mem_append_right _ (List.mem_append_right _ (List.mem_append_right _ (List.mem_append_right _ (List.mem_append_left _ (List.mem_of_getElem? h))))))), rfl⟩)) rfl
theorem tp_7 {i : Nat} {q : MethodName × Nat} (h : lw_privs_7[i]? = some q) : Cond.selects q.1.cls q.1 q.1 ∈ Tw := tw_of (List.mem_append_left _ (List.mem_map.mpr ⟨q, (show q ∈ lw_privs_1 ++ (lw_privs_2 ++ (lw_privs_3 ++ (lw_privs_4 ++ (lw_privs_5 ++ (lw_privs_6 ++ (lw_privs_7 ++ (lw_privs_8))))))) from List.mem_append_right _ (List.mem_append_right _ (List.mem_append_right _ (List.mem_append_right _ (List.mem_append_right _ (List.mem_append_right _ (List.mem_append_left _ (List.mem_of_getElem? h)))))))), rfl⟩)) rfl
theorem tp_8 {i : Nat} {q : MethodName × Nat} (h : lw_privs_8[i]? = some q) : Cond.selects q.1.cls q.1 q.1 ∈ Tw := tw_of (List.mem_append_left _ (List.mem_map.mpr ⟨q, (show q ∈ lw_privs_1 ++ (lw_privs_2 ++ (lw_privs_3 ++ (lw_privs_4 ++ (lw_privs_5 ++ (lw_privs_6 ++ (lw_privs_7 ++ (lw_privs_8))))))) from List.mem_append_right _ (List.mem_append_right _ (List.mem_append_right _ (List.mem_append_right _ (List.mem_append_right _ (List.mem_append_right _ (List.mem_append_right _ (List.mem_of_getElem? h)))))))), rfl⟩)) rfl
set_option maxRecDepth 100000 in
theorem wd_p0 : Cond.selects "LentBoxes$State" (⟨"LentBoxes$State", "arrive", "(LLentBoxes$Vestry;)V"⟩ : MethodName) (⟨"LentBoxes$State", "arrive", "(LLentBoxes$Vestry;)V"⟩ : MethodName) ∈ Tw := tp_1 (i := 0) (q := ((⟨"LentBoxes$State", "arrive", "(LLentBoxes$Vestry;)V"⟩ : MethodName), 13)) rfl
set_option maxRecDepth 100000 in
theorem wd_p1 : Cond.selects "LentBoxes$Vestry" (⟨"LentBoxes$Vestry", "readLine", "(LLentBoxes$Tape;)Z"⟩ : MethodName) (⟨"LentBoxes$Vestry", "readLine", "(LLentBoxes$Tape;)Z"⟩ : MethodName) ∈ Tw := tp_1 (i := 1) (q := ((⟨"LentBoxes$Vestry", "readLine", "(LLentBoxes$Tape;)Z"⟩ : MethodName), 19)) rfl
set_option maxRecDepth 100000 in
theorem wd_p2 : Cond.selects "LentBoxes$Vestry" (⟨"LentBoxes$Vestry", "readBox", "(LLentBoxes$Tape;)Z"⟩ : MethodName) (⟨"LentBoxes$Vestry", "readBox", "(LLentBoxes$Tape;)Z"⟩ : MethodName) ∈ Tw := tp_1 (i := 2) (q := ((⟨"LentBoxes$Vestry", "readBox", "(LLentBoxes$Tape;)Z"⟩ : MethodName), 19)) rfl
set_option maxRecDepth 100000 in
theorem wd_p3 : Cond.selects "LentBoxes$Vestry" (⟨"LentBoxes$Vestry", "takeNewName", "(LLentBoxes$Tape;)Z"⟩ : MethodName) (⟨"LentBoxes$Vestry", "takeNewName", "(LLentBoxes$Tape;)Z"⟩ : MethodName) ∈ Tw := tp_1 (i := 3) (q := ((⟨"LentBoxes$Vestry", "takeNewName", "(LLentBoxes$Tape;)Z"⟩ : MethodName), 19)) rfl
set_option maxRecDepth 100000 in
theorem wd_p4 : Cond.selects "LentBoxes$Vestry" (⟨"LentBoxes$Vestry", "readPlot", "(LLentBoxes$Tape;)Z"⟩ : MethodName) (⟨"LentBoxes$Vestry", "readPlot", "(LLentBoxes$Tape;)Z"⟩ : MethodName) ∈ Tw := tp_1 (i := 4) (q := ((⟨"LentBoxes$Vestry", "readPlot", "(LLentBoxes$Tape;)Z"⟩ : MethodName), 19)) rfl
set_option maxRecDepth 100000 in
theorem wd_p5 : Cond.selects "LentBoxes$Vestry" (⟨"LentBoxes$Vestry", "readOne", "(LLentBoxes$Tape;)Z"⟩ : MethodName) (⟨"LentBoxes$Vestry", "readOne", "(LLentBoxes$Tape;)Z"⟩ : MethodName) ∈ Tw := tp_1 (i := 5) (q := ((⟨"LentBoxes$Vestry", "readOne", "(LLentBoxes$Tape;)Z"⟩ : MethodName), 19)) rfl
set_option maxRecDepth 100000 in
theorem wd_p6 : Cond.selects "LentBoxes$Vestry" (⟨"LentBoxes$Vestry", "readKin", "(LLentBoxes$Tape;)Z"⟩ : MethodName) (⟨"LentBoxes$Vestry", "readKin", "(LLentBoxes$Tape;)Z"⟩ : MethodName) ∈ Tw := tp_1 (i := 6) (q := ((⟨"LentBoxes$Vestry", "readKin", "(LLentBoxes$Tape;)Z"⟩ : MethodName), 19)) rfl
set_option maxRecDepth 100000 in
theorem wd_p7 : Cond.selects "LentBoxes$Vestry" (⟨"LentBoxes$Vestry", "readAsks", "(LLentBoxes$Tape;)Z"⟩ : MethodName) (⟨"LentBoxes$Vestry", "readAsks", "(LLentBoxes$Tape;)Z"⟩ : MethodName) ∈ Tw := tp_1 (i := 7) (q := ((⟨"LentBoxes$Vestry", "readAsks", "(LLentBoxes$Tape;)Z"⟩ : MethodName), 19)) rfl
set_option maxRecDepth 100000 in
theorem wd_p8 : Cond.selects "LentBoxes$Vestry" (⟨"LentBoxes$Vestry", "readFrost", "(LLentBoxes$Tape;)Z"⟩ : MethodName) (⟨"LentBoxes$Vestry", "readFrost", "(LLentBoxes$Tape;)Z"⟩ : MethodName) ∈ Tw := tp_1 (i := 8) (q := ((⟨"LentBoxes$Vestry", "readFrost", "(LLentBoxes$Tape;)Z"⟩ : MethodName), 19)) rfl
set_option maxRecDepth 100000 in
theorem wd_p9 : Cond.selects "LentBoxes$Vestry" (⟨"LentBoxes$Vestry", "readAir", "(LLentBoxes$Tape;)Z"⟩ : MethodName) (⟨"LentBoxes$Vestry", "readAir", "(LLentBoxes$Tape;)Z"⟩ : MethodName) ∈ Tw := tp_1 (i := 9) (q := ((⟨"LentBoxes$Vestry", "readAir", "(LLentBoxes$Tape;)Z"⟩ : MethodName), 19)) rfl
set_option maxRecDepth 100000 in
theorem wd_p10 : Cond.selects "LentBoxes" (⟨"LentBoxes", "isBox", "(I)Z"⟩ : MethodName) (⟨"LentBoxes", "isBox", "(I)Z"⟩ : MethodName) ∈ Tw := tp_1 (i := 10) (q := ((⟨"LentBoxes", "isBox", "(I)Z"⟩ : MethodName), 19)) rfl
set_option maxRecDepth 100000 in
theorem wd_p11 : Cond.selects "LentBoxes" (⟨"LentBoxes", "isPlot", "(I)Z"⟩ : MethodName) (⟨"LentBoxes", "isPlot", "(I)Z"⟩ : MethodName) ∈ Tw := tp_1 (i := 11) (q := ((⟨"LentBoxes", "isPlot", "(I)Z"⟩ : MethodName), 19)) rfl
set_option maxRecDepth 100000 in
theorem wd_p12 : Cond.selects "LentBoxes" (⟨"LentBoxes", "isDead", "(I)Z"⟩ : MethodName) (⟨"LentBoxes", "isDead", "(I)Z"⟩ : MethodName) ∈ Tw := tp_1 (i := 12) (q := ((⟨"LentBoxes", "isDead", "(I)Z"⟩ : MethodName), 19)) rfl
set_option maxRecDepth 100000 in
theorem wd_p13 : Cond.selects "LentBoxes" (⟨"LentBoxes", "done", "(I)I"⟩ : MethodName) (⟨"LentBoxes", "done", "(I)I"⟩ : MethodName) ∈ Tw := tp_1 (i := 13) (q := ((⟨"LentBoxes", "done", "(I)I"⟩ : MethodName), 19)) rfl
set_option maxRecDepth 100000 in
theorem wd_p14 : Cond.selects "LentBoxes" (⟨"LentBoxes", "wentBy", "(I)I"⟩ : MethodName) (⟨"LentBoxes", "wentBy", "(I)I"⟩ : MethodName) ∈ Tw := tp_1 (i := 14) (q := ((⟨"LentBoxes", "wentBy", "(I)I"⟩ : MethodName), 19)) rfl
set_option maxRecDepth 100000 in
theorem wd_p15 : Cond.selects "LentBoxes$Matching" (⟨"LentBoxes$Matching", "mostFrom", "(II)I"⟩ : MethodName) (⟨"LentBoxes$Matching", "mostFrom", "(II)I"⟩ : MethodName) ∈ Tw := tp_1 (i := 15) (q := ((⟨"LentBoxes$Matching", "mostFrom", "(II)I"⟩ : MethodName), 4)) rfl
set_option maxRecDepth 100000 in
theorem wd_p16 : Cond.selects "LentBoxes$Matching" (⟨"LentBoxes$Matching", "finds", "(II)Z"⟩ : MethodName) (⟨"LentBoxes$Matching", "finds", "(II)Z"⟩ : MethodName) ∈ Tw := tp_2 (i := 0) (q := ((⟨"LentBoxes$Matching", "finds", "(II)Z"⟩ : MethodName), 4)) rfl
set_option maxRecDepth 100000 in
theorem wd_p17 : Cond.selects "LentBoxes$Matching" (⟨"LentBoxes$Matching", "chooseFirst", "(I)V"⟩ : MethodName) (⟨"LentBoxes$Matching", "chooseFirst", "(I)V"⟩ : MethodName) ∈ Tw := tp_2 (i := 1) (q := ((⟨"LentBoxes$Matching", "chooseFirst", "(I)V"⟩ : MethodName), 4)) rfl
set_option maxRecDepth 100000 in
theorem wd_p18 : Cond.selects "LentBoxes" (⟨"LentBoxes", "plotBehind", "(II)I"⟩ : MethodName) (⟨"LentBoxes", "plotBehind", "(II)I"⟩ : MethodName) ∈ Tw := tp_2 (i := 2) (q := ((⟨"LentBoxes", "plotBehind", "(II)I"⟩ : MethodName), 19)) rfl
set_option maxRecDepth 100000 in
theorem wd_p19 : Cond.selects "LentBoxes" (⟨"LentBoxes", "outOn", "(II)I"⟩ : MethodName) (⟨"LentBoxes", "outOn", "(II)I"⟩ : MethodName) ∈ Tw := tp_2 (i := 3) (q := ((⟨"LentBoxes", "outOn", "(II)I"⟩ : MethodName), 19)) rfl
set_option maxRecDepth 100000 in
theorem wd_p20 : Cond.selects "LentBoxes" (⟨"LentBoxes", "ringFrom", "(IZ)I"⟩ : MethodName) (⟨"LentBoxes", "ringFrom", "(IZ)I"⟩ : MethodName) ∈ Tw := tp_2 (i := 4) (q := ((⟨"LentBoxes", "ringFrom", "(IZ)I"⟩ : MethodName), 19)) rfl
set_option maxRecDepth 100000 in
theorem wd_p21 : Cond.selects "LentBoxes" (⟨"LentBoxes", "thoseWith", "(II)I"⟩ : MethodName) (⟨"LentBoxes", "thoseWith", "(II)I"⟩ : MethodName) ∈ Tw := tp_2 (i := 5) (q := ((⟨"LentBoxes", "thoseWith", "(II)I"⟩ : MethodName), 19)) rfl
set_option maxRecDepth 100000 in
theorem wd_p22 : Cond.selects "LentBoxes" (⟨"LentBoxes", "numberOf", "(II)I"⟩ : MethodName) (⟨"LentBoxes", "numberOf", "(II)I"⟩ : MethodName) ∈ Tw := tp_2 (i := 6) (q := ((⟨"LentBoxes", "numberOf", "(II)I"⟩ : MethodName), 19)) rfl
set_option maxRecDepth 100000 in
theorem wd_p23 : Cond.selects "LentBoxes" (⟨"LentBoxes", "bestToAsk", "(I)I"⟩ : MethodName) (⟨"LentBoxes", "bestToAsk", "(I)I"⟩ : MethodName) ∈ Tw := tp_2 (i := 7) (q := ((⟨"LentBoxes", "bestToAsk", "(I)I"⟩ : MethodName), 19)) rfl
set_option maxRecDepth 100000 in
theorem wd_p24 : Cond.selects "LentBoxes" (⟨"LentBoxes", "greatestAlike", "(II)I"⟩ : MethodName) (⟨"LentBoxes", "greatestAlike", "(II)I"⟩ : MethodName) ∈ Tw := tp_2 (i := 8) (q := ((⟨"LentBoxes", "greatestAlike", "(II)I"⟩ : MethodName), 19)) rfl
set_option maxRecDepth 100000 in
theorem wd_p25 : Cond.selects "LentBoxes" (⟨"LentBoxes", "tagName", "(J)V"⟩ : MethodName) (⟨"LentBoxes", "tagName", "(J)V"⟩ : MethodName) ∈ Tw := tp_2 (i := 9) (q := ((⟨"LentBoxes", "tagName", "(J)V"⟩ : MethodName), 19)) rfl
set_option maxRecDepth 100000 in
theorem wd_p26 : Cond.selects "LentBoxes" (⟨"LentBoxes", "tagByte", "(I)V"⟩ : MethodName) (⟨"LentBoxes", "tagByte", "(I)V"⟩ : MethodName) ∈ Tw := tp_2 (i := 10) (q := ((⟨"LentBoxes", "tagByte", "(I)V"⟩ : MethodName), 19)) rfl
set_option maxRecDepth 100000 in
theorem wd_p27 : Cond.selects "LentBoxes" (⟨"LentBoxes", "tagText", "(Ljava/lang/String;)V"⟩ : MethodName) (⟨"LentBoxes", "tagText", "(Ljava/lang/String;)V"⟩ : MethodName) ∈ Tw := tp_2 (i := 11) (q := ((⟨"LentBoxes", "tagText", "(Ljava/lang/String;)V"⟩ : MethodName), 19)) rfl
set_option maxRecDepth 100000 in
theorem wd_p28 : Cond.selects "LentBoxes$Draws" (⟨"LentBoxes$Draws", "actOnce", "(LLentBoxes$Vestry;LLentBoxes$State;)V"⟩ : MethodName) (⟨"LentBoxes$Draws", "actOnce", "(LLentBoxes$Vestry;LLentBoxes$State;)V"⟩ : MethodName) ∈ Tw := tp_2 (i := 12) (q := ((⟨"LentBoxes$Draws", "actOnce", "(LLentBoxes$Vestry;LLentBoxes$State;)V"⟩ : MethodName), 1)) rfl
set_option maxRecDepth 100000 in
theorem wd_p29 : Cond.selects "LentBoxes$Draws" (⟨"LentBoxes$Draws", "draw", "(I)I"⟩ : MethodName) (⟨"LentBoxes$Draws", "draw", "(I)I"⟩ : MethodName) ∈ Tw := tp_2 (i := 13) (q := ((⟨"LentBoxes$Draws", "draw", "(I)I"⟩ : MethodName), 1)) rfl
set_option maxRecDepth 100000 in
theorem wd_p30 : Cond.selects "LentBoxes$Book" (⟨"LentBoxes$Book", "readLine", "(LLentBoxes$Tape;LLentBoxes$Vestry;)Z"⟩ : MethodName) (⟨"LentBoxes$Book", "readLine", "(LLentBoxes$Tape;LLentBoxes$Vestry;)Z"⟩ : MethodName) ∈ Tw := tp_2 (i := 14) (q := ((⟨"LentBoxes$Book", "readLine", "(LLentBoxes$Tape;LLentBoxes$Vestry;)Z"⟩ : MethodName), 4)) rfl
set_option maxRecDepth 100000 in
theorem wd_p31 : Cond.selects "LentBoxes$Book" (⟨"LentBoxes$Book", "readOther", "(LLentBoxes$Tape;LLentBoxes$Vestry;)Z"⟩ : MethodName) (⟨"LentBoxes$Book", "readOther", "(LLentBoxes$Tape;LLentBoxes$Vestry;)Z"⟩ : MethodName) ∈ Tw := tp_2 (i := 15) (q := ((⟨"LentBoxes$Book", "readOther", "(LLentBoxes$Tape;LLentBoxes$Vestry;)Z"⟩ : MethodName), 4)) rfl
set_option maxRecDepth 100000 in
theorem wd_p32 : Cond.selects "LentBoxes" (⟨"LentBoxes", "judge", "()I"⟩ : MethodName) (⟨"LentBoxes", "judge", "()I"⟩ : MethodName) ∈ Tw := tp_3 (i := 0) (q := ((⟨"LentBoxes", "judge", "()I"⟩ : MethodName), 19)) rfl
set_option maxRecDepth 100000 in
theorem wd_p33 : Cond.selects "LentBoxes$Book" (⟨"LentBoxes$Book", "liveAct", "(ILLentBoxes$Vestry;LLentBoxes$State;)I"⟩ : MethodName) (⟨"LentBoxes$Book", "liveAct", "(ILLentBoxes$Vestry;LLentBoxes$State;)I"⟩ : MethodName) ∈ Tw := tp_3 (i := 1) (q := ((⟨"LentBoxes$Book", "liveAct", "(ILLentBoxes$Vestry;LLentBoxes$State;)I"⟩ : MethodName), 4)) rfl
set_option maxRecDepth 100000 in
theorem wd_p34 : Cond.selects "LentBoxes$Sentence" (⟨"LentBoxes$Sentence", "readEach", "(LLentBoxes$Tape;LLentBoxes$Vestry;I)Z"⟩ : MethodName) (⟨"LentBoxes$Sentence", "readEach", "(LLentBoxes$Tape;LLentBoxes$Vestry;I)Z"⟩ : MethodName) ∈ Tw := tp_3 (i := 2) (q := ((⟨"LentBoxes$Sentence", "readEach", "(LLentBoxes$Tape;LLentBoxes$Vestry;I)Z"⟩ : MethodName), 6)) rfl
set_option maxRecDepth 100000 in
theorem wd_p35 : Cond.selects "LentBoxes$Sentence" (⟨"LentBoxes$Sentence", "readOne", "(LLentBoxes$Tape;LLentBoxes$Vestry;I)Z"⟩ : MethodName) (⟨"LentBoxes$Sentence", "readOne", "(LLentBoxes$Tape;LLentBoxes$Vestry;I)Z"⟩ : MethodName) ∈ Tw := tp_3 (i := 3) (q := ((⟨"LentBoxes$Sentence", "readOne", "(LLentBoxes$Tape;LLentBoxes$Vestry;I)Z"⟩ : MethodName), 6)) rfl
set_option maxRecDepth 100000 in
theorem wd_p36 : Cond.selects "LentBoxes$Sentence" (⟨"LentBoxes$Sentence", "put", "(III)Z"⟩ : MethodName) (⟨"LentBoxes$Sentence", "put", "(III)Z"⟩ : MethodName) ∈ Tw := tp_3 (i := 4) (q := ((⟨"LentBoxes$Sentence", "put", "(III)Z"⟩ : MethodName), 6)) rfl
set_option maxRecDepth 100000 in
theorem wd_p37 : Cond.selects "LentBoxes$Sentence" (⟨"LentBoxes$Sentence", "readPlain", "(LLentBoxes$Word;LLentBoxes$Tape;LLentBoxes$Vestry;)Z"⟩ : MethodName) (⟨"LentBoxes$Sentence", "readPlain", "(LLentBoxes$Word;LLentBoxes$Tape;LLentBoxes$Vestry;)Z"⟩ : MethodName) ∈ Tw := tp_3 (i := 5) (q := ((⟨"LentBoxes$Sentence", "readPlain", "(LLentBoxes$Word;LLentBoxes$Tape;LLentBoxes$Vestry;)Z"⟩ : MethodName), 6)) rfl
set_option maxRecDepth 100000 in
theorem wd_p38 : Cond.selects "LentBoxes$Sentence" (⟨"LentBoxes$Sentence", "thoseBy", "(ILLentBoxes$Vestry;LLentBoxes$State;)I"⟩ : MethodName) (⟨"LentBoxes$Sentence", "thoseBy", "(ILLentBoxes$Vestry;LLentBoxes$State;)I"⟩ : MethodName) ∈ Tw := tp_3 (i := 6) (q := ((⟨"LentBoxes$Sentence", "thoseBy", "(ILLentBoxes$Vestry;LLentBoxes$State;)I"⟩ : MethodName), 6)) rfl
set_option maxRecDepth 100000 in
theorem wd_p39 : Cond.selects "LentBoxes$Sentence" (⟨"LentBoxes$Sentence", "isSo", "(IILLentBoxes$Vestry;LLentBoxes$State;)Z"⟩ : MethodName) (⟨"LentBoxes$Sentence", "isSo", "(IILLentBoxes$Vestry;LLentBoxes$State;)Z"⟩ : MethodName) ∈ Tw := tp_3 (i := 7) (q := ((⟨"LentBoxes$Sentence", "isSo", "(IILLentBoxes$Vestry;LLentBoxes$State;)Z"⟩ : MethodName), 6)) rfl
set_option maxRecDepth 100000 in
theorem wd_p40 : Cond.selects "LentBoxes$Sentence" (⟨"LentBoxes$Sentence", "compares", "(II)Z"⟩ : MethodName) (⟨"LentBoxes$Sentence", "compares", "(II)Z"⟩ : MethodName) ∈ Tw := tp_3 (i := 8) (q := ((⟨"LentBoxes$Sentence", "compares", "(II)Z"⟩ : MethodName), 6)) rfl
set_option maxRecDepth 100000 in
theorem wd_p42 : Cond.selects "LentBoxesModel" (⟨"LentBoxesModel", "come", "(I)V"⟩ : MethodName) (⟨"LentBoxesModel", "come", "(I)V"⟩ : MethodName) ∈ Tw := tp_3 (i := 10) (q := ((⟨"LentBoxesModel", "come", "(I)V"⟩ : MethodName), 46)) rfl
set_option maxRecDepth 100000 in
theorem wd_p43 : Cond.selects "LentBoxesModel" (⟨"LentBoxesModel", "startSo", "()V"⟩ : MethodName) (⟨"LentBoxesModel", "startSo", "()V"⟩ : MethodName) ∈ Tw := tp_3 (i := 11) (q := ((⟨"LentBoxesModel", "startSo", "()V"⟩ : MethodName), 46)) rfl
set_option maxRecDepth 100000 in
theorem wd_p44 : Cond.selects "LentBoxesModel" (⟨"LentBoxesModel", "come", "()V"⟩ : MethodName) (⟨"LentBoxesModel", "come", "()V"⟩ : MethodName) ∈ Tw := tp_3 (i := 12) (q := ((⟨"LentBoxesModel", "come", "()V"⟩ : MethodName), 46)) rfl
set_option maxRecDepth 100000 in
theorem wd_p45 : Cond.selects "LentBoxesModel" (⟨"LentBoxesModel", "begin", "(I)V"⟩ : MethodName) (⟨"LentBoxesModel", "begin", "(I)V"⟩ : MethodName) ∈ Tw := tp_3 (i := 13) (q := ((⟨"LentBoxesModel", "begin", "(I)V"⟩ : MethodName), 46)) rfl
set_option maxRecDepth 100000 in
theorem wd_p46 : Cond.selects "LentBoxesModel" (⟨"LentBoxesModel", "take", "()I"⟩ : MethodName) (⟨"LentBoxesModel", "take", "()I"⟩ : MethodName) ∈ Tw := tp_3 (i := 14) (q := ((⟨"LentBoxesModel", "take", "()I"⟩ : MethodName), 46)) rfl
set_option maxRecDepth 100000 in
theorem wd_p47 : Cond.selects "LentBoxesModel" (⟨"LentBoxesModel", "go", "()V"⟩ : MethodName) (⟨"LentBoxesModel", "go", "()V"⟩ : MethodName) ∈ Tw := tp_3 (i := 15) (q := ((⟨"LentBoxesModel", "go", "()V"⟩ : MethodName), 46)) rfl
set_option maxRecDepth 100000 in
theorem wd_p48 : Cond.selects "LentBoxesModel" (⟨"LentBoxesModel", "tapeAt", "(I)I"⟩ : MethodName) (⟨"LentBoxesModel", "tapeAt", "(I)I"⟩ : MethodName) ∈ Tw := tp_4 (i := 0) (q := ((⟨"LentBoxesModel", "tapeAt", "(I)I"⟩ : MethodName), 46)) rfl
set_option maxRecDepth 100000 in
theorem wd_p49 : Cond.selects "LentBoxesModel" (⟨"LentBoxesModel", "readLine", "()Z"⟩ : MethodName) (⟨"LentBoxesModel", "readLine", "()Z"⟩ : MethodName) ∈ Tw := tp_4 (i := 1) (q := ((⟨"LentBoxesModel", "readLine", "()Z"⟩ : MethodName), 46)) rfl
set_option maxRecDepth 100000 in
theorem wd_p50 : Cond.selects "LentBoxesModel" (⟨"LentBoxesModel", "isWord", "(I)Z"⟩ : MethodName) (⟨"LentBoxesModel", "isWord", "(I)Z"⟩ : MethodName) ∈ Tw := tp_4 (i := 2) (q := ((⟨"LentBoxesModel", "isWord", "(I)Z"⟩ : MethodName), 46)) rfl
set_option maxRecDepth 100000 in
theorem wd_p51 : Cond.selects "LentBoxesModel" (⟨"LentBoxesModel", "readBox", "()Z"⟩ : MethodName) (⟨"LentBoxesModel", "readBox", "()Z"⟩ : MethodName) ∈ Tw := tp_4 (i := 3) (q := ((⟨"LentBoxesModel", "readBox", "()Z"⟩ : MethodName), 46)) rfl
set_option maxRecDepth 100000 in
theorem wd_p52 : Cond.selects "LentBoxesModel" (⟨"LentBoxesModel", "readFirst", "(II)Z"⟩ : MethodName) (⟨"LentBoxesModel", "readFirst", "(II)Z"⟩ : MethodName) ∈ Tw := tp_4 (i := 4) (q := ((⟨"LentBoxesModel", "readFirst", "(II)Z"⟩ : MethodName), 46)) rfl
set_option maxRecDepth 100000 in
theorem wd_p53 : Cond.selects "LentBoxesModel" (⟨"LentBoxesModel", "bad", "(I)Z"⟩ : MethodName) (⟨"LentBoxesModel", "bad", "(I)Z"⟩ : MethodName) ∈ Tw := tp_4 (i := 5) (q := ((⟨"LentBoxesModel", "bad", "(I)Z"⟩ : MethodName), 46)) rfl
set_option maxRecDepth 100000 in
theorem wd_p54 : Cond.selects "LentBoxesModel" (⟨"LentBoxesModel", "readNew", "(I)Z"⟩ : MethodName) (⟨"LentBoxesModel", "readNew", "(I)Z"⟩ : MethodName) ∈ Tw := tp_4 (i := 6) (q := ((⟨"LentBoxesModel", "readNew", "(I)Z"⟩ : MethodName), 46)) rfl
set_option maxRecDepth 100000 in
theorem wd_p55 : Cond.selects "LentBoxesModel" (⟨"LentBoxesModel", "isName", "()Z"⟩ : MethodName) (⟨"LentBoxesModel", "isName", "()Z"⟩ : MethodName) ∈ Tw := tp_4 (i := 7) (q := ((⟨"LentBoxesModel", "isName", "()Z"⟩ : MethodName), 46)) rfl
set_option maxRecDepth 100000 in
theorem wd_p56 : Cond.selects "LentBoxesModel" (⟨"LentBoxesModel", "readNumber", "(II)Z"⟩ : MethodName) (⟨"LentBoxesModel", "readNumber", "(II)Z"⟩ : MethodName) ∈ Tw := tp_4 (i := 8) (q := ((⟨"LentBoxesModel", "readNumber", "(II)Z"⟩ : MethodName), 46)) rfl
set_option maxRecDepth 100000 in
theorem wd_p57 : Cond.selects "LentBoxesModel" (⟨"LentBoxesModel", "noted", "(IZ)Z"⟩ : MethodName) (⟨"LentBoxesModel", "noted", "(IZ)Z"⟩ : MethodName) ∈ Tw := tp_4 (i := 9) (q := ((⟨"LentBoxesModel", "noted", "(IZ)Z"⟩ : MethodName), 46)) rfl
set_option maxRecDepth 100000 in
theorem wd_p58 : Cond.selects "LentBoxesModel" (⟨"LentBoxesModel", "readPlot", "()Z"⟩ : MethodName) (⟨"LentBoxesModel", "readPlot", "()Z"⟩ : MethodName) ∈ Tw := tp_4 (i := 10) (q := ((⟨"LentBoxesModel", "readPlot", "()Z"⟩ : MethodName), 46)) rfl
set_option maxRecDepth 100000 in
theorem wd_p59 : Cond.selects "LentBoxesModel" (⟨"LentBoxesModel", "readDead", "()Z"⟩ : MethodName) (⟨"LentBoxesModel", "readDead", "()Z"⟩ : MethodName) ∈ Tw := tp_4 (i := 11) (q := ((⟨"LentBoxesModel", "readDead", "()Z"⟩ : MethodName), 46)) rfl
set_option maxRecDepth 100000 in
theorem wd_p60 : Cond.selects "LentBoxesModel" (⟨"LentBoxesModel", "readKin", "()Z"⟩ : MethodName) (⟨"LentBoxesModel", "readKin", "()Z"⟩ : MethodName) ∈ Tw := tp_4 (i := 12) (q := ((⟨"LentBoxesModel", "readKin", "()Z"⟩ : MethodName), 46)) rfl
set_option maxRecDepth 100000 in
theorem wd_p61 : Cond.selects "LentBoxesModel" (⟨"LentBoxesModel", "isHere", "(II)Z"⟩ : MethodName) (⟨"LentBoxesModel", "isHere", "(II)Z"⟩ : MethodName) ∈ Tw := tp_4 (i := 13) (q := ((⟨"LentBoxesModel", "isHere", "(II)Z"⟩ : MethodName), 46)) rfl
set_option maxRecDepth 100000 in
theorem wd_p62 : Cond.selects "LentBoxesModel" (⟨"LentBoxesModel", "readAsks", "()Z"⟩ : MethodName) (⟨"LentBoxesModel", "readAsks", "()Z"⟩ : MethodName) ∈ Tw := tp_4 (i := 14) (q := ((⟨"LentBoxesModel", "readAsks", "()Z"⟩ : MethodName), 46)) rfl
set_option maxRecDepth 100000 in
theorem wd_p63 : Cond.selects "LentBoxesModel" (⟨"LentBoxesModel", "readFrost", "()Z"⟩ : MethodName) (⟨"LentBoxesModel", "readFrost", "()Z"⟩ : MethodName) ∈ Tw := tp_4 (i := 15) (q := ((⟨"LentBoxesModel", "readFrost", "()Z"⟩ : MethodName), 46)) rfl
set_option maxRecDepth 100000 in
theorem wd_p64 : Cond.selects "LentBoxesModel" (⟨"LentBoxesModel", "readAir", "()Z"⟩ : MethodName) (⟨"LentBoxesModel", "readAir", "()Z"⟩ : MethodName) ∈ Tw := tp_5 (i := 0) (q := ((⟨"LentBoxesModel", "readAir", "()Z"⟩ : MethodName), 46)) rfl
set_option maxRecDepth 100000 in
theorem wd_p65 : Cond.selects "LentBoxesModel" (⟨"LentBoxesModel", "readEnd", "()Z"⟩ : MethodName) (⟨"LentBoxesModel", "readEnd", "()Z"⟩ : MethodName) ∈ Tw := tp_5 (i := 1) (q := ((⟨"LentBoxesModel", "readEnd", "()Z"⟩ : MethodName), 46)) rfl
set_option maxRecDepth 100000 in
theorem wd_p66 : Cond.selects "LentBoxesModel" (⟨"LentBoxesModel", "isSign", "(I)Z"⟩ : MethodName) (⟨"LentBoxesModel", "isSign", "(I)Z"⟩ : MethodName) ∈ Tw := tp_5 (i := 2) (q := ((⟨"LentBoxesModel", "isSign", "(I)Z"⟩ : MethodName), 46)) rfl
set_option maxRecDepth 100000 in
theorem wd_p67 : Cond.selects "LentBoxesModel" (⟨"LentBoxesModel", "isBox", "(I)Z"⟩ : MethodName) (⟨"LentBoxesModel", "isBox", "(I)Z"⟩ : MethodName) ∈ Tw := tp_5 (i := 3) (q := ((⟨"LentBoxesModel", "isBox", "(I)Z"⟩ : MethodName), 46)) rfl
set_option maxRecDepth 100000 in
theorem wd_p68 : Cond.selects "LentBoxesModel" (⟨"LentBoxesModel", "isFree", "(I)Z"⟩ : MethodName) (⟨"LentBoxesModel", "isFree", "(I)Z"⟩ : MethodName) ∈ Tw := tp_5 (i := 4) (q := ((⟨"LentBoxesModel", "isFree", "(I)Z"⟩ : MethodName), 46)) rfl
set_option maxRecDepth 100000 in
theorem wd_p69 : Cond.selects "LentBoxesModel" (⟨"LentBoxesModel", "isPlot", "(I)Z"⟩ : MethodName) (⟨"LentBoxesModel", "isPlot", "(I)Z"⟩ : MethodName) ∈ Tw := tp_5 (i := 5) (q := ((⟨"LentBoxesModel", "isPlot", "(I)Z"⟩ : MethodName), 46)) rfl
set_option maxRecDepth 100000 in
theorem wd_p70 : Cond.selects "LentBoxesModel" (⟨"LentBoxesModel", "isDead", "(I)Z"⟩ : MethodName) (⟨"LentBoxesModel", "isDead", "(I)Z"⟩ : MethodName) ∈ Tw := tp_5 (i := 6) (q := ((⟨"LentBoxesModel", "isDead", "(I)Z"⟩ : MethodName), 46)) rfl
set_option maxRecDepth 100000 in
theorem wd_p71 : Cond.selects "LentBoxesModel" (⟨"LentBoxesModel", "refuse", "()I"⟩ : MethodName) (⟨"LentBoxesModel", "refuse", "()I"⟩ : MethodName) ∈ Tw := tp_5 (i := 7) (q := ((⟨"LentBoxesModel", "refuse", "()I"⟩ : MethodName), 46)) rfl
set_option maxRecDepth 100000 in
theorem wd_p72 : Cond.selects "LentBoxesModel" (⟨"LentBoxesModel", "those", "(I)I"⟩ : MethodName) (⟨"LentBoxesModel", "those", "(I)I"⟩ : MethodName) ∈ Tw := tp_5 (i := 8) (q := ((⟨"LentBoxesModel", "those", "(I)I"⟩ : MethodName), 46)) rfl
set_option maxRecDepth 100000 in
theorem wd_p73 : Cond.selects "LentBoxesModel" (⟨"LentBoxesModel", "isFrost", "(I)Z"⟩ : MethodName) (⟨"LentBoxesModel", "isFrost", "(I)Z"⟩ : MethodName) ∈ Tw := tp_5 (i := 9) (q := ((⟨"LentBoxesModel", "isFrost", "(I)Z"⟩ : MethodName), 46)) rfl
set_option maxRecDepth 100000 in
theorem wd_p74 : Cond.selects "LentBoxesModel" (⟨"LentBoxesModel", "act", "(IIIZ)I"⟩ : MethodName) (⟨"LentBoxesModel", "act", "(IIIZ)I"⟩ : MethodName) ∈ Tw := tp_5 (i := 10) (q := ((⟨"LentBoxesModel", "act", "(IIIZ)I"⟩ : MethodName), 46)) rfl
set_option maxRecDepth 100000 in
theorem wd_p75 : Cond.selects "LentBoxesModel" (⟨"LentBoxesModel", "why", "(III)I"⟩ : MethodName) (⟨"LentBoxesModel", "why", "(III)I"⟩ : MethodName) ∈ Tw := tp_5 (i := 11) (q := ((⟨"LentBoxesModel", "why", "(III)I"⟩ : MethodName), 46)) rfl
set_option maxRecDepth 100000 in
theorem wd_p76 : Cond.selects "LentBoxesModel" (⟨"LentBoxesModel", "whyLend", "(II)I"⟩ : MethodName) (⟨"LentBoxesModel", "whyLend", "(II)I"⟩ : MethodName) ∈ Tw := tp_5 (i := 12) (q := ((⟨"LentBoxesModel", "whyLend", "(II)I"⟩ : MethodName), 46)) rfl
set_option maxRecDepth 100000 in
theorem wd_p77 : Cond.selects "LentBoxesModel" (⟨"LentBoxesModel", "fits", "(II)Z"⟩ : MethodName) (⟨"LentBoxesModel", "fits", "(II)Z"⟩ : MethodName) ∈ Tw := tp_5 (i := 13) (q := ((⟨"LentBoxesModel", "fits", "(II)Z"⟩ : MethodName), 46)) rfl
set_option maxRecDepth 100000 in
theorem wd_p78 : Cond.selects "LentBoxesModel" (⟨"LentBoxesModel", "whyLay", "(II)I"⟩ : MethodName) (⟨"LentBoxesModel", "whyLay", "(II)I"⟩ : MethodName) ∈ Tw := tp_5 (i := 14) (q := ((⟨"LentBoxesModel", "whyLay", "(II)I"⟩ : MethodName), 46)) rfl
set_option maxRecDepth 100000 in
theorem wd_p79 : Cond.selects "LentBoxesModel" (⟨"LentBoxesModel", "isByKin", "(II)Z"⟩ : MethodName) (⟨"LentBoxesModel", "isByKin", "(II)Z"⟩ : MethodName) ∈ Tw := tp_5 (i := 15) (q := ((⟨"LentBoxesModel", "isByKin", "(II)Z"⟩ : MethodName), 46)) rfl
set_option maxRecDepth 100000 in
theorem wd_p80 : Cond.selects "LentBoxesModel" (⟨"LentBoxesModel", "whySwap", "(II)I"⟩ : MethodName) (⟨"LentBoxesModel", "whySwap", "(II)I"⟩ : MethodName) ∈ Tw := tp_6 (i := 0) (q := ((⟨"LentBoxesModel", "whySwap", "(II)I"⟩ : MethodName), 46)) rfl
set_option maxRecDepth 100000 in
theorem wd_p81 : Cond.selects "LentBoxesModel" (⟨"LentBoxesModel", "snap", "()V"⟩ : MethodName) (⟨"LentBoxesModel", "snap", "()V"⟩ : MethodName) ∈ Tw := tp_6 (i := 1) (q := ((⟨"LentBoxesModel", "snap", "()V"⟩ : MethodName), 46)) rfl
set_option maxRecDepth 100000 in
theorem wd_p82 : Cond.selects "LentBoxesModel" (⟨"LentBoxesModel", "save", "([II)V"⟩ : MethodName) (⟨"LentBoxesModel", "save", "([II)V"⟩ : MethodName) ∈ Tw := tp_6 (i := 2) (q := ((⟨"LentBoxesModel", "save", "([II)V"⟩ : MethodName), 46)) rfl
set_option maxRecDepth 100000 in
theorem wd_p83 : Cond.selects "LentBoxesModel" (⟨"LentBoxesModel", "live", "(III)V"⟩ : MethodName) (⟨"LentBoxesModel", "live", "(III)V"⟩ : MethodName) ∈ Tw := tp_6 (i := 3) (q := ((⟨"LentBoxesModel", "live", "(III)V"⟩ : MethodName), 46)) rfl
set_option maxRecDepth 100000 in
theorem wd_p84 : Cond.selects "LentBoxesModel" (⟨"LentBoxesModel", "lends", "(II)V"⟩ : MethodName) (⟨"LentBoxesModel", "lends", "(II)V"⟩ : MethodName) ∈ Tw := tp_6 (i := 4) (q := ((⟨"LentBoxesModel", "lends", "(II)V"⟩ : MethodName), 46)) rfl
set_option maxRecDepth 100000 in
theorem wd_p85 : Cond.selects "LentBoxesModel" (⟨"LentBoxesModel", "lies", "(II)V"⟩ : MethodName) (⟨"LentBoxesModel", "lies", "(II)V"⟩ : MethodName) ∈ Tw := tp_6 (i := 5) (q := ((⟨"LentBoxesModel", "lies", "(II)V"⟩ : MethodName), 46)) rfl
set_option maxRecDepth 100000 in
theorem wd_p86 : Cond.selects "LentBoxesModel" (⟨"LentBoxesModel", "lays", "(II)V"⟩ : MethodName) (⟨"LentBoxesModel", "lays", "(II)V"⟩ : MethodName) ∈ Tw := tp_6 (i := 6) (q := ((⟨"LentBoxesModel", "lays", "(II)V"⟩ : MethodName), 46)) rfl
set_option maxRecDepth 100000 in
theorem wd_p87 : Cond.selects "LentBoxesModel" (⟨"LentBoxesModel", "comeBack", "([II)V"⟩ : MethodName) (⟨"LentBoxesModel", "comeBack", "([II)V"⟩ : MethodName) ∈ Tw := tp_6 (i := 7) (q := ((⟨"LentBoxesModel", "comeBack", "([II)V"⟩ : MethodName), 46)) rfl
set_option maxRecDepth 100000 in
theorem wd_p88 : Cond.selects "LentBoxesModel" (⟨"LentBoxesModel", "passDays", "(I)I"⟩ : MethodName) (⟨"LentBoxesModel", "passDays", "(I)I"⟩ : MethodName) ∈ Tw := tp_6 (i := 8) (q := ((⟨"LentBoxesModel", "passDays", "(I)I"⟩ : MethodName), 46)) rfl
set_option maxRecDepth 100000 in
theorem wd_p89 : Cond.selects "LentBoxesModel" (⟨"LentBoxesModel", "oneDay", "()V"⟩ : MethodName) (⟨"LentBoxesModel", "oneDay", "()V"⟩ : MethodName) ∈ Tw := tp_6 (i := 9) (q := ((⟨"LentBoxesModel", "oneDay", "()V"⟩ : MethodName), 46)) rfl
set_option maxRecDepth 100000 in
theorem wd_p90 : Cond.selects "LentBoxesModel" (⟨"LentBoxesModel", "mostOf", "(II)I"⟩ : MethodName) (⟨"LentBoxesModel", "mostOf", "(II)I"⟩ : MethodName) ∈ Tw := tp_6 (i := 10) (q := ((⟨"LentBoxesModel", "mostOf", "(II)I"⟩ : MethodName), 46)) rfl
set_option maxRecDepth 100000 in
theorem wd_p91 : Cond.selects "LentBoxesModel" (⟨"LentBoxesModel", "canLend", "(II)Z"⟩ : MethodName) (⟨"LentBoxesModel", "canLend", "(II)Z"⟩ : MethodName) ∈ Tw := tp_6 (i := 11) (q := ((⟨"LentBoxesModel", "canLend", "(II)Z"⟩ : MethodName), 46)) rfl
set_option maxRecDepth 100000 in
theorem wd_p92 : Cond.selects "LentBoxesModel" (⟨"LentBoxesModel", "boxFor", "(II)I"⟩ : MethodName) (⟨"LentBoxesModel", "boxFor", "(II)I"⟩ : MethodName) ∈ Tw := tp_6 (i := 12) (q := ((⟨"LentBoxesModel", "boxFor", "(II)I"⟩ : MethodName), 46)) rfl
set_option maxRecDepth 100000 in
theorem wd_p93 : Cond.selects "LentBoxesModel" (⟨"LentBoxesModel", "plotIn", "(II)I"⟩ : MethodName) (⟨"LentBoxesModel", "plotIn", "(II)I"⟩ : MethodName) ∈ Tw := tp_6 (i := 13) (q := ((⟨"LentBoxesModel", "plotIn", "(II)I"⟩ : MethodName), 46)) rfl
set_option maxRecDepth 100000 in
theorem wd_p94 : Cond.selects "LentBoxesModel" (⟨"LentBoxesModel", "isOut", "(III)Z"⟩ : MethodName) (⟨"LentBoxesModel", "isOut", "(III)Z"⟩ : MethodName) ∈ Tw := tp_6 (i := 14) (q := ((⟨"LentBoxesModel", "isOut", "(III)Z"⟩ : MethodName), 46)) rfl
set_option maxRecDepth 100000 in
theorem wd_p95 : Cond.selects "LentBoxesModel" (⟨"LentBoxesModel", "nextIn", "(I)I"⟩ : MethodName) (⟨"LentBoxesModel", "nextIn", "(I)I"⟩ : MethodName) ∈ Tw := tp_6 (i := 15) (q := ((⟨"LentBoxesModel", "nextIn", "(I)I"⟩ : MethodName), 46)) rfl
set_option maxRecDepth 100000 in
theorem wd_p96 : Cond.selects "LentBoxesModel" (⟨"LentBoxesModel", "isTold", "(II)Z"⟩ : MethodName) (⟨"LentBoxesModel", "isTold", "(II)Z"⟩ : MethodName) ∈ Tw := tp_7 (i := 0) (q := ((⟨"LentBoxesModel", "isTold", "(II)Z"⟩ : MethodName), 46)) rfl
set_option maxRecDepth 100000 in
theorem wd_p97 : Cond.selects "LentBoxesModel" (⟨"LentBoxesModel", "partOf", "(II)I"⟩ : MethodName) (⟨"LentBoxesModel", "partOf", "(II)I"⟩ : MethodName) ∈ Tw := tp_7 (i := 1) (q := ((⟨"LentBoxesModel", "partOf", "(II)I"⟩ : MethodName), 46)) rfl
set_option maxRecDepth 100000 in
theorem wd_p98 : Cond.selects "LentBoxesModel" (⟨"LentBoxesModel", "leftBy", "(II)I"⟩ : MethodName) (⟨"LentBoxesModel", "leftBy", "(II)I"⟩ : MethodName) ∈ Tw := tp_7 (i := 2) (q := ((⟨"LentBoxesModel", "leftBy", "(II)I"⟩ : MethodName), 46)) rfl
set_option maxRecDepth 100000 in
theorem wd_p99 : Cond.selects "LentBoxesModel" (⟨"LentBoxesModel", "fraction", "(III)I"⟩ : MethodName) (⟨"LentBoxesModel", "fraction", "(III)I"⟩ : MethodName) ∈ Tw := tp_7 (i := 3) (q := ((⟨"LentBoxesModel", "fraction", "(III)I"⟩ : MethodName), 46)) rfl
set_option maxRecDepth 100000 in
theorem wd_p100 : Cond.selects "LentBoxesModel" (⟨"LentBoxesModel", "writeWord", "(J)V"⟩ : MethodName) (⟨"LentBoxesModel", "writeWord", "(J)V"⟩ : MethodName) ∈ Tw := tp_7 (i := 4) (q := ((⟨"LentBoxesModel", "writeWord", "(J)V"⟩ : MethodName), 46)) rfl
set_option maxRecDepth 100000 in
theorem wd_p101 : Cond.selects "LentBoxesModel" (⟨"LentBoxesModel", "write", "(I)V"⟩ : MethodName) (⟨"LentBoxesModel", "write", "(I)V"⟩ : MethodName) ∈ Tw := tp_7 (i := 5) (q := ((⟨"LentBoxesModel", "write", "(I)V"⟩ : MethodName), 46)) rfl
set_option maxRecDepth 100000 in
theorem wd_p102 : Cond.selects "LentBoxesModel" (⟨"LentBoxesModel", "writeNext", "(J)V"⟩ : MethodName) (⟨"LentBoxesModel", "writeNext", "(J)V"⟩ : MethodName) ∈ Tw := tp_7 (i := 6) (q := ((⟨"LentBoxesModel", "writeNext", "(J)V"⟩ : MethodName), 46)) rfl
set_option maxRecDepth 100000 in
theorem wd_p103 : Cond.selects "LentBoxesModel" (⟨"LentBoxesModel", "drawDays", "(II)I"⟩ : MethodName) (⟨"LentBoxesModel", "drawDays", "(II)I"⟩ : MethodName) ∈ Tw := tp_7 (i := 7) (q := ((⟨"LentBoxesModel", "drawDays", "(II)I"⟩ : MethodName), 46)) rfl
set_option maxRecDepth 100000 in
theorem wd_p104 : Cond.selects "LentBoxesModel" (⟨"LentBoxesModel", "drawsFirst", "()V"⟩ : MethodName) (⟨"LentBoxesModel", "drawsFirst", "()V"⟩ : MethodName) ∈ Tw := tp_7 (i := 8) (q := ((⟨"LentBoxesModel", "drawsFirst", "()V"⟩ : MethodName), 46)) rfl
set_option maxRecDepth 100000 in
theorem wd_p105 : Cond.selects "LentBoxesModel" (⟨"LentBoxesModel", "draw", "(I)I"⟩ : MethodName) (⟨"LentBoxesModel", "draw", "(I)I"⟩ : MethodName) ∈ Tw := tp_7 (i := 9) (q := ((⟨"LentBoxesModel", "draw", "(I)I"⟩ : MethodName), 46)) rfl
set_option maxRecDepth 100000 in
theorem wd_p106 : Cond.selects "LentBoxesModel" (⟨"LentBoxesModel", "drawsTwo", "(II)V"⟩ : MethodName) (⟨"LentBoxesModel", "drawsTwo", "(II)V"⟩ : MethodName) ∈ Tw := tp_7 (i := 10) (q := ((⟨"LentBoxesModel", "drawsTwo", "(II)V"⟩ : MethodName), 46)) rfl
set_option maxRecDepth 100000 in
theorem wd_p107 : Cond.selects "LentBoxesModel" (⟨"LentBoxesModel", "doIf", "(III)V"⟩ : MethodName) (⟨"LentBoxesModel", "doIf", "(III)V"⟩ : MethodName) ∈ Tw := tp_7 (i := 11) (q := ((⟨"LentBoxesModel", "doIf", "(III)V"⟩ : MethodName), 46)) rfl
set_option maxRecDepth 100000 in
theorem wd_p108 : Cond.selects "LentBoxesModel" (⟨"LentBoxesModel", "readBookLine", "()Z"⟩ : MethodName) (⟨"LentBoxesModel", "readBookLine", "()Z"⟩ : MethodName) ∈ Tw := tp_7 (i := 12) (q := ((⟨"LentBoxesModel", "readBookLine", "()Z"⟩ : MethodName), 46)) rfl
set_option maxRecDepth 100000 in
theorem wd_p109 : Cond.selects "LentBoxesModel" (⟨"LentBoxesModel", "readDeadName", "()Z"⟩ : MethodName) (⟨"LentBoxesModel", "readDeadName", "()Z"⟩ : MethodName) ∈ Tw := tp_7 (i := 13) (q := ((⟨"LentBoxesModel", "readDeadName", "()Z"⟩ : MethodName), 46)) rfl
set_option maxRecDepth 100000 in
theorem wd_p110 : Cond.selects "LentBoxesModel" (⟨"LentBoxesModel", "readNamed", "(II)Z"⟩ : MethodName) (⟨"LentBoxesModel", "readNamed", "(II)Z"⟩ : MethodName) ∈ Tw := tp_7 (i := 14) (q := ((⟨"LentBoxesModel", "readNamed", "(II)Z"⟩ : MethodName), 46)) rfl
set_option maxRecDepth 100000 in
theorem wd_p111 : Cond.selects "LentBoxesModel" (⟨"LentBoxesModel", "keep", "(IZ)Z"⟩ : MethodName) (⟨"LentBoxesModel", "keep", "(IZ)Z"⟩ : MethodName) ∈ Tw := tp_7 (i := 15) (q := ((⟨"LentBoxesModel", "keep", "(IZ)Z"⟩ : MethodName), 46)) rfl
set_option maxRecDepth 100000 in
theorem wd_p112 : Cond.selects "LentBoxesModel" (⟨"LentBoxesModel", "readBoxName", "()Z"⟩ : MethodName) (⟨"LentBoxesModel", "readBoxName", "()Z"⟩ : MethodName) ∈ Tw := tp_8 (i := 0) (q := ((⟨"LentBoxesModel", "readBoxName", "()Z"⟩ : MethodName), 46)) rfl
set_option maxRecDepth 100000 in
theorem wd_p113 : Cond.selects "LentBoxesModel" (⟨"LentBoxesModel", "readOther", "(I)Z"⟩ : MethodName) (⟨"LentBoxesModel", "readOther", "(I)Z"⟩ : MethodName) ∈ Tw := tp_8 (i := 1) (q := ((⟨"LentBoxesModel", "readOther", "(I)Z"⟩ : MethodName), 46)) rfl
set_option maxRecDepth 100000 in
theorem wd_p114 : Cond.selects "LentBoxesModel" (⟨"LentBoxesModel", "goBy", "(I)I"⟩ : MethodName) (⟨"LentBoxesModel", "goBy", "(I)I"⟩ : MethodName) ∈ Tw := tp_8 (i := 2) (q := ((⟨"LentBoxesModel", "goBy", "(I)I"⟩ : MethodName), 46)) rfl
set_option maxRecDepth 100000 in
theorem wd_p115 : Cond.selects "LentBoxesModel" (⟨"LentBoxesModel", "stay", "(Z)V"⟩ : MethodName) (⟨"LentBoxesModel", "stay", "(Z)V"⟩ : MethodName) ∈ Tw := tp_8 (i := 3) (q := ((⟨"LentBoxesModel", "stay", "(Z)V"⟩ : MethodName), 46)) rfl
set_option maxRecDepth 100000 in
theorem wd_p116 : Cond.selects "LentBoxesModel" (⟨"LentBoxesModel", "readOr", "()Z"⟩ : MethodName) (⟨"LentBoxesModel", "readOr", "()Z"⟩ : MethodName) ∈ Tw := tp_8 (i := 4) (q := ((⟨"LentBoxesModel", "readOr", "()Z"⟩ : MethodName), 46)) rfl
set_option maxRecDepth 100000 in
theorem wd_p117 : Cond.selects "LentBoxesModel" (⟨"LentBoxesModel", "readAnd", "()Z"⟩ : MethodName) (⟨"LentBoxesModel", "readAnd", "()Z"⟩ : MethodName) ∈ Tw := tp_8 (i := 5) (q := ((⟨"LentBoxesModel", "readAnd", "()Z"⟩ : MethodName), 46)) rfl
set_option maxRecDepth 100000 in
theorem wd_p118 : Cond.selects "LentBoxesModel" (⟨"LentBoxesModel", "readSaid", "()Z"⟩ : MethodName) (⟨"LentBoxesModel", "readSaid", "()Z"⟩ : MethodName) ∈ Tw := tp_8 (i := 6) (q := ((⟨"LentBoxesModel", "readSaid", "()Z"⟩ : MethodName), 46)) rfl
set_option maxRecDepth 100000 in
theorem wd_p119 : Cond.selects "LentBoxesModel" (⟨"LentBoxesModel", "readBracket", "()Z"⟩ : MethodName) (⟨"LentBoxesModel", "readBracket", "()Z"⟩ : MethodName) ∈ Tw := tp_8 (i := 7) (q := ((⟨"LentBoxesModel", "readBracket", "()Z"⟩ : MethodName), 46)) rfl
set_option maxRecDepth 100000 in
theorem wd_p120 : Cond.selects "LentBoxesModel" (⟨"LentBoxesModel", "readNot", "()Z"⟩ : MethodName) (⟨"LentBoxesModel", "readNot", "()Z"⟩ : MethodName) ∈ Tw := tp_8 (i := 8) (q := ((⟨"LentBoxesModel", "readNot", "()Z"⟩ : MethodName), 46)) rfl
set_option maxRecDepth 100000 in
theorem wd_p121 : Cond.selects "LentBoxesModel" (⟨"LentBoxesModel", "saysOne", "(IIII)I"⟩ : MethodName) (⟨"LentBoxesModel", "saysOne", "(IIII)I"⟩ : MethodName) ∈ Tw := tp_8 (i := 9) (q := ((⟨"LentBoxesModel", "saysOne", "(IIII)I"⟩ : MethodName), 46)) rfl
set_option maxRecDepth 100000 in
theorem wd_p122 : Cond.selects "LentBoxesModel" (⟨"LentBoxesModel", "readOf", "(I)Z"⟩ : MethodName) (⟨"LentBoxesModel", "readOf", "(I)Z"⟩ : MethodName) ∈ Tw := tp_8 (i := 10) (q := ((⟨"LentBoxesModel", "readOf", "(I)Z"⟩ : MethodName), 46)) rfl
set_option maxRecDepth 100000 in
theorem wd_p123 : Cond.selects "LentBoxesModel" (⟨"LentBoxesModel", "readThat", "(I)Z"⟩ : MethodName) (⟨"LentBoxesModel", "readThat", "(I)Z"⟩ : MethodName) ∈ Tw := tp_8 (i := 11) (q := ((⟨"LentBoxesModel", "readThat", "(I)Z"⟩ : MethodName), 46)) rfl
set_option maxRecDepth 100000 in
theorem wd_p124 : Cond.selects "LentBoxesModel" (⟨"LentBoxesModel", "readCompare", "(I)Z"⟩ : MethodName) (⟨"LentBoxesModel", "readCompare", "(I)Z"⟩ : MethodName) ∈ Tw := tp_8 (i := 12) (q := ((⟨"LentBoxesModel", "readCompare", "(I)Z"⟩ : MethodName), 46)) rfl
set_option maxRecDepth 100000 in
theorem wd_p125 : Cond.selects "LentBoxesModel" (⟨"LentBoxesModel", "holds", "(II)Z"⟩ : MethodName) (⟨"LentBoxesModel", "holds", "(II)Z"⟩ : MethodName) ∈ Tw := tp_8 (i := 13) (q := ((⟨"LentBoxesModel", "holds", "(II)Z"⟩ : MethodName), 46)) rfl
set_option maxRecDepth 100000 in
theorem wd_t0 : (Jvm.Cond.initialized "LentBoxesLaw") ∈ Tw := tm_1 (i := 0) rfl rfl
set_option maxRecDepth 100000 in
theorem wd_t1 : (Jvm.Cond.initialized "LentBoxes") ∈ Tw := tm_1 (i := 1) rfl rfl
set_option maxRecDepth 100000 in
theorem wd_t2 : (Jvm.Cond.initialized "LentBoxes$Tape") ∈ Tw := tm_1 (i := 2) rfl rfl
set_option maxRecDepth 100000 in
theorem wd_t3 : (Jvm.Cond.initialized "LentBoxes$World") ∈ Tw := tm_1 (i := 3) rfl rfl
set_option maxRecDepth 100000 in
theorem wd_t4 : (Jvm.Cond.initialized "LentBoxes$Vestry") ∈ Tw := tm_1 (i := 4) rfl rfl
set_option maxRecDepth 100000 in
theorem wd_t5 : (Jvm.Cond.initialized "LentBoxes$State") ∈ Tw := tm_1 (i := 5) rfl rfl
set_option maxRecDepth 100000 in
theorem wd_t6 : (Jvm.Cond.initialized "LentBoxes$Sentence") ∈ Tw := tm_1 (i := 6) rfl rfl
set_option maxRecDepth 100000 in
theorem wd_t7 : (Jvm.Cond.initialized "java/util/Arrays") ∈ Tw := tm_1 (i := 7) rfl rfl
set_option maxRecDepth 100000 in
theorem wd_t8 : (Jvm.Cond.initialized "LentBoxes$Past") ∈ Tw := tm_1 (i := 8) rfl rfl
set_option maxRecDepth 100000 in
theorem wd_t9 : (Jvm.Cond.initialized "LentBoxes$Book") ∈ Tw := tm_1 (i := 9) rfl rfl
set_option maxRecDepth 100000 in
theorem wd_t10 : (Jvm.Cond.initialized "LentBoxes$Matching") ∈ Tw := tm_1 (i := 10) rfl rfl
set_option maxRecDepth 100000 in
theorem wd_t11 : (Jvm.Cond.initialized "LentBoxes$Draws") ∈ Tw := tm_1 (i := 11) rfl rfl
set_option maxRecDepth 100000 in
theorem wd_t12 : (Jvm.Cond.initialized "LentBoxesModel") ∈ Tw := tm_1 (i := 12) rfl rfl
set_option maxRecDepth 100000 in
theorem wd_t13 : (Jvm.Cond.initialized "java/lang/Math") ∈ Tw := tm_1 (i := 13) rfl rfl
set_option maxRecDepth 100000 in
theorem wd_t14 : (Jvm.Cond.initialized "java/lang/Enum") ∈ Tw := tm_1 (i := 14) rfl rfl
set_option maxRecDepth 100000 in
theorem wd_t15 : (Jvm.Cond.initialized "LentBoxes$Word") ∈ Tw := tm_1 (i := 15) rfl rfl
set_option maxRecDepth 100000 in
theorem wd_t16 : (Jvm.Cond.initialized "LentBoxes$1") ∈ Tw := tm_1 (i := 16) rfl rfl
set_option maxRecDepth 100000 in
theorem wd_t17 : (Jvm.Cond.initialized "java/lang/System") ∈ Tw := tm_1 (i := 17) rfl rfl
set_option maxRecDepth 100000 in
theorem wd_t18 : (Jvm.Cond.initialized "java/lang/Throwable") ∈ Tw := tm_1 (i := 18) rfl rfl
set_option maxRecDepth 100000 in
theorem wd_t21 : (Jvm.Cond.initialized "java/util/NoSuchElementException") ∈ Tw := tm_1 (i := 21) rfl rfl
set_option maxRecDepth 100000 in
theorem wd_t22 : (Jvm.Cond.initialized "java/lang/Integer") ∈ Tw := tm_1 (i := 22) rfl rfl
set_option maxRecDepth 100000 in
theorem wd_t23 : (Jvm.Cond.initialized "java/lang/String") ∈ Tw := tm_1 (i := 23) rfl rfl
set_option maxRecDepth 100000 in
theorem wd_t24 : (Jvm.Cond.initialized "java/lang/StringLatin1") ∈ Tw := tm_1 (i := 24) rfl rfl
set_option maxRecDepth 100000 in
theorem wd_t25 : (Jvm.Cond.initialized "jdk/internal/util/Preconditions") ∈ Tw := tm_1 (i := 25) rfl rfl
set_option maxRecDepth 100000 in
theorem wd_t27 : (Jvm.Cond.classLink "LentBoxesLaw" (8 : Nat) "LentBoxes") ∈ Tw := tm_1 (i := 27) rfl rfl
set_option maxRecDepth 100000 in
theorem wd_t28 : (Jvm.Cond.instantiable "LentBoxes" (19 : Nat)) ∈ Tw := tm_1 (i := 28) rfl rfl
set_option maxRecDepth 100000 in
theorem wd_t29 : (Jvm.Cond.methodLink "LentBoxesLaw" (22 : Nat) ({ cls := "LentBoxes", name := "<init>", desc := "()V" } : Jvm.MethodName)) ∈ Tw := tm_1 (i := 29) rfl rfl
set_option maxRecDepth 100000 in
theorem wd_t30 : (Jvm.Cond.instanceMethod ({ cls := "LentBoxes", name := "<init>", desc := "()V" } : Jvm.MethodName)) ∈ Tw := tm_1 (i := 30) rfl rfl
set_option maxRecDepth 100000 in
theorem wd_t31 : (Jvm.Cond.code ({ cls := "LentBoxes", name := "<init>", desc := "()V" } : Jvm.MethodName) prog_1_method_1_code (2 : Nat) (Option.none : Option Jvm.ClassFile.FieldType)) ∈ Tw := tm_1 (i := 31) rfl rfl
set_option maxRecDepth 100000 in
theorem wd_t32 : (Jvm.Cond.methodLink "LentBoxes" (1 : Nat) ({ cls := "java/lang/Object", name := "<init>", desc := "()V" } : Jvm.MethodName)) ∈ Tw := tm_1 (i := 32) rfl rfl
set_option maxRecDepth 100000 in
theorem wd_t33 : (Jvm.Cond.instanceMethod ({ cls := "java/lang/Object", name := "<init>", desc := "()V" } : Jvm.MethodName)) ∈ Tw := tm_1 (i := 33) rfl rfl
set_option maxRecDepth 100000 in
theorem wd_t34 : (Jvm.Cond.code ({ cls := "java/lang/Object", name := "<init>", desc := "()V" } : Jvm.MethodName) object_method_1_code (1 : Nat) (Option.none : Option Jvm.ClassFile.FieldType)) ∈ Tw := tm_1 (i := 34) rfl rfl
set_option maxRecDepth 100000 in
theorem wd_t35 : (Jvm.Cond.classLink "LentBoxes" (7 : Nat) "LentBoxes$Tape") ∈ Tw := tm_1 (i := 35) rfl rfl
set_option maxRecDepth 100000 in
theorem wd_t36 : (Jvm.Cond.instantiable "LentBoxes$Tape" (12 : Nat)) ∈ Tw := tm_1 (i := 36) rfl rfl
set_option maxRecDepth 100000 in
theorem wd_t38 : (Jvm.Cond.instanceMethod ({ cls := "LentBoxes$Tape", name := "<init>", desc := "()V" } : Jvm.MethodName)) ∈ Tw := tm_1 (i := 38) rfl rfl
set_option maxRecDepth 100000 in
theorem wd_t39 : (Jvm.Cond.code ({ cls := "LentBoxes$Tape", name := "<init>", desc := "()V" } : Jvm.MethodName) prog_9_method_1_code (1 : Nat) (Option.none : Option Jvm.ClassFile.FieldType)) ∈ Tw := tm_1 (i := 39) rfl rfl
set_option maxRecDepth 100000 in
theorem wd_t40 : (Jvm.Cond.methodLink "LentBoxes$Tape" (3 : Nat) ({ cls := "java/lang/Object", name := "<init>", desc := "()V" } : Jvm.MethodName)) ∈ Tw := tm_1 (i := 40) rfl rfl
set_option maxRecDepth 100000 in
theorem wd_t41 : (Jvm.Cond.fieldLink "LentBoxes$Tape" (9 : Nat) "LentBoxes$Tape" "bytes" "[B") ∈ Tw := tm_1 (i := 41) rfl rfl
set_option maxRecDepth 100000 in
theorem wd_t42 : (Jvm.Cond.fieldLink "LentBoxes" (94 : Nat) "LentBoxes$Tape" "length" "I") ∈ Tw := tm_1 (i := 42) rfl rfl
set_option maxRecDepth 100000 in
theorem wd_t43 : (Jvm.Cond.fieldLink "LentBoxes$Tape" (15 : Nat) "LentBoxes$Tape" "length" "I") ∈ Tw := tm_1 (i := 43) rfl rfl
set_option maxRecDepth 100000 in
theorem wd_t44 : (Jvm.Cond.fieldLink "LentBoxes$Book" (25 : Nat) "LentBoxes$Tape" "kind" "I") ∈ Tw := tm_1 (i := 44) rfl rfl
set_option maxRecDepth 100000 in
theorem wd_t45 : (Jvm.Cond.fieldLink "LentBoxes$Tape" (50 : Nat) "LentBoxes$Tape" "kind" "I") ∈ Tw := tm_1 (i := 45) rfl rfl
set_option maxRecDepth 100000 in
theorem wd_t46 : (Jvm.Cond.fieldLink "LentBoxes$Sentence" (69 : Nat) "LentBoxes$Tape" "kind" "I") ∈ Tw := tm_1 (i := 46) rfl rfl
set_option maxRecDepth 100000 in
theorem wd_t47 : (Jvm.Cond.fieldLink "LentBoxes$Vestry" (84 : Nat) "LentBoxes$Tape" "kind" "I") ∈ Tw := tm_1 (i := 47) rfl rfl
set_option maxRecDepth 100000 in
theorem wd_t48 : (Jvm.Cond.fieldLink "LentBoxes" (374 : Nat) "LentBoxes$Tape" "kind" "I") ∈ Tw := tm_1 (i := 48) rfl rfl
set_option maxRecDepth 100000 in
theorem wd_t49 : (Jvm.Cond.fieldLink "LentBoxes$Book" (69 : Nat) "LentBoxes$Tape" "word" "LLentBoxes$Word;") ∈ Tw := tm_1 (i := 49) rfl rfl
set_option maxRecDepth 100000 in
theorem wd_t50 : (Jvm.Cond.fieldLink "LentBoxes$Tape" (46 : Nat) "LentBoxes$Tape" "word" "LLentBoxes$Word;") ∈ Tw := tm_1 (i := 50) rfl rfl
set_option maxRecDepth 100000 in
theorem wd_t51 : (Jvm.Cond.fieldLink "LentBoxes$Sentence" (66 : Nat) "LentBoxes$Tape" "word" "LLentBoxes$Word;") ∈ Tw := tm_1 (i := 51) rfl rfl
set_option maxRecDepth 100000 in
theorem wd_t52 : (Jvm.Cond.fieldLink "LentBoxes$Vestry" (97 : Nat) "LentBoxes$Tape" "word" "LLentBoxes$Word;") ∈ Tw := tm_1 (i := 52) rfl rfl
set_option maxRecDepth 100000 in
theorem wd_t53 : (Jvm.Cond.fieldLink "LentBoxes$Tape" (53 : Nat) "LentBoxes$Tape" "name" "J") ∈ Tw := tm_1 (i := 53) rfl rfl
set_option maxRecDepth 100000 in
theorem wd_t54 : (Jvm.Cond.fieldLink "LentBoxes$Vestry" (139 : Nat) "LentBoxes$Tape" "name" "J") ∈ Tw := tm_1 (i := 54) rfl rfl
set_option maxRecDepth 100000 in
theorem wd_t55 : (Jvm.Cond.fieldLink "LentBoxes$Tape" (57 : Nat) "LentBoxes$Tape" "number" "I") ∈ Tw := tm_1 (i := 55) rfl rfl
set_option maxRecDepth 100000 in
theorem wd_t56 : (Jvm.Cond.fieldLink "LentBoxes$Tape" (28 : Nat) "LentBoxes$Tape" "fault" "I") ∈ Tw := tm_1 (i := 56) rfl rfl
set_option maxRecDepth 100000 in
theorem wd_t57 : (Jvm.Cond.fieldLink "LentBoxes" (108 : Nat) "LentBoxes$Tape" "fault" "I") ∈ Tw := tm_1 (i := 57) rfl rfl
set_option maxRecDepth 100000 in
theorem wd_t58 : (Jvm.Cond.fieldLink "LentBoxes$Tape" (31 : Nat) "LentBoxes$Tape" "place" "I") ∈ Tw := tm_1 (i := 58) rfl rfl
set_option maxRecDepth 100000 in
theorem wd_t59 : (Jvm.Cond.fieldLink "LentBoxes" (114 : Nat) "LentBoxes$Tape" "place" "I") ∈ Tw := tm_1 (i := 59) rfl rfl
set_option maxRecDepth 100000 in
theorem wd_t60 : (Jvm.Cond.fieldLink "LentBoxes$Tape" (19 : Nat) "LentBoxes$Tape" "textEnd" "I") ∈ Tw := tm_1 (i := 60) rfl rfl
set_option maxRecDepth 100000 in
theorem wd_t61 : (Jvm.Cond.fieldLink "LentBoxes$Tape" (22 : Nat) "LentBoxes$Tape" "most" "I") ∈ Tw := tm_1 (i := 61) rfl rfl
set_option maxRecDepth 100000 in
theorem wd_t62 : (Jvm.Cond.fieldLink "LentBoxes$Tape" (43 : Nat) "LentBoxes$Tape" "at" "I") ∈ Tw := tm_1 (i := 62) rfl rfl
set_option maxRecDepth 100000 in
theorem wd_t63 : (Jvm.Cond.fieldLink "LentBoxes$Tape" (25 : Nat) "LentBoxes$Tape" "after" "I") ∈ Tw := tm_1 (i := 63) rfl rfl
set_option maxRecDepth 100000 in
theorem wd_t64 : (Jvm.Cond.laysFinal "LentBoxes$Tape" "LentBoxes$Tape" "bytes" "[B") ∈ Tw := tm_1 (i := 64) rfl rfl
set_option maxRecDepth 100000 in
theorem wd_t66 : (Jvm.Cond.lays "LentBoxes$Tape" "LentBoxes$Tape" "length" "I") ∈ Tw := tm_1 (i := 66) rfl rfl
set_option maxRecDepth 100000 in
theorem wd_t68 : (Jvm.Cond.lays "LentBoxes$Tape" "LentBoxes$Tape" "kind" "I") ∈ Tw := tm_1 (i := 68) rfl rfl
set_option maxRecDepth 100000 in
theorem wd_t70 : (Jvm.Cond.lays "LentBoxes$Tape" "LentBoxes$Tape" "word" "LLentBoxes$Word;") ∈ Tw := tm_1 (i := 70) rfl rfl
set_option maxRecDepth 100000 in
theorem wd_t72 : (Jvm.Cond.lays "LentBoxes$Tape" "LentBoxes$Tape" "name" "J") ∈ Tw := tm_1 (i := 72) rfl rfl
set_option maxRecDepth 100000 in
theorem wd_t74 : (Jvm.Cond.lays "LentBoxes$Tape" "LentBoxes$Tape" "number" "I") ∈ Tw := tm_1 (i := 74) rfl rfl
set_option maxRecDepth 100000 in
theorem wd_t76 : (Jvm.Cond.lays "LentBoxes$Tape" "LentBoxes$Tape" "fault" "I") ∈ Tw := tm_1 (i := 76) rfl rfl
set_option maxRecDepth 100000 in
theorem wd_t78 : (Jvm.Cond.lays "LentBoxes$Tape" "LentBoxes$Tape" "place" "I") ∈ Tw := tm_1 (i := 78) rfl rfl
set_option maxRecDepth 100000 in
theorem wd_t80 : (Jvm.Cond.lays "LentBoxes$Tape" "LentBoxes$Tape" "textEnd" "I") ∈ Tw := tm_1 (i := 80) rfl rfl
set_option maxRecDepth 100000 in
theorem wd_t82 : (Jvm.Cond.lays "LentBoxes$Tape" "LentBoxes$Tape" "most" "I") ∈ Tw := tm_1 (i := 82) rfl rfl
set_option maxRecDepth 100000 in
theorem wd_t84 : (Jvm.Cond.lays "LentBoxes$Tape" "LentBoxes$Tape" "at" "I") ∈ Tw := tm_1 (i := 84) rfl rfl
set_option maxRecDepth 100000 in
theorem wd_t86 : (Jvm.Cond.lays "LentBoxes$Tape" "LentBoxes$Tape" "after" "I") ∈ Tw := tm_1 (i := 86) rfl rfl
set_option maxRecDepth 100000 in
theorem wd_t89 : (Jvm.Cond.arrayClass Jvm.ClassFile.FieldType.byte) ∈ Tw := tm_1 (i := 89) rfl rfl
set_option maxRecDepth 100000 in
theorem wd_t90 : (Jvm.Cond.classLink "LentBoxes" (16 : Nat) "LentBoxes$World") ∈ Tw := tm_1 (i := 90) rfl rfl
set_option maxRecDepth 100000 in
theorem wd_t91 : (Jvm.Cond.instantiable "LentBoxes$World" (4 : Nat)) ∈ Tw := tm_1 (i := 91) rfl rfl
set_option maxRecDepth 100000 in
theorem wd_t92 : (Jvm.Cond.methodLink "LentBoxes" (18 : Nat) ({ cls := "LentBoxes$World", name := "<init>", desc := "()V" } : Jvm.MethodName)) ∈ Tw := tm_1 (i := 92) rfl rfl
set_option maxRecDepth 100000 in
theorem wd_t93 : (Jvm.Cond.instanceMethod ({ cls := "LentBoxes$World", name := "<init>", desc := "()V" } : Jvm.MethodName)) ∈ Tw := tm_1 (i := 93) rfl rfl
set_option maxRecDepth 100000 in
theorem wd_t94 : (Jvm.Cond.code ({ cls := "LentBoxes$World", name := "<init>", desc := "()V" } : Jvm.MethodName) prog_12_method_1_code (1 : Nat) (Option.none : Option Jvm.ClassFile.FieldType)) ∈ Tw := tm_1 (i := 94) rfl rfl
set_option maxRecDepth 100000 in
theorem wd_t95 : (Jvm.Cond.methodLink "LentBoxes$World" (1 : Nat) ({ cls := "java/lang/Object", name := "<init>", desc := "()V" } : Jvm.MethodName)) ∈ Tw := tm_1 (i := 95) rfl rfl
set_option maxRecDepth 100000 in
theorem wd_t96 : (Jvm.Cond.classLink "LentBoxes$World" (7 : Nat) "LentBoxes$Vestry") ∈ Tw := tm_1 (i := 96) rfl rfl
set_option maxRecDepth 100000 in
theorem wd_t97 : (Jvm.Cond.instantiable "LentBoxes$Vestry" (19 : Nat)) ∈ Tw := tm_1 (i := 97) rfl rfl
set_option maxRecDepth 100000 in
theorem wd_t99 : (Jvm.Cond.instanceMethod ({ cls := "LentBoxes$Vestry", name := "<init>", desc := "()V" } : Jvm.MethodName)) ∈ Tw := tm_1 (i := 99) rfl rfl
set_option maxRecDepth 100000 in
theorem wd_t100 : (Jvm.Cond.code ({ cls := "LentBoxes$Vestry", name := "<init>", desc := "()V" } : Jvm.MethodName) prog_10_method_1_code (1 : Nat) (Option.none : Option Jvm.ClassFile.FieldType)) ∈ Tw := tm_1 (i := 100) rfl rfl
set_option maxRecDepth 100000 in
theorem wd_t101 : (Jvm.Cond.methodLink "LentBoxes$Vestry" (3 : Nat) ({ cls := "java/lang/Object", name := "<init>", desc := "()V" } : Jvm.MethodName)) ∈ Tw := tm_1 (i := 101) rfl rfl
set_option maxRecDepth 100000 in
theorem wd_t102 : (Jvm.Cond.fieldLink "LentBoxes$Vestry" (53 : Nat) "LentBoxes$Vestry" "boxes" "I") ∈ Tw := tm_1 (i := 102) rfl rfl
set_option maxRecDepth 100000 in
theorem wd_t103 : (Jvm.Cond.fieldLink "LentBoxes$Matching" (33 : Nat) "LentBoxes$Vestry" "boxes" "I") ∈ Tw := tm_1 (i := 103) rfl rfl
set_option maxRecDepth 100000 in
theorem wd_t104 : (Jvm.Cond.fieldLink "LentBoxes$Draws" (38 : Nat) "LentBoxes$Vestry" "boxes" "I") ∈ Tw := tm_1 (i := 104) rfl rfl
set_option maxRecDepth 100000 in
theorem wd_t105 : (Jvm.Cond.fieldLink "LentBoxes$State" (82 : Nat) "LentBoxes$Vestry" "boxes" "I") ∈ Tw := tm_1 (i := 105) rfl rfl
set_option maxRecDepth 100000 in
theorem wd_t106 : (Jvm.Cond.fieldLink "LentBoxes" (400 : Nat) "LentBoxes$Vestry" "boxes" "I") ∈ Tw := tm_1 (i := 106) rfl rfl
set_option maxRecDepth 100000 in
theorem wd_t107 : (Jvm.Cond.fieldLink "LentBoxes$Vestry" (56 : Nat) "LentBoxes$Vestry" "plots" "I") ∈ Tw := tm_1 (i := 107) rfl rfl
set_option maxRecDepth 100000 in
theorem wd_t108 : (Jvm.Cond.fieldLink "LentBoxes$Draws" (45 : Nat) "LentBoxes$Vestry" "plots" "I") ∈ Tw := tm_1 (i := 108) rfl rfl
set_option maxRecDepth 100000 in
theorem wd_t109 : (Jvm.Cond.fieldLink "LentBoxes$State" (89 : Nat) "LentBoxes$Vestry" "plots" "I") ∈ Tw := tm_1 (i := 109) rfl rfl
set_option maxRecDepth 100000 in
theorem wd_t110 : (Jvm.Cond.fieldLink "LentBoxes" (403 : Nat) "LentBoxes$Vestry" "plots" "I") ∈ Tw := tm_1 (i := 110) rfl rfl
set_option maxRecDepth 100000 in
theorem wd_t111 : (Jvm.Cond.fieldLink "LentBoxes$Vestry" (59 : Nat) "LentBoxes$Vestry" "dead" "I") ∈ Tw := tm_1 (i := 111) rfl rfl
set_option maxRecDepth 100000 in
theorem wd_t112 : (Jvm.Cond.fieldLink "LentBoxes$Matching" (27 : Nat) "LentBoxes$Vestry" "dead" "I") ∈ Tw := tm_1 (i := 112) rfl rfl
set_option maxRecDepth 100000 in
theorem wd_t113 : (Jvm.Cond.fieldLink "LentBoxes$State" (68 : Nat) "LentBoxes$Vestry" "dead" "I") ∈ Tw := tm_1 (i := 113) rfl rfl
set_option maxRecDepth 100000 in
theorem wd_t114 : (Jvm.Cond.fieldLink "LentBoxes$Draws" (33 : Nat) "LentBoxes$Vestry" "dead" "I") ∈ Tw := tm_1 (i := 114) rfl rfl
set_option maxRecDepth 100000 in
theorem wd_t115 : (Jvm.Cond.fieldLink "LentBoxes$Sentence" (155 : Nat) "LentBoxes$Vestry" "dead" "I") ∈ Tw := tm_1 (i := 115) rfl rfl
set_option maxRecDepth 100000 in
theorem wd_t116 : (Jvm.Cond.fieldLink "LentBoxes" (273 : Nat) "LentBoxes$Vestry" "dead" "I") ∈ Tw := tm_1 (i := 116) rfl rfl
set_option maxRecDepth 100000 in
theorem wd_t117 : (Jvm.Cond.fieldLink "LentBoxes$Vestry" (62 : Nat) "LentBoxes$Vestry" "kins" "I") ∈ Tw := tm_1 (i := 117) rfl rfl
set_option maxRecDepth 100000 in
theorem wd_t118 : (Jvm.Cond.fieldLink "LentBoxes" (406 : Nat) "LentBoxes$Vestry" "kins" "I") ∈ Tw := tm_1 (i := 118) rfl rfl
set_option maxRecDepth 100000 in
theorem wd_t119 : (Jvm.Cond.fieldLink "LentBoxes$Vestry" (65 : Nat) "LentBoxes$Vestry" "frosts" "I") ∈ Tw := tm_1 (i := 119) rfl rfl
set_option maxRecDepth 100000 in
theorem wd_t120 : (Jvm.Cond.fieldLink "LentBoxes" (409 : Nat) "LentBoxes$Vestry" "frosts" "I") ∈ Tw := tm_1 (i := 120) rfl rfl
set_option maxRecDepth 100000 in
theorem wd_t121 : (Jvm.Cond.fieldLink "LentBoxes$Vestry" (9 : Nat) "LentBoxes$Vestry" "air" "I") ∈ Tw := tm_1 (i := 121) rfl rfl
set_option maxRecDepth 100000 in
theorem wd_t122 : (Jvm.Cond.fieldLink "LentBoxes$State" (118 : Nat) "LentBoxes$Vestry" "air" "I") ∈ Tw := tm_1 (i := 122) rfl rfl
set_option maxRecDepth 100000 in
theorem wd_t123 : (Jvm.Cond.fieldLink "LentBoxes" (279 : Nat) "LentBoxes$Vestry" "air" "I") ∈ Tw := tm_1 (i := 123) rfl rfl
set_option maxRecDepth 100000 in
theorem wd_t124 : (Jvm.Cond.fieldLink "LentBoxes$Vestry" (68 : Nat) "LentBoxes$Vestry" "airTold" "Z") ∈ Tw := tm_1 (i := 124) rfl rfl
set_option maxRecDepth 100000 in
theorem wd_t125 : (Jvm.Cond.fieldLink "LentBoxes$Vestry" (15 : Nat) "LentBoxes$Vestry" "boxName" "[J") ∈ Tw := tm_1 (i := 125) rfl rfl
set_option maxRecDepth 100000 in
theorem wd_t126 : (Jvm.Cond.fieldLink "LentBoxes" (342 : Nat) "LentBoxes$Vestry" "boxName" "[J") ∈ Tw := tm_1 (i := 126) rfl rfl
set_option maxRecDepth 100000 in
theorem wd_t127 : (Jvm.Cond.fieldLink "LentBoxes$Vestry" (19 : Nat) "LentBoxes$Vestry" "boxLong" "[I") ∈ Tw := tm_1 (i := 127) rfl rfl
set_option maxRecDepth 100000 in
theorem wd_t128 : (Jvm.Cond.fieldLink "LentBoxes" (143 : Nat) "LentBoxes$Vestry" "boxLong" "[I") ∈ Tw := tm_1 (i := 128) rfl rfl
set_option maxRecDepth 100000 in
theorem wd_t129 : (Jvm.Cond.fieldLink "LentBoxes$State" (98 : Nat) "LentBoxes$Vestry" "boxLong" "[I") ∈ Tw := tm_1 (i := 129) rfl rfl
set_option maxRecDepth 100000 in
theorem wd_t130 : (Jvm.Cond.fieldLink "LentBoxes$Vestry" (23 : Nat) "LentBoxes$Vestry" "boxLasts" "[I") ∈ Tw := tm_1 (i := 130) rfl rfl
set_option maxRecDepth 100000 in
theorem wd_t131 : (Jvm.Cond.fieldLink "LentBoxes" (146 : Nat) "LentBoxes$Vestry" "boxLasts" "[I") ∈ Tw := tm_1 (i := 131) rfl rfl
set_option maxRecDepth 100000 in
theorem wd_t132 : (Jvm.Cond.fieldLink "LentBoxes$State" (101 : Nat) "LentBoxes$Vestry" "boxLasts" "[I") ∈ Tw := tm_1 (i := 132) rfl rfl
set_option maxRecDepth 100000 in
theorem wd_t133 : (Jvm.Cond.fieldLink "LentBoxes$Vestry" (26 : Nat) "LentBoxes$Vestry" "plotName" "[J") ∈ Tw := tm_1 (i := 133) rfl rfl
set_option maxRecDepth 100000 in
theorem wd_t134 : (Jvm.Cond.fieldLink "LentBoxes" (347 : Nat) "LentBoxes$Vestry" "plotName" "[J") ∈ Tw := tm_1 (i := 134) rfl rfl
set_option maxRecDepth 100000 in
theorem wd_t135 : (Jvm.Cond.fieldLink "LentBoxes$Vestry" (29 : Nat) "LentBoxes$Vestry" "plotRest" "[I") ∈ Tw := tm_1 (i := 135) rfl rfl
set_option maxRecDepth 100000 in
theorem wd_t136 : (Jvm.Cond.fieldLink "LentBoxes" (168 : Nat) "LentBoxes$Vestry" "plotRest" "[I") ∈ Tw := tm_1 (i := 136) rfl rfl
set_option maxRecDepth 100000 in
theorem wd_t137 : (Jvm.Cond.fieldLink "LentBoxes$State" (115 : Nat) "LentBoxes$Vestry" "plotRest" "[I") ∈ Tw := tm_1 (i := 137) rfl rfl
set_option maxRecDepth 100000 in
theorem wd_t138 : (Jvm.Cond.fieldLink "LentBoxes$Vestry" (32 : Nat) "LentBoxes$Vestry" "deadName" "[J") ∈ Tw := tm_1 (i := 138) rfl rfl
set_option maxRecDepth 100000 in
theorem wd_t139 : (Jvm.Cond.fieldLink "LentBoxes" (325 : Nat) "LentBoxes$Vestry" "deadName" "[J") ∈ Tw := tm_1 (i := 139) rfl rfl
set_option maxRecDepth 100000 in
theorem wd_t140 : (Jvm.Cond.fieldLink "LentBoxes$Vestry" (35 : Nat) "LentBoxes$Vestry" "deadLong" "[I") ∈ Tw := tm_1 (i := 140) rfl rfl
set_option maxRecDepth 100000 in
theorem wd_t141 : (Jvm.Cond.fieldLink "LentBoxes" (190 : Nat) "LentBoxes$Vestry" "deadLong" "[I") ∈ Tw := tm_1 (i := 141) rfl rfl
set_option maxRecDepth 100000 in
theorem wd_t142 : (Jvm.Cond.fieldLink "LentBoxes$State" (95 : Nat) "LentBoxes$Vestry" "deadLong" "[I") ∈ Tw := tm_1 (i := 142) rfl rfl
set_option maxRecDepth 100000 in
theorem wd_t143 : (Jvm.Cond.fieldLink "LentBoxes$Sentence" (174 : Nat) "LentBoxes$Vestry" "deadLong" "[I") ∈ Tw := tm_1 (i := 143) rfl rfl
set_option maxRecDepth 100000 in
theorem wd_t144 : (Jvm.Cond.fieldLink "LentBoxes$Vestry" (38 : Nat) "LentBoxes$Vestry" "deadDay" "[I") ∈ Tw := tm_1 (i := 144) rfl rfl
set_option maxRecDepth 100000 in
theorem wd_t145 : (Jvm.Cond.fieldLink "LentBoxes$State" (73 : Nat) "LentBoxes$Vestry" "deadDay" "[I") ∈ Tw := tm_1 (i := 145) rfl rfl
set_option maxRecDepth 100000 in
theorem wd_t146 : (Jvm.Cond.fieldLink "LentBoxes" (276 : Nat) "LentBoxes$Vestry" "deadDay" "[I") ∈ Tw := tm_1 (i := 146) rfl rfl
set_option maxRecDepth 100000 in
theorem wd_t147 : (Jvm.Cond.fieldLink "LentBoxes$Vestry" (41 : Nat) "LentBoxes$Vestry" "kin" "[I") ∈ Tw := tm_1 (i := 147) rfl rfl
set_option maxRecDepth 100000 in
theorem wd_t148 : (Jvm.Cond.fieldLink "LentBoxes" (208 : Nat) "LentBoxes$Vestry" "kin" "[I") ∈ Tw := tm_1 (i := 148) rfl rfl
set_option maxRecDepth 100000 in
theorem wd_t149 : (Jvm.Cond.fieldLink "LentBoxes$Vestry" (44 : Nat) "LentBoxes$Vestry" "asks" "[I") ∈ Tw := tm_1 (i := 149) rfl rfl
set_option maxRecDepth 100000 in
theorem wd_t150 : (Jvm.Cond.fieldLink "LentBoxes" (211 : Nat) "LentBoxes$Vestry" "asks" "[I") ∈ Tw := tm_1 (i := 150) rfl rfl
set_option maxRecDepth 100000 in
theorem wd_t151 : (Jvm.Cond.fieldLink "LentBoxes$Vestry" (47 : Nat) "LentBoxes$Vestry" "frostFrom" "[I") ∈ Tw := tm_1 (i := 151) rfl rfl
set_option maxRecDepth 100000 in
theorem wd_t152 : (Jvm.Cond.fieldLink "LentBoxes$Vestry" (50 : Nat) "LentBoxes$Vestry" "frostMany" "[I") ∈ Tw := tm_1 (i := 152) rfl rfl
set_option maxRecDepth 100000 in
theorem wd_t153 : (Jvm.Cond.lays "LentBoxes$Vestry" "LentBoxes$Vestry" "boxes" "I") ∈ Tw := tm_1 (i := 153) rfl rfl
set_option maxRecDepth 100000 in
theorem wd_t155 : (Jvm.Cond.lays "LentBoxes$Vestry" "LentBoxes$Vestry" "plots" "I") ∈ Tw := tm_1 (i := 155) rfl rfl
set_option maxRecDepth 100000 in
theorem wd_t157 : (Jvm.Cond.lays "LentBoxes$Vestry" "LentBoxes$Vestry" "dead" "I") ∈ Tw := tm_1 (i := 157) rfl rfl
set_option maxRecDepth 100000 in
theorem wd_t159 : (Jvm.Cond.lays "LentBoxes$Vestry" "LentBoxes$Vestry" "kins" "I") ∈ Tw := tm_1 (i := 159) rfl rfl
set_option maxRecDepth 100000 in
theorem wd_t161 : (Jvm.Cond.lays "LentBoxes$Vestry" "LentBoxes$Vestry" "frosts" "I") ∈ Tw := tm_1 (i := 161) rfl rfl
set_option maxRecDepth 100000 in
theorem wd_t163 : (Jvm.Cond.lays "LentBoxes$Vestry" "LentBoxes$Vestry" "air" "I") ∈ Tw := tm_1 (i := 163) rfl rfl
set_option maxRecDepth 100000 in
theorem wd_t165 : (Jvm.Cond.lays "LentBoxes$Vestry" "LentBoxes$Vestry" "airTold" "Z") ∈ Tw := tm_1 (i := 165) rfl rfl
set_option maxRecDepth 100000 in
theorem wd_t167 : (Jvm.Cond.laysFinal "LentBoxes$Vestry" "LentBoxes$Vestry" "boxName" "[J") ∈ Tw := tm_1 (i := 167) rfl rfl
set_option maxRecDepth 100000 in
theorem wd_t169 : (Jvm.Cond.laysFinal "LentBoxes$Vestry" "LentBoxes$Vestry" "boxLong" "[I") ∈ Tw := tm_1 (i := 169) rfl rfl
set_option maxRecDepth 100000 in
theorem wd_t171 : (Jvm.Cond.laysFinal "LentBoxes$Vestry" "LentBoxes$Vestry" "boxLasts" "[I") ∈ Tw := tm_1 (i := 171) rfl rfl
set_option maxRecDepth 100000 in
theorem wd_t173 : (Jvm.Cond.laysFinal "LentBoxes$Vestry" "LentBoxes$Vestry" "plotName" "[J") ∈ Tw := tm_1 (i := 173) rfl rfl
set_option maxRecDepth 100000 in
theorem wd_t175 : (Jvm.Cond.laysFinal "LentBoxes$Vestry" "LentBoxes$Vestry" "plotRest" "[I") ∈ Tw := tm_1 (i := 175) rfl rfl
set_option maxRecDepth 100000 in
theorem wd_t177 : (Jvm.Cond.laysFinal "LentBoxes$Vestry" "LentBoxes$Vestry" "deadName" "[J") ∈ Tw := tm_1 (i := 177) rfl rfl
set_option maxRecDepth 100000 in
theorem wd_t179 : (Jvm.Cond.laysFinal "LentBoxes$Vestry" "LentBoxes$Vestry" "deadLong" "[I") ∈ Tw := tm_1 (i := 179) rfl rfl
set_option maxRecDepth 100000 in
theorem wd_t181 : (Jvm.Cond.laysFinal "LentBoxes$Vestry" "LentBoxes$Vestry" "deadDay" "[I") ∈ Tw := tm_1 (i := 181) rfl rfl
set_option maxRecDepth 100000 in
theorem wd_t183 : (Jvm.Cond.laysFinal "LentBoxes$Vestry" "LentBoxes$Vestry" "kin" "[I") ∈ Tw := tm_1 (i := 183) rfl rfl
set_option maxRecDepth 100000 in
theorem wd_t185 : (Jvm.Cond.laysFinal "LentBoxes$Vestry" "LentBoxes$Vestry" "asks" "[I") ∈ Tw := tm_1 (i := 185) rfl rfl
set_option maxRecDepth 100000 in
theorem wd_t187 : (Jvm.Cond.laysFinal "LentBoxes$Vestry" "LentBoxes$Vestry" "frostFrom" "[I") ∈ Tw := tm_1 (i := 187) rfl rfl
set_option maxRecDepth 100000 in
theorem wd_t189 : (Jvm.Cond.laysFinal "LentBoxes$Vestry" "LentBoxes$Vestry" "frostMany" "[I") ∈ Tw := tm_1 (i := 189) rfl rfl
set_option maxRecDepth 100000 in
theorem wd_t192 : (Jvm.Cond.arrayClass Jvm.ClassFile.FieldType.long) ∈ Tw := tm_1 (i := 192) rfl rfl
set_option maxRecDepth 100000 in
theorem wd_t193 : (Jvm.Cond.arrayClass Jvm.ClassFile.FieldType.int) ∈ Tw := tm_1 (i := 193) rfl rfl
set_option maxRecDepth 100000 in
theorem wd_t194 : (Jvm.Cond.classLink "LentBoxes$World" (16 : Nat) "LentBoxes$State") ∈ Tw := tm_1 (i := 194) rfl rfl
set_option maxRecDepth 100000 in
theorem wd_t195 : (Jvm.Cond.instantiable "LentBoxes$State" (13 : Nat)) ∈ Tw := tm_1 (i := 195) rfl rfl
set_option maxRecDepth 100000 in
theorem wd_t197 : (Jvm.Cond.instanceMethod ({ cls := "LentBoxes$State", name := "<init>", desc := "()V" } : Jvm.MethodName)) ∈ Tw := tm_1 (i := 197) rfl rfl
set_option maxRecDepth 100000 in
theorem wd_t198 : (Jvm.Cond.code ({ cls := "LentBoxes$State", name := "<init>", desc := "()V" } : Jvm.MethodName) prog_8_method_1_code (1 : Nat) (Option.none : Option Jvm.ClassFile.FieldType)) ∈ Tw := tm_1 (i := 198) rfl rfl
set_option maxRecDepth 100000 in
theorem wd_t199 : (Jvm.Cond.methodLink "LentBoxes$State" (3 : Nat) ({ cls := "java/lang/Object", name := "<init>", desc := "()V" } : Jvm.MethodName)) ∈ Tw := tm_1 (i := 199) rfl rfl
set_option maxRecDepth 100000 in
theorem wd_t200 : (Jvm.Cond.fieldLink "LentBoxes$State" (48 : Nat) "LentBoxes$State" "day" "I") ∈ Tw := tm_1 (i := 200) rfl rfl
set_option maxRecDepth 100000 in
theorem wd_t201 : (Jvm.Cond.fieldLink "LentBoxes$Draws" (16 : Nat) "LentBoxes$State" "day" "I") ∈ Tw := tm_1 (i := 201) rfl rfl
set_option maxRecDepth 100000 in
theorem wd_t202 : (Jvm.Cond.fieldLink "LentBoxes$Book" (104 : Nat) "LentBoxes$State" "day" "I") ∈ Tw := tm_1 (i := 202) rfl rfl
set_option maxRecDepth 100000 in
theorem wd_t203 : (Jvm.Cond.fieldLink "LentBoxes" (216 : Nat) "LentBoxes$State" "day" "I") ∈ Tw := tm_1 (i := 203) rfl rfl
set_option maxRecDepth 100000 in
theorem wd_t204 : (Jvm.Cond.fieldLink "LentBoxes$State" (9 : Nat) "LentBoxes$State" "lent" "[I") ∈ Tw := tm_1 (i := 204) rfl rfl
set_option maxRecDepth 100000 in
theorem wd_t205 : (Jvm.Cond.fieldLink "LentBoxes" (149 : Nat) "LentBoxes$State" "lent" "[I") ∈ Tw := tm_1 (i := 205) rfl rfl
set_option maxRecDepth 100000 in
theorem wd_t206 : (Jvm.Cond.fieldLink "LentBoxes$State" (15 : Nat) "LentBoxes$State" "holds" "[I") ∈ Tw := tm_1 (i := 206) rfl rfl
set_option maxRecDepth 100000 in
theorem wd_t207 : (Jvm.Cond.fieldLink "LentBoxes" (152 : Nat) "LentBoxes$State" "holds" "[I") ∈ Tw := tm_1 (i := 207) rfl rfl
set_option maxRecDepth 100000 in
theorem wd_t208 : (Jvm.Cond.fieldLink "LentBoxes$State" (18 : Nat) "LentBoxes$State" "airedTill" "[I") ∈ Tw := tm_1 (i := 208) rfl rfl
set_option maxRecDepth 100000 in
theorem wd_t209 : (Jvm.Cond.fieldLink "LentBoxes" (158 : Nat) "LentBoxes$State" "airedTill" "[I") ∈ Tw := tm_1 (i := 209) rfl rfl
set_option maxRecDepth 100000 in
theorem wd_t210 : (Jvm.Cond.fieldLink "LentBoxes$State" (21 : Nat) "LentBoxes$State" "had" "[I") ∈ Tw := tm_1 (i := 210) rfl rfl
set_option maxRecDepth 100000 in
theorem wd_t211 : (Jvm.Cond.fieldLink "LentBoxes" (313 : Nat) "LentBoxes$State" "had" "[I") ∈ Tw := tm_1 (i := 211) rfl rfl
set_option maxRecDepth 100000 in
theorem wd_t212 : (Jvm.Cond.fieldLink "LentBoxes$State" (24 : Nat) "LentBoxes$State" "latest" "[I") ∈ Tw := tm_1 (i := 212) rfl rfl
set_option maxRecDepth 100000 in
theorem wd_t213 : (Jvm.Cond.fieldLink "LentBoxes" (171 : Nat) "LentBoxes$State" "latest" "[I") ∈ Tw := tm_1 (i := 213) rfl rfl
set_option maxRecDepth 100000 in
theorem wd_t214 : (Jvm.Cond.fieldLink "LentBoxes$State" (27 : Nat) "LentBoxes$State" "restsTill" "[I") ∈ Tw := tm_1 (i := 214) rfl rfl
set_option maxRecDepth 100000 in
theorem wd_t215 : (Jvm.Cond.fieldLink "LentBoxes" (174 : Nat) "LentBoxes$State" "restsTill" "[I") ∈ Tw := tm_1 (i := 215) rfl rfl
set_option maxRecDepth 100000 in
theorem wd_t216 : (Jvm.Cond.fieldLink "LentBoxes$State" (30 : Nat) "LentBoxes$State" "laidThere" "[I") ∈ Tw := tm_1 (i := 216) rfl rfl
set_option maxRecDepth 100000 in
theorem wd_t217 : (Jvm.Cond.fieldLink "LentBoxes" (177 : Nat) "LentBoxes$State" "laidThere" "[I") ∈ Tw := tm_1 (i := 217) rfl rfl
set_option maxRecDepth 100000 in
theorem wd_t218 : (Jvm.Cond.fieldLink "LentBoxes$State" (33 : Nat) "LentBoxes$State" "how" "[I") ∈ Tw := tm_1 (i := 218) rfl rfl
set_option maxRecDepth 100000 in
theorem wd_t219 : (Jvm.Cond.fieldLink "LentBoxes" (193 : Nat) "LentBoxes$State" "how" "[I") ∈ Tw := tm_1 (i := 219) rfl rfl
set_option maxRecDepth 100000 in
theorem wd_t220 : (Jvm.Cond.fieldLink "LentBoxes$Sentence" (162 : Nat) "LentBoxes$State" "how" "[I") ∈ Tw := tm_1 (i := 220) rfl rfl
set_option maxRecDepth 100000 in
theorem wd_t221 : (Jvm.Cond.fieldLink "LentBoxes$State" (36 : Nat) "LentBoxes$State" "inBox" "[I") ∈ Tw := tm_1 (i := 221) rfl rfl
set_option maxRecDepth 100000 in
theorem wd_t222 : (Jvm.Cond.fieldLink "LentBoxes" (196 : Nat) "LentBoxes$State" "inBox" "[I") ∈ Tw := tm_1 (i := 222) rfl rfl
set_option maxRecDepth 100000 in
theorem wd_t223 : (Jvm.Cond.fieldLink "LentBoxes$Sentence" (167 : Nat) "LentBoxes$State" "inBox" "[I") ∈ Tw := tm_1 (i := 223) rfl rfl
set_option maxRecDepth 100000 in
theorem wd_t224 : (Jvm.Cond.fieldLink "LentBoxes$State" (39 : Nat) "LentBoxes$State" "inPlot" "[I") ∈ Tw := tm_1 (i := 224) rfl rfl
set_option maxRecDepth 100000 in
theorem wd_t225 : (Jvm.Cond.fieldLink "LentBoxes" (199 : Nat) "LentBoxes$State" "inPlot" "[I") ∈ Tw := tm_1 (i := 225) rfl rfl
set_option maxRecDepth 100000 in
theorem wd_t226 : (Jvm.Cond.fieldLink "LentBoxes$State" (42 : Nat) "LentBoxes$State" "waited" "[I") ∈ Tw := tm_1 (i := 226) rfl rfl
set_option maxRecDepth 100000 in
theorem wd_t227 : (Jvm.Cond.fieldLink "LentBoxes" (202 : Nat) "LentBoxes$State" "waited" "[I") ∈ Tw := tm_1 (i := 227) rfl rfl
set_option maxRecDepth 100000 in
theorem wd_t228 : (Jvm.Cond.fieldLink "LentBoxes$Sentence" (180 : Nat) "LentBoxes$State" "waited" "[I") ∈ Tw := tm_1 (i := 228) rfl rfl
set_option maxRecDepth 100000 in
theorem wd_t229 : (Jvm.Cond.fieldLink "LentBoxes$State" (45 : Nat) "LentBoxes$State" "lain" "[I") ∈ Tw := tm_1 (i := 229) rfl rfl
set_option maxRecDepth 100000 in
theorem wd_t230 : (Jvm.Cond.fieldLink "LentBoxes" (205 : Nat) "LentBoxes$State" "lain" "[I") ∈ Tw := tm_1 (i := 230) rfl rfl
set_option maxRecDepth 100000 in
theorem wd_t231 : (Jvm.Cond.fieldLink "LentBoxes$Sentence" (183 : Nat) "LentBoxes$State" "lain" "[I") ∈ Tw := tm_1 (i := 231) rfl rfl
set_option maxRecDepth 100000 in
theorem wd_t232 : (Jvm.Cond.lays "LentBoxes$State" "LentBoxes$State" "day" "I") ∈ Tw := tm_1 (i := 232) rfl rfl
set_option maxRecDepth 100000 in
theorem wd_t234 : (Jvm.Cond.laysFinal "LentBoxes$State" "LentBoxes$State" "lent" "[I") ∈ Tw := tm_1 (i := 234) rfl rfl
set_option maxRecDepth 100000 in
theorem wd_t236 : (Jvm.Cond.laysFinal "LentBoxes$State" "LentBoxes$State" "holds" "[I") ∈ Tw := tm_1 (i := 236) rfl rfl
set_option maxRecDepth 100000 in
theorem wd_t238 : (Jvm.Cond.laysFinal "LentBoxes$State" "LentBoxes$State" "airedTill" "[I") ∈ Tw := tm_1 (i := 238) rfl rfl
set_option maxRecDepth 100000 in
theorem wd_t240 : (Jvm.Cond.laysFinal "LentBoxes$State" "LentBoxes$State" "had" "[I") ∈ Tw := tm_2 (i := 0) rfl rfl
set_option maxRecDepth 100000 in
theorem wd_t242 : (Jvm.Cond.laysFinal "LentBoxes$State" "LentBoxes$State" "latest" "[I") ∈ Tw := tm_2 (i := 2) rfl rfl
set_option maxRecDepth 100000 in
theorem wd_t244 : (Jvm.Cond.laysFinal "LentBoxes$State" "LentBoxes$State" "restsTill" "[I") ∈ Tw := tm_2 (i := 4) rfl rfl
set_option maxRecDepth 100000 in
theorem wd_t246 : (Jvm.Cond.laysFinal "LentBoxes$State" "LentBoxes$State" "laidThere" "[I") ∈ Tw := tm_2 (i := 6) rfl rfl
set_option maxRecDepth 100000 in
theorem wd_t248 : (Jvm.Cond.laysFinal "LentBoxes$State" "LentBoxes$State" "how" "[I") ∈ Tw := tm_2 (i := 8) rfl rfl
set_option maxRecDepth 100000 in
theorem wd_t250 : (Jvm.Cond.laysFinal "LentBoxes$State" "LentBoxes$State" "inBox" "[I") ∈ Tw := tm_2 (i := 10) rfl rfl
set_option maxRecDepth 100000 in
theorem wd_t252 : (Jvm.Cond.laysFinal "LentBoxes$State" "LentBoxes$State" "inPlot" "[I") ∈ Tw := tm_2 (i := 12) rfl rfl
set_option maxRecDepth 100000 in
theorem wd_t254 : (Jvm.Cond.laysFinal "LentBoxes$State" "LentBoxes$State" "waited" "[I") ∈ Tw := tm_2 (i := 14) rfl rfl
set_option maxRecDepth 100000 in
theorem wd_t256 : (Jvm.Cond.laysFinal "LentBoxes$State" "LentBoxes$State" "lain" "[I") ∈ Tw := tm_2 (i := 16) rfl rfl
set_option maxRecDepth 100000 in
theorem wd_t259 : (Jvm.Cond.classLink "LentBoxes$World" (23 : Nat) "LentBoxes$Sentence") ∈ Tw := tm_2 (i := 19) rfl rfl
set_option maxRecDepth 100000 in
theorem wd_t260 : (Jvm.Cond.instantiable "LentBoxes$Sentence" (6 : Nat)) ∈ Tw := tm_2 (i := 20) rfl rfl
set_option maxRecDepth 100000 in
theorem wd_t262 : (Jvm.Cond.instanceMethod ({ cls := "LentBoxes$Sentence", name := "<init>", desc := "()V" } : Jvm.MethodName)) ∈ Tw := tm_2 (i := 22) rfl rfl
set_option maxRecDepth 100000 in
theorem wd_t263 : (Jvm.Cond.code ({ cls := "LentBoxes$Sentence", name := "<init>", desc := "()V" } : Jvm.MethodName) prog_7_method_1_code (1 : Nat) (Option.none : Option Jvm.ClassFile.FieldType)) ∈ Tw := tm_2 (i := 23) rfl rfl
set_option maxRecDepth 100000 in
theorem wd_t264 : (Jvm.Cond.methodLink "LentBoxes$Sentence" (3 : Nat) ({ cls := "java/lang/Object", name := "<init>", desc := "()V" } : Jvm.MethodName)) ∈ Tw := tm_2 (i := 24) rfl rfl
set_option maxRecDepth 100000 in
theorem wd_t265 : (Jvm.Cond.fieldLink "LentBoxes$Sentence" (24 : Nat) "LentBoxes$Sentence" "ones" "I") ∈ Tw := tm_2 (i := 25) rfl rfl
set_option maxRecDepth 100000 in
theorem wd_t266 : (Jvm.Cond.fieldLink "LentBoxes" (383 : Nat) "LentBoxes$Sentence" "ones" "I") ∈ Tw := tm_2 (i := 26) rfl rfl
set_option maxRecDepth 100000 in
theorem wd_t267 : (Jvm.Cond.fieldLink "LentBoxes$Sentence" (28 : Nat) "LentBoxes$Sentence" "parts" "I") ∈ Tw := tm_2 (i := 27) rfl rfl
set_option maxRecDepth 100000 in
theorem wd_t268 : (Jvm.Cond.fieldLink "LentBoxes$Sentence" (11 : Nat) "LentBoxes$Sentence" "part" "[I") ∈ Tw := tm_2 (i := 28) rfl rfl
set_option maxRecDepth 100000 in
theorem wd_t269 : (Jvm.Cond.fieldLink "LentBoxes$Sentence" (15 : Nat) "LentBoxes$Sentence" "sign" "[I") ∈ Tw := tm_2 (i := 29) rfl rfl
set_option maxRecDepth 100000 in
theorem wd_t270 : (Jvm.Cond.fieldLink "LentBoxes$Sentence" (18 : Nat) "LentBoxes$Sentence" "value" "[I") ∈ Tw := tm_2 (i := 30) rfl rfl
set_option maxRecDepth 100000 in
theorem wd_t271 : (Jvm.Cond.fieldLink "LentBoxes$Sentence" (21 : Nat) "LentBoxes$Sentence" "stack" "[I") ∈ Tw := tm_2 (i := 31) rfl rfl
set_option maxRecDepth 100000 in
theorem wd_t272 : (Jvm.Cond.lays "LentBoxes$Sentence" "LentBoxes$Sentence" "ones" "I") ∈ Tw := tm_2 (i := 32) rfl rfl
set_option maxRecDepth 100000 in
theorem wd_t274 : (Jvm.Cond.lays "LentBoxes$Sentence" "LentBoxes$Sentence" "parts" "I") ∈ Tw := tm_2 (i := 34) rfl rfl
set_option maxRecDepth 100000 in
theorem wd_t276 : (Jvm.Cond.laysFinal "LentBoxes$Sentence" "LentBoxes$Sentence" "part" "[I") ∈ Tw := tm_2 (i := 36) rfl rfl
set_option maxRecDepth 100000 in
theorem wd_t278 : (Jvm.Cond.laysFinal "LentBoxes$Sentence" "LentBoxes$Sentence" "sign" "[I") ∈ Tw := tm_2 (i := 38) rfl rfl
set_option maxRecDepth 100000 in
theorem wd_t280 : (Jvm.Cond.laysFinal "LentBoxes$Sentence" "LentBoxes$Sentence" "value" "[I") ∈ Tw := tm_2 (i := 40) rfl rfl
set_option maxRecDepth 100000 in
theorem wd_t282 : (Jvm.Cond.laysFinal "LentBoxes$Sentence" "LentBoxes$Sentence" "stack" "[I") ∈ Tw := tm_2 (i := 42) rfl rfl
set_option maxRecDepth 100000 in
theorem wd_t285 : (Jvm.Cond.methodLink "LentBoxes$World" (30 : Nat) ({ cls := "LentBoxes$State", name := "begin", desc := "(LLentBoxes$Vestry;)V" } : Jvm.MethodName)) ∈ Tw := tm_2 (i := 45) rfl rfl
set_option maxRecDepth 100000 in
theorem wd_t286 : (Jvm.Cond.instanceMethod ({ cls := "LentBoxes$State", name := "begin", desc := "(LLentBoxes$Vestry;)V" } : Jvm.MethodName)) ∈ Tw := tm_2 (i := 46) rfl rfl
set_option maxRecDepth 100000 in
theorem wd_t287 : (Jvm.Cond.selects "LentBoxes$State" ({ cls := "LentBoxes$State", name := "begin", desc := "(LLentBoxes$Vestry;)V" } : Jvm.MethodName) ({ cls := "LentBoxes$State", name := "begin", desc := "(LLentBoxes$Vestry;)V" } : Jvm.MethodName)) ∈ Tw := tm_2 (i := 47) rfl rfl
set_option maxRecDepth 100000 in
theorem wd_t288 : (Jvm.Cond.code ({ cls := "LentBoxes$State", name := "begin", desc := "(LLentBoxes$Vestry;)V" } : Jvm.MethodName) prog_8_method_3_code (2 : Nat) (Option.none : Option Jvm.ClassFile.FieldType)) ∈ Tw := tm_2 (i := 48) rfl rfl
set_option maxRecDepth 100000 in
theorem wd_t289 : (Jvm.Cond.methodLink "LentBoxes$State" (58 : Nat) ({ cls := "java/util/Arrays", name := "fill", desc := "([II)V" } : Jvm.MethodName)) ∈ Tw := tm_2 (i := 49) rfl rfl
set_option maxRecDepth 100000 in
theorem wd_t290 : (Jvm.Cond.static ({ cls := "java/util/Arrays", name := "fill", desc := "([II)V" } : Jvm.MethodName)) ∈ Tw := tm_2 (i := 50) rfl rfl
set_option maxRecDepth 100000 in
theorem wd_t291 : (Jvm.Cond.code ({ cls := "java/util/Arrays", name := "fill", desc := "([II)V" } : Jvm.MethodName) prog_30_method_103_code (4 : Nat) (Option.none : Option Jvm.ClassFile.FieldType)) ∈ Tw := tm_2 (i := 51) rfl rfl
set_option maxRecDepth 100000 in
theorem wd_t292 : (Jvm.Cond.methodLink "LentBoxes$State" (64 : Nat) ({ cls := "LentBoxes$State", name := "arrive", desc := "(LLentBoxes$Vestry;)V" } : Jvm.MethodName)) ∈ Tw := tm_2 (i := 52) rfl rfl
set_option maxRecDepth 100000 in
theorem wd_t294 : (Jvm.Cond.instanceMethod ({ cls := "LentBoxes$State", name := "arrive", desc := "(LLentBoxes$Vestry;)V" } : Jvm.MethodName)) ∈ Tw := tm_2 (i := 54) rfl rfl
set_option maxRecDepth 100000 in
theorem wd_t295 : (Jvm.Cond.code ({ cls := "LentBoxes$State", name := "arrive", desc := "(LLentBoxes$Vestry;)V" } : Jvm.MethodName) prog_8_method_4_code (3 : Nat) (Option.none : Option Jvm.ClassFile.FieldType)) ∈ Tw := tm_2 (i := 55) rfl rfl
set_option maxRecDepth 100000 in
theorem wd_t296 : (Jvm.Cond.fieldLink "LentBoxes$World" (10 : Nat) "LentBoxes$World" "vestry" "LLentBoxes$Vestry;") ∈ Tw := tm_2 (i := 56) rfl rfl
set_option maxRecDepth 100000 in
theorem wd_t297 : (Jvm.Cond.fieldLink "LentBoxes" (117 : Nat) "LentBoxes$World" "vestry" "LLentBoxes$Vestry;") ∈ Tw := tm_2 (i := 57) rfl rfl
set_option maxRecDepth 100000 in
theorem wd_t298 : (Jvm.Cond.fieldLink "LentBoxes$World" (19 : Nat) "LentBoxes$World" "state" "LLentBoxes$State;") ∈ Tw := tm_2 (i := 58) rfl rfl
set_option maxRecDepth 100000 in
theorem wd_t299 : (Jvm.Cond.fieldLink "LentBoxes" (124 : Nat) "LentBoxes$World" "state" "LLentBoxes$State;") ∈ Tw := tm_2 (i := 59) rfl rfl
set_option maxRecDepth 100000 in
theorem wd_t300 : (Jvm.Cond.fieldLink "LentBoxes$World" (26 : Nat) "LentBoxes$World" "sentence" "LLentBoxes$Sentence;") ∈ Tw := tm_2 (i := 60) rfl rfl
set_option maxRecDepth 100000 in
theorem wd_t301 : (Jvm.Cond.fieldLink "LentBoxes" (130 : Nat) "LentBoxes$World" "sentence" "LLentBoxes$Sentence;") ∈ Tw := tm_2 (i := 61) rfl rfl
set_option maxRecDepth 100000 in
theorem wd_t302 : (Jvm.Cond.fieldLink "LentBoxes" (397 : Nat) "LentBoxes$World" "kept" "Z") ∈ Tw := tm_2 (i := 62) rfl rfl
set_option maxRecDepth 100000 in
theorem wd_t303 : (Jvm.Cond.laysFinal "LentBoxes$World" "LentBoxes$World" "vestry" "LLentBoxes$Vestry;") ∈ Tw := tm_2 (i := 63) rfl rfl
set_option maxRecDepth 100000 in
theorem wd_t305 : (Jvm.Cond.laysFinal "LentBoxes$World" "LentBoxes$World" "state" "LLentBoxes$State;") ∈ Tw := tm_2 (i := 65) rfl rfl
set_option maxRecDepth 100000 in
theorem wd_t307 : (Jvm.Cond.laysFinal "LentBoxes$World" "LentBoxes$World" "sentence" "LLentBoxes$Sentence;") ∈ Tw := tm_2 (i := 67) rfl rfl
set_option maxRecDepth 100000 in
theorem wd_t309 : (Jvm.Cond.lays "LentBoxes$World" "LentBoxes$World" "kept" "Z") ∈ Tw := tm_2 (i := 69) rfl rfl
set_option maxRecDepth 100000 in
theorem wd_t313 : (Jvm.Cond.classLink "LentBoxes" (27 : Nat) "LentBoxes$Past") ∈ Tw := tm_2 (i := 73) rfl rfl
set_option maxRecDepth 100000 in
theorem wd_t314 : (Jvm.Cond.instantiable "LentBoxes$Past" (3 : Nat)) ∈ Tw := tm_2 (i := 74) rfl rfl
set_option maxRecDepth 100000 in
theorem wd_t315 : (Jvm.Cond.methodLink "LentBoxes" (29 : Nat) ({ cls := "LentBoxes$Past", name := "<init>", desc := "()V" } : Jvm.MethodName)) ∈ Tw := tm_2 (i := 75) rfl rfl
set_option maxRecDepth 100000 in
theorem wd_t316 : (Jvm.Cond.instanceMethod ({ cls := "LentBoxes$Past", name := "<init>", desc := "()V" } : Jvm.MethodName)) ∈ Tw := tm_2 (i := 76) rfl rfl
set_option maxRecDepth 100000 in
theorem wd_t317 : (Jvm.Cond.code ({ cls := "LentBoxes$Past", name := "<init>", desc := "()V" } : Jvm.MethodName) prog_6_method_1_code (2 : Nat) (Option.none : Option Jvm.ClassFile.FieldType)) ∈ Tw := tm_2 (i := 77) rfl rfl
set_option maxRecDepth 100000 in
theorem wd_t318 : (Jvm.Cond.methodLink "LentBoxes$Past" (3 : Nat) ({ cls := "java/lang/Object", name := "<init>", desc := "()V" } : Jvm.MethodName)) ∈ Tw := tm_2 (i := 78) rfl rfl
set_option maxRecDepth 100000 in
theorem wd_t319 : (Jvm.Cond.classLink "LentBoxes$Past" (9 : Nat) "LentBoxes$State") ∈ Tw := tm_2 (i := 79) rfl rfl
set_option maxRecDepth 100000 in
theorem wd_t322 : (Jvm.Cond.fieldLink "LentBoxes$Past" (11 : Nat) "LentBoxes$Past" "states" "[LLentBoxes$State;") ∈ Tw := tm_2 (i := 82) rfl rfl
set_option maxRecDepth 100000 in
theorem wd_t323 : (Jvm.Cond.fieldLink "LentBoxes$Past" (18 : Nat) "LentBoxes$Past" "first" "I") ∈ Tw := tm_2 (i := 83) rfl rfl
set_option maxRecDepth 100000 in
theorem wd_t324 : (Jvm.Cond.fieldLink "LentBoxes$Past" (22 : Nat) "LentBoxes$Past" "many" "I") ∈ Tw := tm_2 (i := 84) rfl rfl
set_option maxRecDepth 100000 in
theorem wd_t325 : (Jvm.Cond.laysFinal "LentBoxes$Past" "LentBoxes$Past" "states" "[LLentBoxes$State;") ∈ Tw := tm_2 (i := 85) rfl rfl
set_option maxRecDepth 100000 in
theorem wd_t327 : (Jvm.Cond.lays "LentBoxes$Past" "LentBoxes$Past" "first" "I") ∈ Tw := tm_2 (i := 87) rfl rfl
set_option maxRecDepth 100000 in
theorem wd_t329 : (Jvm.Cond.lays "LentBoxes$Past" "LentBoxes$Past" "many" "I") ∈ Tw := tm_2 (i := 89) rfl rfl
set_option maxRecDepth 100000 in
theorem wd_t332 : (Jvm.Cond.classLink "LentBoxes" (34 : Nat) "LentBoxes$State") ∈ Tw := tm_2 (i := 92) rfl rfl
set_option maxRecDepth 100000 in
theorem wd_t334 : (Jvm.Cond.classLink "LentBoxes" (41 : Nat) "LentBoxes$Vestry") ∈ Tw := tm_2 (i := 94) rfl rfl
set_option maxRecDepth 100000 in
theorem wd_t336 : (Jvm.Cond.classLink "LentBoxes" (48 : Nat) "LentBoxes$Sentence") ∈ Tw := tm_2 (i := 96) rfl rfl
set_option maxRecDepth 100000 in
theorem wd_t338 : (Jvm.Cond.classLink "LentBoxes" (55 : Nat) "LentBoxes$Book") ∈ Tw := tm_2 (i := 98) rfl rfl
set_option maxRecDepth 100000 in
theorem wd_t339 : (Jvm.Cond.instantiable "LentBoxes$Book" (4 : Nat)) ∈ Tw := tm_2 (i := 99) rfl rfl
set_option maxRecDepth 100000 in
theorem wd_t341 : (Jvm.Cond.instanceMethod ({ cls := "LentBoxes$Book", name := "<init>", desc := "()V" } : Jvm.MethodName)) ∈ Tw := tm_2 (i := 101) rfl rfl
set_option maxRecDepth 100000 in
theorem wd_t342 : (Jvm.Cond.code ({ cls := "LentBoxes$Book", name := "<init>", desc := "()V" } : Jvm.MethodName) prog_3_method_1_code (1 : Nat) (Option.none : Option Jvm.ClassFile.FieldType)) ∈ Tw := tm_2 (i := 102) rfl rfl
set_option maxRecDepth 100000 in
theorem wd_t343 : (Jvm.Cond.methodLink "LentBoxes$Book" (3 : Nat) ({ cls := "java/lang/Object", name := "<init>", desc := "()V" } : Jvm.MethodName)) ∈ Tw := tm_2 (i := 103) rfl rfl
set_option maxRecDepth 100000 in
theorem wd_t344 : (Jvm.Cond.fieldLink "LentBoxes$Book" (21 : Nat) "LentBoxes$Book" "lines" "I") ∈ Tw := tm_2 (i := 104) rfl rfl
set_option maxRecDepth 100000 in
theorem wd_t345 : (Jvm.Cond.fieldLink "LentBoxes" (363 : Nat) "LentBoxes$Book" "lines" "I") ∈ Tw := tm_2 (i := 105) rfl rfl
set_option maxRecDepth 100000 in
theorem wd_t346 : (Jvm.Cond.fieldLink "LentBoxes$Book" (9 : Nat) "LentBoxes$Book" "act" "[I") ∈ Tw := tm_2 (i := 106) rfl rfl
set_option maxRecDepth 100000 in
theorem wd_t347 : (Jvm.Cond.fieldLink "LentBoxes$Book" (15 : Nat) "LentBoxes$Book" "first" "[I") ∈ Tw := tm_2 (i := 107) rfl rfl
set_option maxRecDepth 100000 in
theorem wd_t348 : (Jvm.Cond.fieldLink "LentBoxes$Book" (18 : Nat) "LentBoxes$Book" "second" "[I") ∈ Tw := tm_2 (i := 108) rfl rfl
set_option maxRecDepth 100000 in
theorem wd_t349 : (Jvm.Cond.lays "LentBoxes$Book" "LentBoxes$Book" "lines" "I") ∈ Tw := tm_2 (i := 109) rfl rfl
set_option maxRecDepth 100000 in
theorem wd_t351 : (Jvm.Cond.laysFinal "LentBoxes$Book" "LentBoxes$Book" "act" "[I") ∈ Tw := tm_2 (i := 111) rfl rfl
set_option maxRecDepth 100000 in
theorem wd_t353 : (Jvm.Cond.laysFinal "LentBoxes$Book" "LentBoxes$Book" "first" "[I") ∈ Tw := tm_2 (i := 113) rfl rfl
set_option maxRecDepth 100000 in
theorem wd_t355 : (Jvm.Cond.laysFinal "LentBoxes$Book" "LentBoxes$Book" "second" "[I") ∈ Tw := tm_2 (i := 115) rfl rfl
set_option maxRecDepth 100000 in
theorem wd_t358 : (Jvm.Cond.classLink "LentBoxes" (62 : Nat) "LentBoxes$Matching") ∈ Tw := tm_2 (i := 118) rfl rfl
set_option maxRecDepth 100000 in
theorem wd_t359 : (Jvm.Cond.instantiable "LentBoxes$Matching" (4 : Nat)) ∈ Tw := tm_2 (i := 119) rfl rfl
set_option maxRecDepth 100000 in
theorem wd_t360 : (Jvm.Cond.methodLink "LentBoxes" (64 : Nat) ({ cls := "LentBoxes$Matching", name := "<init>", desc := "()V" } : Jvm.MethodName)) ∈ Tw := tm_2 (i := 120) rfl rfl
set_option maxRecDepth 100000 in
theorem wd_t361 : (Jvm.Cond.instanceMethod ({ cls := "LentBoxes$Matching", name := "<init>", desc := "()V" } : Jvm.MethodName)) ∈ Tw := tm_2 (i := 121) rfl rfl
set_option maxRecDepth 100000 in
theorem wd_t362 : (Jvm.Cond.code ({ cls := "LentBoxes$Matching", name := "<init>", desc := "()V" } : Jvm.MethodName) prog_5_method_1_code (1 : Nat) (Option.none : Option Jvm.ClassFile.FieldType)) ∈ Tw := tm_2 (i := 122) rfl rfl
set_option maxRecDepth 100000 in
theorem wd_t363 : (Jvm.Cond.methodLink "LentBoxes$Matching" (3 : Nat) ({ cls := "java/lang/Object", name := "<init>", desc := "()V" } : Jvm.MethodName)) ∈ Tw := tm_2 (i := 123) rfl rfl
set_option maxRecDepth 100000 in
theorem wd_t364 : (Jvm.Cond.methodLink "LentBoxes$Matching" (21 : Nat) ({ cls := "java/util/Arrays", name := "fill", desc := "([II)V" } : Jvm.MethodName)) ∈ Tw := tm_2 (i := 124) rfl rfl
set_option maxRecDepth 100000 in
theorem wd_t365 : (Jvm.Cond.fieldLink "LentBoxes$Matching" (9 : Nat) "LentBoxes$Matching" "chosen" "[I") ∈ Tw := tm_2 (i := 125) rfl rfl
set_option maxRecDepth 100000 in
theorem wd_t366 : (Jvm.Cond.fieldLink "LentBoxes" (266 : Nat) "LentBoxes$Matching" "chosen" "[I") ∈ Tw := tm_2 (i := 126) rfl rfl
set_option maxRecDepth 100000 in
theorem wd_t367 : (Jvm.Cond.fieldLink "LentBoxes$Matching" (15 : Nat) "LentBoxes$Matching" "could" "[I") ∈ Tw := tm_2 (i := 127) rfl rfl
set_option maxRecDepth 100000 in
theorem wd_t368 : (Jvm.Cond.fieldLink "LentBoxes$Matching" (18 : Nat) "LentBoxes$Matching" "owner" "[I") ∈ Tw := tm_2 (i := 128) rfl rfl
set_option maxRecDepth 100000 in
theorem wd_t369 : (Jvm.Cond.fieldLink "LentBoxes$Matching" (50 : Nat) "LentBoxes$Matching" "tried" "I") ∈ Tw := tm_2 (i := 129) rfl rfl
set_option maxRecDepth 100000 in
theorem wd_t370 : (Jvm.Cond.laysFinal "LentBoxes$Matching" "LentBoxes$Matching" "chosen" "[I") ∈ Tw := tm_2 (i := 130) rfl rfl
set_option maxRecDepth 100000 in
theorem wd_t372 : (Jvm.Cond.laysFinal "LentBoxes$Matching" "LentBoxes$Matching" "could" "[I") ∈ Tw := tm_2 (i := 132) rfl rfl
set_option maxRecDepth 100000 in
theorem wd_t374 : (Jvm.Cond.laysFinal "LentBoxes$Matching" "LentBoxes$Matching" "owner" "[I") ∈ Tw := tm_2 (i := 134) rfl rfl
set_option maxRecDepth 100000 in
theorem wd_t376 : (Jvm.Cond.lays "LentBoxes$Matching" "LentBoxes$Matching" "tried" "I") ∈ Tw := tm_2 (i := 136) rfl rfl
set_option maxRecDepth 100000 in
theorem wd_t379 : (Jvm.Cond.classLink "LentBoxes" (69 : Nat) "LentBoxes$Draws") ∈ Tw := tm_2 (i := 139) rfl rfl
set_option maxRecDepth 100000 in
theorem wd_t380 : (Jvm.Cond.instantiable "LentBoxes$Draws" (1 : Nat)) ∈ Tw := tm_2 (i := 140) rfl rfl
set_option maxRecDepth 100000 in
theorem wd_t382 : (Jvm.Cond.instanceMethod ({ cls := "LentBoxes$Draws", name := "<init>", desc := "()V" } : Jvm.MethodName)) ∈ Tw := tm_2 (i := 142) rfl rfl
set_option maxRecDepth 100000 in
theorem wd_t383 : (Jvm.Cond.code ({ cls := "LentBoxes$Draws", name := "<init>", desc := "()V" } : Jvm.MethodName) prog_4_method_1_code (1 : Nat) (Option.none : Option Jvm.ClassFile.FieldType)) ∈ Tw := tm_2 (i := 143) rfl rfl
set_option maxRecDepth 100000 in
theorem wd_t384 : (Jvm.Cond.methodLink "LentBoxes$Draws" (3 : Nat) ({ cls := "java/lang/Object", name := "<init>", desc := "()V" } : Jvm.MethodName)) ∈ Tw := tm_2 (i := 144) rfl rfl
set_option maxRecDepth 100000 in
theorem wd_t385 : (Jvm.Cond.fieldLink "LentBoxes$Draws" (9 : Nat) "LentBoxes$Draws" "x" "I") ∈ Tw := tm_2 (i := 145) rfl rfl
set_option maxRecDepth 100000 in
theorem wd_t386 : (Jvm.Cond.lays "LentBoxes$Draws" "LentBoxes$Draws" "x" "I") ∈ Tw := tm_2 (i := 146) rfl rfl
set_option maxRecDepth 100000 in
theorem wd_t389 : (Jvm.Cond.fieldLink "LentBoxes" (10 : Nat) "LentBoxes" "tape" "LLentBoxes$Tape;") ∈ Tw := tm_2 (i := 149) rfl rfl
set_option maxRecDepth 100000 in
theorem wd_t390 : (Jvm.Cond.fieldLink "LentBoxes" (19 : Nat) "LentBoxes" "world" "LLentBoxes$World;") ∈ Tw := tm_2 (i := 150) rfl rfl
set_option maxRecDepth 100000 in
theorem wd_t391 : (Jvm.Cond.fieldLink "LentBoxes" (23 : Nat) "LentBoxes" "images" "[LLentBoxes$World;") ∈ Tw := tm_2 (i := 151) rfl rfl
set_option maxRecDepth 100000 in
theorem wd_t392 : (Jvm.Cond.fieldLink "LentBoxes" (30 : Nat) "LentBoxes" "past" "LLentBoxes$Past;") ∈ Tw := tm_2 (i := 152) rfl rfl
set_option maxRecDepth 100000 in
theorem wd_t393 : (Jvm.Cond.fieldLink "LentBoxes" (37 : Nat) "LentBoxes" "trial" "LLentBoxes$State;") ∈ Tw := tm_2 (i := 153) rfl rfl
set_option maxRecDepth 100000 in
theorem wd_t394 : (Jvm.Cond.fieldLink "LentBoxes" (44 : Nat) "LentBoxes" "freshVestry" "LLentBoxes$Vestry;") ∈ Tw := tm_2 (i := 154) rfl rfl
set_option maxRecDepth 100000 in
theorem wd_t395 : (Jvm.Cond.fieldLink "LentBoxes" (51 : Nat) "LentBoxes" "freshSentence" "LLentBoxes$Sentence;") ∈ Tw := tm_2 (i := 155) rfl rfl
set_option maxRecDepth 100000 in
theorem wd_t396 : (Jvm.Cond.fieldLink "LentBoxes" (58 : Nat) "LentBoxes" "latestBook" "LLentBoxes$Book;") ∈ Tw := tm_2 (i := 156) rfl rfl
set_option maxRecDepth 100000 in
theorem wd_t397 : (Jvm.Cond.fieldLink "LentBoxes" (65 : Nat) "LentBoxes" "matching" "LLentBoxes$Matching;") ∈ Tw := tm_2 (i := 157) rfl rfl
set_option maxRecDepth 100000 in
theorem wd_t398 : (Jvm.Cond.fieldLink "LentBoxes" (72 : Nat) "LentBoxes" "draws" "LLentBoxes$Draws;") ∈ Tw := tm_2 (i := 158) rfl rfl
set_option maxRecDepth 100000 in
theorem wd_t399 : (Jvm.Cond.fieldLink "LentBoxes" (76 : Nat) "LentBoxes" "ringOf" "[I") ∈ Tw := tm_2 (i := 159) rfl rfl
set_option maxRecDepth 100000 in
theorem wd_t400 : (Jvm.Cond.fieldLink "LentBoxes" (80 : Nat) "LentBoxes" "tagBytes" "[B") ∈ Tw := tm_2 (i := 160) rfl rfl
set_option maxRecDepth 100000 in
theorem wd_t401 : (Jvm.Cond.fieldLink "LentBoxes" (84 : Nat) "LentBoxes" "toldLast" "[I") ∈ Tw := tm_2 (i := 161) rfl rfl
set_option maxRecDepth 100000 in
theorem wd_t402 : (Jvm.Cond.fieldLink "LentBoxes" (111 : Nat) "LentBoxes" "latestFault" "I") ∈ Tw := tm_2 (i := 162) rfl rfl
set_option maxRecDepth 100000 in
theorem wd_t403 : (Jvm.Cond.fieldLink "LentBoxes" (87 : Nat) "LentBoxes" "soonPlot" "I") ∈ Tw := tm_2 (i := 163) rfl rfl
set_option maxRecDepth 100000 in
theorem wd_t404 : (Jvm.Cond.fieldLink "LentBoxes" (294 : Nat) "LentBoxes" "ringLength" "I") ∈ Tw := tm_2 (i := 164) rfl rfl
set_option maxRecDepth 100000 in
theorem wd_t405 : (Jvm.Cond.fieldLink "LentBoxes" (91 : Nat) "LentBoxes" "asked" "I") ∈ Tw := tm_2 (i := 165) rfl rfl
set_option maxRecDepth 100000 in
theorem wd_t406 : (Jvm.Cond.fieldLink "LentBoxes" (322 : Nat) "LentBoxes" "tagLength" "I") ∈ Tw := tm_2 (i := 166) rfl rfl
set_option maxRecDepth 100000 in
theorem wd_t407 : (Jvm.Cond.fieldLink "LentBoxes" (366 : Nat) "LentBoxes" "anyTold" "Z") ∈ Tw := tm_2 (i := 167) rfl rfl
set_option maxRecDepth 100000 in
theorem wd_t408 : (Jvm.Cond.laysFinal "LentBoxes" "LentBoxes" "tape" "LLentBoxes$Tape;") ∈ Tw := tm_2 (i := 168) rfl rfl
set_option maxRecDepth 100000 in
theorem wd_t410 : (Jvm.Cond.laysFinal "LentBoxes" "LentBoxes" "world" "LLentBoxes$World;") ∈ Tw := tm_2 (i := 170) rfl rfl
set_option maxRecDepth 100000 in
theorem wd_t412 : (Jvm.Cond.laysFinal "LentBoxes" "LentBoxes" "images" "[LLentBoxes$World;") ∈ Tw := tm_2 (i := 172) rfl rfl
set_option maxRecDepth 100000 in
theorem wd_t414 : (Jvm.Cond.laysFinal "LentBoxes" "LentBoxes" "past" "LLentBoxes$Past;") ∈ Tw := tm_2 (i := 174) rfl rfl
set_option maxRecDepth 100000 in
theorem wd_t416 : (Jvm.Cond.laysFinal "LentBoxes" "LentBoxes" "trial" "LLentBoxes$State;") ∈ Tw := tm_2 (i := 176) rfl rfl
set_option maxRecDepth 100000 in
theorem wd_t418 : (Jvm.Cond.laysFinal "LentBoxes" "LentBoxes" "freshVestry" "LLentBoxes$Vestry;") ∈ Tw := tm_2 (i := 178) rfl rfl
set_option maxRecDepth 100000 in
theorem wd_t420 : (Jvm.Cond.laysFinal "LentBoxes" "LentBoxes" "freshSentence" "LLentBoxes$Sentence;") ∈ Tw := tm_2 (i := 180) rfl rfl
set_option maxRecDepth 100000 in
theorem wd_t422 : (Jvm.Cond.laysFinal "LentBoxes" "LentBoxes" "latestBook" "LLentBoxes$Book;") ∈ Tw := tm_2 (i := 182) rfl rfl
set_option maxRecDepth 100000 in
theorem wd_t424 : (Jvm.Cond.laysFinal "LentBoxes" "LentBoxes" "matching" "LLentBoxes$Matching;") ∈ Tw := tm_2 (i := 184) rfl rfl
set_option maxRecDepth 100000 in
theorem wd_t426 : (Jvm.Cond.laysFinal "LentBoxes" "LentBoxes" "draws" "LLentBoxes$Draws;") ∈ Tw := tm_2 (i := 186) rfl rfl
set_option maxRecDepth 100000 in
theorem wd_t428 : (Jvm.Cond.laysFinal "LentBoxes" "LentBoxes" "ringOf" "[I") ∈ Tw := tm_2 (i := 188) rfl rfl
set_option maxRecDepth 100000 in
theorem wd_t430 : (Jvm.Cond.laysFinal "LentBoxes" "LentBoxes" "tagBytes" "[B") ∈ Tw := tm_2 (i := 190) rfl rfl
set_option maxRecDepth 100000 in
theorem wd_t432 : (Jvm.Cond.laysFinal "LentBoxes" "LentBoxes" "toldLast" "[I") ∈ Tw := tm_2 (i := 192) rfl rfl
set_option maxRecDepth 100000 in
theorem wd_t434 : (Jvm.Cond.lays "LentBoxes" "LentBoxes" "latestFault" "I") ∈ Tw := tm_2 (i := 194) rfl rfl
set_option maxRecDepth 100000 in
theorem wd_t436 : (Jvm.Cond.lays "LentBoxes" "LentBoxes" "soonPlot" "I") ∈ Tw := tm_2 (i := 196) rfl rfl
set_option maxRecDepth 100000 in
theorem wd_t438 : (Jvm.Cond.lays "LentBoxes" "LentBoxes" "ringLength" "I") ∈ Tw := tm_2 (i := 198) rfl rfl
set_option maxRecDepth 100000 in
theorem wd_t440 : (Jvm.Cond.lays "LentBoxes" "LentBoxes" "asked" "I") ∈ Tw := tm_2 (i := 200) rfl rfl
set_option maxRecDepth 100000 in
theorem wd_t442 : (Jvm.Cond.lays "LentBoxes" "LentBoxes" "tagLength" "I") ∈ Tw := tm_2 (i := 202) rfl rfl
set_option maxRecDepth 100000 in
theorem wd_t444 : (Jvm.Cond.lays "LentBoxes" "LentBoxes" "anyTold" "Z") ∈ Tw := tm_2 (i := 204) rfl rfl
set_option maxRecDepth 100000 in
theorem wd_t447 : (Jvm.Cond.methodLink "LentBoxesLaw" (26 : Nat) ({ cls := "LentBoxes", name := "feed", desc := "(IIIII)I" } : Jvm.MethodName)) ∈ Tw := tm_2 (i := 207) rfl rfl
set_option maxRecDepth 100000 in
theorem wd_t448 : (Jvm.Cond.instanceMethod ({ cls := "LentBoxes", name := "feed", desc := "(IIIII)I" } : Jvm.MethodName)) ∈ Tw := tm_2 (i := 208) rfl rfl
set_option maxRecDepth 100000 in
theorem wd_t449 : (Jvm.Cond.selects "LentBoxes" ({ cls := "LentBoxes", name := "feed", desc := "(IIIII)I" } : Jvm.MethodName) ({ cls := "LentBoxes", name := "feed", desc := "(IIIII)I" } : Jvm.MethodName)) ∈ Tw := tm_2 (i := 209) rfl rfl
set_option maxRecDepth 100000 in
theorem wd_t450 : (Jvm.Cond.code ({ cls := "LentBoxes", name := "feed", desc := "(IIIII)I" } : Jvm.MethodName) prog_1_method_2_code (6 : Nat) (Option.some Jvm.ClassFile.FieldType.int)) ∈ Tw := tm_2 (i := 210) rfl rfl
set_option maxRecDepth 100000 in
theorem wd_t451 : (Jvm.Cond.methodLink "LentBoxes" (97 : Nat) ({ cls := "LentBoxes$Tape", name := "append", desc := "(I)V" } : Jvm.MethodName)) ∈ Tw := tm_2 (i := 211) rfl rfl
set_option maxRecDepth 100000 in
theorem wd_t452 : (Jvm.Cond.instanceMethod ({ cls := "LentBoxes$Tape", name := "append", desc := "(I)V" } : Jvm.MethodName)) ∈ Tw := tm_2 (i := 212) rfl rfl
set_option maxRecDepth 100000 in
theorem wd_t453 : (Jvm.Cond.selects "LentBoxes$Tape" ({ cls := "LentBoxes$Tape", name := "append", desc := "(I)V" } : Jvm.MethodName) ({ cls := "LentBoxes$Tape", name := "append", desc := "(I)V" } : Jvm.MethodName)) ∈ Tw := tm_2 (i := 213) rfl rfl
set_option maxRecDepth 100000 in
theorem wd_t454 : (Jvm.Cond.code ({ cls := "LentBoxes$Tape", name := "append", desc := "(I)V" } : Jvm.MethodName) prog_9_method_2_code (3 : Nat) (Option.none : Option Jvm.ClassFile.FieldType)) ∈ Tw := tm_2 (i := 214) rfl rfl
set_option maxRecDepth 100000 in
theorem wd_t455 : (Jvm.Cond.methodLink "LentBoxesLaw" (31 : Nat) ({ cls := "LentBoxes", name := "end", desc := "(I)Z" } : Jvm.MethodName)) ∈ Tw := tm_2 (i := 215) rfl rfl
set_option maxRecDepth 100000 in
theorem wd_t456 : (Jvm.Cond.instanceMethod ({ cls := "LentBoxes", name := "end", desc := "(I)Z" } : Jvm.MethodName)) ∈ Tw := tm_2 (i := 216) rfl rfl
set_option maxRecDepth 100000 in
theorem wd_t457 : (Jvm.Cond.selects "LentBoxes" ({ cls := "LentBoxes", name := "end", desc := "(I)Z" } : Jvm.MethodName) ({ cls := "LentBoxes", name := "end", desc := "(I)Z" } : Jvm.MethodName)) ∈ Tw := tm_2 (i := 217) rfl rfl
set_option maxRecDepth 100000 in
theorem wd_t458 : (Jvm.Cond.code ({ cls := "LentBoxes", name := "end", desc := "(I)Z" } : Jvm.MethodName) prog_1_method_3_code (2 : Nat) (Option.some Jvm.ClassFile.FieldType.boolean)) ∈ Tw := tm_2 (i := 218) rfl rfl
set_option maxRecDepth 100000 in
theorem wd_t459 : (Jvm.Cond.methodLink "LentBoxesLaw" (36 : Nat) ({ cls := "LentBoxes", name := "vestry", desc := "()I" } : Jvm.MethodName)) ∈ Tw := tm_2 (i := 219) rfl rfl
set_option maxRecDepth 100000 in
theorem wd_t460 : (Jvm.Cond.instanceMethod ({ cls := "LentBoxes", name := "vestry", desc := "()I" } : Jvm.MethodName)) ∈ Tw := tm_2 (i := 220) rfl rfl
set_option maxRecDepth 100000 in
theorem wd_t461 : (Jvm.Cond.selects "LentBoxes" ({ cls := "LentBoxes", name := "vestry", desc := "()I" } : Jvm.MethodName) ({ cls := "LentBoxes", name := "vestry", desc := "()I" } : Jvm.MethodName)) ∈ Tw := tm_2 (i := 221) rfl rfl
set_option maxRecDepth 100000 in
theorem wd_t462 : (Jvm.Cond.code ({ cls := "LentBoxes", name := "vestry", desc := "()I" } : Jvm.MethodName) prog_1_method_4_code (2 : Nat) (Option.some Jvm.ClassFile.FieldType.int)) ∈ Tw := tm_2 (i := 222) rfl rfl
set_option maxRecDepth 100000 in
theorem wd_t463 : (Jvm.Cond.methodLink "LentBoxes" (101 : Nat) ({ cls := "LentBoxes$Tape", name := "open", desc := "(I)V" } : Jvm.MethodName)) ∈ Tw := tm_2 (i := 223) rfl rfl
set_option maxRecDepth 100000 in
theorem wd_t464 : (Jvm.Cond.instanceMethod ({ cls := "LentBoxes$Tape", name := "open", desc := "(I)V" } : Jvm.MethodName)) ∈ Tw := tm_2 (i := 224) rfl rfl
set_option maxRecDepth 100000 in
theorem wd_t465 : (Jvm.Cond.selects "LentBoxes$Tape" ({ cls := "LentBoxes$Tape", name := "open", desc := "(I)V" } : Jvm.MethodName) ({ cls := "LentBoxes$Tape", name := "open", desc := "(I)V" } : Jvm.MethodName)) ∈ Tw := tm_2 (i := 225) rfl rfl
set_option maxRecDepth 100000 in
theorem wd_t466 : (Jvm.Cond.code ({ cls := "LentBoxes$Tape", name := "open", desc := "(I)V" } : Jvm.MethodName) prog_9_method_4_code (2 : Nat) (Option.none : Option Jvm.ClassFile.FieldType)) ∈ Tw := tm_2 (i := 226) rfl rfl
set_option maxRecDepth 100000 in
theorem wd_t467 : (Jvm.Cond.methodLink "LentBoxes$Tape" (34 : Nat) ({ cls := "LentBoxes$Tape", name := "advance", desc := "()V" } : Jvm.MethodName)) ∈ Tw := tm_2 (i := 227) rfl rfl
set_option maxRecDepth 100000 in
theorem wd_t468 : (Jvm.Cond.instanceMethod ({ cls := "LentBoxes$Tape", name := "advance", desc := "()V" } : Jvm.MethodName)) ∈ Tw := tm_2 (i := 228) rfl rfl
set_option maxRecDepth 100000 in
theorem wd_t469 : (Jvm.Cond.selects "LentBoxes$Tape" ({ cls := "LentBoxes$Tape", name := "advance", desc := "()V" } : Jvm.MethodName) ({ cls := "LentBoxes$Tape", name := "advance", desc := "()V" } : Jvm.MethodName)) ∈ Tw := tm_2 (i := 229) rfl rfl
set_option maxRecDepth 100000 in
theorem wd_t470 : (Jvm.Cond.code ({ cls := "LentBoxes$Tape", name := "advance", desc := "()V" } : Jvm.MethodName) prog_9_method_5_code (5 : Nat) (Option.none : Option Jvm.ClassFile.FieldType)) ∈ Tw := tm_2 (i := 230) rfl rfl
set_option maxRecDepth 100000 in
theorem wd_t471 : (Jvm.Cond.methodLink "LentBoxes$Tape" (37 : Nat) ({ cls := "java/lang/Math", name := "min", desc := "(II)I" } : Jvm.MethodName)) ∈ Tw := tm_2 (i := 231) rfl rfl
set_option maxRecDepth 100000 in
theorem wd_t472 : (Jvm.Cond.static ({ cls := "java/lang/Math", name := "min", desc := "(II)I" } : Jvm.MethodName)) ∈ Tw := tm_2 (i := 232) rfl rfl
set_option maxRecDepth 100000 in
theorem wd_t473 : (Jvm.Cond.code ({ cls := "java/lang/Math", name := "min", desc := "(II)I" } : Jvm.MethodName) prog_21_method_69_code (2 : Nat) (Option.some Jvm.ClassFile.FieldType.int)) ∈ Tw := tm_2 (i := 233) rfl rfl
set_option maxRecDepth 100000 in
theorem wd_t474 : (Jvm.Cond.methodLink "LentBoxes$Tape" (60 : Nat) ({ cls := "LentBoxes$Tape", name := "signOf", desc := "(I)I" } : Jvm.MethodName)) ∈ Tw := tm_2 (i := 234) rfl rfl
set_option maxRecDepth 100000 in
theorem wd_t475 : (Jvm.Cond.static ({ cls := "LentBoxes$Tape", name := "signOf", desc := "(I)I" } : Jvm.MethodName)) ∈ Tw := tm_2 (i := 235) rfl rfl
set_option maxRecDepth 100000 in
theorem wd_t476 : (Jvm.Cond.code ({ cls := "LentBoxes$Tape", name := "signOf", desc := "(I)I" } : Jvm.MethodName) prog_9_method_6_code (2 : Nat) (Option.some Jvm.ClassFile.FieldType.int)) ∈ Tw := tm_2 (i := 236) rfl rfl
set_option maxRecDepth 100000 in
theorem wd_t477 : (Jvm.Cond.methodLink "LentBoxes$Tape" (64 : Nat) ({ cls := "LentBoxes$Word", name := "of", desc := "(J)LLentBoxes$Word;" } : Jvm.MethodName)) ∈ Tw := tm_2 (i := 237) rfl rfl
set_option maxRecDepth 100000 in
theorem wd_t478 : (Jvm.Cond.static ({ cls := "LentBoxes$Word", name := "of", desc := "(J)LLentBoxes$Word;" } : Jvm.MethodName)) ∈ Tw := tm_2 (i := 238) rfl rfl
set_option maxRecDepth 100000 in
theorem wd_t479 : (Jvm.Cond.code ({ cls := "LentBoxes$Word", name := "of", desc := "(J)LLentBoxes$Word;" } : Jvm.MethodName) prog_11_method_4_code (3 : Nat) (Option.some (Jvm.ClassFile.FieldType.object "LentBoxes$Word"))) ∈ Tw := tm_2 (i := 239) rfl rfl
set_option maxRecDepth 100000 in
theorem wd_t480 : (Jvm.Cond.fieldLink "LentBoxes$Word" (109 : Nat) "LentBoxes$Word" "ALL" "[LLentBoxes$Word;") ∈ Tw := tm_3 (i := 0) rfl rfl
set_option maxRecDepth 100000 in
theorem wd_t481 : (Jvm.Cond.laysStatic "LentBoxes$Word" "ALL" "[LLentBoxes$Word;") ∈ lw_tbl := tl_3 (i := 1) rfl
set_option maxRecDepth 100000 in
theorem wd_t482 : (Jvm.Cond.methodLink "LentBoxes" (104 : Nat) ({ cls := "LentBoxes$Vestry", name := "readFrom", desc := "(LLentBoxes$Tape;)I" } : Jvm.MethodName)) ∈ Tw := tm_3 (i := 2) rfl rfl
set_option maxRecDepth 100000 in
theorem wd_t483 : (Jvm.Cond.instanceMethod ({ cls := "LentBoxes$Vestry", name := "readFrom", desc := "(LLentBoxes$Tape;)I" } : Jvm.MethodName)) ∈ Tw := tm_3 (i := 3) rfl rfl
set_option maxRecDepth 100000 in
theorem wd_t484 : (Jvm.Cond.selects "LentBoxes$Vestry" ({ cls := "LentBoxes$Vestry", name := "readFrom", desc := "(LLentBoxes$Tape;)I" } : Jvm.MethodName) ({ cls := "LentBoxes$Vestry", name := "readFrom", desc := "(LLentBoxes$Tape;)I" } : Jvm.MethodName)) ∈ Tw := tm_3 (i := 4) rfl rfl
set_option maxRecDepth 100000 in
theorem wd_t485 : (Jvm.Cond.code ({ cls := "LentBoxes$Vestry", name := "readFrom", desc := "(LLentBoxes$Tape;)I" } : Jvm.MethodName) prog_10_method_7_code (3 : Nat) (Option.some Jvm.ClassFile.FieldType.int)) ∈ Tw := tm_3 (i := 5) rfl rfl
set_option maxRecDepth 100000 in
theorem wd_t486 : (Jvm.Cond.methodLink "LentBoxes$Vestry" (78 : Nat) ({ cls := "java/util/Arrays", name := "fill", desc := "([II)V" } : Jvm.MethodName)) ∈ Tw := tm_3 (i := 6) rfl rfl
set_option maxRecDepth 100000 in
theorem wd_t487 : (Jvm.Cond.methodLink "LentBoxes$Vestry" (89 : Nat) ({ cls := "LentBoxes$Vestry", name := "readLine", desc := "(LLentBoxes$Tape;)Z" } : Jvm.MethodName)) ∈ Tw := tm_3 (i := 7) rfl rfl
set_option maxRecDepth 100000 in
theorem wd_t489 : (Jvm.Cond.instanceMethod ({ cls := "LentBoxes$Vestry", name := "readLine", desc := "(LLentBoxes$Tape;)Z" } : Jvm.MethodName)) ∈ Tw := tm_3 (i := 9) rfl rfl
set_option maxRecDepth 100000 in
theorem wd_t490 : (Jvm.Cond.code ({ cls := "LentBoxes$Vestry", name := "readLine", desc := "(LLentBoxes$Tape;)Z" } : Jvm.MethodName) prog_10_method_8_code (3 : Nat) (Option.some Jvm.ClassFile.FieldType.boolean)) ∈ Tw := tm_3 (i := 10) rfl rfl
set_option maxRecDepth 100000 in
theorem wd_t491 : (Jvm.Cond.methodLink "LentBoxes$Vestry" (101 : Nat) ({ cls := "LentBoxes$Tape", name := "fail", desc := "(I)Z" } : Jvm.MethodName)) ∈ Tw := tm_3 (i := 11) rfl rfl
set_option maxRecDepth 100000 in
theorem wd_t492 : (Jvm.Cond.instanceMethod ({ cls := "LentBoxes$Tape", name := "fail", desc := "(I)Z" } : Jvm.MethodName)) ∈ Tw := tm_3 (i := 12) rfl rfl
set_option maxRecDepth 100000 in
theorem wd_t493 : (Jvm.Cond.selects "LentBoxes$Tape" ({ cls := "LentBoxes$Tape", name := "fail", desc := "(I)Z" } : Jvm.MethodName) ({ cls := "LentBoxes$Tape", name := "fail", desc := "(I)Z" } : Jvm.MethodName)) ∈ Tw := tm_3 (i := 13) rfl rfl
set_option maxRecDepth 100000 in
theorem wd_t494 : (Jvm.Cond.code ({ cls := "LentBoxes$Tape", name := "fail", desc := "(I)Z" } : Jvm.MethodName) prog_9_method_7_code (2 : Nat) (Option.some Jvm.ClassFile.FieldType.boolean)) ∈ Tw := tm_3 (i := 14) rfl rfl
set_option maxRecDepth 100000 in
theorem wd_t495 : (Jvm.Cond.fieldLink "LentBoxes$Vestry" (104 : Nat) "LentBoxes$1" "$SwitchMap$LentBoxes$Word" "[I") ∈ Tw := tm_3 (i := 15) rfl rfl
set_option maxRecDepth 100000 in
theorem wd_t496 : (Jvm.Cond.laysStatic "LentBoxes$1" "$SwitchMap$LentBoxes$Word" "[I") ∈ lw_tbl := tl_3 (i := 16) rfl
set_option maxRecDepth 100000 in
theorem wd_t497 : (Jvm.Cond.methodLink "LentBoxes$Vestry" (109 : Nat) ({ cls := "LentBoxes$Word", name := "ordinal", desc := "()I" } : Jvm.MethodName)) ∈ Tw := tm_3 (i := 17) rfl rfl
set_option maxRecDepth 100000 in
theorem wd_t498 : (Jvm.Cond.sameMethod "LentBoxes$Word" "java/lang/Enum" "ordinal" "()I") ∈ Tw := tm_3 (i := 18) rfl rfl
set_option maxRecDepth 100000 in
theorem wd_t500 : (Jvm.Cond.selects "LentBoxes$Word" ({ cls := "LentBoxes$Word", name := "ordinal", desc := "()I" } : Jvm.MethodName) ({ cls := "java/lang/Enum", name := "ordinal", desc := "()I" } : Jvm.MethodName)) ∈ Tw := tm_3 (i := 20) rfl rfl
set_option maxRecDepth 100000 in
theorem wd_t501 : (Jvm.Cond.instanceMethod ({ cls := "java/lang/Enum", name := "ordinal", desc := "()I" } : Jvm.MethodName)) ∈ Tw := tm_3 (i := 21) rfl rfl
set_option maxRecDepth 100000 in
theorem wd_t502 : (Jvm.Cond.code ({ cls := "java/lang/Enum", name := "ordinal", desc := "()I" } : Jvm.MethodName) prog_18_method_2_code (1 : Nat) (Option.some Jvm.ClassFile.FieldType.int)) ∈ Tw := tm_3 (i := 22) rfl rfl
set_option maxRecDepth 100000 in
theorem wd_t503 : (Jvm.Cond.methodLink "LentBoxes$Vestry" (115 : Nat) ({ cls := "LentBoxes$Vestry", name := "readBox", desc := "(LLentBoxes$Tape;)Z" } : Jvm.MethodName)) ∈ Tw := tm_3 (i := 23) rfl rfl
set_option maxRecDepth 100000 in
theorem wd_t505 : (Jvm.Cond.instanceMethod ({ cls := "LentBoxes$Vestry", name := "readBox", desc := "(LLentBoxes$Tape;)Z" } : Jvm.MethodName)) ∈ Tw := tm_3 (i := 25) rfl rfl
set_option maxRecDepth 100000 in
theorem wd_t506 : (Jvm.Cond.code ({ cls := "LentBoxes$Vestry", name := "readBox", desc := "(LLentBoxes$Tape;)Z" } : Jvm.MethodName) prog_10_method_9_code (2 : Nat) (Option.some Jvm.ClassFile.FieldType.boolean)) ∈ Tw := tm_3 (i := 26) rfl rfl
set_option maxRecDepth 100000 in
theorem wd_t507 : (Jvm.Cond.methodLink "LentBoxes$Vestry" (136 : Nat) ({ cls := "LentBoxes$Tape", name := "advance", desc := "()V" } : Jvm.MethodName)) ∈ Tw := tm_3 (i := 27) rfl rfl
set_option maxRecDepth 100000 in
theorem wd_t508 : (Jvm.Cond.methodLink "LentBoxes$Vestry" (143 : Nat) ({ cls := "LentBoxes$Vestry", name := "takeNewName", desc := "(LLentBoxes$Tape;)Z" } : Jvm.MethodName)) ∈ Tw := tm_3 (i := 28) rfl rfl
set_option maxRecDepth 100000 in
theorem wd_t510 : (Jvm.Cond.instanceMethod ({ cls := "LentBoxes$Vestry", name := "takeNewName", desc := "(LLentBoxes$Tape;)Z" } : Jvm.MethodName)) ∈ Tw := tm_3 (i := 30) rfl rfl
set_option maxRecDepth 100000 in
theorem wd_t511 : (Jvm.Cond.code ({ cls := "LentBoxes$Vestry", name := "takeNewName", desc := "(LLentBoxes$Tape;)Z" } : Jvm.MethodName) prog_10_method_16_code (2 : Nat) (Option.some Jvm.ClassFile.FieldType.boolean)) ∈ Tw := tm_3 (i := 31) rfl rfl
set_option maxRecDepth 100000 in
theorem wd_t512 : (Jvm.Cond.methodLink "LentBoxes$Vestry" (164 : Nat) ({ cls := "LentBoxes$Vestry", name := "placeOf", desc := "(J[JI)I" } : Jvm.MethodName)) ∈ Tw := tm_3 (i := 32) rfl rfl
set_option maxRecDepth 100000 in
theorem wd_t513 : (Jvm.Cond.static ({ cls := "LentBoxes$Vestry", name := "placeOf", desc := "(J[JI)I" } : Jvm.MethodName)) ∈ Tw := tm_3 (i := 33) rfl rfl
set_option maxRecDepth 100000 in
theorem wd_t514 : (Jvm.Cond.code ({ cls := "LentBoxes$Vestry", name := "placeOf", desc := "(J[JI)I" } : Jvm.MethodName) prog_10_method_17_code (5 : Nat) (Option.some Jvm.ClassFile.FieldType.int)) ∈ Tw := tm_3 (i := 34) rfl rfl
set_option maxRecDepth 100000 in
theorem wd_t515 : (Jvm.Cond.methodLink "LentBoxes$Vestry" (146 : Nat) ({ cls := "LentBoxes$Tape", name := "takeNumber", desc := "(II)I" } : Jvm.MethodName)) ∈ Tw := tm_3 (i := 35) rfl rfl
set_option maxRecDepth 100000 in
theorem wd_t516 : (Jvm.Cond.instanceMethod ({ cls := "LentBoxes$Tape", name := "takeNumber", desc := "(II)I" } : Jvm.MethodName)) ∈ Tw := tm_3 (i := 36) rfl rfl
set_option maxRecDepth 100000 in
theorem wd_t517 : (Jvm.Cond.selects "LentBoxes$Tape" ({ cls := "LentBoxes$Tape", name := "takeNumber", desc := "(II)I" } : Jvm.MethodName) ({ cls := "LentBoxes$Tape", name := "takeNumber", desc := "(II)I" } : Jvm.MethodName)) ∈ Tw := tm_3 (i := 37) rfl rfl
set_option maxRecDepth 100000 in
theorem wd_t518 : (Jvm.Cond.code ({ cls := "LentBoxes$Tape", name := "takeNumber", desc := "(II)I" } : Jvm.MethodName) prog_9_method_10_code (4 : Nat) (Option.some Jvm.ClassFile.FieldType.int)) ∈ Tw := tm_3 (i := 38) rfl rfl
set_option maxRecDepth 100000 in
theorem wd_t519 : (Jvm.Cond.methodLink "LentBoxes$Tape" (70 : Nat) ({ cls := "LentBoxes$Tape", name := "fail", desc := "(I)Z" } : Jvm.MethodName)) ∈ Tw := tm_3 (i := 39) rfl rfl
set_option maxRecDepth 100000 in
theorem wd_t520 : (Jvm.Cond.methodLink "LentBoxes$Vestry" (118 : Nat) ({ cls := "LentBoxes$Vestry", name := "readPlot", desc := "(LLentBoxes$Tape;)Z" } : Jvm.MethodName)) ∈ Tw := tm_3 (i := 40) rfl rfl
set_option maxRecDepth 100000 in
theorem wd_t522 : (Jvm.Cond.instanceMethod ({ cls := "LentBoxes$Vestry", name := "readPlot", desc := "(LLentBoxes$Tape;)Z" } : Jvm.MethodName)) ∈ Tw := tm_3 (i := 42) rfl rfl
set_option maxRecDepth 100000 in
theorem wd_t523 : (Jvm.Cond.code ({ cls := "LentBoxes$Vestry", name := "readPlot", desc := "(LLentBoxes$Tape;)Z" } : Jvm.MethodName) prog_10_method_10_code (2 : Nat) (Option.some Jvm.ClassFile.FieldType.boolean)) ∈ Tw := tm_3 (i := 43) rfl rfl
set_option maxRecDepth 100000 in
theorem wd_t524 : (Jvm.Cond.methodLink "LentBoxes$Vestry" (121 : Nat) ({ cls := "LentBoxes$Vestry", name := "readOne", desc := "(LLentBoxes$Tape;)Z" } : Jvm.MethodName)) ∈ Tw := tm_3 (i := 44) rfl rfl
set_option maxRecDepth 100000 in
theorem wd_t526 : (Jvm.Cond.instanceMethod ({ cls := "LentBoxes$Vestry", name := "readOne", desc := "(LLentBoxes$Tape;)Z" } : Jvm.MethodName)) ∈ Tw := tm_3 (i := 46) rfl rfl
set_option maxRecDepth 100000 in
theorem wd_t527 : (Jvm.Cond.code ({ cls := "LentBoxes$Vestry", name := "readOne", desc := "(LLentBoxes$Tape;)Z" } : Jvm.MethodName) prog_10_method_11_code (2 : Nat) (Option.some Jvm.ClassFile.FieldType.boolean)) ∈ Tw := tm_3 (i := 47) rfl rfl
set_option maxRecDepth 100000 in
theorem wd_t528 : (Jvm.Cond.methodLink "LentBoxes$Vestry" (124 : Nat) ({ cls := "LentBoxes$Vestry", name := "readKin", desc := "(LLentBoxes$Tape;)Z" } : Jvm.MethodName)) ∈ Tw := tm_3 (i := 48) rfl rfl
set_option maxRecDepth 100000 in
theorem wd_t530 : (Jvm.Cond.instanceMethod ({ cls := "LentBoxes$Vestry", name := "readKin", desc := "(LLentBoxes$Tape;)Z" } : Jvm.MethodName)) ∈ Tw := tm_3 (i := 50) rfl rfl
set_option maxRecDepth 100000 in
theorem wd_t531 : (Jvm.Cond.code ({ cls := "LentBoxes$Vestry", name := "readKin", desc := "(LLentBoxes$Tape;)Z" } : Jvm.MethodName) prog_10_method_12_code (4 : Nat) (Option.some Jvm.ClassFile.FieldType.boolean)) ∈ Tw := tm_3 (i := 51) rfl rfl
set_option maxRecDepth 100000 in
theorem wd_t532 : (Jvm.Cond.methodLink "LentBoxes$Vestry" (150 : Nat) ({ cls := "LentBoxes$Vestry", name := "takeDead", desc := "(LLentBoxes$Tape;)I" } : Jvm.MethodName)) ∈ Tw := tm_3 (i := 52) rfl rfl
set_option maxRecDepth 100000 in
theorem wd_t533 : (Jvm.Cond.instanceMethod ({ cls := "LentBoxes$Vestry", name := "takeDead", desc := "(LLentBoxes$Tape;)I" } : Jvm.MethodName)) ∈ Tw := tm_3 (i := 53) rfl rfl
set_option maxRecDepth 100000 in
theorem wd_t534 : (Jvm.Cond.selects "LentBoxes$Vestry" ({ cls := "LentBoxes$Vestry", name := "takeDead", desc := "(LLentBoxes$Tape;)I" } : Jvm.MethodName) ({ cls := "LentBoxes$Vestry", name := "takeDead", desc := "(LLentBoxes$Tape;)I" } : Jvm.MethodName)) ∈ Tw := tm_3 (i := 54) rfl rfl
set_option maxRecDepth 100000 in
theorem wd_t535 : (Jvm.Cond.code ({ cls := "LentBoxes$Vestry", name := "takeDead", desc := "(LLentBoxes$Tape;)I" } : Jvm.MethodName) prog_10_method_20_code (3 : Nat) (Option.some Jvm.ClassFile.FieldType.int)) ∈ Tw := tm_3 (i := 55) rfl rfl
set_option maxRecDepth 100000 in
theorem wd_t536 : (Jvm.Cond.methodLink "LentBoxes$Vestry" (168 : Nat) ({ cls := "LentBoxes$Vestry", name := "see", desc := "(LLentBoxes$Tape;[JI)I" } : Jvm.MethodName)) ∈ Tw := tm_3 (i := 56) rfl rfl
set_option maxRecDepth 100000 in
theorem wd_t537 : (Jvm.Cond.static ({ cls := "LentBoxes$Vestry", name := "see", desc := "(LLentBoxes$Tape;[JI)I" } : Jvm.MethodName)) ∈ Tw := tm_3 (i := 57) rfl rfl
set_option maxRecDepth 100000 in
theorem wd_t538 : (Jvm.Cond.code ({ cls := "LentBoxes$Vestry", name := "see", desc := "(LLentBoxes$Tape;[JI)I" } : Jvm.MethodName) prog_10_method_18_code (4 : Nat) (Option.some Jvm.ClassFile.FieldType.int)) ∈ Tw := tm_3 (i := 58) rfl rfl
set_option maxRecDepth 100000 in
theorem wd_t539 : (Jvm.Cond.methodLink "LentBoxes$Vestry" (154 : Nat) ({ cls := "LentBoxes$Vestry", name := "seeDead", desc := "(LLentBoxes$Tape;)I" } : Jvm.MethodName)) ∈ Tw := tm_3 (i := 59) rfl rfl
set_option maxRecDepth 100000 in
theorem wd_t540 : (Jvm.Cond.instanceMethod ({ cls := "LentBoxes$Vestry", name := "seeDead", desc := "(LLentBoxes$Tape;)I" } : Jvm.MethodName)) ∈ Tw := tm_3 (i := 60) rfl rfl
set_option maxRecDepth 100000 in
theorem wd_t541 : (Jvm.Cond.selects "LentBoxes$Vestry" ({ cls := "LentBoxes$Vestry", name := "seeDead", desc := "(LLentBoxes$Tape;)I" } : Jvm.MethodName) ({ cls := "LentBoxes$Vestry", name := "seeDead", desc := "(LLentBoxes$Tape;)I" } : Jvm.MethodName)) ∈ Tw := tm_3 (i := 61) rfl rfl
set_option maxRecDepth 100000 in
theorem wd_t542 : (Jvm.Cond.code ({ cls := "LentBoxes$Vestry", name := "seeDead", desc := "(LLentBoxes$Tape;)I" } : Jvm.MethodName) prog_10_method_19_code (2 : Nat) (Option.some Jvm.ClassFile.FieldType.int)) ∈ Tw := tm_3 (i := 62) rfl rfl
set_option maxRecDepth 100000 in
theorem wd_t543 : (Jvm.Cond.methodLink "LentBoxes$Vestry" (157 : Nat) ({ cls := "LentBoxes$Vestry", name := "areKin", desc := "(II)Z" } : Jvm.MethodName)) ∈ Tw := tm_3 (i := 63) rfl rfl
set_option maxRecDepth 100000 in
theorem wd_t544 : (Jvm.Cond.instanceMethod ({ cls := "LentBoxes$Vestry", name := "areKin", desc := "(II)Z" } : Jvm.MethodName)) ∈ Tw := tm_3 (i := 64) rfl rfl
set_option maxRecDepth 100000 in
theorem wd_t545 : (Jvm.Cond.selects "LentBoxes$Vestry" ({ cls := "LentBoxes$Vestry", name := "areKin", desc := "(II)Z" } : Jvm.MethodName) ({ cls := "LentBoxes$Vestry", name := "areKin", desc := "(II)Z" } : Jvm.MethodName)) ∈ Tw := tm_3 (i := 65) rfl rfl
set_option maxRecDepth 100000 in
theorem wd_t546 : (Jvm.Cond.code ({ cls := "LentBoxes$Vestry", name := "areKin", desc := "(II)Z" } : Jvm.MethodName) prog_10_method_4_code (3 : Nat) (Option.some Jvm.ClassFile.FieldType.boolean)) ∈ Tw := tm_3 (i := 66) rfl rfl
set_option maxRecDepth 100000 in
theorem wd_t547 : (Jvm.Cond.methodLink "LentBoxes$Vestry" (127 : Nat) ({ cls := "LentBoxes$Vestry", name := "readAsks", desc := "(LLentBoxes$Tape;)Z" } : Jvm.MethodName)) ∈ Tw := tm_3 (i := 67) rfl rfl
set_option maxRecDepth 100000 in
theorem wd_t549 : (Jvm.Cond.instanceMethod ({ cls := "LentBoxes$Vestry", name := "readAsks", desc := "(LLentBoxes$Tape;)Z" } : Jvm.MethodName)) ∈ Tw := tm_3 (i := 69) rfl rfl
set_option maxRecDepth 100000 in
theorem wd_t550 : (Jvm.Cond.code ({ cls := "LentBoxes$Vestry", name := "readAsks", desc := "(LLentBoxes$Tape;)Z" } : Jvm.MethodName) prog_10_method_13_code (3 : Nat) (Option.some Jvm.ClassFile.FieldType.boolean)) ∈ Tw := tm_3 (i := 70) rfl rfl
set_option maxRecDepth 100000 in
theorem wd_t551 : (Jvm.Cond.methodLink "LentBoxes$Vestry" (161 : Nat) ({ cls := "LentBoxes$Vestry", name := "takeBox", desc := "(LLentBoxes$Tape;)I" } : Jvm.MethodName)) ∈ Tw := tm_3 (i := 71) rfl rfl
set_option maxRecDepth 100000 in
theorem wd_t552 : (Jvm.Cond.instanceMethod ({ cls := "LentBoxes$Vestry", name := "takeBox", desc := "(LLentBoxes$Tape;)I" } : Jvm.MethodName)) ∈ Tw := tm_3 (i := 72) rfl rfl
set_option maxRecDepth 100000 in
theorem wd_t553 : (Jvm.Cond.selects "LentBoxes$Vestry" ({ cls := "LentBoxes$Vestry", name := "takeBox", desc := "(LLentBoxes$Tape;)I" } : Jvm.MethodName) ({ cls := "LentBoxes$Vestry", name := "takeBox", desc := "(LLentBoxes$Tape;)I" } : Jvm.MethodName)) ∈ Tw := tm_3 (i := 73) rfl rfl
set_option maxRecDepth 100000 in
theorem wd_t554 : (Jvm.Cond.code ({ cls := "LentBoxes$Vestry", name := "takeBox", desc := "(LLentBoxes$Tape;)I" } : Jvm.MethodName) prog_10_method_21_code (3 : Nat) (Option.some Jvm.ClassFile.FieldType.int)) ∈ Tw := tm_3 (i := 74) rfl rfl
set_option maxRecDepth 100000 in
theorem wd_t555 : (Jvm.Cond.methodLink "LentBoxes$Vestry" (130 : Nat) ({ cls := "LentBoxes$Vestry", name := "readFrost", desc := "(LLentBoxes$Tape;)Z" } : Jvm.MethodName)) ∈ Tw := tm_3 (i := 75) rfl rfl
set_option maxRecDepth 100000 in
theorem wd_t557 : (Jvm.Cond.instanceMethod ({ cls := "LentBoxes$Vestry", name := "readFrost", desc := "(LLentBoxes$Tape;)Z" } : Jvm.MethodName)) ∈ Tw := tm_3 (i := 77) rfl rfl
set_option maxRecDepth 100000 in
theorem wd_t558 : (Jvm.Cond.code ({ cls := "LentBoxes$Vestry", name := "readFrost", desc := "(LLentBoxes$Tape;)Z" } : Jvm.MethodName) prog_10_method_14_code (2 : Nat) (Option.some Jvm.ClassFile.FieldType.boolean)) ∈ Tw := tm_3 (i := 78) rfl rfl
set_option maxRecDepth 100000 in
theorem wd_t559 : (Jvm.Cond.methodLink "LentBoxes$Vestry" (133 : Nat) ({ cls := "LentBoxes$Vestry", name := "readAir", desc := "(LLentBoxes$Tape;)Z" } : Jvm.MethodName)) ∈ Tw := tm_3 (i := 79) rfl rfl
set_option maxRecDepth 100000 in
theorem wd_t561 : (Jvm.Cond.instanceMethod ({ cls := "LentBoxes$Vestry", name := "readAir", desc := "(LLentBoxes$Tape;)Z" } : Jvm.MethodName)) ∈ Tw := tm_3 (i := 81) rfl rfl
set_option maxRecDepth 100000 in
theorem wd_t562 : (Jvm.Cond.code ({ cls := "LentBoxes$Vestry", name := "readAir", desc := "(LLentBoxes$Tape;)Z" } : Jvm.MethodName) prog_10_method_15_code (2 : Nat) (Option.some Jvm.ClassFile.FieldType.boolean)) ∈ Tw := tm_3 (i := 82) rfl rfl
set_option maxRecDepth 100000 in
theorem wd_t563 : (Jvm.Cond.methodLink "LentBoxes$Vestry" (93 : Nat) ({ cls := "LentBoxes$Tape", name := "takeSign", desc := "(I)Z" } : Jvm.MethodName)) ∈ Tw := tm_3 (i := 83) rfl rfl
set_option maxRecDepth 100000 in
theorem wd_t564 : (Jvm.Cond.instanceMethod ({ cls := "LentBoxes$Tape", name := "takeSign", desc := "(I)Z" } : Jvm.MethodName)) ∈ Tw := tm_3 (i := 84) rfl rfl
set_option maxRecDepth 100000 in
theorem wd_t565 : (Jvm.Cond.selects "LentBoxes$Tape" ({ cls := "LentBoxes$Tape", name := "takeSign", desc := "(I)Z" } : Jvm.MethodName) ({ cls := "LentBoxes$Tape", name := "takeSign", desc := "(I)Z" } : Jvm.MethodName)) ∈ Tw := tm_3 (i := 85) rfl rfl
set_option maxRecDepth 100000 in
theorem wd_t566 : (Jvm.Cond.code ({ cls := "LentBoxes$Tape", name := "takeSign", desc := "(I)Z" } : Jvm.MethodName) prog_9_method_9_code (2 : Nat) (Option.some Jvm.ClassFile.FieldType.boolean)) ∈ Tw := tm_3 (i := 86) rfl rfl
set_option maxRecDepth 100000 in
theorem wd_t567 : (Jvm.Cond.methodLink "LentBoxes" (120 : Nat) ({ cls := "LentBoxes$Vestry", name := "copyOf", desc := "(LLentBoxes$Vestry;)V" } : Jvm.MethodName)) ∈ Tw := tm_3 (i := 87) rfl rfl
set_option maxRecDepth 100000 in
theorem wd_t568 : (Jvm.Cond.instanceMethod ({ cls := "LentBoxes$Vestry", name := "copyOf", desc := "(LLentBoxes$Vestry;)V" } : Jvm.MethodName)) ∈ Tw := tm_3 (i := 88) rfl rfl
set_option maxRecDepth 100000 in
theorem wd_t569 : (Jvm.Cond.selects "LentBoxes$Vestry" ({ cls := "LentBoxes$Vestry", name := "copyOf", desc := "(LLentBoxes$Vestry;)V" } : Jvm.MethodName) ({ cls := "LentBoxes$Vestry", name := "copyOf", desc := "(LLentBoxes$Vestry;)V" } : Jvm.MethodName)) ∈ Tw := tm_3 (i := 89) rfl rfl
set_option maxRecDepth 100000 in
theorem wd_t570 : (Jvm.Cond.code ({ cls := "LentBoxes$Vestry", name := "copyOf", desc := "(LLentBoxes$Vestry;)V" } : Jvm.MethodName) prog_10_method_2_code (2 : Nat) (Option.none : Option Jvm.ClassFile.FieldType)) ∈ Tw := tm_3 (i := 90) rfl rfl
set_option maxRecDepth 100000 in
theorem wd_t571 : (Jvm.Cond.methodLink "LentBoxes$Vestry" (72 : Nat) ({ cls := "java/lang/System", name := "arraycopy", desc := "(Ljava/lang/Object;ILjava/lang/Object;II)V" } : Jvm.MethodName)) ∈ Tw := tm_3 (i := 91) rfl rfl
set_option maxRecDepth 100000 in
theorem wd_t572 : (Jvm.Cond.static ({ cls := "java/lang/System", name := "arraycopy", desc := "(Ljava/lang/Object;ILjava/lang/Object;II)V" } : Jvm.MethodName)) ∈ Tw := tm_3 (i := 92) rfl rfl
set_option maxRecDepth 100000 in
theorem wd_t573 : (Jvm.Cond.native ({ cls := "java/lang/System", name := "arraycopy", desc := "(Ljava/lang/Object;ILjava/lang/Object;II)V" } : Jvm.MethodName)) ∈ Tw := tm_3 (i := 93) rfl rfl
set_option maxRecDepth 100000 in
theorem wd_t574 : (Jvm.Cond.methodLink "LentBoxes" (127 : Nat) ({ cls := "LentBoxes$State", name := "begin", desc := "(LLentBoxes$Vestry;)V" } : Jvm.MethodName)) ∈ Tw := tm_3 (i := 94) rfl rfl
set_option maxRecDepth 100000 in
theorem wd_t575 : (Jvm.Cond.methodLink "LentBoxes" (133 : Nat) ({ cls := "LentBoxes$Sentence", name := "wipe", desc := "()V" } : Jvm.MethodName)) ∈ Tw := tm_3 (i := 95) rfl rfl
set_option maxRecDepth 100000 in
theorem wd_t576 : (Jvm.Cond.instanceMethod ({ cls := "LentBoxes$Sentence", name := "wipe", desc := "()V" } : Jvm.MethodName)) ∈ Tw := tm_3 (i := 96) rfl rfl
set_option maxRecDepth 100000 in
theorem wd_t577 : (Jvm.Cond.selects "LentBoxes$Sentence" ({ cls := "LentBoxes$Sentence", name := "wipe", desc := "()V" } : Jvm.MethodName) ({ cls := "LentBoxes$Sentence", name := "wipe", desc := "()V" } : Jvm.MethodName)) ∈ Tw := tm_3 (i := 97) rfl rfl
set_option maxRecDepth 100000 in
theorem wd_t578 : (Jvm.Cond.code ({ cls := "LentBoxes$Sentence", name := "wipe", desc := "()V" } : Jvm.MethodName) prog_7_method_2_code (1 : Nat) (Option.none : Option Jvm.ClassFile.FieldType)) ∈ Tw := tm_3 (i := 98) rfl rfl
set_option maxRecDepth 100000 in
theorem wd_t579 : (Jvm.Cond.methodLink "LentBoxes" (136 : Nat) ({ cls := "LentBoxes$Past", name := "forget", desc := "()V" } : Jvm.MethodName)) ∈ Tw := tm_3 (i := 99) rfl rfl
set_option maxRecDepth 100000 in
theorem wd_t580 : (Jvm.Cond.instanceMethod ({ cls := "LentBoxes$Past", name := "forget", desc := "()V" } : Jvm.MethodName)) ∈ Tw := tm_3 (i := 100) rfl rfl
set_option maxRecDepth 100000 in
theorem wd_t581 : (Jvm.Cond.selects "LentBoxes$Past" ({ cls := "LentBoxes$Past", name := "forget", desc := "()V" } : Jvm.MethodName) ({ cls := "LentBoxes$Past", name := "forget", desc := "()V" } : Jvm.MethodName)) ∈ Tw := tm_3 (i := 101) rfl rfl
set_option maxRecDepth 100000 in
theorem wd_t582 : (Jvm.Cond.code ({ cls := "LentBoxes$Past", name := "forget", desc := "()V" } : Jvm.MethodName) prog_6_method_4_code (1 : Nat) (Option.none : Option Jvm.ClassFile.FieldType)) ∈ Tw := tm_3 (i := 102) rfl rfl
set_option maxRecDepth 100000 in
theorem wd_t583 : (Jvm.Cond.methodLink "LentBoxesLaw" (41 : Nat) ({ cls := "LentBoxes", name := "fault", desc := "()I" } : Jvm.MethodName)) ∈ Tw := tm_3 (i := 103) rfl rfl
set_option maxRecDepth 100000 in
theorem wd_t584 : (Jvm.Cond.instanceMethod ({ cls := "LentBoxes", name := "fault", desc := "()I" } : Jvm.MethodName)) ∈ Tw := tm_3 (i := 104) rfl rfl
set_option maxRecDepth 100000 in
theorem wd_t585 : (Jvm.Cond.selects "LentBoxes" ({ cls := "LentBoxes", name := "fault", desc := "()I" } : Jvm.MethodName) ({ cls := "LentBoxes", name := "fault", desc := "()I" } : Jvm.MethodName)) ∈ Tw := tm_3 (i := 105) rfl rfl
set_option maxRecDepth 100000 in
theorem wd_t586 : (Jvm.Cond.code ({ cls := "LentBoxes", name := "fault", desc := "()I" } : Jvm.MethodName) prog_1_method_5_code (1 : Nat) (Option.some Jvm.ClassFile.FieldType.int)) ∈ Tw := tm_3 (i := 106) rfl rfl
set_option maxRecDepth 100000 in
theorem wd_t587 : (Jvm.Cond.methodLink "LentBoxesLaw" (45 : Nat) ({ cls := "LentBoxes", name := "box", desc := "(II)I" } : Jvm.MethodName)) ∈ Tw := tm_3 (i := 107) rfl rfl
set_option maxRecDepth 100000 in
theorem wd_t588 : (Jvm.Cond.instanceMethod ({ cls := "LentBoxes", name := "box", desc := "(II)I" } : Jvm.MethodName)) ∈ Tw := tm_3 (i := 108) rfl rfl
set_option maxRecDepth 100000 in
theorem wd_t589 : (Jvm.Cond.selects "LentBoxes" ({ cls := "LentBoxes", name := "box", desc := "(II)I" } : Jvm.MethodName) ({ cls := "LentBoxes", name := "box", desc := "(II)I" } : Jvm.MethodName)) ∈ Tw := tm_3 (i := 109) rfl rfl
set_option maxRecDepth 100000 in
theorem wd_t590 : (Jvm.Cond.code ({ cls := "LentBoxes", name := "box", desc := "(II)I" } : Jvm.MethodName) prog_1_method_6_code (4 : Nat) (Option.some Jvm.ClassFile.FieldType.int)) ∈ Tw := tm_3 (i := 110) rfl rfl
set_option maxRecDepth 100000 in
theorem wd_t591 : (Jvm.Cond.methodLink "LentBoxes" (139 : Nat) ({ cls := "LentBoxes", name := "isBox", desc := "(I)Z" } : Jvm.MethodName)) ∈ Tw := tm_3 (i := 111) rfl rfl
set_option maxRecDepth 100000 in
theorem wd_t593 : (Jvm.Cond.instanceMethod ({ cls := "LentBoxes", name := "isBox", desc := "(I)Z" } : Jvm.MethodName)) ∈ Tw := tm_3 (i := 113) rfl rfl
set_option maxRecDepth 100000 in
theorem wd_t594 : (Jvm.Cond.code ({ cls := "LentBoxes", name := "isBox", desc := "(I)Z" } : Jvm.MethodName) prog_1_method_42_code (2 : Nat) (Option.some Jvm.ClassFile.FieldType.boolean)) ∈ Tw := tm_3 (i := 114) rfl rfl
set_option maxRecDepth 100000 in
theorem wd_t595 : (Jvm.Cond.methodLink "LentBoxes" (155 : Nat) ({ cls := "LentBoxes$State", name := "boxFree", desc := "(I)Z" } : Jvm.MethodName)) ∈ Tw := tm_3 (i := 115) rfl rfl
set_option maxRecDepth 100000 in
theorem wd_t596 : (Jvm.Cond.instanceMethod ({ cls := "LentBoxes$State", name := "boxFree", desc := "(I)Z" } : Jvm.MethodName)) ∈ Tw := tm_3 (i := 116) rfl rfl
set_option maxRecDepth 100000 in
theorem wd_t597 : (Jvm.Cond.selects "LentBoxes$State" ({ cls := "LentBoxes$State", name := "boxFree", desc := "(I)Z" } : Jvm.MethodName) ({ cls := "LentBoxes$State", name := "boxFree", desc := "(I)Z" } : Jvm.MethodName)) ∈ Tw := tm_3 (i := 117) rfl rfl
set_option maxRecDepth 100000 in
theorem wd_t598 : (Jvm.Cond.code ({ cls := "LentBoxes$State", name := "boxFree", desc := "(I)Z" } : Jvm.MethodName) prog_8_method_5_code (2 : Nat) (Option.some Jvm.ClassFile.FieldType.boolean)) ∈ Tw := tm_3 (i := 118) rfl rfl
set_option maxRecDepth 100000 in
theorem wd_t599 : (Jvm.Cond.methodLink "LentBoxes" (161 : Nat) ({ cls := "LentBoxes$State", name := "daysTill", desc := "(I)I" } : Jvm.MethodName)) ∈ Tw := tm_3 (i := 119) rfl rfl
set_option maxRecDepth 100000 in
theorem wd_t600 : (Jvm.Cond.instanceMethod ({ cls := "LentBoxes$State", name := "daysTill", desc := "(I)I" } : Jvm.MethodName)) ∈ Tw := tm_3 (i := 120) rfl rfl
set_option maxRecDepth 100000 in
theorem wd_t601 : (Jvm.Cond.selects "LentBoxes$State" ({ cls := "LentBoxes$State", name := "daysTill", desc := "(I)I" } : Jvm.MethodName) ({ cls := "LentBoxes$State", name := "daysTill", desc := "(I)I" } : Jvm.MethodName)) ∈ Tw := tm_3 (i := 121) rfl rfl
set_option maxRecDepth 100000 in
theorem wd_t602 : (Jvm.Cond.code ({ cls := "LentBoxes$State", name := "daysTill", desc := "(I)I" } : Jvm.MethodName) prog_8_method_7_code (2 : Nat) (Option.some Jvm.ClassFile.FieldType.int)) ∈ Tw := tm_3 (i := 122) rfl rfl
set_option maxRecDepth 100000 in
theorem wd_t603 : (Jvm.Cond.methodLink "LentBoxes$State" (76 : Nat) ({ cls := "java/lang/Math", name := "max", desc := "(II)I" } : Jvm.MethodName)) ∈ Tw := tm_3 (i := 123) rfl rfl
set_option maxRecDepth 100000 in
theorem wd_t604 : (Jvm.Cond.static ({ cls := "java/lang/Math", name := "max", desc := "(II)I" } : Jvm.MethodName)) ∈ Tw := tm_3 (i := 124) rfl rfl
set_option maxRecDepth 100000 in
theorem wd_t605 : (Jvm.Cond.code ({ cls := "java/lang/Math", name := "max", desc := "(II)I" } : Jvm.MethodName) prog_21_method_65_code (2 : Nat) (Option.some Jvm.ClassFile.FieldType.int)) ∈ Tw := tm_3 (i := 125) rfl rfl
set_option maxRecDepth 100000 in
theorem wd_t606 : (Jvm.Cond.methodLink "LentBoxesLaw" (49 : Nat) ({ cls := "LentBoxes", name := "plot", desc := "(II)I" } : Jvm.MethodName)) ∈ Tw := tm_3 (i := 126) rfl rfl
set_option maxRecDepth 100000 in
theorem wd_t607 : (Jvm.Cond.instanceMethod ({ cls := "LentBoxes", name := "plot", desc := "(II)I" } : Jvm.MethodName)) ∈ Tw := tm_3 (i := 127) rfl rfl
set_option maxRecDepth 100000 in
theorem wd_t608 : (Jvm.Cond.selects "LentBoxes" ({ cls := "LentBoxes", name := "plot", desc := "(II)I" } : Jvm.MethodName) ({ cls := "LentBoxes", name := "plot", desc := "(II)I" } : Jvm.MethodName)) ∈ Tw := tm_3 (i := 128) rfl rfl
set_option maxRecDepth 100000 in
theorem wd_t609 : (Jvm.Cond.code ({ cls := "LentBoxes", name := "plot", desc := "(II)I" } : Jvm.MethodName) prog_1_method_7_code (4 : Nat) (Option.some Jvm.ClassFile.FieldType.int)) ∈ Tw := tm_3 (i := 129) rfl rfl
set_option maxRecDepth 100000 in
theorem wd_t610 : (Jvm.Cond.methodLink "LentBoxes" (165 : Nat) ({ cls := "LentBoxes", name := "isPlot", desc := "(I)Z" } : Jvm.MethodName)) ∈ Tw := tm_3 (i := 130) rfl rfl
set_option maxRecDepth 100000 in
theorem wd_t612 : (Jvm.Cond.instanceMethod ({ cls := "LentBoxes", name := "isPlot", desc := "(I)Z" } : Jvm.MethodName)) ∈ Tw := tm_3 (i := 132) rfl rfl
set_option maxRecDepth 100000 in
theorem wd_t613 : (Jvm.Cond.code ({ cls := "LentBoxes", name := "isPlot", desc := "(I)Z" } : Jvm.MethodName) prog_1_method_43_code (2 : Nat) (Option.some Jvm.ClassFile.FieldType.boolean)) ∈ Tw := tm_3 (i := 133) rfl rfl
set_option maxRecDepth 100000 in
theorem wd_t614 : (Jvm.Cond.methodLink "LentBoxesLaw" (62 : Nat) ({ cls := "LentBoxes", name := "now", desc := "(I)I" } : Jvm.MethodName)) ∈ Tw := tm_3 (i := 134) rfl rfl
set_option maxRecDepth 100000 in
theorem wd_t615 : (Jvm.Cond.instanceMethod ({ cls := "LentBoxes", name := "now", desc := "(I)I" } : Jvm.MethodName)) ∈ Tw := tm_3 (i := 135) rfl rfl
set_option maxRecDepth 100000 in
theorem wd_t616 : (Jvm.Cond.selects "LentBoxes" ({ cls := "LentBoxes", name := "now", desc := "(I)I" } : Jvm.MethodName) ({ cls := "LentBoxes", name := "now", desc := "(I)I" } : Jvm.MethodName)) ∈ Tw := tm_3 (i := 136) rfl rfl
set_option maxRecDepth 100000 in
theorem wd_t617 : (Jvm.Cond.code ({ cls := "LentBoxes", name := "now", desc := "(I)I" } : Jvm.MethodName) prog_1_method_9_code (3 : Nat) (Option.some Jvm.ClassFile.FieldType.int)) ∈ Tw := tm_3 (i := 137) rfl rfl
set_option maxRecDepth 100000 in
theorem wd_t618 : (Jvm.Cond.methodLink "LentBoxes" (219 : Nat) ({ cls := "LentBoxes$State", name := "bitsOf", desc := "(ILLentBoxes$Vestry;)I" } : Jvm.MethodName)) ∈ Tw := tm_3 (i := 138) rfl rfl
set_option maxRecDepth 100000 in
theorem wd_t619 : (Jvm.Cond.instanceMethod ({ cls := "LentBoxes$State", name := "bitsOf", desc := "(ILLentBoxes$Vestry;)I" } : Jvm.MethodName)) ∈ Tw := tm_3 (i := 139) rfl rfl
set_option maxRecDepth 100000 in
theorem wd_t620 : (Jvm.Cond.selects "LentBoxes$State" ({ cls := "LentBoxes$State", name := "bitsOf", desc := "(ILLentBoxes$Vestry;)I" } : Jvm.MethodName) ({ cls := "LentBoxes$State", name := "bitsOf", desc := "(ILLentBoxes$Vestry;)I" } : Jvm.MethodName)) ∈ Tw := tm_3 (i := 140) rfl rfl
set_option maxRecDepth 100000 in
theorem wd_t621 : (Jvm.Cond.code ({ cls := "LentBoxes$State", name := "bitsOf", desc := "(ILLentBoxes$Vestry;)I" } : Jvm.MethodName) prog_8_method_8_code (5 : Nat) (Option.some Jvm.ClassFile.FieldType.int)) ∈ Tw := tm_3 (i := 141) rfl rfl
set_option maxRecDepth 100000 in
theorem wd_t622 : (Jvm.Cond.methodLink "LentBoxes" (223 : Nat) ({ cls := "LentBoxes$State", name := "freeBoxes", desc := "(LLentBoxes$Vestry;)I" } : Jvm.MethodName)) ∈ Tw := tm_3 (i := 142) rfl rfl
set_option maxRecDepth 100000 in
theorem wd_t623 : (Jvm.Cond.instanceMethod ({ cls := "LentBoxes$State", name := "freeBoxes", desc := "(LLentBoxes$Vestry;)I" } : Jvm.MethodName)) ∈ Tw := tm_3 (i := 143) rfl rfl
set_option maxRecDepth 100000 in
theorem wd_t624 : (Jvm.Cond.selects "LentBoxes$State" ({ cls := "LentBoxes$State", name := "freeBoxes", desc := "(LLentBoxes$Vestry;)I" } : Jvm.MethodName) ({ cls := "LentBoxes$State", name := "freeBoxes", desc := "(LLentBoxes$Vestry;)I" } : Jvm.MethodName)) ∈ Tw := tm_3 (i := 144) rfl rfl
set_option maxRecDepth 100000 in
theorem wd_t625 : (Jvm.Cond.code ({ cls := "LentBoxes$State", name := "freeBoxes", desc := "(LLentBoxes$Vestry;)I" } : Jvm.MethodName) prog_8_method_9_code (4 : Nat) (Option.some Jvm.ClassFile.FieldType.int)) ∈ Tw := tm_3 (i := 145) rfl rfl
set_option maxRecDepth 100000 in
theorem wd_t626 : (Jvm.Cond.methodLink "LentBoxes$State" (85 : Nat) ({ cls := "LentBoxes$State", name := "boxFree", desc := "(I)Z" } : Jvm.MethodName)) ∈ Tw := tm_3 (i := 146) rfl rfl
set_option maxRecDepth 100000 in
theorem wd_t627 : (Jvm.Cond.methodLink "LentBoxes" (227 : Nat) ({ cls := "LentBoxes$State", name := "freePlots", desc := "(LLentBoxes$Vestry;)I" } : Jvm.MethodName)) ∈ Tw := tm_3 (i := 147) rfl rfl
set_option maxRecDepth 100000 in
theorem wd_t628 : (Jvm.Cond.instanceMethod ({ cls := "LentBoxes$State", name := "freePlots", desc := "(LLentBoxes$Vestry;)I" } : Jvm.MethodName)) ∈ Tw := tm_3 (i := 148) rfl rfl
set_option maxRecDepth 100000 in
theorem wd_t629 : (Jvm.Cond.selects "LentBoxes$State" ({ cls := "LentBoxes$State", name := "freePlots", desc := "(LLentBoxes$Vestry;)I" } : Jvm.MethodName) ({ cls := "LentBoxes$State", name := "freePlots", desc := "(LLentBoxes$Vestry;)I" } : Jvm.MethodName)) ∈ Tw := tm_3 (i := 149) rfl rfl
set_option maxRecDepth 100000 in
theorem wd_t630 : (Jvm.Cond.code ({ cls := "LentBoxes$State", name := "freePlots", desc := "(LLentBoxes$Vestry;)I" } : Jvm.MethodName) prog_8_method_10_code (4 : Nat) (Option.some Jvm.ClassFile.FieldType.int)) ∈ Tw := tm_3 (i := 150) rfl rfl
set_option maxRecDepth 100000 in
theorem wd_t631 : (Jvm.Cond.methodLink "LentBoxes$State" (92 : Nat) ({ cls := "LentBoxes$State", name := "plotFree", desc := "(I)Z" } : Jvm.MethodName)) ∈ Tw := tm_3 (i := 151) rfl rfl
set_option maxRecDepth 100000 in
theorem wd_t632 : (Jvm.Cond.instanceMethod ({ cls := "LentBoxes$State", name := "plotFree", desc := "(I)Z" } : Jvm.MethodName)) ∈ Tw := tm_3 (i := 152) rfl rfl
set_option maxRecDepth 100000 in
theorem wd_t633 : (Jvm.Cond.selects "LentBoxes$State" ({ cls := "LentBoxes$State", name := "plotFree", desc := "(I)Z" } : Jvm.MethodName) ({ cls := "LentBoxes$State", name := "plotFree", desc := "(I)Z" } : Jvm.MethodName)) ∈ Tw := tm_3 (i := 153) rfl rfl
set_option maxRecDepth 100000 in
theorem wd_t634 : (Jvm.Cond.code ({ cls := "LentBoxes$State", name := "plotFree", desc := "(I)Z" } : Jvm.MethodName) prog_8_method_6_code (2 : Nat) (Option.some Jvm.ClassFile.FieldType.boolean)) ∈ Tw := tm_3 (i := 154) rfl rfl
set_option maxRecDepth 100000 in
theorem wd_t635 : (Jvm.Cond.methodLink "LentBoxes" (230 : Nat) ({ cls := "LentBoxes$Vestry", name := "frostOn", desc := "(I)Z" } : Jvm.MethodName)) ∈ Tw := tm_3 (i := 155) rfl rfl
set_option maxRecDepth 100000 in
theorem wd_t636 : (Jvm.Cond.instanceMethod ({ cls := "LentBoxes$Vestry", name := "frostOn", desc := "(I)Z" } : Jvm.MethodName)) ∈ Tw := tm_3 (i := 156) rfl rfl
set_option maxRecDepth 100000 in
theorem wd_t637 : (Jvm.Cond.selects "LentBoxes$Vestry" ({ cls := "LentBoxes$Vestry", name := "frostOn", desc := "(I)Z" } : Jvm.MethodName) ({ cls := "LentBoxes$Vestry", name := "frostOn", desc := "(I)Z" } : Jvm.MethodName)) ∈ Tw := tm_3 (i := 157) rfl rfl
set_option maxRecDepth 100000 in
theorem wd_t638 : (Jvm.Cond.code ({ cls := "LentBoxes$Vestry", name := "frostOn", desc := "(I)Z" } : Jvm.MethodName) prog_10_method_6_code (3 : Nat) (Option.some Jvm.ClassFile.FieldType.boolean)) ∈ Tw := tm_3 (i := 158) rfl rfl
set_option maxRecDepth 100000 in
theorem wd_t639 : (Jvm.Cond.methodLink "LentBoxesLaw" (66 : Nat) ({ cls := "LentBoxes", name := "lend", desc := "(II)I" } : Jvm.MethodName)) ∈ Tw := tm_3 (i := 159) rfl rfl
set_option maxRecDepth 100000 in
theorem wd_t640 : (Jvm.Cond.instanceMethod ({ cls := "LentBoxes", name := "lend", desc := "(II)I" } : Jvm.MethodName)) ∈ Tw := tm_3 (i := 160) rfl rfl
set_option maxRecDepth 100000 in
theorem wd_t641 : (Jvm.Cond.selects "LentBoxes" ({ cls := "LentBoxes", name := "lend", desc := "(II)I" } : Jvm.MethodName) ({ cls := "LentBoxes", name := "lend", desc := "(II)I" } : Jvm.MethodName)) ∈ Tw := tm_3 (i := 161) rfl rfl
set_option maxRecDepth 100000 in
theorem wd_t642 : (Jvm.Cond.code ({ cls := "LentBoxes", name := "lend", desc := "(II)I" } : Jvm.MethodName) prog_1_method_10_code (3 : Nat) (Option.some Jvm.ClassFile.FieldType.int)) ∈ Tw := tm_3 (i := 162) rfl rfl
set_option maxRecDepth 100000 in
theorem wd_t643 : (Jvm.Cond.methodLink "LentBoxes" (180 : Nat) ({ cls := "LentBoxes", name := "isDead", desc := "(I)Z" } : Jvm.MethodName)) ∈ Tw := tm_3 (i := 163) rfl rfl
set_option maxRecDepth 100000 in
theorem wd_t645 : (Jvm.Cond.instanceMethod ({ cls := "LentBoxes", name := "isDead", desc := "(I)Z" } : Jvm.MethodName)) ∈ Tw := tm_3 (i := 165) rfl rfl
set_option maxRecDepth 100000 in
theorem wd_t646 : (Jvm.Cond.code ({ cls := "LentBoxes", name := "isDead", desc := "(I)Z" } : Jvm.MethodName) prog_1_method_44_code (2 : Nat) (Option.some Jvm.ClassFile.FieldType.boolean)) ∈ Tw := tm_3 (i := 166) rfl rfl
set_option maxRecDepth 100000 in
theorem wd_t647 : (Jvm.Cond.methodLink "LentBoxes" (233 : Nat) ({ cls := "LentBoxes$State", name := "copyOf", desc := "(LLentBoxes$State;)V" } : Jvm.MethodName)) ∈ Tw := tm_3 (i := 167) rfl rfl
set_option maxRecDepth 100000 in
theorem wd_t648 : (Jvm.Cond.instanceMethod ({ cls := "LentBoxes$State", name := "copyOf", desc := "(LLentBoxes$State;)V" } : Jvm.MethodName)) ∈ Tw := tm_3 (i := 168) rfl rfl
set_option maxRecDepth 100000 in
theorem wd_t649 : (Jvm.Cond.selects "LentBoxes$State" ({ cls := "LentBoxes$State", name := "copyOf", desc := "(LLentBoxes$State;)V" } : Jvm.MethodName) ({ cls := "LentBoxes$State", name := "copyOf", desc := "(LLentBoxes$State;)V" } : Jvm.MethodName)) ∈ Tw := tm_3 (i := 169) rfl rfl
set_option maxRecDepth 100000 in
theorem wd_t650 : (Jvm.Cond.code ({ cls := "LentBoxes$State", name := "copyOf", desc := "(LLentBoxes$State;)V" } : Jvm.MethodName) prog_8_method_2_code (2 : Nat) (Option.none : Option Jvm.ClassFile.FieldType)) ∈ Tw := tm_3 (i := 170) rfl rfl
set_option maxRecDepth 100000 in
theorem wd_t651 : (Jvm.Cond.methodLink "LentBoxes$State" (52 : Nat) ({ cls := "java/lang/System", name := "arraycopy", desc := "(Ljava/lang/Object;ILjava/lang/Object;II)V" } : Jvm.MethodName)) ∈ Tw := tm_3 (i := 171) rfl rfl
set_option maxRecDepth 100000 in
theorem wd_t652 : (Jvm.Cond.methodLink "LentBoxes" (236 : Nat) ({ cls := "LentBoxes$State", name := "lendHim", desc := "(IILLentBoxes$Vestry;)I" } : Jvm.MethodName)) ∈ Tw := tm_3 (i := 172) rfl rfl
set_option maxRecDepth 100000 in
theorem wd_t653 : (Jvm.Cond.instanceMethod ({ cls := "LentBoxes$State", name := "lendHim", desc := "(IILLentBoxes$Vestry;)I" } : Jvm.MethodName)) ∈ Tw := tm_3 (i := 173) rfl rfl
set_option maxRecDepth 100000 in
theorem wd_t654 : (Jvm.Cond.selects "LentBoxes$State" ({ cls := "LentBoxes$State", name := "lendHim", desc := "(IILLentBoxes$Vestry;)I" } : Jvm.MethodName) ({ cls := "LentBoxes$State", name := "lendHim", desc := "(IILLentBoxes$Vestry;)I" } : Jvm.MethodName)) ∈ Tw := tm_3 (i := 174) rfl rfl
set_option maxRecDepth 100000 in
theorem wd_t655 : (Jvm.Cond.code ({ cls := "LentBoxes$State", name := "lendHim", desc := "(IILLentBoxes$Vestry;)I" } : Jvm.MethodName) prog_8_method_12_code (6 : Nat) (Option.some Jvm.ClassFile.FieldType.int)) ∈ Tw := tm_3 (i := 175) rfl rfl
set_option maxRecDepth 100000 in
theorem wd_t656 : (Jvm.Cond.methodLink "LentBoxes$State" (104 : Nat) ({ cls := "LentBoxes$State", name := "whyNotLent", desc := "(IILLentBoxes$Vestry;)I" } : Jvm.MethodName)) ∈ Tw := tm_3 (i := 176) rfl rfl
set_option maxRecDepth 100000 in
theorem wd_t657 : (Jvm.Cond.instanceMethod ({ cls := "LentBoxes$State", name := "whyNotLent", desc := "(IILLentBoxes$Vestry;)I" } : Jvm.MethodName)) ∈ Tw := tm_3 (i := 177) rfl rfl
set_option maxRecDepth 100000 in
theorem wd_t658 : (Jvm.Cond.selects "LentBoxes$State" ({ cls := "LentBoxes$State", name := "whyNotLent", desc := "(IILLentBoxes$Vestry;)I" } : Jvm.MethodName) ({ cls := "LentBoxes$State", name := "whyNotLent", desc := "(IILLentBoxes$Vestry;)I" } : Jvm.MethodName)) ∈ Tw := tm_3 (i := 178) rfl rfl
set_option maxRecDepth 100000 in
theorem wd_t659 : (Jvm.Cond.code ({ cls := "LentBoxes$State", name := "whyNotLent", desc := "(IILLentBoxes$Vestry;)I" } : Jvm.MethodName) prog_8_method_11_code (4 : Nat) (Option.some Jvm.ClassFile.FieldType.int)) ∈ Tw := tm_3 (i := 179) rfl rfl
set_option maxRecDepth 100000 in
theorem wd_t660 : (Jvm.Cond.methodLink "LentBoxes" (240 : Nat) ({ cls := "LentBoxes", name := "done", desc := "(I)I" } : Jvm.MethodName)) ∈ Tw := tm_3 (i := 180) rfl rfl
set_option maxRecDepth 100000 in
theorem wd_t662 : (Jvm.Cond.instanceMethod ({ cls := "LentBoxes", name := "done", desc := "(I)I" } : Jvm.MethodName)) ∈ Tw := tm_3 (i := 182) rfl rfl
set_option maxRecDepth 100000 in
theorem wd_t663 : (Jvm.Cond.code ({ cls := "LentBoxes", name := "done", desc := "(I)I" } : Jvm.MethodName) prog_1_method_45_code (2 : Nat) (Option.some Jvm.ClassFile.FieldType.int)) ∈ Tw := tm_3 (i := 183) rfl rfl
set_option maxRecDepth 100000 in
theorem wd_t664 : (Jvm.Cond.methodLink "LentBoxes" (360 : Nat) ({ cls := "LentBoxes$Past", name := "keep", desc := "(LLentBoxes$State;)V" } : Jvm.MethodName)) ∈ Tw := tm_3 (i := 184) rfl rfl
set_option maxRecDepth 100000 in
theorem wd_t665 : (Jvm.Cond.instanceMethod ({ cls := "LentBoxes$Past", name := "keep", desc := "(LLentBoxes$State;)V" } : Jvm.MethodName)) ∈ Tw := tm_3 (i := 185) rfl rfl
set_option maxRecDepth 100000 in
theorem wd_t666 : (Jvm.Cond.selects "LentBoxes$Past" ({ cls := "LentBoxes$Past", name := "keep", desc := "(LLentBoxes$State;)V" } : Jvm.MethodName) ({ cls := "LentBoxes$Past", name := "keep", desc := "(LLentBoxes$State;)V" } : Jvm.MethodName)) ∈ Tw := tm_3 (i := 186) rfl rfl
set_option maxRecDepth 100000 in
theorem wd_t667 : (Jvm.Cond.code ({ cls := "LentBoxes$Past", name := "keep", desc := "(LLentBoxes$State;)V" } : Jvm.MethodName) prog_6_method_2_code (2 : Nat) (Option.none : Option Jvm.ClassFile.FieldType)) ∈ Tw := tm_3 (i := 187) rfl rfl
set_option maxRecDepth 100000 in
theorem wd_t668 : (Jvm.Cond.methodLink "LentBoxes$Past" (25 : Nat) ({ cls := "LentBoxes$State", name := "copyOf", desc := "(LLentBoxes$State;)V" } : Jvm.MethodName)) ∈ Tw := tm_3 (i := 188) rfl rfl
set_option maxRecDepth 100000 in
theorem wd_t669 : (Jvm.Cond.methodLink "LentBoxesLaw" (70 : Nat) ({ cls := "LentBoxes", name := "lay", desc := "(II)I" } : Jvm.MethodName)) ∈ Tw := tm_3 (i := 189) rfl rfl
set_option maxRecDepth 100000 in
theorem wd_t670 : (Jvm.Cond.instanceMethod ({ cls := "LentBoxes", name := "lay", desc := "(II)I" } : Jvm.MethodName)) ∈ Tw := tm_3 (i := 190) rfl rfl
set_option maxRecDepth 100000 in
theorem wd_t671 : (Jvm.Cond.selects "LentBoxes" ({ cls := "LentBoxes", name := "lay", desc := "(II)I" } : Jvm.MethodName) ({ cls := "LentBoxes", name := "lay", desc := "(II)I" } : Jvm.MethodName)) ∈ Tw := tm_3 (i := 191) rfl rfl
set_option maxRecDepth 100000 in
theorem wd_t672 : (Jvm.Cond.code ({ cls := "LentBoxes", name := "lay", desc := "(II)I" } : Jvm.MethodName) prog_1_method_11_code (3 : Nat) (Option.some Jvm.ClassFile.FieldType.int)) ∈ Tw := tm_3 (i := 192) rfl rfl
set_option maxRecDepth 100000 in
theorem wd_t673 : (Jvm.Cond.methodLink "LentBoxes" (243 : Nat) ({ cls := "LentBoxes$State", name := "layHim", desc := "(IILLentBoxes$Vestry;)I" } : Jvm.MethodName)) ∈ Tw := tm_3 (i := 193) rfl rfl
set_option maxRecDepth 100000 in
theorem wd_t674 : (Jvm.Cond.instanceMethod ({ cls := "LentBoxes$State", name := "layHim", desc := "(IILLentBoxes$Vestry;)I" } : Jvm.MethodName)) ∈ Tw := tm_3 (i := 194) rfl rfl
set_option maxRecDepth 100000 in
theorem wd_t675 : (Jvm.Cond.selects "LentBoxes$State" ({ cls := "LentBoxes$State", name := "layHim", desc := "(IILLentBoxes$Vestry;)I" } : Jvm.MethodName) ({ cls := "LentBoxes$State", name := "layHim", desc := "(IILLentBoxes$Vestry;)I" } : Jvm.MethodName)) ∈ Tw := tm_3 (i := 195) rfl rfl
set_option maxRecDepth 100000 in
theorem wd_t676 : (Jvm.Cond.code ({ cls := "LentBoxes$State", name := "layHim", desc := "(IILLentBoxes$Vestry;)I" } : Jvm.MethodName) prog_8_method_13_code (5 : Nat) (Option.some Jvm.ClassFile.FieldType.int)) ∈ Tw := tm_3 (i := 196) rfl rfl
set_option maxRecDepth 100000 in
theorem wd_t677 : (Jvm.Cond.methodLink "LentBoxes$State" (108 : Nat) ({ cls := "LentBoxes$Vestry", name := "frostOn", desc := "(I)Z" } : Jvm.MethodName)) ∈ Tw := tm_3 (i := 197) rfl rfl
set_option maxRecDepth 100000 in
theorem wd_t678 : (Jvm.Cond.methodLink "LentBoxes$State" (111 : Nat) ({ cls := "LentBoxes$Vestry", name := "areKin", desc := "(II)Z" } : Jvm.MethodName)) ∈ Tw := tm_3 (i := 198) rfl rfl
set_option maxRecDepth 100000 in
theorem wd_t679 : (Jvm.Cond.methodLink "LentBoxesLaw" (74 : Nat) ({ cls := "LentBoxes", name := "swap", desc := "(II)I" } : Jvm.MethodName)) ∈ Tw := tm_3 (i := 199) rfl rfl
set_option maxRecDepth 100000 in
theorem wd_t680 : (Jvm.Cond.instanceMethod ({ cls := "LentBoxes", name := "swap", desc := "(II)I" } : Jvm.MethodName)) ∈ Tw := tm_3 (i := 200) rfl rfl
set_option maxRecDepth 100000 in
theorem wd_t681 : (Jvm.Cond.selects "LentBoxes" ({ cls := "LentBoxes", name := "swap", desc := "(II)I" } : Jvm.MethodName) ({ cls := "LentBoxes", name := "swap", desc := "(II)I" } : Jvm.MethodName)) ∈ Tw := tm_3 (i := 201) rfl rfl
set_option maxRecDepth 100000 in
theorem wd_t682 : (Jvm.Cond.code ({ cls := "LentBoxes", name := "swap", desc := "(II)I" } : Jvm.MethodName) prog_1_method_12_code (3 : Nat) (Option.some Jvm.ClassFile.FieldType.int)) ∈ Tw := tm_3 (i := 202) rfl rfl
set_option maxRecDepth 100000 in
theorem wd_t683 : (Jvm.Cond.methodLink "LentBoxes" (246 : Nat) ({ cls := "LentBoxes$State", name := "swapThem", desc := "(IILLentBoxes$Vestry;)I" } : Jvm.MethodName)) ∈ Tw := tm_3 (i := 203) rfl rfl
set_option maxRecDepth 100000 in
theorem wd_t684 : (Jvm.Cond.instanceMethod ({ cls := "LentBoxes$State", name := "swapThem", desc := "(IILLentBoxes$Vestry;)I" } : Jvm.MethodName)) ∈ Tw := tm_3 (i := 204) rfl rfl
set_option maxRecDepth 100000 in
theorem wd_t685 : (Jvm.Cond.selects "LentBoxes$State" ({ cls := "LentBoxes$State", name := "swapThem", desc := "(IILLentBoxes$Vestry;)I" } : Jvm.MethodName) ({ cls := "LentBoxes$State", name := "swapThem", desc := "(IILLentBoxes$Vestry;)I" } : Jvm.MethodName)) ∈ Tw := tm_3 (i := 205) rfl rfl
set_option maxRecDepth 100000 in
theorem wd_t686 : (Jvm.Cond.code ({ cls := "LentBoxes$State", name := "swapThem", desc := "(IILLentBoxes$Vestry;)I" } : Jvm.MethodName) prog_8_method_14_code (6 : Nat) (Option.some Jvm.ClassFile.FieldType.int)) ∈ Tw := tm_3 (i := 206) rfl rfl
set_option maxRecDepth 100000 in
theorem wd_t687 : (Jvm.Cond.methodLink "LentBoxesLaw" (78 : Nat) ({ cls := "LentBoxes", name := "mend", desc := "(I)I" } : Jvm.MethodName)) ∈ Tw := tm_3 (i := 207) rfl rfl
set_option maxRecDepth 100000 in
theorem wd_t688 : (Jvm.Cond.instanceMethod ({ cls := "LentBoxes", name := "mend", desc := "(I)I" } : Jvm.MethodName)) ∈ Tw := tm_3 (i := 208) rfl rfl
set_option maxRecDepth 100000 in
theorem wd_t689 : (Jvm.Cond.selects "LentBoxes" ({ cls := "LentBoxes", name := "mend", desc := "(I)I" } : Jvm.MethodName) ({ cls := "LentBoxes", name := "mend", desc := "(I)I" } : Jvm.MethodName)) ∈ Tw := tm_3 (i := 209) rfl rfl
set_option maxRecDepth 100000 in
theorem wd_t690 : (Jvm.Cond.code ({ cls := "LentBoxes", name := "mend", desc := "(I)I" } : Jvm.MethodName) prog_1_method_13_code (2 : Nat) (Option.some Jvm.ClassFile.FieldType.int)) ∈ Tw := tm_3 (i := 210) rfl rfl
set_option maxRecDepth 100000 in
theorem wd_t691 : (Jvm.Cond.methodLink "LentBoxes" (249 : Nat) ({ cls := "LentBoxes$State", name := "mendIt", desc := "(I)I" } : Jvm.MethodName)) ∈ Tw := tm_3 (i := 211) rfl rfl
set_option maxRecDepth 100000 in
theorem wd_t692 : (Jvm.Cond.instanceMethod ({ cls := "LentBoxes$State", name := "mendIt", desc := "(I)I" } : Jvm.MethodName)) ∈ Tw := tm_3 (i := 212) rfl rfl
set_option maxRecDepth 100000 in
theorem wd_t693 : (Jvm.Cond.selects "LentBoxes$State" ({ cls := "LentBoxes$State", name := "mendIt", desc := "(I)I" } : Jvm.MethodName) ({ cls := "LentBoxes$State", name := "mendIt", desc := "(I)I" } : Jvm.MethodName)) ∈ Tw := tm_3 (i := 213) rfl rfl
set_option maxRecDepth 100000 in
theorem wd_t694 : (Jvm.Cond.code ({ cls := "LentBoxes$State", name := "mendIt", desc := "(I)I" } : Jvm.MethodName) prog_8_method_15_code (2 : Nat) (Option.some Jvm.ClassFile.FieldType.int)) ∈ Tw := tm_3 (i := 214) rfl rfl
set_option maxRecDepth 100000 in
theorem wd_t695 : (Jvm.Cond.methodLink "LentBoxesLaw" (82 : Nat) ({ cls := "LentBoxes", name := "days", desc := "(I)I" } : Jvm.MethodName)) ∈ Tw := tm_3 (i := 215) rfl rfl
set_option maxRecDepth 100000 in
theorem wd_t696 : (Jvm.Cond.instanceMethod ({ cls := "LentBoxes", name := "days", desc := "(I)I" } : Jvm.MethodName)) ∈ Tw := tm_3 (i := 216) rfl rfl
set_option maxRecDepth 100000 in
theorem wd_t697 : (Jvm.Cond.selects "LentBoxes" ({ cls := "LentBoxes", name := "days", desc := "(I)I" } : Jvm.MethodName) ({ cls := "LentBoxes", name := "days", desc := "(I)I" } : Jvm.MethodName)) ∈ Tw := tm_3 (i := 217) rfl rfl
set_option maxRecDepth 100000 in
theorem wd_t698 : (Jvm.Cond.code ({ cls := "LentBoxes", name := "days", desc := "(I)I" } : Jvm.MethodName) prog_1_method_14_code (2 : Nat) (Option.some Jvm.ClassFile.FieldType.int)) ∈ Tw := tm_3 (i := 218) rfl rfl
set_option maxRecDepth 100000 in
theorem wd_t699 : (Jvm.Cond.methodLink "LentBoxes" (252 : Nat) ({ cls := "LentBoxes$State", name := "passDays", desc := "(ILLentBoxes$Vestry;)I" } : Jvm.MethodName)) ∈ Tw := tm_3 (i := 219) rfl rfl
set_option maxRecDepth 100000 in
theorem wd_t700 : (Jvm.Cond.instanceMethod ({ cls := "LentBoxes$State", name := "passDays", desc := "(ILLentBoxes$Vestry;)I" } : Jvm.MethodName)) ∈ Tw := tm_3 (i := 220) rfl rfl
set_option maxRecDepth 100000 in
theorem wd_t701 : (Jvm.Cond.selects "LentBoxes$State" ({ cls := "LentBoxes$State", name := "passDays", desc := "(ILLentBoxes$Vestry;)I" } : Jvm.MethodName) ({ cls := "LentBoxes$State", name := "passDays", desc := "(ILLentBoxes$Vestry;)I" } : Jvm.MethodName)) ∈ Tw := tm_3 (i := 221) rfl rfl
set_option maxRecDepth 100000 in
theorem wd_t702 : (Jvm.Cond.code ({ cls := "LentBoxes$State", name := "passDays", desc := "(ILLentBoxes$Vestry;)I" } : Jvm.MethodName) prog_8_method_16_code (5 : Nat) (Option.some Jvm.ClassFile.FieldType.int)) ∈ Tw := tm_3 (i := 222) rfl rfl
set_option maxRecDepth 100000 in
theorem wd_t703 : (Jvm.Cond.methodLink "LentBoxes" (255 : Nat) ({ cls := "LentBoxes", name := "wentBy", desc := "(I)I" } : Jvm.MethodName)) ∈ Tw := tm_3 (i := 223) rfl rfl
set_option maxRecDepth 100000 in
theorem wd_t705 : (Jvm.Cond.instanceMethod ({ cls := "LentBoxes", name := "wentBy", desc := "(I)I" } : Jvm.MethodName)) ∈ Tw := tm_3 (i := 225) rfl rfl
set_option maxRecDepth 100000 in
theorem wd_t706 : (Jvm.Cond.code ({ cls := "LentBoxes", name := "wentBy", desc := "(I)I" } : Jvm.MethodName) prog_1_method_46_code (2 : Nat) (Option.some Jvm.ClassFile.FieldType.int)) ∈ Tw := tm_3 (i := 226) rfl rfl
set_option maxRecDepth 100000 in
theorem wd_t707 : (Jvm.Cond.methodLink "LentBoxesLaw" (86 : Nat) ({ cls := "LentBoxes", name := "undo", desc := "()I" } : Jvm.MethodName)) ∈ Tw := tm_3 (i := 227) rfl rfl
set_option maxRecDepth 100000 in
theorem wd_t708 : (Jvm.Cond.instanceMethod ({ cls := "LentBoxes", name := "undo", desc := "()I" } : Jvm.MethodName)) ∈ Tw := tm_3 (i := 228) rfl rfl
set_option maxRecDepth 100000 in
theorem wd_t709 : (Jvm.Cond.selects "LentBoxes" ({ cls := "LentBoxes", name := "undo", desc := "()I" } : Jvm.MethodName) ({ cls := "LentBoxes", name := "undo", desc := "()I" } : Jvm.MethodName)) ∈ Tw := tm_3 (i := 229) rfl rfl
set_option maxRecDepth 100000 in
theorem wd_t710 : (Jvm.Cond.code ({ cls := "LentBoxes", name := "undo", desc := "()I" } : Jvm.MethodName) prog_1_method_15_code (1 : Nat) (Option.some Jvm.ClassFile.FieldType.int)) ∈ Tw := tm_3 (i := 230) rfl rfl
set_option maxRecDepth 100000 in
theorem wd_t711 : (Jvm.Cond.methodLink "LentBoxes" (258 : Nat) ({ cls := "LentBoxes$Past", name := "backTo", desc := "(LLentBoxes$State;)I" } : Jvm.MethodName)) ∈ Tw := tm_3 (i := 231) rfl rfl
set_option maxRecDepth 100000 in
theorem wd_t712 : (Jvm.Cond.instanceMethod ({ cls := "LentBoxes$Past", name := "backTo", desc := "(LLentBoxes$State;)I" } : Jvm.MethodName)) ∈ Tw := tm_3 (i := 232) rfl rfl
set_option maxRecDepth 100000 in
theorem wd_t713 : (Jvm.Cond.selects "LentBoxes$Past" ({ cls := "LentBoxes$Past", name := "backTo", desc := "(LLentBoxes$State;)I" } : Jvm.MethodName) ({ cls := "LentBoxes$Past", name := "backTo", desc := "(LLentBoxes$State;)I" } : Jvm.MethodName)) ∈ Tw := tm_3 (i := 233) rfl rfl
set_option maxRecDepth 100000 in
theorem wd_t714 : (Jvm.Cond.code ({ cls := "LentBoxes$Past", name := "backTo", desc := "(LLentBoxes$State;)I" } : Jvm.MethodName) prog_6_method_3_code (2 : Nat) (Option.some Jvm.ClassFile.FieldType.int)) ∈ Tw := tm_3 (i := 234) rfl rfl
set_option maxRecDepth 100000 in
theorem wd_t715 : (Jvm.Cond.methodLink "LentBoxesLaw" (90 : Nat) ({ cls := "LentBoxes", name := "match", desc := "()I" } : Jvm.MethodName)) ∈ Tw := tm_3 (i := 235) rfl rfl
set_option maxRecDepth 100000 in
theorem wd_t716 : (Jvm.Cond.instanceMethod ({ cls := "LentBoxes", name := "match", desc := "()I" } : Jvm.MethodName)) ∈ Tw := tm_3 (i := 236) rfl rfl
set_option maxRecDepth 100000 in
theorem wd_t717 : (Jvm.Cond.selects "LentBoxes" ({ cls := "LentBoxes", name := "match", desc := "()I" } : Jvm.MethodName) ({ cls := "LentBoxes", name := "match", desc := "()I" } : Jvm.MethodName)) ∈ Tw := tm_3 (i := 237) rfl rfl
set_option maxRecDepth 100000 in
theorem wd_t718 : (Jvm.Cond.code ({ cls := "LentBoxes", name := "match", desc := "()I" } : Jvm.MethodName) prog_1_method_16_code (1 : Nat) (Option.some Jvm.ClassFile.FieldType.int)) ∈ Tw := tm_3 (i := 238) rfl rfl
set_option maxRecDepth 100000 in
theorem wd_t719 : (Jvm.Cond.methodLink "LentBoxes" (262 : Nat) ({ cls := "LentBoxes$Matching", name := "find", desc := "(LLentBoxes$Vestry;LLentBoxes$State;)I" } : Jvm.MethodName)) ∈ Tw := tm_3 (i := 239) rfl rfl
set_option maxRecDepth 100000 in
theorem wd_t720 : (Jvm.Cond.instanceMethod ({ cls := "LentBoxes$Matching", name := "find", desc := "(LLentBoxes$Vestry;LLentBoxes$State;)I" } : Jvm.MethodName)) ∈ Tw := tm_4 (i := 0) rfl rfl
set_option maxRecDepth 100000 in
theorem wd_t721 : (Jvm.Cond.selects "LentBoxes$Matching" ({ cls := "LentBoxes$Matching", name := "find", desc := "(LLentBoxes$Vestry;LLentBoxes$State;)I" } : Jvm.MethodName) ({ cls := "LentBoxes$Matching", name := "find", desc := "(LLentBoxes$Vestry;LLentBoxes$State;)I" } : Jvm.MethodName)) ∈ Tw := tm_4 (i := 1) rfl rfl
set_option maxRecDepth 100000 in
theorem wd_t722 : (Jvm.Cond.code ({ cls := "LentBoxes$Matching", name := "find", desc := "(LLentBoxes$Vestry;LLentBoxes$State;)I" } : Jvm.MethodName) prog_5_method_2_code (5 : Nat) (Option.some Jvm.ClassFile.FieldType.int)) ∈ Tw := tm_4 (i := 2) rfl rfl
set_option maxRecDepth 100000 in
theorem wd_t723 : (Jvm.Cond.methodLink "LentBoxes$Matching" (36 : Nat) ({ cls := "LentBoxes$State", name := "whyNotLent", desc := "(IILLentBoxes$Vestry;)I" } : Jvm.MethodName)) ∈ Tw := tm_4 (i := 3) rfl rfl
set_option maxRecDepth 100000 in
theorem wd_t724 : (Jvm.Cond.methodLink "LentBoxes$Matching" (42 : Nat) ({ cls := "LentBoxes$Matching", name := "mostFrom", desc := "(II)I" } : Jvm.MethodName)) ∈ Tw := tm_4 (i := 4) rfl rfl
set_option maxRecDepth 100000 in
theorem wd_t726 : (Jvm.Cond.instanceMethod ({ cls := "LentBoxes$Matching", name := "mostFrom", desc := "(II)I" } : Jvm.MethodName)) ∈ Tw := tm_4 (i := 6) rfl rfl
set_option maxRecDepth 100000 in
theorem wd_t727 : (Jvm.Cond.code ({ cls := "LentBoxes$Matching", name := "mostFrom", desc := "(II)I" } : Jvm.MethodName) prog_5_method_4_code (5 : Nat) (Option.some Jvm.ClassFile.FieldType.int)) ∈ Tw := tm_4 (i := 7) rfl rfl
set_option maxRecDepth 100000 in
theorem wd_t728 : (Jvm.Cond.methodLink "LentBoxes$Matching" (53 : Nat) ({ cls := "LentBoxes$Matching", name := "finds", desc := "(II)Z" } : Jvm.MethodName)) ∈ Tw := tm_4 (i := 8) rfl rfl
set_option maxRecDepth 100000 in
theorem wd_t730 : (Jvm.Cond.instanceMethod ({ cls := "LentBoxes$Matching", name := "finds", desc := "(II)Z" } : Jvm.MethodName)) ∈ Tw := tm_4 (i := 10) rfl rfl
set_option maxRecDepth 100000 in
theorem wd_t731 : (Jvm.Cond.code ({ cls := "LentBoxes$Matching", name := "finds", desc := "(II)Z" } : Jvm.MethodName) prog_5_method_5_code (4 : Nat) (Option.some Jvm.ClassFile.FieldType.boolean)) ∈ Tw := tm_4 (i := 11) rfl rfl
set_option maxRecDepth 100000 in
theorem wd_t732 : (Jvm.Cond.methodLink "LentBoxes$Matching" (46 : Nat) ({ cls := "LentBoxes$Matching", name := "chooseFirst", desc := "(I)V" } : Jvm.MethodName)) ∈ Tw := tm_4 (i := 12) rfl rfl
set_option maxRecDepth 100000 in
theorem wd_t734 : (Jvm.Cond.instanceMethod ({ cls := "LentBoxes$Matching", name := "chooseFirst", desc := "(I)V" } : Jvm.MethodName)) ∈ Tw := tm_4 (i := 14) rfl rfl
set_option maxRecDepth 100000 in
theorem wd_t735 : (Jvm.Cond.code ({ cls := "LentBoxes$Matching", name := "chooseFirst", desc := "(I)V" } : Jvm.MethodName) prog_5_method_3_code (7 : Nat) (Option.none : Option Jvm.ClassFile.FieldType)) ∈ Tw := tm_4 (i := 15) rfl rfl
set_option maxRecDepth 100000 in
theorem wd_t736 : (Jvm.Cond.methodLink "LentBoxesLaw" (94 : Nat) ({ cls := "LentBoxes", name := "matchOf", desc := "(I)I" } : Jvm.MethodName)) ∈ Tw := tm_4 (i := 16) rfl rfl
set_option maxRecDepth 100000 in
theorem wd_t737 : (Jvm.Cond.instanceMethod ({ cls := "LentBoxes", name := "matchOf", desc := "(I)I" } : Jvm.MethodName)) ∈ Tw := tm_4 (i := 17) rfl rfl
set_option maxRecDepth 100000 in
theorem wd_t738 : (Jvm.Cond.selects "LentBoxes" ({ cls := "LentBoxes", name := "matchOf", desc := "(I)I" } : Jvm.MethodName) ({ cls := "LentBoxes", name := "matchOf", desc := "(I)I" } : Jvm.MethodName)) ∈ Tw := tm_4 (i := 18) rfl rfl
set_option maxRecDepth 100000 in
theorem wd_t739 : (Jvm.Cond.code ({ cls := "LentBoxes", name := "matchOf", desc := "(I)I" } : Jvm.MethodName) prog_1_method_17_code (2 : Nat) (Option.some Jvm.ClassFile.FieldType.int)) ∈ Tw := tm_4 (i := 19) rfl rfl
set_option maxRecDepth 100000 in
theorem wd_t740 : (Jvm.Cond.methodLink "LentBoxesLaw" (98 : Nat) ({ cls := "LentBoxes", name := "soon", desc := "(I)I" } : Jvm.MethodName)) ∈ Tw := tm_4 (i := 20) rfl rfl
set_option maxRecDepth 100000 in
theorem wd_t741 : (Jvm.Cond.instanceMethod ({ cls := "LentBoxes", name := "soon", desc := "(I)I" } : Jvm.MethodName)) ∈ Tw := tm_4 (i := 21) rfl rfl
set_option maxRecDepth 100000 in
theorem wd_t742 : (Jvm.Cond.selects "LentBoxes" ({ cls := "LentBoxes", name := "soon", desc := "(I)I" } : Jvm.MethodName) ({ cls := "LentBoxes", name := "soon", desc := "(I)I" } : Jvm.MethodName)) ∈ Tw := tm_4 (i := 22) rfl rfl
set_option maxRecDepth 100000 in
theorem wd_t743 : (Jvm.Cond.code ({ cls := "LentBoxes", name := "soon", desc := "(I)I" } : Jvm.MethodName) prog_1_method_18_code (4 : Nat) (Option.some Jvm.ClassFile.FieldType.int)) ∈ Tw := tm_4 (i := 23) rfl rfl
set_option maxRecDepth 100000 in
theorem wd_t744 : (Jvm.Cond.methodLink "LentBoxes" (269 : Nat) ({ cls := "LentBoxes", name := "plotBehind", desc := "(II)I" } : Jvm.MethodName)) ∈ Tw := tm_4 (i := 24) rfl rfl
set_option maxRecDepth 100000 in
theorem wd_t746 : (Jvm.Cond.instanceMethod ({ cls := "LentBoxes", name := "plotBehind", desc := "(II)I" } : Jvm.MethodName)) ∈ Tw := tm_4 (i := 26) rfl rfl
set_option maxRecDepth 100000 in
theorem wd_t747 : (Jvm.Cond.code ({ cls := "LentBoxes", name := "plotBehind", desc := "(II)I" } : Jvm.MethodName) prog_1_method_47_code (5 : Nat) (Option.some Jvm.ClassFile.FieldType.int)) ∈ Tw := tm_4 (i := 27) rfl rfl
set_option maxRecDepth 100000 in
theorem wd_t748 : (Jvm.Cond.methodLink "LentBoxes" (412 : Nat) ({ cls := "LentBoxes$Vestry", name := "areKin", desc := "(II)Z" } : Jvm.MethodName)) ∈ Tw := tm_4 (i := 28) rfl rfl
set_option maxRecDepth 100000 in
theorem wd_t749 : (Jvm.Cond.methodLink "LentBoxesLaw" (102 : Nat) ({ cls := "LentBoxes", name := "soonIn", desc := "()I" } : Jvm.MethodName)) ∈ Tw := tm_4 (i := 29) rfl rfl
set_option maxRecDepth 100000 in
theorem wd_t750 : (Jvm.Cond.instanceMethod ({ cls := "LentBoxes", name := "soonIn", desc := "()I" } : Jvm.MethodName)) ∈ Tw := tm_4 (i := 30) rfl rfl
set_option maxRecDepth 100000 in
theorem wd_t751 : (Jvm.Cond.selects "LentBoxes" ({ cls := "LentBoxes", name := "soonIn", desc := "()I" } : Jvm.MethodName) ({ cls := "LentBoxes", name := "soonIn", desc := "()I" } : Jvm.MethodName)) ∈ Tw := tm_4 (i := 31) rfl rfl
set_option maxRecDepth 100000 in
theorem wd_t752 : (Jvm.Cond.code ({ cls := "LentBoxes", name := "soonIn", desc := "()I" } : Jvm.MethodName) prog_1_method_19_code (1 : Nat) (Option.some Jvm.ClassFile.FieldType.int)) ∈ Tw := tm_4 (i := 32) rfl rfl
set_option maxRecDepth 100000 in
theorem wd_t753 : (Jvm.Cond.methodLink "LentBoxesLaw" (106 : Nat) ({ cls := "LentBoxes", name := "crowd", desc := "(I)I" } : Jvm.MethodName)) ∈ Tw := tm_4 (i := 33) rfl rfl
set_option maxRecDepth 100000 in
theorem wd_t754 : (Jvm.Cond.instanceMethod ({ cls := "LentBoxes", name := "crowd", desc := "(I)I" } : Jvm.MethodName)) ∈ Tw := tm_4 (i := 34) rfl rfl
set_option maxRecDepth 100000 in
theorem wd_t755 : (Jvm.Cond.selects "LentBoxes" ({ cls := "LentBoxes", name := "crowd", desc := "(I)I" } : Jvm.MethodName) ({ cls := "LentBoxes", name := "crowd", desc := "(I)I" } : Jvm.MethodName)) ∈ Tw := tm_4 (i := 35) rfl rfl
set_option maxRecDepth 100000 in
theorem wd_t756 : (Jvm.Cond.code ({ cls := "LentBoxes", name := "crowd", desc := "(I)I" } : Jvm.MethodName) prog_1_method_20_code (5 : Nat) (Option.some Jvm.ClassFile.FieldType.int)) ∈ Tw := tm_4 (i := 36) rfl rfl
set_option maxRecDepth 100000 in
theorem wd_t757 : (Jvm.Cond.methodLink "LentBoxesLaw" (110 : Nat) ({ cls := "LentBoxes", name := "need", desc := "(II)I" } : Jvm.MethodName)) ∈ Tw := tm_4 (i := 37) rfl rfl
set_option maxRecDepth 100000 in
theorem wd_t758 : (Jvm.Cond.instanceMethod ({ cls := "LentBoxes", name := "need", desc := "(II)I" } : Jvm.MethodName)) ∈ Tw := tm_4 (i := 38) rfl rfl
set_option maxRecDepth 100000 in
theorem wd_t759 : (Jvm.Cond.selects "LentBoxes" ({ cls := "LentBoxes", name := "need", desc := "(II)I" } : Jvm.MethodName) ({ cls := "LentBoxes", name := "need", desc := "(II)I" } : Jvm.MethodName)) ∈ Tw := tm_4 (i := 39) rfl rfl
set_option maxRecDepth 100000 in
theorem wd_t760 : (Jvm.Cond.code ({ cls := "LentBoxes", name := "need", desc := "(II)I" } : Jvm.MethodName) prog_1_method_21_code (5 : Nat) (Option.some Jvm.ClassFile.FieldType.int)) ∈ Tw := tm_4 (i := 40) rfl rfl
set_option maxRecDepth 100000 in
theorem wd_t761 : (Jvm.Cond.methodLink "LentBoxes" (282 : Nat) ({ cls := "LentBoxes", name := "outOn", desc := "(II)I" } : Jvm.MethodName)) ∈ Tw := tm_4 (i := 41) rfl rfl
set_option maxRecDepth 100000 in
theorem wd_t763 : (Jvm.Cond.instanceMethod ({ cls := "LentBoxes", name := "outOn", desc := "(II)I" } : Jvm.MethodName)) ∈ Tw := tm_4 (i := 43) rfl rfl
set_option maxRecDepth 100000 in
theorem wd_t764 : (Jvm.Cond.code ({ cls := "LentBoxes", name := "outOn", desc := "(II)I" } : Jvm.MethodName) prog_1_method_48_code (7 : Nat) (Option.some Jvm.ClassFile.FieldType.int)) ∈ Tw := tm_4 (i := 44) rfl rfl
set_option maxRecDepth 100000 in
theorem wd_t765 : (Jvm.Cond.methodLink "LentBoxes" (285 : Nat) ({ cls := "java/lang/Math", name := "max", desc := "(II)I" } : Jvm.MethodName)) ∈ Tw := tm_4 (i := 45) rfl rfl
set_option maxRecDepth 100000 in
theorem wd_t766 : (Jvm.Cond.methodLink "LentBoxesLaw" (114 : Nat) ({ cls := "LentBoxes", name := "ring", desc := "(I)I" } : Jvm.MethodName)) ∈ Tw := tm_4 (i := 46) rfl rfl
set_option maxRecDepth 100000 in
theorem wd_t767 : (Jvm.Cond.instanceMethod ({ cls := "LentBoxes", name := "ring", desc := "(I)I" } : Jvm.MethodName)) ∈ Tw := tm_4 (i := 47) rfl rfl
set_option maxRecDepth 100000 in
theorem wd_t768 : (Jvm.Cond.selects "LentBoxes" ({ cls := "LentBoxes", name := "ring", desc := "(I)I" } : Jvm.MethodName) ({ cls := "LentBoxes", name := "ring", desc := "(I)I" } : Jvm.MethodName)) ∈ Tw := tm_4 (i := 48) rfl rfl
set_option maxRecDepth 100000 in
theorem wd_t769 : (Jvm.Cond.code ({ cls := "LentBoxes", name := "ring", desc := "(I)I" } : Jvm.MethodName) prog_1_method_22_code (3 : Nat) (Option.some Jvm.ClassFile.FieldType.int)) ∈ Tw := tm_4 (i := 49) rfl rfl
set_option maxRecDepth 100000 in
theorem wd_t770 : (Jvm.Cond.methodLink "LentBoxes" (290 : Nat) ({ cls := "LentBoxes", name := "ringFrom", desc := "(IZ)I" } : Jvm.MethodName)) ∈ Tw := tm_4 (i := 50) rfl rfl
set_option maxRecDepth 100000 in
theorem wd_t772 : (Jvm.Cond.instanceMethod ({ cls := "LentBoxes", name := "ringFrom", desc := "(IZ)I" } : Jvm.MethodName)) ∈ Tw := tm_4 (i := 52) rfl rfl
set_option maxRecDepth 100000 in
theorem wd_t773 : (Jvm.Cond.code ({ cls := "LentBoxes", name := "ringFrom", desc := "(IZ)I" } : Jvm.MethodName) prog_1_method_49_code (7 : Nat) (Option.some Jvm.ClassFile.FieldType.int)) ∈ Tw := tm_4 (i := 53) rfl rfl
set_option maxRecDepth 100000 in
theorem wd_t774 : (Jvm.Cond.methodLink "LentBoxesLaw" (118 : Nat) ({ cls := "LentBoxes", name := "ringAt", desc := "(I)I" } : Jvm.MethodName)) ∈ Tw := tm_4 (i := 54) rfl rfl
set_option maxRecDepth 100000 in
theorem wd_t775 : (Jvm.Cond.instanceMethod ({ cls := "LentBoxes", name := "ringAt", desc := "(I)I" } : Jvm.MethodName)) ∈ Tw := tm_4 (i := 55) rfl rfl
set_option maxRecDepth 100000 in
theorem wd_t776 : (Jvm.Cond.selects "LentBoxes" ({ cls := "LentBoxes", name := "ringAt", desc := "(I)I" } : Jvm.MethodName) ({ cls := "LentBoxes", name := "ringAt", desc := "(I)I" } : Jvm.MethodName)) ∈ Tw := tm_4 (i := 56) rfl rfl
set_option maxRecDepth 100000 in
theorem wd_t777 : (Jvm.Cond.code ({ cls := "LentBoxes", name := "ringAt", desc := "(I)I" } : Jvm.MethodName) prog_1_method_23_code (2 : Nat) (Option.some Jvm.ClassFile.FieldType.int)) ∈ Tw := tm_4 (i := 57) rfl rfl
set_option maxRecDepth 100000 in
theorem wd_t778 : (Jvm.Cond.methodLink "LentBoxesLaw" (122 : Nat) ({ cls := "LentBoxes", name := "who", desc := "()I" } : Jvm.MethodName)) ∈ Tw := tm_4 (i := 58) rfl rfl
set_option maxRecDepth 100000 in
theorem wd_t779 : (Jvm.Cond.instanceMethod ({ cls := "LentBoxes", name := "who", desc := "()I" } : Jvm.MethodName)) ∈ Tw := tm_4 (i := 59) rfl rfl
set_option maxRecDepth 100000 in
theorem wd_t780 : (Jvm.Cond.selects "LentBoxes" ({ cls := "LentBoxes", name := "who", desc := "()I" } : Jvm.MethodName) ({ cls := "LentBoxes", name := "who", desc := "()I" } : Jvm.MethodName)) ∈ Tw := tm_4 (i := 60) rfl rfl
set_option maxRecDepth 100000 in
theorem wd_t781 : (Jvm.Cond.code ({ cls := "LentBoxes", name := "who", desc := "()I" } : Jvm.MethodName) prog_1_method_24_code (5 : Nat) (Option.some Jvm.ClassFile.FieldType.int)) ∈ Tw := tm_4 (i := 61) rfl rfl
set_option maxRecDepth 100000 in
theorem wd_t782 : (Jvm.Cond.methodLink "LentBoxes" (297 : Nat) ({ cls := "LentBoxes$Vestry", name := "allDead", desc := "()I" } : Jvm.MethodName)) ∈ Tw := tm_4 (i := 62) rfl rfl
set_option maxRecDepth 100000 in
theorem wd_t783 : (Jvm.Cond.instanceMethod ({ cls := "LentBoxes$Vestry", name := "allDead", desc := "()I" } : Jvm.MethodName)) ∈ Tw := tm_4 (i := 63) rfl rfl
set_option maxRecDepth 100000 in
theorem wd_t784 : (Jvm.Cond.selects "LentBoxes$Vestry" ({ cls := "LentBoxes$Vestry", name := "allDead", desc := "()I" } : Jvm.MethodName) ({ cls := "LentBoxes$Vestry", name := "allDead", desc := "()I" } : Jvm.MethodName)) ∈ Tw := tm_4 (i := 64) rfl rfl
set_option maxRecDepth 100000 in
theorem wd_t785 : (Jvm.Cond.code ({ cls := "LentBoxes$Vestry", name := "allDead", desc := "()I" } : Jvm.MethodName) prog_10_method_3_code (1 : Nat) (Option.some Jvm.ClassFile.FieldType.int)) ∈ Tw := tm_4 (i := 65) rfl rfl
set_option maxRecDepth 100000 in
theorem wd_t786 : (Jvm.Cond.methodLink "LentBoxes" (301 : Nat) ({ cls := "LentBoxes$Tape", name := "byteOf", desc := "(I)I" } : Jvm.MethodName)) ∈ Tw := tm_4 (i := 66) rfl rfl
set_option maxRecDepth 100000 in
theorem wd_t787 : (Jvm.Cond.instanceMethod ({ cls := "LentBoxes$Tape", name := "byteOf", desc := "(I)I" } : Jvm.MethodName)) ∈ Tw := tm_4 (i := 67) rfl rfl
set_option maxRecDepth 100000 in
theorem wd_t788 : (Jvm.Cond.selects "LentBoxes$Tape" ({ cls := "LentBoxes$Tape", name := "byteOf", desc := "(I)I" } : Jvm.MethodName) ({ cls := "LentBoxes$Tape", name := "byteOf", desc := "(I)I" } : Jvm.MethodName)) ∈ Tw := tm_4 (i := 68) rfl rfl
set_option maxRecDepth 100000 in
theorem wd_t789 : (Jvm.Cond.code ({ cls := "LentBoxes$Tape", name := "byteOf", desc := "(I)I" } : Jvm.MethodName) prog_9_method_3_code (2 : Nat) (Option.some Jvm.ClassFile.FieldType.int)) ∈ Tw := tm_4 (i := 69) rfl rfl
set_option maxRecDepth 100000 in
theorem wd_t790 : (Jvm.Cond.methodLink "LentBoxes" (304 : Nat) ({ cls := "LentBoxes", name := "thoseWith", desc := "(II)I" } : Jvm.MethodName)) ∈ Tw := tm_4 (i := 70) rfl rfl
set_option maxRecDepth 100000 in
theorem wd_t792 : (Jvm.Cond.instanceMethod ({ cls := "LentBoxes", name := "thoseWith", desc := "(II)I" } : Jvm.MethodName)) ∈ Tw := tm_4 (i := 72) rfl rfl
set_option maxRecDepth 100000 in
theorem wd_t793 : (Jvm.Cond.code ({ cls := "LentBoxes", name := "thoseWith", desc := "(II)I" } : Jvm.MethodName) prog_1_method_51_code (5 : Nat) (Option.some Jvm.ClassFile.FieldType.int)) ∈ Tw := tm_4 (i := 73) rfl rfl
set_option maxRecDepth 100000 in
theorem wd_t794 : (Jvm.Cond.methodLink "LentBoxes" (416 : Nat) ({ cls := "LentBoxes", name := "numberOf", desc := "(II)I" } : Jvm.MethodName)) ∈ Tw := tm_4 (i := 74) rfl rfl
set_option maxRecDepth 100000 in
theorem wd_t796 : (Jvm.Cond.instanceMethod ({ cls := "LentBoxes", name := "numberOf", desc := "(II)I" } : Jvm.MethodName)) ∈ Tw := tm_4 (i := 76) rfl rfl
set_option maxRecDepth 100000 in
theorem wd_t797 : (Jvm.Cond.code ({ cls := "LentBoxes", name := "numberOf", desc := "(II)I" } : Jvm.MethodName) prog_1_method_50_code (3 : Nat) (Option.some Jvm.ClassFile.FieldType.int)) ∈ Tw := tm_4 (i := 77) rfl rfl
set_option maxRecDepth 100000 in
theorem wd_t798 : (Jvm.Cond.methodLink "LentBoxes" (307 : Nat) ({ cls := "LentBoxes", name := "bestToAsk", desc := "(I)I" } : Jvm.MethodName)) ∈ Tw := tm_4 (i := 78) rfl rfl
set_option maxRecDepth 100000 in
theorem wd_t800 : (Jvm.Cond.instanceMethod ({ cls := "LentBoxes", name := "bestToAsk", desc := "(I)I" } : Jvm.MethodName)) ∈ Tw := tm_4 (i := 80) rfl rfl
set_option maxRecDepth 100000 in
theorem wd_t801 : (Jvm.Cond.code ({ cls := "LentBoxes", name := "bestToAsk", desc := "(I)I" } : Jvm.MethodName) prog_1_method_52_code (6 : Nat) (Option.some Jvm.ClassFile.FieldType.int)) ∈ Tw := tm_4 (i := 81) rfl rfl
set_option maxRecDepth 100000 in
theorem wd_t802 : (Jvm.Cond.methodLink "LentBoxes" (419 : Nat) ({ cls := "LentBoxes", name := "greatestAlike", desc := "(II)I" } : Jvm.MethodName)) ∈ Tw := tm_4 (i := 82) rfl rfl
set_option maxRecDepth 100000 in
theorem wd_t804 : (Jvm.Cond.instanceMethod ({ cls := "LentBoxes", name := "greatestAlike", desc := "(II)I" } : Jvm.MethodName)) ∈ Tw := tm_4 (i := 84) rfl rfl
set_option maxRecDepth 100000 in
theorem wd_t805 : (Jvm.Cond.code ({ cls := "LentBoxes", name := "greatestAlike", desc := "(II)I" } : Jvm.MethodName) prog_1_method_53_code (6 : Nat) (Option.some Jvm.ClassFile.FieldType.int)) ∈ Tw := tm_4 (i := 85) rfl rfl
set_option maxRecDepth 100000 in
theorem wd_t806 : (Jvm.Cond.methodLink "LentBoxes" (389 : Nat) ({ cls := "java/lang/Integer", name := "bitCount", desc := "(I)I" } : Jvm.MethodName)) ∈ Tw := tm_4 (i := 86) rfl rfl
set_option maxRecDepth 100000 in
theorem wd_t807 : (Jvm.Cond.static ({ cls := "java/lang/Integer", name := "bitCount", desc := "(I)I" } : Jvm.MethodName)) ∈ Tw := tm_4 (i := 87) rfl rfl
set_option maxRecDepth 100000 in
theorem wd_t808 : (Jvm.Cond.code ({ cls := "java/lang/Integer", name := "bitCount", desc := "(I)I" } : Jvm.MethodName) prog_20_method_49_code (1 : Nat) (Option.some Jvm.ClassFile.FieldType.int)) ∈ Tw := tm_4 (i := 88) rfl rfl
set_option maxRecDepth 100000 in
theorem wd_t809 : (Jvm.Cond.constant "java/lang/Integer" (265 : Nat) (1431655765 : Int32)) ∈ Tw := tm_4 (i := 89) rfl rfl
set_option maxRecDepth 100000 in
theorem wd_t810 : (Jvm.Cond.constant "java/lang/Integer" (266 : Nat) (858993459 : Int32)) ∈ Tw := tm_4 (i := 90) rfl rfl
set_option maxRecDepth 100000 in
theorem wd_t811 : (Jvm.Cond.constant "java/lang/Integer" (267 : Nat) (252645135 : Int32)) ∈ Tw := tm_4 (i := 91) rfl rfl
set_option maxRecDepth 100000 in
theorem wd_t812 : (Jvm.Cond.methodLink "LentBoxesLaw" (126 : Nat) ({ cls := "LentBoxes", name := "ask", desc := "()I" } : Jvm.MethodName)) ∈ Tw := tm_4 (i := 92) rfl rfl
set_option maxRecDepth 100000 in
theorem wd_t813 : (Jvm.Cond.instanceMethod ({ cls := "LentBoxes", name := "ask", desc := "()I" } : Jvm.MethodName)) ∈ Tw := tm_4 (i := 93) rfl rfl
set_option maxRecDepth 100000 in
theorem wd_t814 : (Jvm.Cond.selects "LentBoxes" ({ cls := "LentBoxes", name := "ask", desc := "()I" } : Jvm.MethodName) ({ cls := "LentBoxes", name := "ask", desc := "()I" } : Jvm.MethodName)) ∈ Tw := tm_4 (i := 94) rfl rfl
set_option maxRecDepth 100000 in
theorem wd_t815 : (Jvm.Cond.code ({ cls := "LentBoxes", name := "ask", desc := "()I" } : Jvm.MethodName) prog_1_method_25_code (1 : Nat) (Option.some Jvm.ClassFile.FieldType.int)) ∈ Tw := tm_4 (i := 95) rfl rfl
set_option maxRecDepth 100000 in
theorem wd_t816 : (Jvm.Cond.methodLink "LentBoxesLaw" (130 : Nat) ({ cls := "LentBoxes", name := "near", desc := "(II)I" } : Jvm.MethodName)) ∈ Tw := tm_4 (i := 96) rfl rfl
set_option maxRecDepth 100000 in
theorem wd_t817 : (Jvm.Cond.instanceMethod ({ cls := "LentBoxes", name := "near", desc := "(II)I" } : Jvm.MethodName)) ∈ Tw := tm_4 (i := 97) rfl rfl
set_option maxRecDepth 100000 in
theorem wd_t818 : (Jvm.Cond.selects "LentBoxes" ({ cls := "LentBoxes", name := "near", desc := "(II)I" } : Jvm.MethodName) ({ cls := "LentBoxes", name := "near", desc := "(II)I" } : Jvm.MethodName)) ∈ Tw := tm_4 (i := 98) rfl rfl
set_option maxRecDepth 100000 in
theorem wd_t819 : (Jvm.Cond.code ({ cls := "LentBoxes", name := "near", desc := "(II)I" } : Jvm.MethodName) prog_1_method_26_code (5 : Nat) (Option.some Jvm.ClassFile.FieldType.int)) ∈ Tw := tm_4 (i := 99) rfl rfl
set_option maxRecDepth 100000 in
theorem wd_t820 : (Jvm.Cond.methodLink "LentBoxes" (310 : Nat) ({ cls := "LentBoxes$Vestry", name := "kinOfAny", desc := "(I)I" } : Jvm.MethodName)) ∈ Tw := tm_4 (i := 100) rfl rfl
set_option maxRecDepth 100000 in
theorem wd_t821 : (Jvm.Cond.instanceMethod ({ cls := "LentBoxes$Vestry", name := "kinOfAny", desc := "(I)I" } : Jvm.MethodName)) ∈ Tw := tm_4 (i := 101) rfl rfl
set_option maxRecDepth 100000 in
theorem wd_t822 : (Jvm.Cond.selects "LentBoxes$Vestry" ({ cls := "LentBoxes$Vestry", name := "kinOfAny", desc := "(I)I" } : Jvm.MethodName) ({ cls := "LentBoxes$Vestry", name := "kinOfAny", desc := "(I)I" } : Jvm.MethodName)) ∈ Tw := tm_4 (i := 102) rfl rfl
set_option maxRecDepth 100000 in
theorem wd_t823 : (Jvm.Cond.code ({ cls := "LentBoxes$Vestry", name := "kinOfAny", desc := "(I)I" } : Jvm.MethodName) prog_10_method_5_code (4 : Nat) (Option.some Jvm.ClassFile.FieldType.int)) ∈ Tw := tm_4 (i := 103) rfl rfl
set_option maxRecDepth 100000 in
theorem wd_t824 : (Jvm.Cond.methodLink "LentBoxesLaw" (134 : Nat) ({ cls := "LentBoxes", name := "had", desc := "(II)I" } : Jvm.MethodName)) ∈ Tw := tm_4 (i := 104) rfl rfl
set_option maxRecDepth 100000 in
theorem wd_t825 : (Jvm.Cond.instanceMethod ({ cls := "LentBoxes", name := "had", desc := "(II)I" } : Jvm.MethodName)) ∈ Tw := tm_4 (i := 105) rfl rfl
set_option maxRecDepth 100000 in
theorem wd_t826 : (Jvm.Cond.selects "LentBoxes" ({ cls := "LentBoxes", name := "had", desc := "(II)I" } : Jvm.MethodName) ({ cls := "LentBoxes", name := "had", desc := "(II)I" } : Jvm.MethodName)) ∈ Tw := tm_4 (i := 106) rfl rfl
set_option maxRecDepth 100000 in
theorem wd_t827 : (Jvm.Cond.code ({ cls := "LentBoxes", name := "had", desc := "(II)I" } : Jvm.MethodName) prog_1_method_27_code (3 : Nat) (Option.some Jvm.ClassFile.FieldType.int)) ∈ Tw := tm_4 (i := 107) rfl rfl
set_option maxRecDepth 100000 in
theorem wd_t828 : (Jvm.Cond.methodLink "LentBoxesLaw" (145 : Nat) ({ cls := "LentBoxes", name := "longest", desc := "()I" } : Jvm.MethodName)) ∈ Tw := tm_4 (i := 108) rfl rfl
set_option maxRecDepth 100000 in
theorem wd_t829 : (Jvm.Cond.instanceMethod ({ cls := "LentBoxes", name := "longest", desc := "()I" } : Jvm.MethodName)) ∈ Tw := tm_4 (i := 109) rfl rfl
set_option maxRecDepth 100000 in
theorem wd_t830 : (Jvm.Cond.selects "LentBoxes" ({ cls := "LentBoxes", name := "longest", desc := "()I" } : Jvm.MethodName) ({ cls := "LentBoxes", name := "longest", desc := "()I" } : Jvm.MethodName)) ∈ Tw := tm_4 (i := 110) rfl rfl
set_option maxRecDepth 100000 in
theorem wd_t831 : (Jvm.Cond.code ({ cls := "LentBoxes", name := "longest", desc := "()I" } : Jvm.MethodName) prog_1_method_30_code (4 : Nat) (Option.some Jvm.ClassFile.FieldType.int)) ∈ Tw := tm_4 (i := 111) rfl rfl
set_option maxRecDepth 100000 in
theorem wd_t832 : (Jvm.Cond.methodLink "LentBoxesLaw" (149 : Nat) ({ cls := "LentBoxes", name := "tag", desc := "(I)I" } : Jvm.MethodName)) ∈ Tw := tm_4 (i := 112) rfl rfl
set_option maxRecDepth 100000 in
theorem wd_t833 : (Jvm.Cond.instanceMethod ({ cls := "LentBoxes", name := "tag", desc := "(I)I" } : Jvm.MethodName)) ∈ Tw := tm_4 (i := 113) rfl rfl
set_option maxRecDepth 100000 in
theorem wd_t834 : (Jvm.Cond.selects "LentBoxes" ({ cls := "LentBoxes", name := "tag", desc := "(I)I" } : Jvm.MethodName) ({ cls := "LentBoxes", name := "tag", desc := "(I)I" } : Jvm.MethodName)) ∈ Tw := tm_4 (i := 114) rfl rfl
set_option maxRecDepth 100000 in
theorem wd_t835 : (Jvm.Cond.code ({ cls := "LentBoxes", name := "tag", desc := "(I)I" } : Jvm.MethodName) prog_1_method_31_code (5 : Nat) (Option.some Jvm.ClassFile.FieldType.int)) ∈ Tw := tm_4 (i := 115) rfl rfl
set_option maxRecDepth 100000 in
theorem wd_t836 : (Jvm.Cond.methodLink "LentBoxes" (329 : Nat) ({ cls := "LentBoxes", name := "tagName", desc := "(J)V" } : Jvm.MethodName)) ∈ Tw := tm_4 (i := 116) rfl rfl
set_option maxRecDepth 100000 in
theorem wd_t838 : (Jvm.Cond.instanceMethod ({ cls := "LentBoxes", name := "tagName", desc := "(J)V" } : Jvm.MethodName)) ∈ Tw := tm_4 (i := 118) rfl rfl
set_option maxRecDepth 100000 in
theorem wd_t839 : (Jvm.Cond.code ({ cls := "LentBoxes", name := "tagName", desc := "(J)V" } : Jvm.MethodName) prog_1_method_55_code (5 : Nat) (Option.none : Option Jvm.ClassFile.FieldType)) ∈ Tw := tm_4 (i := 119) rfl rfl
set_option maxRecDepth 100000 in
theorem wd_t840 : (Jvm.Cond.constantLong "LentBoxes" (433 : Nat) (255 : Int64)) ∈ Tw := tm_4 (i := 120) rfl rfl
set_option maxRecDepth 100000 in
theorem wd_t841 : (Jvm.Cond.methodLink "LentBoxes" (430 : Nat) ({ cls := "LentBoxes", name := "tagByte", desc := "(I)V" } : Jvm.MethodName)) ∈ Tw := tm_4 (i := 121) rfl rfl
set_option maxRecDepth 100000 in
theorem wd_t843 : (Jvm.Cond.instanceMethod ({ cls := "LentBoxes", name := "tagByte", desc := "(I)V" } : Jvm.MethodName)) ∈ Tw := tm_4 (i := 123) rfl rfl
set_option maxRecDepth 100000 in
theorem wd_t844 : (Jvm.Cond.code ({ cls := "LentBoxes", name := "tagByte", desc := "(I)V" } : Jvm.MethodName) prog_1_method_56_code (2 : Nat) (Option.none : Option Jvm.ClassFile.FieldType)) ∈ Tw := tm_4 (i := 124) rfl rfl
set_option maxRecDepth 100000 in
theorem wd_t845 : (Jvm.Cond.stringRef "LentBoxes" (333 : Nat) " comes") ∈ lw_tbl := tl_4 (i := 125) rfl
set_option maxRecDepth 100000 in
theorem wd_t846 : (Jvm.Cond.methodLink "LentBoxes" (335 : Nat) ({ cls := "LentBoxes", name := "tagText", desc := "(Ljava/lang/String;)V" } : Jvm.MethodName)) ∈ Tw := tm_4 (i := 126) rfl rfl
set_option maxRecDepth 100000 in
theorem wd_t848 : (Jvm.Cond.instanceMethod ({ cls := "LentBoxes", name := "tagText", desc := "(Ljava/lang/String;)V" } : Jvm.MethodName)) ∈ Tw := tm_4 (i := 128) rfl rfl
set_option maxRecDepth 100000 in
theorem wd_t849 : (Jvm.Cond.code ({ cls := "LentBoxes", name := "tagText", desc := "(Ljava/lang/String;)V" } : Jvm.MethodName) prog_1_method_54_code (3 : Nat) (Option.none : Option Jvm.ClassFile.FieldType)) ∈ Tw := tm_4 (i := 129) rfl rfl
set_option maxRecDepth 100000 in
theorem wd_t850 : (Jvm.Cond.methodLink "LentBoxes" (422 : Nat) ({ cls := "java/lang/String", name := "length", desc := "()I" } : Jvm.MethodName)) ∈ Tw := tm_4 (i := 130) rfl rfl
set_option maxRecDepth 100000 in
theorem wd_t851 : (Jvm.Cond.instanceMethod ({ cls := "java/lang/String", name := "length", desc := "()I" } : Jvm.MethodName)) ∈ Tw := tm_4 (i := 131) rfl rfl
set_option maxRecDepth 100000 in
theorem wd_t852 : (Jvm.Cond.selects "java/lang/String" ({ cls := "java/lang/String", name := "length", desc := "()I" } : Jvm.MethodName) ({ cls := "java/lang/String", name := "length", desc := "()I" } : Jvm.MethodName)) ∈ Tw := tm_4 (i := 132) rfl rfl
set_option maxRecDepth 100000 in
theorem wd_t853 : (Jvm.Cond.code ({ cls := "java/lang/String", name := "length", desc := "()I" } : Jvm.MethodName) prog_23_method_54_code (1 : Nat) (Option.some Jvm.ClassFile.FieldType.int)) ∈ Tw := tm_4 (i := 133) rfl rfl
set_option maxRecDepth 100000 in
theorem wd_t854 : (Jvm.Cond.methodLink "java/lang/String" (335 : Nat) ({ cls := "java/lang/String", name := "coder", desc := "()B" } : Jvm.MethodName)) ∈ Tw := tm_4 (i := 134) rfl rfl
set_option maxRecDepth 100000 in
theorem wd_t855 : (Jvm.Cond.instanceMethod ({ cls := "java/lang/String", name := "coder", desc := "()B" } : Jvm.MethodName)) ∈ Tw := tm_4 (i := 135) rfl rfl
set_option maxRecDepth 100000 in
theorem wd_t856 : (Jvm.Cond.selects "java/lang/String" ({ cls := "java/lang/String", name := "coder", desc := "()B" } : Jvm.MethodName) ({ cls := "java/lang/String", name := "coder", desc := "()B" } : Jvm.MethodName)) ∈ Tw := tm_4 (i := 136) rfl rfl
set_option maxRecDepth 100000 in
theorem wd_t857 : (Jvm.Cond.code ({ cls := "java/lang/String", name := "coder", desc := "()B" } : Jvm.MethodName) prog_23_method_152_code (1 : Nat) (Option.some Jvm.ClassFile.FieldType.byte)) ∈ Tw := tm_4 (i := 137) rfl rfl
set_option maxRecDepth 100000 in
theorem wd_t858 : (Jvm.Cond.fieldLink "java/lang/String" (38 : Nat) "java/lang/String" "COMPACT_STRINGS" "Z") ∈ Tw := tm_4 (i := 138) rfl rfl
set_option maxRecDepth 100000 in
theorem wd_t859 : (Jvm.Cond.laysStatic "java/lang/String" "COMPACT_STRINGS" "Z") ∈ lw_tbl := tl_4 (i := 139) rfl
set_option maxRecDepth 100000 in
theorem wd_t860 : (Jvm.Cond.methodLink "LentBoxes" (426 : Nat) ({ cls := "java/lang/String", name := "charAt", desc := "(I)C" } : Jvm.MethodName)) ∈ Tw := tm_4 (i := 140) rfl rfl
set_option maxRecDepth 100000 in
theorem wd_t861 : (Jvm.Cond.instanceMethod ({ cls := "java/lang/String", name := "charAt", desc := "(I)C" } : Jvm.MethodName)) ∈ Tw := tm_4 (i := 141) rfl rfl
set_option maxRecDepth 100000 in
theorem wd_t862 : (Jvm.Cond.selects "java/lang/String" ({ cls := "java/lang/String", name := "charAt", desc := "(I)C" } : Jvm.MethodName) ({ cls := "java/lang/String", name := "charAt", desc := "(I)C" } : Jvm.MethodName)) ∈ Tw := tm_4 (i := 142) rfl rfl
set_option maxRecDepth 100000 in
theorem wd_t863 : (Jvm.Cond.code ({ cls := "java/lang/String", name := "charAt", desc := "(I)C" } : Jvm.MethodName) prog_23_method_56_code (2 : Nat) (Option.some Jvm.ClassFile.FieldType.char)) ∈ Tw := tm_4 (i := 143) rfl rfl
set_option maxRecDepth 100000 in
theorem wd_t864 : (Jvm.Cond.methodLink "java/lang/String" (492 : Nat) ({ cls := "java/lang/String", name := "isLatin1", desc := "()Z" } : Jvm.MethodName)) ∈ Tw := tm_4 (i := 144) rfl rfl
set_option maxRecDepth 100000 in
theorem wd_t865 : (Jvm.Cond.instanceMethod ({ cls := "java/lang/String", name := "isLatin1", desc := "()Z" } : Jvm.MethodName)) ∈ Tw := tm_4 (i := 145) rfl rfl
set_option maxRecDepth 100000 in
theorem wd_t866 : (Jvm.Cond.selects "java/lang/String" ({ cls := "java/lang/String", name := "isLatin1", desc := "()Z" } : Jvm.MethodName) ({ cls := "java/lang/String", name := "isLatin1", desc := "()Z" } : Jvm.MethodName)) ∈ Tw := tm_4 (i := 146) rfl rfl
set_option maxRecDepth 100000 in
theorem wd_t867 : (Jvm.Cond.code ({ cls := "java/lang/String", name := "isLatin1", desc := "()Z" } : Jvm.MethodName) prog_23_method_154_code (1 : Nat) (Option.some Jvm.ClassFile.FieldType.boolean)) ∈ Tw := tm_4 (i := 147) rfl rfl
set_option maxRecDepth 100000 in
theorem wd_t868 : (Jvm.Cond.methodLink "java/lang/String" (495 : Nat) ({ cls := "java/lang/StringLatin1", name := "charAt", desc := "([BI)C" } : Jvm.MethodName)) ∈ Tw := tm_4 (i := 148) rfl rfl
set_option maxRecDepth 100000 in
theorem wd_t869 : (Jvm.Cond.static ({ cls := "java/lang/StringLatin1", name := "charAt", desc := "([BI)C" } : Jvm.MethodName)) ∈ Tw := tm_4 (i := 149) rfl rfl
set_option maxRecDepth 100000 in
theorem wd_t870 : (Jvm.Cond.code ({ cls := "java/lang/StringLatin1", name := "charAt", desc := "([BI)C" } : Jvm.MethodName) prog_24_method_2_code (2 : Nat) (Option.some Jvm.ClassFile.FieldType.char)) ∈ Tw := tm_4 (i := 150) rfl rfl
set_option maxRecDepth 100000 in
theorem wd_t871 : (Jvm.Cond.methodLink "java/lang/StringLatin1" (9 : Nat) ({ cls := "java/lang/String", name := "checkIndex", desc := "(II)V" } : Jvm.MethodName)) ∈ Tw := tm_4 (i := 151) rfl rfl
set_option maxRecDepth 100000 in
theorem wd_t872 : (Jvm.Cond.static ({ cls := "java/lang/String", name := "checkIndex", desc := "(II)V" } : Jvm.MethodName)) ∈ Tw := tm_4 (i := 152) rfl rfl
set_option maxRecDepth 100000 in
theorem wd_t873 : (Jvm.Cond.code ({ cls := "java/lang/String", name := "checkIndex", desc := "(II)V" } : Jvm.MethodName) prog_23_method_155_code (2 : Nat) (Option.none : Option Jvm.ClassFile.FieldType)) ∈ Tw := tm_4 (i := 153) rfl rfl
set_option maxRecDepth 100000 in
theorem wd_t874 : (Jvm.Cond.fieldLink "java/lang/String" (1053 : Nat) "jdk/internal/util/Preconditions" "SIOOBE_FORMATTER" "Ljava/util/function/BiFunction;") ∈ Tw := tm_4 (i := 154) rfl rfl
set_option maxRecDepth 100000 in
theorem wd_t875 : (Jvm.Cond.laysStatic "jdk/internal/util/Preconditions" "SIOOBE_FORMATTER" "Ljava/util/function/BiFunction;") ∈ lw_tbl := tl_4 (i := 155) rfl
set_option maxRecDepth 100000 in
theorem wd_t876 : (Jvm.Cond.methodLink "java/lang/String" (1059 : Nat) ({ cls := "jdk/internal/util/Preconditions", name := "checkIndex", desc := "(IILjava/util/function/BiFunction;)I" } : Jvm.MethodName)) ∈ Tw := tm_4 (i := 156) rfl rfl
set_option maxRecDepth 100000 in
theorem wd_t877 : (Jvm.Cond.static ({ cls := "jdk/internal/util/Preconditions", name := "checkIndex", desc := "(IILjava/util/function/BiFunction;)I" } : Jvm.MethodName)) ∈ Tw := tm_4 (i := 157) rfl rfl
set_option maxRecDepth 100000 in
theorem wd_t878 : (Jvm.Cond.code ({ cls := "jdk/internal/util/Preconditions", name := "checkIndex", desc := "(IILjava/util/function/BiFunction;)I" } : Jvm.MethodName) prog_32_method_11_code (3 : Nat) (Option.some Jvm.ClassFile.FieldType.int)) ∈ Tw := tm_4 (i := 158) rfl rfl
set_option maxRecDepth 100000 in
theorem wd_t898 : (Jvm.Cond.stringRef "LentBoxes" (338 : Nat) " waits") ∈ lw_tbl := tl_4 (i := 178) rfl
set_option maxRecDepth 100000 in
theorem wd_t899 : (Jvm.Cond.stringRef "LentBoxes" (340 : Nat) " lies in ") ∈ lw_tbl := tl_4 (i := 179) rfl
set_option maxRecDepth 100000 in
theorem wd_t900 : (Jvm.Cond.stringRef "LentBoxes" (345 : Nat) " laid in ") ∈ lw_tbl := tl_4 (i := 180) rfl
set_option maxRecDepth 100000 in
theorem wd_t901 : (Jvm.Cond.methodLink "LentBoxesLaw" (153 : Nat) ({ cls := "LentBoxes", name := "byteAt", desc := "(I)I" } : Jvm.MethodName)) ∈ Tw := tm_4 (i := 181) rfl rfl
set_option maxRecDepth 100000 in
theorem wd_t902 : (Jvm.Cond.instanceMethod ({ cls := "LentBoxes", name := "byteAt", desc := "(I)I" } : Jvm.MethodName)) ∈ Tw := tm_4 (i := 182) rfl rfl
set_option maxRecDepth 100000 in
theorem wd_t903 : (Jvm.Cond.selects "LentBoxes" ({ cls := "LentBoxes", name := "byteAt", desc := "(I)I" } : Jvm.MethodName) ({ cls := "LentBoxes", name := "byteAt", desc := "(I)I" } : Jvm.MethodName)) ∈ Tw := tm_4 (i := 183) rfl rfl
set_option maxRecDepth 100000 in
theorem wd_t904 : (Jvm.Cond.code ({ cls := "LentBoxes", name := "byteAt", desc := "(I)I" } : Jvm.MethodName) prog_1_method_32_code (2 : Nat) (Option.some Jvm.ClassFile.FieldType.int)) ∈ Tw := tm_4 (i := 184) rfl rfl
set_option maxRecDepth 100000 in
theorem wd_t905 : (Jvm.Cond.methodLink "LentBoxesLaw" (157 : Nat) ({ cls := "LentBoxes", name := "drawn", desc := "(II)I" } : Jvm.MethodName)) ∈ Tw := tm_4 (i := 185) rfl rfl
set_option maxRecDepth 100000 in
theorem wd_t906 : (Jvm.Cond.instanceMethod ({ cls := "LentBoxes", name := "drawn", desc := "(II)I" } : Jvm.MethodName)) ∈ Tw := tm_4 (i := 186) rfl rfl
set_option maxRecDepth 100000 in
theorem wd_t907 : (Jvm.Cond.selects "LentBoxes" ({ cls := "LentBoxes", name := "drawn", desc := "(II)I" } : Jvm.MethodName) ({ cls := "LentBoxes", name := "drawn", desc := "(II)I" } : Jvm.MethodName)) ∈ Tw := tm_4 (i := 187) rfl rfl
set_option maxRecDepth 100000 in
theorem wd_t908 : (Jvm.Cond.code ({ cls := "LentBoxes", name := "drawn", desc := "(II)I" } : Jvm.MethodName) prog_1_method_33_code (3 : Nat) (Option.some Jvm.ClassFile.FieldType.int)) ∈ Tw := tm_4 (i := 188) rfl rfl
set_option maxRecDepth 100000 in
theorem wd_t909 : (Jvm.Cond.methodLink "LentBoxes" (350 : Nat) ({ cls := "LentBoxes$Draws", name := "live", desc := "(IILLentBoxes$Vestry;LLentBoxes$State;)I" } : Jvm.MethodName)) ∈ Tw := tm_4 (i := 189) rfl rfl
set_option maxRecDepth 100000 in
theorem wd_t910 : (Jvm.Cond.instanceMethod ({ cls := "LentBoxes$Draws", name := "live", desc := "(IILLentBoxes$Vestry;LLentBoxes$State;)I" } : Jvm.MethodName)) ∈ Tw := tm_4 (i := 190) rfl rfl
set_option maxRecDepth 100000 in
theorem wd_t911 : (Jvm.Cond.selects "LentBoxes$Draws" ({ cls := "LentBoxes$Draws", name := "live", desc := "(IILLentBoxes$Vestry;LLentBoxes$State;)I" } : Jvm.MethodName) ({ cls := "LentBoxes$Draws", name := "live", desc := "(IILLentBoxes$Vestry;LLentBoxes$State;)I" } : Jvm.MethodName)) ∈ Tw := tm_4 (i := 191) rfl rfl
set_option maxRecDepth 100000 in
theorem wd_t912 : (Jvm.Cond.code ({ cls := "LentBoxes$Draws", name := "live", desc := "(IILLentBoxes$Vestry;LLentBoxes$State;)I" } : Jvm.MethodName) prog_4_method_3_code (6 : Nat) (Option.some Jvm.ClassFile.FieldType.int)) ∈ Tw := tm_4 (i := 192) rfl rfl
set_option maxRecDepth 100000 in
theorem wd_t913 : (Jvm.Cond.methodLink "LentBoxes$Draws" (21 : Nat) ({ cls := "LentBoxes$Draws", name := "actOnce", desc := "(LLentBoxes$Vestry;LLentBoxes$State;)V" } : Jvm.MethodName)) ∈ Tw := tm_4 (i := 193) rfl rfl
set_option maxRecDepth 100000 in
theorem wd_t915 : (Jvm.Cond.instanceMethod ({ cls := "LentBoxes$Draws", name := "actOnce", desc := "(LLentBoxes$Vestry;LLentBoxes$State;)V" } : Jvm.MethodName)) ∈ Tw := tm_4 (i := 195) rfl rfl
set_option maxRecDepth 100000 in
theorem wd_t916 : (Jvm.Cond.code ({ cls := "LentBoxes$Draws", name := "actOnce", desc := "(LLentBoxes$Vestry;LLentBoxes$State;)V" } : Jvm.MethodName) prog_4_method_4_code (6 : Nat) (Option.none : Option Jvm.ClassFile.FieldType)) ∈ Tw := tm_4 (i := 196) rfl rfl
set_option maxRecDepth 100000 in
theorem wd_t917 : (Jvm.Cond.methodLink "LentBoxes$Draws" (29 : Nat) ({ cls := "LentBoxes$Draws", name := "draw", desc := "(I)I" } : Jvm.MethodName)) ∈ Tw := tm_4 (i := 197) rfl rfl
set_option maxRecDepth 100000 in
theorem wd_t919 : (Jvm.Cond.instanceMethod ({ cls := "LentBoxes$Draws", name := "draw", desc := "(I)I" } : Jvm.MethodName)) ∈ Tw := tm_4 (i := 199) rfl rfl
set_option maxRecDepth 100000 in
theorem wd_t920 : (Jvm.Cond.code ({ cls := "LentBoxes$Draws", name := "draw", desc := "(I)I" } : Jvm.MethodName) prog_4_method_2_code (2 : Nat) (Option.some Jvm.ClassFile.FieldType.int)) ∈ Tw := tm_4 (i := 200) rfl rfl
set_option maxRecDepth 100000 in
theorem wd_t921 : (Jvm.Cond.constant "LentBoxes$Draws" (15 : Nat) (1103515245 : Int32)) ∈ Tw := tm_4 (i := 201) rfl rfl
set_option maxRecDepth 100000 in
theorem wd_t922 : (Jvm.Cond.methodLink "LentBoxes$Draws" (41 : Nat) ({ cls := "LentBoxes$State", name := "lendHim", desc := "(IILLentBoxes$Vestry;)I" } : Jvm.MethodName)) ∈ Tw := tm_4 (i := 202) rfl rfl
set_option maxRecDepth 100000 in
theorem wd_t923 : (Jvm.Cond.methodLink "LentBoxes$Draws" (48 : Nat) ({ cls := "LentBoxes$State", name := "layHim", desc := "(IILLentBoxes$Vestry;)I" } : Jvm.MethodName)) ∈ Tw := tm_4 (i := 203) rfl rfl
set_option maxRecDepth 100000 in
theorem wd_t924 : (Jvm.Cond.methodLink "LentBoxes$Draws" (51 : Nat) ({ cls := "LentBoxes$State", name := "mendIt", desc := "(I)I" } : Jvm.MethodName)) ∈ Tw := tm_4 (i := 204) rfl rfl
set_option maxRecDepth 100000 in
theorem wd_t925 : (Jvm.Cond.methodLink "LentBoxes$Draws" (54 : Nat) ({ cls := "LentBoxes$State", name := "swapThem", desc := "(IILLentBoxes$Vestry;)I" } : Jvm.MethodName)) ∈ Tw := tm_4 (i := 205) rfl rfl
set_option maxRecDepth 100000 in
theorem wd_t926 : (Jvm.Cond.methodLink "LentBoxes$Draws" (25 : Nat) ({ cls := "LentBoxes$State", name := "passDays", desc := "(ILLentBoxes$Vestry;)I" } : Jvm.MethodName)) ∈ Tw := tm_4 (i := 206) rfl rfl
set_option maxRecDepth 100000 in
theorem wd_t927 : (Jvm.Cond.methodLink "LentBoxesLaw" (161 : Nat) ({ cls := "LentBoxes", name := "odds", desc := "(III)I" } : Jvm.MethodName)) ∈ Tw := tm_4 (i := 207) rfl rfl
set_option maxRecDepth 100000 in
theorem wd_t928 : (Jvm.Cond.instanceMethod ({ cls := "LentBoxes", name := "odds", desc := "(III)I" } : Jvm.MethodName)) ∈ Tw := tm_4 (i := 208) rfl rfl
set_option maxRecDepth 100000 in
theorem wd_t929 : (Jvm.Cond.selects "LentBoxes" ({ cls := "LentBoxes", name := "odds", desc := "(III)I" } : Jvm.MethodName) ({ cls := "LentBoxes", name := "odds", desc := "(III)I" } : Jvm.MethodName)) ∈ Tw := tm_4 (i := 209) rfl rfl
set_option maxRecDepth 100000 in
theorem wd_t930 : (Jvm.Cond.code ({ cls := "LentBoxes", name := "odds", desc := "(III)I" } : Jvm.MethodName) prog_1_method_34_code (6 : Nat) (Option.some Jvm.ClassFile.FieldType.int)) ∈ Tw := tm_4 (i := 210) rfl rfl
set_option maxRecDepth 100000 in
theorem wd_t931 : (Jvm.Cond.methodLink "LentBoxesLaw" (166 : Nat) ({ cls := "LentBoxes", name := "book", desc := "(I)I" } : Jvm.MethodName)) ∈ Tw := tm_4 (i := 211) rfl rfl
set_option maxRecDepth 100000 in
theorem wd_t932 : (Jvm.Cond.instanceMethod ({ cls := "LentBoxes", name := "book", desc := "(I)I" } : Jvm.MethodName)) ∈ Tw := tm_4 (i := 212) rfl rfl
set_option maxRecDepth 100000 in
theorem wd_t933 : (Jvm.Cond.selects "LentBoxes" ({ cls := "LentBoxes", name := "book", desc := "(I)I" } : Jvm.MethodName) ({ cls := "LentBoxes", name := "book", desc := "(I)I" } : Jvm.MethodName)) ∈ Tw := tm_4 (i := 213) rfl rfl
set_option maxRecDepth 100000 in
theorem wd_t934 : (Jvm.Cond.code ({ cls := "LentBoxes", name := "book", desc := "(I)I" } : Jvm.MethodName) prog_1_method_35_code (3 : Nat) (Option.some Jvm.ClassFile.FieldType.int)) ∈ Tw := tm_4 (i := 214) rfl rfl
set_option maxRecDepth 100000 in
theorem wd_t935 : (Jvm.Cond.methodLink "LentBoxes" (354 : Nat) ({ cls := "LentBoxes$Book", name := "readFrom", desc := "(LLentBoxes$Tape;LLentBoxes$Vestry;)V" } : Jvm.MethodName)) ∈ Tw := tm_4 (i := 215) rfl rfl
set_option maxRecDepth 100000 in
theorem wd_t936 : (Jvm.Cond.instanceMethod ({ cls := "LentBoxes$Book", name := "readFrom", desc := "(LLentBoxes$Tape;LLentBoxes$Vestry;)V" } : Jvm.MethodName)) ∈ Tw := tm_4 (i := 216) rfl rfl
set_option maxRecDepth 100000 in
theorem wd_t937 : (Jvm.Cond.selects "LentBoxes$Book" ({ cls := "LentBoxes$Book", name := "readFrom", desc := "(LLentBoxes$Tape;LLentBoxes$Vestry;)V" } : Jvm.MethodName) ({ cls := "LentBoxes$Book", name := "readFrom", desc := "(LLentBoxes$Tape;LLentBoxes$Vestry;)V" } : Jvm.MethodName)) ∈ Tw := tm_4 (i := 217) rfl rfl
set_option maxRecDepth 100000 in
theorem wd_t938 : (Jvm.Cond.code ({ cls := "LentBoxes$Book", name := "readFrom", desc := "(LLentBoxes$Tape;LLentBoxes$Vestry;)V" } : Jvm.MethodName) prog_3_method_2_code (4 : Nat) (Option.none : Option Jvm.ClassFile.FieldType)) ∈ Tw := tm_4 (i := 218) rfl rfl
set_option maxRecDepth 100000 in
theorem wd_t939 : (Jvm.Cond.methodLink "LentBoxes$Book" (30 : Nat) ({ cls := "LentBoxes$Book", name := "readLine", desc := "(LLentBoxes$Tape;LLentBoxes$Vestry;)Z" } : Jvm.MethodName)) ∈ Tw := tm_4 (i := 219) rfl rfl
set_option maxRecDepth 100000 in
theorem wd_t941 : (Jvm.Cond.instanceMethod ({ cls := "LentBoxes$Book", name := "readLine", desc := "(LLentBoxes$Tape;LLentBoxes$Vestry;)Z" } : Jvm.MethodName)) ∈ Tw := tm_4 (i := 221) rfl rfl
set_option maxRecDepth 100000 in
theorem wd_t942 : (Jvm.Cond.code ({ cls := "LentBoxes$Book", name := "readLine", desc := "(LLentBoxes$Tape;LLentBoxes$Vestry;)Z" } : Jvm.MethodName) prog_3_method_3_code (4 : Nat) (Option.some Jvm.ClassFile.FieldType.boolean)) ∈ Tw := tm_4 (i := 222) rfl rfl
set_option maxRecDepth 100000 in
theorem wd_t943 : (Jvm.Cond.methodLink "LentBoxes$Book" (38 : Nat) ({ cls := "LentBoxes$Book", name := "actOf", desc := "(LLentBoxes$Tape;)I" } : Jvm.MethodName)) ∈ Tw := tm_4 (i := 223) rfl rfl
set_option maxRecDepth 100000 in
theorem wd_t944 : (Jvm.Cond.static ({ cls := "LentBoxes$Book", name := "actOf", desc := "(LLentBoxes$Tape;)I" } : Jvm.MethodName)) ∈ Tw := tm_4 (i := 224) rfl rfl
set_option maxRecDepth 100000 in
theorem wd_t945 : (Jvm.Cond.code ({ cls := "LentBoxes$Book", name := "actOf", desc := "(LLentBoxes$Tape;)I" } : Jvm.MethodName) prog_3_method_5_code (2 : Nat) (Option.some Jvm.ClassFile.FieldType.int)) ∈ Tw := tm_4 (i := 225) rfl rfl
set_option maxRecDepth 100000 in
theorem wd_t946 : (Jvm.Cond.fieldLink "LentBoxes$Book" (73 : Nat) "LentBoxes$1" "$SwitchMap$LentBoxes$Word" "[I") ∈ Tw := tm_4 (i := 226) rfl rfl
set_option maxRecDepth 100000 in
theorem wd_t947 : (Jvm.Cond.methodLink "LentBoxes$Book" (78 : Nat) ({ cls := "LentBoxes$Word", name := "ordinal", desc := "()I" } : Jvm.MethodName)) ∈ Tw := tm_4 (i := 227) rfl rfl
set_option maxRecDepth 100000 in
theorem wd_t948 : (Jvm.Cond.methodLink "LentBoxes$Book" (42 : Nat) ({ cls := "LentBoxes$Tape", name := "fail", desc := "(I)Z" } : Jvm.MethodName)) ∈ Tw := tm_4 (i := 228) rfl rfl
set_option maxRecDepth 100000 in
theorem wd_t949 : (Jvm.Cond.methodLink "LentBoxes$Book" (45 : Nat) ({ cls := "LentBoxes$Tape", name := "advance", desc := "()V" } : Jvm.MethodName)) ∈ Tw := tm_4 (i := 229) rfl rfl
set_option maxRecDepth 100000 in
theorem wd_t950 : (Jvm.Cond.methodLink "LentBoxes$Book" (48 : Nat) ({ cls := "LentBoxes$Tape", name := "takeNumber", desc := "(II)I" } : Jvm.MethodName)) ∈ Tw := tm_4 (i := 230) rfl rfl
set_option maxRecDepth 100000 in
theorem wd_t951 : (Jvm.Cond.methodLink "LentBoxes$Book" (52 : Nat) ({ cls := "LentBoxes$Vestry", name := "takeBox", desc := "(LLentBoxes$Tape;)I" } : Jvm.MethodName)) ∈ Tw := tm_4 (i := 231) rfl rfl
set_option maxRecDepth 100000 in
theorem wd_t952 : (Jvm.Cond.methodLink "LentBoxes$Book" (57 : Nat) ({ cls := "LentBoxes$Vestry", name := "takeDead", desc := "(LLentBoxes$Tape;)I" } : Jvm.MethodName)) ∈ Tw := tm_4 (i := 232) rfl rfl
set_option maxRecDepth 100000 in
theorem wd_t953 : (Jvm.Cond.methodLink "LentBoxes$Book" (60 : Nat) ({ cls := "LentBoxes$Book", name := "readOther", desc := "(LLentBoxes$Tape;LLentBoxes$Vestry;)Z" } : Jvm.MethodName)) ∈ Tw := tm_4 (i := 233) rfl rfl
set_option maxRecDepth 100000 in
theorem wd_t955 : (Jvm.Cond.instanceMethod ({ cls := "LentBoxes$Book", name := "readOther", desc := "(LLentBoxes$Tape;LLentBoxes$Vestry;)Z" } : Jvm.MethodName)) ∈ Tw := tm_4 (i := 235) rfl rfl
set_option maxRecDepth 100000 in
theorem wd_t956 : (Jvm.Cond.code ({ cls := "LentBoxes$Book", name := "readOther", desc := "(LLentBoxes$Tape;LLentBoxes$Vestry;)Z" } : Jvm.MethodName) prog_3_method_4_code (3 : Nat) (Option.some Jvm.ClassFile.FieldType.boolean)) ∈ Tw := tm_4 (i := 236) rfl rfl
set_option maxRecDepth 100000 in
theorem wd_t957 : (Jvm.Cond.methodLink "LentBoxes$Book" (66 : Nat) ({ cls := "LentBoxes$Vestry", name := "seeDead", desc := "(LLentBoxes$Tape;)I" } : Jvm.MethodName)) ∈ Tw := tm_4 (i := 237) rfl rfl
set_option maxRecDepth 100000 in
theorem wd_t958 : (Jvm.Cond.methodLink "LentBoxes$Book" (63 : Nat) ({ cls := "LentBoxes$Vestry", name := "takePlot", desc := "(LLentBoxes$Tape;)I" } : Jvm.MethodName)) ∈ Tw := tm_4 (i := 238) rfl rfl
set_option maxRecDepth 100000 in
theorem wd_t959 : (Jvm.Cond.instanceMethod ({ cls := "LentBoxes$Vestry", name := "takePlot", desc := "(LLentBoxes$Tape;)I" } : Jvm.MethodName)) ∈ Tw := tm_4 (i := 239) rfl rfl
set_option maxRecDepth 100000 in
theorem wd_t960 : (Jvm.Cond.selects "LentBoxes$Vestry" ({ cls := "LentBoxes$Vestry", name := "takePlot", desc := "(LLentBoxes$Tape;)I" } : Jvm.MethodName) ({ cls := "LentBoxes$Vestry", name := "takePlot", desc := "(LLentBoxes$Tape;)I" } : Jvm.MethodName)) ∈ Tw := tm_5 (i := 0) rfl rfl
set_option maxRecDepth 100000 in
theorem wd_t961 : (Jvm.Cond.code ({ cls := "LentBoxes$Vestry", name := "takePlot", desc := "(LLentBoxes$Tape;)I" } : Jvm.MethodName) prog_10_method_22_code (3 : Nat) (Option.some Jvm.ClassFile.FieldType.int)) ∈ Tw := tm_5 (i := 1) rfl rfl
set_option maxRecDepth 100000 in
theorem wd_t962 : (Jvm.Cond.methodLink "LentBoxes$Book" (34 : Nat) ({ cls := "LentBoxes$Tape", name := "takeSign", desc := "(I)Z" } : Jvm.MethodName)) ∈ Tw := tm_5 (i := 2) rfl rfl
set_option maxRecDepth 100000 in
theorem wd_t963 : (Jvm.Cond.methodLink "LentBoxes" (357 : Nat) ({ cls := "LentBoxes", name := "judge", desc := "()I" } : Jvm.MethodName)) ∈ Tw := tm_5 (i := 3) rfl rfl
set_option maxRecDepth 100000 in
theorem wd_t965 : (Jvm.Cond.instanceMethod ({ cls := "LentBoxes", name := "judge", desc := "()I" } : Jvm.MethodName)) ∈ Tw := tm_5 (i := 5) rfl rfl
set_option maxRecDepth 100000 in
theorem wd_t966 : (Jvm.Cond.code ({ cls := "LentBoxes", name := "judge", desc := "()I" } : Jvm.MethodName) prog_1_method_57_code (3 : Nat) (Option.some Jvm.ClassFile.FieldType.int)) ∈ Tw := tm_5 (i := 6) rfl rfl
set_option maxRecDepth 100000 in
theorem wd_t967 : (Jvm.Cond.methodLink "LentBoxes" (435 : Nat) ({ cls := "LentBoxes$Book", name := "liveLine", desc := "(ILLentBoxes$Vestry;LLentBoxes$State;)I" } : Jvm.MethodName)) ∈ Tw := tm_5 (i := 7) rfl rfl
set_option maxRecDepth 100000 in
theorem wd_t968 : (Jvm.Cond.instanceMethod ({ cls := "LentBoxes$Book", name := "liveLine", desc := "(ILLentBoxes$Vestry;LLentBoxes$State;)I" } : Jvm.MethodName)) ∈ Tw := tm_5 (i := 8) rfl rfl
set_option maxRecDepth 100000 in
theorem wd_t969 : (Jvm.Cond.selects "LentBoxes$Book" ({ cls := "LentBoxes$Book", name := "liveLine", desc := "(ILLentBoxes$Vestry;LLentBoxes$State;)I" } : Jvm.MethodName) ({ cls := "LentBoxes$Book", name := "liveLine", desc := "(ILLentBoxes$Vestry;LLentBoxes$State;)I" } : Jvm.MethodName)) ∈ Tw := tm_5 (i := 9) rfl rfl
set_option maxRecDepth 100000 in
theorem wd_t970 : (Jvm.Cond.code ({ cls := "LentBoxes$Book", name := "liveLine", desc := "(ILLentBoxes$Vestry;LLentBoxes$State;)I" } : Jvm.MethodName) prog_3_method_6_code (5 : Nat) (Option.some Jvm.ClassFile.FieldType.int)) ∈ Tw := tm_5 (i := 10) rfl rfl
set_option maxRecDepth 100000 in
theorem wd_t971 : (Jvm.Cond.methodLink "LentBoxes$Book" (84 : Nat) ({ cls := "LentBoxes$Book", name := "liveAct", desc := "(ILLentBoxes$Vestry;LLentBoxes$State;)I" } : Jvm.MethodName)) ∈ Tw := tm_5 (i := 11) rfl rfl
set_option maxRecDepth 100000 in
theorem wd_t973 : (Jvm.Cond.instanceMethod ({ cls := "LentBoxes$Book", name := "liveAct", desc := "(ILLentBoxes$Vestry;LLentBoxes$State;)I" } : Jvm.MethodName)) ∈ Tw := tm_5 (i := 13) rfl rfl
set_option maxRecDepth 100000 in
theorem wd_t974 : (Jvm.Cond.code ({ cls := "LentBoxes$Book", name := "liveAct", desc := "(ILLentBoxes$Vestry;LLentBoxes$State;)I" } : Jvm.MethodName) prog_3_method_7_code (4 : Nat) (Option.some Jvm.ClassFile.FieldType.int)) ∈ Tw := tm_5 (i := 14) rfl rfl
set_option maxRecDepth 100000 in
theorem wd_t975 : (Jvm.Cond.methodLink "LentBoxes$Book" (88 : Nat) ({ cls := "LentBoxes$State", name := "lendHim", desc := "(IILLentBoxes$Vestry;)I" } : Jvm.MethodName)) ∈ Tw := tm_5 (i := 15) rfl rfl
set_option maxRecDepth 100000 in
theorem wd_t976 : (Jvm.Cond.methodLink "LentBoxes$Book" (94 : Nat) ({ cls := "LentBoxes$State", name := "layHim", desc := "(IILLentBoxes$Vestry;)I" } : Jvm.MethodName)) ∈ Tw := tm_5 (i := 16) rfl rfl
set_option maxRecDepth 100000 in
theorem wd_t977 : (Jvm.Cond.methodLink "LentBoxes$Book" (97 : Nat) ({ cls := "LentBoxes$State", name := "swapThem", desc := "(IILLentBoxes$Vestry;)I" } : Jvm.MethodName)) ∈ Tw := tm_5 (i := 17) rfl rfl
set_option maxRecDepth 100000 in
theorem wd_t978 : (Jvm.Cond.methodLink "LentBoxes$Book" (100 : Nat) ({ cls := "LentBoxes$State", name := "mendIt", desc := "(I)I" } : Jvm.MethodName)) ∈ Tw := tm_5 (i := 18) rfl rfl
set_option maxRecDepth 100000 in
theorem wd_t979 : (Jvm.Cond.methodLink "LentBoxes$Book" (107 : Nat) ({ cls := "LentBoxes$State", name := "passDays", desc := "(ILLentBoxes$Vestry;)I" } : Jvm.MethodName)) ∈ Tw := tm_5 (i := 19) rfl rfl
set_option maxRecDepth 100000 in
theorem wd_t980 : (Jvm.Cond.methodLink "LentBoxesLaw" (170 : Nat) ({ cls := "LentBoxes", name := "told", desc := "(I)I" } : Jvm.MethodName)) ∈ Tw := tm_5 (i := 20) rfl rfl
set_option maxRecDepth 100000 in
theorem wd_t981 : (Jvm.Cond.instanceMethod ({ cls := "LentBoxes", name := "told", desc := "(I)I" } : Jvm.MethodName)) ∈ Tw := tm_5 (i := 21) rfl rfl
set_option maxRecDepth 100000 in
theorem wd_t982 : (Jvm.Cond.selects "LentBoxes" ({ cls := "LentBoxes", name := "told", desc := "(I)I" } : Jvm.MethodName) ({ cls := "LentBoxes", name := "told", desc := "(I)I" } : Jvm.MethodName)) ∈ Tw := tm_5 (i := 22) rfl rfl
set_option maxRecDepth 100000 in
theorem wd_t983 : (Jvm.Cond.code ({ cls := "LentBoxes", name := "told", desc := "(I)I" } : Jvm.MethodName) prog_1_method_36_code (2 : Nat) (Option.some Jvm.ClassFile.FieldType.int)) ∈ Tw := tm_5 (i := 23) rfl rfl
set_option maxRecDepth 100000 in
theorem wd_t984 : (Jvm.Cond.methodLink "LentBoxesLaw" (174 : Nat) ({ cls := "LentBoxes", name := "sentence", desc := "()I" } : Jvm.MethodName)) ∈ Tw := tm_5 (i := 24) rfl rfl
set_option maxRecDepth 100000 in
theorem wd_t985 : (Jvm.Cond.instanceMethod ({ cls := "LentBoxes", name := "sentence", desc := "()I" } : Jvm.MethodName)) ∈ Tw := tm_5 (i := 25) rfl rfl
set_option maxRecDepth 100000 in
theorem wd_t986 : (Jvm.Cond.selects "LentBoxes" ({ cls := "LentBoxes", name := "sentence", desc := "()I" } : Jvm.MethodName) ({ cls := "LentBoxes", name := "sentence", desc := "()I" } : Jvm.MethodName)) ∈ Tw := tm_5 (i := 26) rfl rfl
set_option maxRecDepth 100000 in
theorem wd_t987 : (Jvm.Cond.code ({ cls := "LentBoxes", name := "sentence", desc := "()I" } : Jvm.MethodName) prog_1_method_37_code (1 : Nat) (Option.some Jvm.ClassFile.FieldType.int)) ∈ Tw := tm_5 (i := 27) rfl rfl
set_option maxRecDepth 100000 in
theorem wd_t988 : (Jvm.Cond.methodLink "LentBoxes" (370 : Nat) ({ cls := "LentBoxes$Sentence", name := "readCond", desc := "(LLentBoxes$Tape;LLentBoxes$Vestry;I)Z" } : Jvm.MethodName)) ∈ Tw := tm_5 (i := 28) rfl rfl
set_option maxRecDepth 100000 in
theorem wd_t989 : (Jvm.Cond.instanceMethod ({ cls := "LentBoxes$Sentence", name := "readCond", desc := "(LLentBoxes$Tape;LLentBoxes$Vestry;I)Z" } : Jvm.MethodName)) ∈ Tw := tm_5 (i := 29) rfl rfl
set_option maxRecDepth 100000 in
theorem wd_t990 : (Jvm.Cond.selects "LentBoxes$Sentence" ({ cls := "LentBoxes$Sentence", name := "readCond", desc := "(LLentBoxes$Tape;LLentBoxes$Vestry;I)Z" } : Jvm.MethodName) ({ cls := "LentBoxes$Sentence", name := "readCond", desc := "(LLentBoxes$Tape;LLentBoxes$Vestry;I)Z" } : Jvm.MethodName)) ∈ Tw := tm_5 (i := 30) rfl rfl
set_option maxRecDepth 100000 in
theorem wd_t991 : (Jvm.Cond.code ({ cls := "LentBoxes$Sentence", name := "readCond", desc := "(LLentBoxes$Tape;LLentBoxes$Vestry;I)Z" } : Jvm.MethodName) prog_7_method_4_code (5 : Nat) (Option.some Jvm.ClassFile.FieldType.boolean)) ∈ Tw := tm_5 (i := 31) rfl rfl
set_option maxRecDepth 100000 in
theorem wd_t992 : (Jvm.Cond.methodLink "LentBoxes$Sentence" (37 : Nat) ({ cls := "LentBoxes$Sentence", name := "readEach", desc := "(LLentBoxes$Tape;LLentBoxes$Vestry;I)Z" } : Jvm.MethodName)) ∈ Tw := tm_5 (i := 32) rfl rfl
set_option maxRecDepth 100000 in
theorem wd_t994 : (Jvm.Cond.instanceMethod ({ cls := "LentBoxes$Sentence", name := "readEach", desc := "(LLentBoxes$Tape;LLentBoxes$Vestry;I)Z" } : Jvm.MethodName)) ∈ Tw := tm_5 (i := 34) rfl rfl
set_option maxRecDepth 100000 in
theorem wd_t995 : (Jvm.Cond.code ({ cls := "LentBoxes$Sentence", name := "readEach", desc := "(LLentBoxes$Tape;LLentBoxes$Vestry;I)Z" } : Jvm.MethodName) prog_7_method_5_code (5 : Nat) (Option.some Jvm.ClassFile.FieldType.boolean)) ∈ Tw := tm_5 (i := 35) rfl rfl
set_option maxRecDepth 100000 in
theorem wd_t996 : (Jvm.Cond.methodLink "LentBoxes$Sentence" (60 : Nat) ({ cls := "LentBoxes$Sentence", name := "readOne", desc := "(LLentBoxes$Tape;LLentBoxes$Vestry;I)Z" } : Jvm.MethodName)) ∈ Tw := tm_5 (i := 36) rfl rfl
set_option maxRecDepth 100000 in
theorem wd_t998 : (Jvm.Cond.instanceMethod ({ cls := "LentBoxes$Sentence", name := "readOne", desc := "(LLentBoxes$Tape;LLentBoxes$Vestry;I)Z" } : Jvm.MethodName)) ∈ Tw := tm_5 (i := 38) rfl rfl
set_option maxRecDepth 100000 in
theorem wd_t999 : (Jvm.Cond.code ({ cls := "LentBoxes$Sentence", name := "readOne", desc := "(LLentBoxes$Tape;LLentBoxes$Vestry;I)Z" } : Jvm.MethodName) prog_7_method_6_code (6 : Nat) (Option.some Jvm.ClassFile.FieldType.boolean)) ∈ Tw := tm_5 (i := 39) rfl rfl
set_option maxRecDepth 100000 in
theorem wd_t1000 : (Jvm.Cond.methodLink "LentBoxes$Sentence" (72 : Nat) ({ cls := "LentBoxes$Sentence", name := "beginsOne", desc := "(LLentBoxes$Word;)Z" } : Jvm.MethodName)) ∈ Tw := tm_5 (i := 40) rfl rfl
set_option maxRecDepth 100000 in
theorem wd_t1001 : (Jvm.Cond.static ({ cls := "LentBoxes$Sentence", name := "beginsOne", desc := "(LLentBoxes$Word;)Z" } : Jvm.MethodName)) ∈ Tw := tm_5 (i := 41) rfl rfl
set_option maxRecDepth 100000 in
theorem wd_t1002 : (Jvm.Cond.code ({ cls := "LentBoxes$Sentence", name := "beginsOne", desc := "(LLentBoxes$Word;)Z" } : Jvm.MethodName) prog_7_method_7_code (1 : Nat) (Option.some Jvm.ClassFile.FieldType.boolean)) ∈ Tw := tm_5 (i := 42) rfl rfl
set_option maxRecDepth 100000 in
theorem wd_t1003 : (Jvm.Cond.fieldLink "LentBoxes$Sentence" (92 : Nat) "LentBoxes$1" "$SwitchMap$LentBoxes$Word" "[I") ∈ Tw := tm_5 (i := 43) rfl rfl
set_option maxRecDepth 100000 in
theorem wd_t1004 : (Jvm.Cond.methodLink "LentBoxes$Sentence" (97 : Nat) ({ cls := "LentBoxes$Word", name := "ordinal", desc := "()I" } : Jvm.MethodName)) ∈ Tw := tm_5 (i := 44) rfl rfl
set_option maxRecDepth 100000 in
theorem wd_t1005 : (Jvm.Cond.methodLink "LentBoxes$Sentence" (75 : Nat) ({ cls := "LentBoxes$Tape", name := "fail", desc := "(I)Z" } : Jvm.MethodName)) ∈ Tw := tm_5 (i := 45) rfl rfl
set_option maxRecDepth 100000 in
theorem wd_t1006 : (Jvm.Cond.methodLink "LentBoxes$Sentence" (53 : Nat) ({ cls := "LentBoxes$Tape", name := "advance", desc := "()V" } : Jvm.MethodName)) ∈ Tw := tm_5 (i := 46) rfl rfl
set_option maxRecDepth 100000 in
theorem wd_t1007 : (Jvm.Cond.methodLink "LentBoxes$Sentence" (79 : Nat) ({ cls := "LentBoxes$Sentence", name := "readCond", desc := "(LLentBoxes$Tape;LLentBoxes$Vestry;I)Z" } : Jvm.MethodName)) ∈ Tw := tm_5 (i := 47) rfl rfl
set_option maxRecDepth 100000 in
theorem wd_t1008 : (Jvm.Cond.methodLink "LentBoxes$Sentence" (82 : Nat) ({ cls := "LentBoxes$Tape", name := "takeSign", desc := "(I)Z" } : Jvm.MethodName)) ∈ Tw := tm_5 (i := 48) rfl rfl
set_option maxRecDepth 100000 in
theorem wd_t1009 : (Jvm.Cond.fieldLink "LentBoxes$Sentence" (85 : Nat) "LentBoxes$Word" "NOT" "LLentBoxes$Word;") ∈ Tw := tm_5 (i := 49) rfl rfl
set_option maxRecDepth 100000 in
theorem wd_t1010 : (Jvm.Cond.laysStatic "LentBoxes$Word" "NOT" "LLentBoxes$Word;") ∈ lw_tbl := tl_5 (i := 50) rfl
set_option maxRecDepth 100000 in
theorem wd_t1011 : (Jvm.Cond.methodLink "LentBoxes$Sentence" (56 : Nat) ({ cls := "LentBoxes$Sentence", name := "put", desc := "(III)Z" } : Jvm.MethodName)) ∈ Tw := tm_5 (i := 51) rfl rfl
set_option maxRecDepth 100000 in
theorem wd_t1013 : (Jvm.Cond.instanceMethod ({ cls := "LentBoxes$Sentence", name := "put", desc := "(III)Z" } : Jvm.MethodName)) ∈ Tw := tm_5 (i := 53) rfl rfl
set_option maxRecDepth 100000 in
theorem wd_t1014 : (Jvm.Cond.code ({ cls := "LentBoxes$Sentence", name := "put", desc := "(III)Z" } : Jvm.MethodName) prog_7_method_11_code (4 : Nat) (Option.some Jvm.ClassFile.FieldType.boolean)) ∈ Tw := tm_5 (i := 54) rfl rfl
set_option maxRecDepth 100000 in
theorem wd_t1015 : (Jvm.Cond.methodLink "LentBoxes$Sentence" (88 : Nat) ({ cls := "LentBoxes$Sentence", name := "readPlain", desc := "(LLentBoxes$Word;LLentBoxes$Tape;LLentBoxes$Vestry;)Z" } : Jvm.MethodName)) ∈ Tw := tm_5 (i := 55) rfl rfl
set_option maxRecDepth 100000 in
theorem wd_t1017 : (Jvm.Cond.instanceMethod ({ cls := "LentBoxes$Sentence", name := "readPlain", desc := "(LLentBoxes$Word;LLentBoxes$Tape;LLentBoxes$Vestry;)Z" } : Jvm.MethodName)) ∈ Tw := tm_5 (i := 57) rfl rfl
set_option maxRecDepth 100000 in
theorem wd_t1018 : (Jvm.Cond.code ({ cls := "LentBoxes$Sentence", name := "readPlain", desc := "(LLentBoxes$Word;LLentBoxes$Tape;LLentBoxes$Vestry;)Z" } : Jvm.MethodName) prog_7_method_8_code (7 : Nat) (Option.some Jvm.ClassFile.FieldType.boolean)) ∈ Tw := tm_5 (i := 58) rfl rfl
set_option maxRecDepth 100000 in
theorem wd_t1019 : (Jvm.Cond.methodLink "LentBoxes$Sentence" (101 : Nat) ({ cls := "LentBoxes$Sentence", name := "partOf", desc := "(LLentBoxes$Word;)I" } : Jvm.MethodName)) ∈ Tw := tm_5 (i := 59) rfl rfl
set_option maxRecDepth 100000 in
theorem wd_t1020 : (Jvm.Cond.static ({ cls := "LentBoxes$Sentence", name := "partOf", desc := "(LLentBoxes$Word;)I" } : Jvm.MethodName)) ∈ Tw := tm_5 (i := 60) rfl rfl
set_option maxRecDepth 100000 in
theorem wd_t1021 : (Jvm.Cond.code ({ cls := "LentBoxes$Sentence", name := "partOf", desc := "(LLentBoxes$Word;)I" } : Jvm.MethodName) prog_7_method_9_code (1 : Nat) (Option.some Jvm.ClassFile.FieldType.int)) ∈ Tw := tm_5 (i := 61) rfl rfl
set_option maxRecDepth 100000 in
theorem wd_t1022 : (Jvm.Cond.fieldLink "LentBoxes$Sentence" (121 : Nat) "LentBoxes$Word" "IN" "LLentBoxes$Word;") ∈ Tw := tm_5 (i := 62) rfl rfl
set_option maxRecDepth 100000 in
theorem wd_t1023 : (Jvm.Cond.laysStatic "LentBoxes$Word" "IN" "LLentBoxes$Word;") ∈ lw_tbl := tl_5 (i := 63) rfl
set_option maxRecDepth 100000 in
theorem wd_t1024 : (Jvm.Cond.fieldLink "LentBoxes$Sentence" (124 : Nat) "LentBoxes$Word" "KIN" "LLentBoxes$Word;") ∈ Tw := tm_5 (i := 64) rfl rfl
set_option maxRecDepth 100000 in
theorem wd_t1025 : (Jvm.Cond.laysStatic "LentBoxes$Word" "KIN" "LLentBoxes$Word;") ∈ lw_tbl := tl_5 (i := 65) rfl
set_option maxRecDepth 100000 in
theorem wd_t1026 : (Jvm.Cond.fieldLink "LentBoxes$Sentence" (127 : Nat) "LentBoxes$Word" "LONG" "LLentBoxes$Word;") ∈ Tw := tm_5 (i := 66) rfl rfl
set_option maxRecDepth 100000 in
theorem wd_t1027 : (Jvm.Cond.laysStatic "LentBoxes$Word" "LONG" "LLentBoxes$Word;") ∈ lw_tbl := tl_5 (i := 67) rfl
set_option maxRecDepth 100000 in
theorem wd_t1028 : (Jvm.Cond.fieldLink "LentBoxes$Sentence" (130 : Nat) "LentBoxes$Word" "WAITED" "LLentBoxes$Word;") ∈ Tw := tm_5 (i := 68) rfl rfl
set_option maxRecDepth 100000 in
theorem wd_t1029 : (Jvm.Cond.laysStatic "LentBoxes$Word" "WAITED" "LLentBoxes$Word;") ∈ lw_tbl := tl_5 (i := 69) rfl
set_option maxRecDepth 100000 in
theorem wd_t1030 : (Jvm.Cond.fieldLink "LentBoxes$Sentence" (133 : Nat) "LentBoxes$Word" "LAIN" "LLentBoxes$Word;") ∈ Tw := tm_5 (i := 70) rfl rfl
set_option maxRecDepth 100000 in
theorem wd_t1031 : (Jvm.Cond.laysStatic "LentBoxes$Word" "LAIN" "LLentBoxes$Word;") ∈ lw_tbl := tl_5 (i := 71) rfl
set_option maxRecDepth 100000 in
theorem wd_t1032 : (Jvm.Cond.fieldLink "LentBoxes$Sentence" (136 : Nat) "LentBoxes$Word" "NUMBER" "LLentBoxes$Word;") ∈ Tw := tm_5 (i := 72) rfl rfl
set_option maxRecDepth 100000 in
theorem wd_t1033 : (Jvm.Cond.laysStatic "LentBoxes$Word" "NUMBER" "LLentBoxes$Word;") ∈ lw_tbl := tl_5 (i := 73) rfl
set_option maxRecDepth 100000 in
theorem wd_t1034 : (Jvm.Cond.methodLink "LentBoxes$Sentence" (105 : Nat) ({ cls := "LentBoxes$Sentence", name := "howOf", desc := "(LLentBoxes$Word;)I" } : Jvm.MethodName)) ∈ Tw := tm_5 (i := 74) rfl rfl
set_option maxRecDepth 100000 in
theorem wd_t1035 : (Jvm.Cond.static ({ cls := "LentBoxes$Sentence", name := "howOf", desc := "(LLentBoxes$Word;)I" } : Jvm.MethodName)) ∈ Tw := tm_5 (i := 75) rfl rfl
set_option maxRecDepth 100000 in
theorem wd_t1036 : (Jvm.Cond.code ({ cls := "LentBoxes$Sentence", name := "howOf", desc := "(LLentBoxes$Word;)I" } : Jvm.MethodName) prog_7_method_10_code (1 : Nat) (Option.some Jvm.ClassFile.FieldType.int)) ∈ Tw := tm_5 (i := 76) rfl rfl
set_option maxRecDepth 100000 in
theorem wd_t1037 : (Jvm.Cond.fieldLink "LentBoxes$Sentence" (139 : Nat) "LentBoxes$Word" "COMING" "LLentBoxes$Word;") ∈ Tw := tm_5 (i := 77) rfl rfl
set_option maxRecDepth 100000 in
theorem wd_t1038 : (Jvm.Cond.laysStatic "LentBoxes$Word" "COMING" "LLentBoxes$Word;") ∈ lw_tbl := tl_5 (i := 78) rfl
set_option maxRecDepth 100000 in
theorem wd_t1039 : (Jvm.Cond.fieldLink "LentBoxes$Sentence" (142 : Nat) "LentBoxes$Word" "WAITING" "LLentBoxes$Word;") ∈ Tw := tm_5 (i := 79) rfl rfl
set_option maxRecDepth 100000 in
theorem wd_t1040 : (Jvm.Cond.laysStatic "LentBoxes$Word" "WAITING" "LLentBoxes$Word;") ∈ lw_tbl := tl_5 (i := 80) rfl
set_option maxRecDepth 100000 in
theorem wd_t1041 : (Jvm.Cond.fieldLink "LentBoxes$Sentence" (145 : Nat) "LentBoxes$Word" "LYING" "LLentBoxes$Word;") ∈ Tw := tm_5 (i := 81) rfl rfl
set_option maxRecDepth 100000 in
theorem wd_t1042 : (Jvm.Cond.laysStatic "LentBoxes$Word" "LYING" "LLentBoxes$Word;") ∈ lw_tbl := tl_5 (i := 82) rfl
set_option maxRecDepth 100000 in
theorem wd_t1043 : (Jvm.Cond.methodLink "LentBoxes$Sentence" (108 : Nat) ({ cls := "LentBoxes$Vestry", name := "takeBox", desc := "(LLentBoxes$Tape;)I" } : Jvm.MethodName)) ∈ Tw := tm_5 (i := 83) rfl rfl
set_option maxRecDepth 100000 in
theorem wd_t1044 : (Jvm.Cond.methodLink "LentBoxes$Sentence" (114 : Nat) ({ cls := "LentBoxes$Vestry", name := "takeDead", desc := "(LLentBoxes$Tape;)I" } : Jvm.MethodName)) ∈ Tw := tm_5 (i := 84) rfl rfl
set_option maxRecDepth 100000 in
theorem wd_t1045 : (Jvm.Cond.methodLink "LentBoxes$Sentence" (117 : Nat) ({ cls := "LentBoxes$Tape", name := "takeNumber", desc := "(II)I" } : Jvm.MethodName)) ∈ Tw := tm_5 (i := 85) rfl rfl
set_option maxRecDepth 100000 in
theorem wd_t1046 : (Jvm.Cond.fieldLink "LentBoxes$Sentence" (63 : Nat) "LentBoxes$Word" "AND" "LLentBoxes$Word;") ∈ Tw := tm_5 (i := 86) rfl rfl
set_option maxRecDepth 100000 in
theorem wd_t1047 : (Jvm.Cond.laysStatic "LentBoxes$Word" "AND" "LLentBoxes$Word;") ∈ lw_tbl := tl_5 (i := 87) rfl
set_option maxRecDepth 100000 in
theorem wd_t1048 : (Jvm.Cond.methodLink "LentBoxes$Sentence" (47 : Nat) ({ cls := "LentBoxes$Tape", name := "isWord", desc := "(LLentBoxes$Word;)Z" } : Jvm.MethodName)) ∈ Tw := tm_5 (i := 88) rfl rfl
set_option maxRecDepth 100000 in
theorem wd_t1049 : (Jvm.Cond.instanceMethod ({ cls := "LentBoxes$Tape", name := "isWord", desc := "(LLentBoxes$Word;)Z" } : Jvm.MethodName)) ∈ Tw := tm_5 (i := 89) rfl rfl
set_option maxRecDepth 100000 in
theorem wd_t1050 : (Jvm.Cond.selects "LentBoxes$Tape" ({ cls := "LentBoxes$Tape", name := "isWord", desc := "(LLentBoxes$Word;)Z" } : Jvm.MethodName) ({ cls := "LentBoxes$Tape", name := "isWord", desc := "(LLentBoxes$Word;)Z" } : Jvm.MethodName)) ∈ Tw := tm_5 (i := 90) rfl rfl
set_option maxRecDepth 100000 in
theorem wd_t1051 : (Jvm.Cond.code ({ cls := "LentBoxes$Tape", name := "isWord", desc := "(LLentBoxes$Word;)Z" } : Jvm.MethodName) prog_9_method_8_code (2 : Nat) (Option.some Jvm.ClassFile.FieldType.boolean)) ∈ Tw := tm_5 (i := 91) rfl rfl
set_option maxRecDepth 100000 in
theorem wd_t1052 : (Jvm.Cond.fieldLink "LentBoxes$Sentence" (41 : Nat) "LentBoxes$Word" "OR" "LLentBoxes$Word;") ∈ Tw := tm_5 (i := 92) rfl rfl
set_option maxRecDepth 100000 in
theorem wd_t1053 : (Jvm.Cond.laysStatic "LentBoxes$Word" "OR" "LLentBoxes$Word;") ∈ lw_tbl := tl_5 (i := 93) rfl
set_option maxRecDepth 100000 in
theorem wd_t1054 : (Jvm.Cond.methodLink "LentBoxes" (377 : Nat) ({ cls := "LentBoxes$Tape", name := "fail", desc := "(I)Z" } : Jvm.MethodName)) ∈ Tw := tm_5 (i := 94) rfl rfl
set_option maxRecDepth 100000 in
theorem wd_t1055 : (Jvm.Cond.methodLink "LentBoxes" (380 : Nat) ({ cls := "LentBoxes$Sentence", name := "copyOf", desc := "(LLentBoxes$Sentence;)V" } : Jvm.MethodName)) ∈ Tw := tm_5 (i := 95) rfl rfl
set_option maxRecDepth 100000 in
theorem wd_t1056 : (Jvm.Cond.instanceMethod ({ cls := "LentBoxes$Sentence", name := "copyOf", desc := "(LLentBoxes$Sentence;)V" } : Jvm.MethodName)) ∈ Tw := tm_5 (i := 96) rfl rfl
set_option maxRecDepth 100000 in
theorem wd_t1057 : (Jvm.Cond.selects "LentBoxes$Sentence" ({ cls := "LentBoxes$Sentence", name := "copyOf", desc := "(LLentBoxes$Sentence;)V" } : Jvm.MethodName) ({ cls := "LentBoxes$Sentence", name := "copyOf", desc := "(LLentBoxes$Sentence;)V" } : Jvm.MethodName)) ∈ Tw := tm_5 (i := 97) rfl rfl
set_option maxRecDepth 100000 in
theorem wd_t1058 : (Jvm.Cond.code ({ cls := "LentBoxes$Sentence", name := "copyOf", desc := "(LLentBoxes$Sentence;)V" } : Jvm.MethodName) prog_7_method_3_code (2 : Nat) (Option.none : Option Jvm.ClassFile.FieldType)) ∈ Tw := tm_5 (i := 98) rfl rfl
set_option maxRecDepth 100000 in
theorem wd_t1059 : (Jvm.Cond.methodLink "LentBoxes$Sentence" (31 : Nat) ({ cls := "java/lang/System", name := "arraycopy", desc := "(Ljava/lang/Object;ILjava/lang/Object;II)V" } : Jvm.MethodName)) ∈ Tw := tm_5 (i := 99) rfl rfl
set_option maxRecDepth 100000 in
theorem wd_t1060 : (Jvm.Cond.methodLink "LentBoxesLaw" (178 : Nat) ({ cls := "LentBoxes", name := "said", desc := "(I)I" } : Jvm.MethodName)) ∈ Tw := tm_5 (i := 100) rfl rfl
set_option maxRecDepth 100000 in
theorem wd_t1061 : (Jvm.Cond.instanceMethod ({ cls := "LentBoxes", name := "said", desc := "(I)I" } : Jvm.MethodName)) ∈ Tw := tm_5 (i := 101) rfl rfl
set_option maxRecDepth 100000 in
theorem wd_t1062 : (Jvm.Cond.selects "LentBoxes" ({ cls := "LentBoxes", name := "said", desc := "(I)I" } : Jvm.MethodName) ({ cls := "LentBoxes", name := "said", desc := "(I)I" } : Jvm.MethodName)) ∈ Tw := tm_5 (i := 102) rfl rfl
set_option maxRecDepth 100000 in
theorem wd_t1063 : (Jvm.Cond.code ({ cls := "LentBoxes", name := "said", desc := "(I)I" } : Jvm.MethodName) prog_1_method_38_code (5 : Nat) (Option.some Jvm.ClassFile.FieldType.int)) ∈ Tw := tm_5 (i := 103) rfl rfl
set_option maxRecDepth 100000 in
theorem wd_t1064 : (Jvm.Cond.methodLink "LentBoxes" (386 : Nat) ({ cls := "LentBoxes$Sentence", name := "saidOf", desc := "(LLentBoxes$Vestry;LLentBoxes$State;)I" } : Jvm.MethodName)) ∈ Tw := tm_5 (i := 104) rfl rfl
set_option maxRecDepth 100000 in
theorem wd_t1065 : (Jvm.Cond.instanceMethod ({ cls := "LentBoxes$Sentence", name := "saidOf", desc := "(LLentBoxes$Vestry;LLentBoxes$State;)I" } : Jvm.MethodName)) ∈ Tw := tm_5 (i := 105) rfl rfl
set_option maxRecDepth 100000 in
theorem wd_t1066 : (Jvm.Cond.selects "LentBoxes$Sentence" ({ cls := "LentBoxes$Sentence", name := "saidOf", desc := "(LLentBoxes$Vestry;LLentBoxes$State;)I" } : Jvm.MethodName) ({ cls := "LentBoxes$Sentence", name := "saidOf", desc := "(LLentBoxes$Vestry;LLentBoxes$State;)I" } : Jvm.MethodName)) ∈ Tw := tm_5 (i := 106) rfl rfl
set_option maxRecDepth 100000 in
theorem wd_t1067 : (Jvm.Cond.code ({ cls := "LentBoxes$Sentence", name := "saidOf", desc := "(LLentBoxes$Vestry;LLentBoxes$State;)I" } : Jvm.MethodName) prog_7_method_12_code (5 : Nat) (Option.some Jvm.ClassFile.FieldType.int)) ∈ Tw := tm_5 (i := 107) rfl rfl
set_option maxRecDepth 100000 in
theorem wd_t1068 : (Jvm.Cond.methodLink "LentBoxes$Sentence" (148 : Nat) ({ cls := "LentBoxes$Vestry", name := "allDead", desc := "()I" } : Jvm.MethodName)) ∈ Tw := tm_5 (i := 108) rfl rfl
set_option maxRecDepth 100000 in
theorem wd_t1069 : (Jvm.Cond.methodLink "LentBoxes$Sentence" (151 : Nat) ({ cls := "LentBoxes$Sentence", name := "thoseBy", desc := "(ILLentBoxes$Vestry;LLentBoxes$State;)I" } : Jvm.MethodName)) ∈ Tw := tm_5 (i := 109) rfl rfl
set_option maxRecDepth 100000 in
theorem wd_t1071 : (Jvm.Cond.instanceMethod ({ cls := "LentBoxes$Sentence", name := "thoseBy", desc := "(ILLentBoxes$Vestry;LLentBoxes$State;)I" } : Jvm.MethodName)) ∈ Tw := tm_5 (i := 111) rfl rfl
set_option maxRecDepth 100000 in
theorem wd_t1072 : (Jvm.Cond.code ({ cls := "LentBoxes$Sentence", name := "thoseBy", desc := "(ILLentBoxes$Vestry;LLentBoxes$State;)I" } : Jvm.MethodName) prog_7_method_13_code (6 : Nat) (Option.some Jvm.ClassFile.FieldType.int)) ∈ Tw := tm_5 (i := 112) rfl rfl
set_option maxRecDepth 100000 in
theorem wd_t1073 : (Jvm.Cond.methodLink "LentBoxes$Sentence" (158 : Nat) ({ cls := "LentBoxes$Sentence", name := "isSo", desc := "(IILLentBoxes$Vestry;LLentBoxes$State;)Z" } : Jvm.MethodName)) ∈ Tw := tm_5 (i := 113) rfl rfl
set_option maxRecDepth 100000 in
theorem wd_t1075 : (Jvm.Cond.instanceMethod ({ cls := "LentBoxes$Sentence", name := "isSo", desc := "(IILLentBoxes$Vestry;LLentBoxes$State;)Z" } : Jvm.MethodName)) ∈ Tw := tm_5 (i := 115) rfl rfl
set_option maxRecDepth 100000 in
theorem wd_t1076 : (Jvm.Cond.code ({ cls := "LentBoxes$Sentence", name := "isSo", desc := "(IILLentBoxes$Vestry;LLentBoxes$State;)Z" } : Jvm.MethodName) prog_7_method_14_code (5 : Nat) (Option.some Jvm.ClassFile.FieldType.boolean)) ∈ Tw := tm_5 (i := 116) rfl rfl
set_option maxRecDepth 100000 in
theorem wd_t1077 : (Jvm.Cond.methodLink "LentBoxes$Sentence" (170 : Nat) ({ cls := "LentBoxes$Vestry", name := "areKin", desc := "(II)Z" } : Jvm.MethodName)) ∈ Tw := tm_5 (i := 117) rfl rfl
set_option maxRecDepth 100000 in
theorem wd_t1078 : (Jvm.Cond.methodLink "LentBoxes$Sentence" (177 : Nat) ({ cls := "LentBoxes$Sentence", name := "compares", desc := "(II)Z" } : Jvm.MethodName)) ∈ Tw := tm_5 (i := 118) rfl rfl
set_option maxRecDepth 100000 in
theorem wd_t1080 : (Jvm.Cond.instanceMethod ({ cls := "LentBoxes$Sentence", name := "compares", desc := "(II)Z" } : Jvm.MethodName)) ∈ Tw := tm_5 (i := 120) rfl rfl
set_option maxRecDepth 100000 in
theorem wd_t1081 : (Jvm.Cond.code ({ cls := "LentBoxes$Sentence", name := "compares", desc := "(II)Z" } : Jvm.MethodName) prog_7_method_15_code (3 : Nat) (Option.some Jvm.ClassFile.FieldType.boolean)) ∈ Tw := tm_5 (i := 121) rfl rfl
set_option maxRecDepth 100000 in
theorem wd_t1082 : (Jvm.Cond.methodLink "LentBoxesLaw" (182 : Nat) ({ cls := "LentBoxes", name := "image", desc := "(I)Z" } : Jvm.MethodName)) ∈ Tw := tm_5 (i := 122) rfl rfl
set_option maxRecDepth 100000 in
theorem wd_t1083 : (Jvm.Cond.instanceMethod ({ cls := "LentBoxes", name := "image", desc := "(I)Z" } : Jvm.MethodName)) ∈ Tw := tm_5 (i := 123) rfl rfl
set_option maxRecDepth 100000 in
theorem wd_t1084 : (Jvm.Cond.selects "LentBoxes" ({ cls := "LentBoxes", name := "image", desc := "(I)Z" } : Jvm.MethodName) ({ cls := "LentBoxes", name := "image", desc := "(I)Z" } : Jvm.MethodName)) ∈ Tw := tm_5 (i := 124) rfl rfl
set_option maxRecDepth 100000 in
theorem wd_t1085 : (Jvm.Cond.code ({ cls := "LentBoxes", name := "image", desc := "(I)Z" } : Jvm.MethodName) prog_1_method_39_code (2 : Nat) (Option.some Jvm.ClassFile.FieldType.boolean)) ∈ Tw := tm_5 (i := 125) rfl rfl
set_option maxRecDepth 100000 in
theorem wd_t1086 : (Jvm.Cond.methodLink "LentBoxes" (394 : Nat) ({ cls := "LentBoxes$World", name := "copyOf", desc := "(LLentBoxes$World;)V" } : Jvm.MethodName)) ∈ Tw := tm_5 (i := 126) rfl rfl
set_option maxRecDepth 100000 in
theorem wd_t1087 : (Jvm.Cond.instanceMethod ({ cls := "LentBoxes$World", name := "copyOf", desc := "(LLentBoxes$World;)V" } : Jvm.MethodName)) ∈ Tw := tm_5 (i := 127) rfl rfl
set_option maxRecDepth 100000 in
theorem wd_t1088 : (Jvm.Cond.selects "LentBoxes$World" ({ cls := "LentBoxes$World", name := "copyOf", desc := "(LLentBoxes$World;)V" } : Jvm.MethodName) ({ cls := "LentBoxes$World", name := "copyOf", desc := "(LLentBoxes$World;)V" } : Jvm.MethodName)) ∈ Tw := tm_5 (i := 128) rfl rfl
set_option maxRecDepth 100000 in
theorem wd_t1089 : (Jvm.Cond.code ({ cls := "LentBoxes$World", name := "copyOf", desc := "(LLentBoxes$World;)V" } : Jvm.MethodName) prog_12_method_2_code (2 : Nat) (Option.none : Option Jvm.ClassFile.FieldType)) ∈ Tw := tm_5 (i := 129) rfl rfl
set_option maxRecDepth 100000 in
theorem wd_t1090 : (Jvm.Cond.methodLink "LentBoxes$World" (34 : Nat) ({ cls := "LentBoxes$Vestry", name := "copyOf", desc := "(LLentBoxes$Vestry;)V" } : Jvm.MethodName)) ∈ Tw := tm_5 (i := 130) rfl rfl
set_option maxRecDepth 100000 in
theorem wd_t1091 : (Jvm.Cond.methodLink "LentBoxes$World" (37 : Nat) ({ cls := "LentBoxes$State", name := "copyOf", desc := "(LLentBoxes$State;)V" } : Jvm.MethodName)) ∈ Tw := tm_5 (i := 131) rfl rfl
set_option maxRecDepth 100000 in
theorem wd_t1092 : (Jvm.Cond.methodLink "LentBoxes$World" (40 : Nat) ({ cls := "LentBoxes$Sentence", name := "copyOf", desc := "(LLentBoxes$Sentence;)V" } : Jvm.MethodName)) ∈ Tw := tm_5 (i := 132) rfl rfl
set_option maxRecDepth 100000 in
theorem wd_t1093 : (Jvm.Cond.methodLink "LentBoxesLaw" (186 : Nat) ({ cls := "LentBoxes", name := "restore", desc := "(I)Z" } : Jvm.MethodName)) ∈ Tw := tm_5 (i := 133) rfl rfl
set_option maxRecDepth 100000 in
theorem wd_t1094 : (Jvm.Cond.instanceMethod ({ cls := "LentBoxes", name := "restore", desc := "(I)Z" } : Jvm.MethodName)) ∈ Tw := tm_5 (i := 134) rfl rfl
set_option maxRecDepth 100000 in
theorem wd_t1095 : (Jvm.Cond.selects "LentBoxes" ({ cls := "LentBoxes", name := "restore", desc := "(I)Z" } : Jvm.MethodName) ({ cls := "LentBoxes", name := "restore", desc := "(I)Z" } : Jvm.MethodName)) ∈ Tw := tm_5 (i := 135) rfl rfl
set_option maxRecDepth 100000 in
theorem wd_t1096 : (Jvm.Cond.code ({ cls := "LentBoxes", name := "restore", desc := "(I)Z" } : Jvm.MethodName) prog_1_method_40_code (2 : Nat) (Option.some Jvm.ClassFile.FieldType.boolean)) ∈ Tw := tm_5 (i := 136) rfl rfl
set_option maxRecDepth 100000 in
theorem wd_t1097 : (Jvm.Cond.methodLink "LentBoxesLaw" (190 : Nat) ({ cls := "LentBoxes", name := "count", desc := "(I)I" } : Jvm.MethodName)) ∈ Tw := tm_5 (i := 137) rfl rfl
set_option maxRecDepth 100000 in
theorem wd_t1098 : (Jvm.Cond.instanceMethod ({ cls := "LentBoxes", name := "count", desc := "(I)I" } : Jvm.MethodName)) ∈ Tw := tm_5 (i := 138) rfl rfl
set_option maxRecDepth 100000 in
theorem wd_t1099 : (Jvm.Cond.selects "LentBoxes" ({ cls := "LentBoxes", name := "count", desc := "(I)I" } : Jvm.MethodName) ({ cls := "LentBoxes", name := "count", desc := "(I)I" } : Jvm.MethodName)) ∈ Tw := tm_5 (i := 139) rfl rfl
set_option maxRecDepth 100000 in
theorem wd_t1100 : (Jvm.Cond.code ({ cls := "LentBoxes", name := "count", desc := "(I)I" } : Jvm.MethodName) prog_1_method_41_code (2 : Nat) (Option.some Jvm.ClassFile.FieldType.int)) ∈ Tw := tm_5 (i := 140) rfl rfl
set_option maxRecDepth 100000 in
theorem wd_t1101 : (Jvm.Cond.methodLink "LentBoxesLaw" (53 : Nat) ({ cls := "LentBoxesLaw", name := "dead", desc := "(LLentBoxes;II[J)I" } : Jvm.MethodName)) ∈ Tw := tm_5 (i := 141) rfl rfl
set_option maxRecDepth 100000 in
theorem wd_t1102 : (Jvm.Cond.static ({ cls := "LentBoxesLaw", name := "dead", desc := "(LLentBoxes;II[J)I" } : Jvm.MethodName)) ∈ Tw := tm_5 (i := 142) rfl rfl
set_option maxRecDepth 100000 in
theorem wd_t1103 : (Jvm.Cond.codeWith ({ cls := "LentBoxesLaw", name := "dead", desc := "(LLentBoxes;II[J)I" } : Jvm.MethodName) method_3_code (5 : Nat) (Option.some Jvm.ClassFile.FieldType.int) [((0 : Nat), (10 : Nat), (13 : Nat), (13 : Nat))]) ∈ Tw := tm_5 (i := 143) rfl rfl
set_option maxRecDepth 100000 in
theorem wd_t1104 : (Jvm.Cond.classLink "LentBoxesLaw" (13 : Nat) "java/util/NoSuchElementException") ∈ Tw := tm_5 (i := 144) rfl rfl
set_option maxRecDepth 100000 in
theorem wd_t1105 : (Jvm.Cond.methodLink "LentBoxesLaw" (7 : Nat) ({ cls := "LentBoxes", name := "dead", desc := "(II)I" } : Jvm.MethodName)) ∈ Tw := tm_5 (i := 145) rfl rfl
set_option maxRecDepth 100000 in
theorem wd_t1106 : (Jvm.Cond.instanceMethod ({ cls := "LentBoxes", name := "dead", desc := "(II)I" } : Jvm.MethodName)) ∈ Tw := tm_5 (i := 146) rfl rfl
set_option maxRecDepth 100000 in
theorem wd_t1107 : (Jvm.Cond.selects "LentBoxes" ({ cls := "LentBoxes", name := "dead", desc := "(II)I" } : Jvm.MethodName) ({ cls := "LentBoxes", name := "dead", desc := "(II)I" } : Jvm.MethodName)) ∈ Tw := tm_5 (i := 147) rfl rfl
set_option maxRecDepth 100000 in
theorem wd_t1108 : (Jvm.Cond.code ({ cls := "LentBoxes", name := "dead", desc := "(II)I" } : Jvm.MethodName) prog_1_method_8_code (4 : Nat) (Option.some Jvm.ClassFile.FieldType.int)) ∈ Tw := tm_5 (i := 148) rfl rfl
set_option maxRecDepth 100000 in
theorem wd_t1109 : (Jvm.Cond.classLink "LentBoxes" (183 : Nat) "java/util/NoSuchElementException") ∈ Tw := tm_5 (i := 149) rfl rfl
set_option maxRecDepth 100000 in
theorem wd_t1110 : (Jvm.Cond.instantiable "java/util/NoSuchElementException" (6 : Nat)) ∈ Tw := tm_5 (i := 150) rfl rfl
set_option maxRecDepth 100000 in
theorem wd_t1111 : (Jvm.Cond.castable "java/util/NoSuchElementException" "java/util/NoSuchElementException") ∈ lw_tbl := tl_5 (i := 151) rfl
set_option maxRecDepth 100000 in
theorem wd_t1113 : (Jvm.Cond.declares ({ cls := "java/lang/RuntimeException", name := "<init>", desc := "(Ljava/lang/String;)V" } : Jvm.MethodName)) ∈ lw_tbl := tl_5 (i := 153) rfl
set_option maxRecDepth 100000 in
theorem wd_t1115 : (Jvm.Cond.declares ({ cls := "java/lang/Exception", name := "<init>", desc := "(Ljava/lang/String;)V" } : Jvm.MethodName)) ∈ lw_tbl := tl_5 (i := 155) rfl
set_option maxRecDepth 100000 in
theorem wd_t1117 : (Jvm.Cond.declares ({ cls := "java/lang/Throwable", name := "<init>", desc := "(Ljava/lang/String;)V" } : Jvm.MethodName)) ∈ lw_tbl := tl_5 (i := 157) rfl
set_option maxRecDepth 100000 in
theorem wd_t1118 : (Jvm.Cond.selects "java/util/NoSuchElementException" ({ cls := "java/lang/Throwable", name := "fillInStackTrace", desc := "(I)Ljava/lang/Throwable;" } : Jvm.MethodName) ({ cls := "java/lang/Throwable", name := "fillInStackTrace", desc := "(I)Ljava/lang/Throwable;" } : Jvm.MethodName)) ∈ Tw := tm_5 (i := 158) rfl rfl
set_option maxRecDepth 100000 in
theorem wd_t1119 : (Jvm.Cond.selects "java/util/NoSuchElementException" ({ cls := "java/lang/Throwable", name := "fillInStackTrace", desc := "()Ljava/lang/Throwable;" } : Jvm.MethodName) ({ cls := "java/lang/Throwable", name := "fillInStackTrace", desc := "()Ljava/lang/Throwable;" } : Jvm.MethodName)) ∈ Tw := tm_5 (i := 159) rfl rfl
set_option maxRecDepth 100000 in
theorem wd_t1120 : (Jvm.Cond.lays "java/util/NoSuchElementException" "java/lang/Throwable" "cause" "Ljava/lang/Throwable;") ∈ Tw := tm_5 (i := 160) rfl rfl
set_option maxRecDepth 100000 in
theorem wd_t1121 : (Jvm.Cond.lays "java/lang/Throwable" "java/lang/Throwable" "cause" "Ljava/lang/Throwable;") ∈ Tw := tm_5 (i := 161) rfl rfl
set_option maxRecDepth 100000 in
theorem wd_t1122 : (Jvm.Cond.lays "java/util/NoSuchElementException" "java/lang/Throwable" "stackTrace" "[Ljava/lang/StackTraceElement;") ∈ Tw := tm_5 (i := 162) rfl rfl
set_option maxRecDepth 100000 in
theorem wd_t1123 : (Jvm.Cond.lays "java/lang/Throwable" "java/lang/Throwable" "stackTrace" "[Ljava/lang/StackTraceElement;") ∈ Tw := tm_5 (i := 163) rfl rfl
set_option maxRecDepth 100000 in
theorem wd_t1124 : (Jvm.Cond.lays "java/util/NoSuchElementException" "java/lang/Throwable" "suppressedExceptions" "Ljava/util/List;") ∈ Tw := tm_5 (i := 164) rfl rfl
set_option maxRecDepth 100000 in
theorem wd_t1125 : (Jvm.Cond.lays "java/lang/Throwable" "java/lang/Throwable" "suppressedExceptions" "Ljava/util/List;") ∈ Tw := tm_5 (i := 165) rfl rfl
set_option maxRecDepth 100000 in
theorem wd_t1126 : (Jvm.Cond.lays "java/util/NoSuchElementException" "java/lang/Throwable" "detailMessage" "Ljava/lang/String;") ∈ Tw := tm_5 (i := 166) rfl rfl
set_option maxRecDepth 100000 in
theorem wd_t1127 : (Jvm.Cond.lays "java/lang/Throwable" "java/lang/Throwable" "detailMessage" "Ljava/lang/String;") ∈ Tw := tm_5 (i := 167) rfl rfl
set_option maxRecDepth 100000 in
theorem wd_t1128 : (Jvm.Cond.lays "java/util/NoSuchElementException" "java/lang/Throwable" "backtrace" "Ljava/lang/Object;") ∈ Tw := tm_5 (i := 168) rfl rfl
set_option maxRecDepth 100000 in
theorem wd_t1129 : (Jvm.Cond.lays "java/lang/Throwable" "java/lang/Throwable" "backtrace" "Ljava/lang/Object;") ∈ Tw := tm_5 (i := 169) rfl rfl
set_option maxRecDepth 100000 in
theorem wd_t1130 : (Jvm.Cond.fieldLink "java/lang/Throwable" (198 : Nat) "java/lang/Throwable" "backtrace" "Ljava/lang/Object;") ∈ Tw := tm_5 (i := 170) rfl rfl
set_option maxRecDepth 100000 in
theorem wd_t1131 : (Jvm.Cond.superclass "java/lang/Throwable" "java/lang/Object") ∈ Tw := tm_5 (i := 171) rfl rfl
set_option maxRecDepth 100000 in
theorem wd_t1132 : (Jvm.Cond.instanceMethod ({ cls := "java/lang/Throwable", name := "<init>", desc := "()V" } : Jvm.MethodName)) ∈ Tw := tm_5 (i := 172) rfl rfl
set_option maxRecDepth 100000 in
theorem wd_t1133 : (Jvm.Cond.code ({ cls := "java/lang/Throwable", name := "<init>", desc := "()V" } : Jvm.MethodName) prog_27_method_1_code (1 : Nat) (Option.none : Option Jvm.ClassFile.FieldType)) ∈ Tw := tm_5 (i := 173) rfl rfl
set_option maxRecDepth 100000 in
theorem wd_t1134 : (Jvm.Cond.methodLink "java/lang/Throwable" (1 : Nat) ({ cls := "java/lang/Object", name := "<init>", desc := "()V" } : Jvm.MethodName)) ∈ Tw := tm_5 (i := 174) rfl rfl
set_option maxRecDepth 100000 in
theorem wd_t1135 : (Jvm.Cond.fieldLink "java/lang/Throwable" (13 : Nat) "java/lang/Throwable" "UNASSIGNED_STACK" "[Ljava/lang/StackTraceElement;") ∈ Tw := tm_5 (i := 175) rfl rfl
set_option maxRecDepth 100000 in
theorem wd_t1136 : (Jvm.Cond.laysStatic "java/lang/Throwable" "UNASSIGNED_STACK" "[Ljava/lang/StackTraceElement;") ∈ lw_tbl := tl_5 (i := 176) rfl
set_option maxRecDepth 100000 in
theorem wd_t1137 : (Jvm.Cond.fieldLink "java/lang/Throwable" (20 : Nat) "java/lang/Throwable" "SUPPRESSED_SENTINEL" "Ljava/util/List;") ∈ Tw := tm_5 (i := 177) rfl rfl
set_option maxRecDepth 100000 in
theorem wd_t1138 : (Jvm.Cond.laysStatic "java/lang/Throwable" "SUPPRESSED_SENTINEL" "Ljava/util/List;") ∈ lw_tbl := tl_5 (i := 178) rfl
set_option maxRecDepth 100000 in
theorem wd_t1139 : (Jvm.Cond.methodLink "java/lang/Throwable" (27 : Nat) ({ cls := "java/lang/Throwable", name := "fillInStackTrace", desc := "()Ljava/lang/Throwable;" } : Jvm.MethodName)) ∈ Tw := tm_5 (i := 179) rfl rfl
set_option maxRecDepth 100000 in
theorem wd_t1140 : (Jvm.Cond.instanceMethod ({ cls := "java/lang/Throwable", name := "fillInStackTrace", desc := "()Ljava/lang/Throwable;" } : Jvm.MethodName)) ∈ Tw := tm_5 (i := 180) rfl rfl
set_option maxRecDepth 100000 in
theorem wd_t1142 : (Jvm.Cond.codeSync ({ cls := "java/lang/Throwable", name := "fillInStackTrace", desc := "()Ljava/lang/Throwable;" } : Jvm.MethodName) prog_27_method_18_code (1 : Nat) (Option.some (Jvm.ClassFile.FieldType.object "java/lang/Throwable"))) ∈ Tw := tm_5 (i := 182) rfl rfl
set_option maxRecDepth 100000 in
theorem wd_t1143 : (Jvm.Cond.methodLink "java/lang/Throwable" (202 : Nat) ({ cls := "java/lang/Throwable", name := "fillInStackTrace", desc := "(I)Ljava/lang/Throwable;" } : Jvm.MethodName)) ∈ Tw := tm_5 (i := 183) rfl rfl
set_option maxRecDepth 100000 in
theorem wd_t1145 : (Jvm.Cond.instanceMethod ({ cls := "java/lang/Throwable", name := "fillInStackTrace", desc := "(I)Ljava/lang/Throwable;" } : Jvm.MethodName)) ∈ Tw := tm_5 (i := 185) rfl rfl
set_option maxRecDepth 100000 in
theorem wd_t1147 : (Jvm.Cond.native ({ cls := "java/lang/Throwable", name := "fillInStackTrace", desc := "(I)Ljava/lang/Throwable;" } : Jvm.MethodName)) ∈ Tw := tm_5 (i := 187) rfl rfl
set_option maxRecDepth 100000 in
theorem wd_t1148 : (Jvm.Cond.stringRef "LentBoxes" (185 : Nat) "no such one") ∈ lw_tbl := tl_5 (i := 188) rfl
set_option maxRecDepth 100000 in
theorem wd_t1149 : (Jvm.Cond.methodLink "LentBoxes" (187 : Nat) ({ cls := "java/util/NoSuchElementException", name := "<init>", desc := "(Ljava/lang/String;)V" } : Jvm.MethodName)) ∈ Tw := tm_5 (i := 189) rfl rfl
set_option maxRecDepth 100000 in
theorem wd_t1150 : (Jvm.Cond.instanceMethod ({ cls := "java/util/NoSuchElementException", name := "<init>", desc := "(Ljava/lang/String;)V" } : Jvm.MethodName)) ∈ Tw := tm_5 (i := 190) rfl rfl
set_option maxRecDepth 100000 in
theorem wd_t1151 : (Jvm.Cond.code ({ cls := "java/util/NoSuchElementException", name := "<init>", desc := "(Ljava/lang/String;)V" } : Jvm.MethodName) prog_31_method_4_code (2 : Nat) (Option.none : Option Jvm.ClassFile.FieldType)) ∈ Tw := tm_5 (i := 191) rfl rfl
set_option maxRecDepth 100000 in
theorem wd_t1152 : (Jvm.Cond.methodLink "java/util/NoSuchElementException" (13 : Nat) ({ cls := "java/lang/RuntimeException", name := "<init>", desc := "(Ljava/lang/String;)V" } : Jvm.MethodName)) ∈ Tw := tm_5 (i := 192) rfl rfl
set_option maxRecDepth 100000 in
theorem wd_t1153 : (Jvm.Cond.instanceMethod ({ cls := "java/lang/RuntimeException", name := "<init>", desc := "(Ljava/lang/String;)V" } : Jvm.MethodName)) ∈ Tw := tm_5 (i := 193) rfl rfl
set_option maxRecDepth 100000 in
theorem wd_t1154 : (Jvm.Cond.code ({ cls := "java/lang/RuntimeException", name := "<init>", desc := "(Ljava/lang/String;)V" } : Jvm.MethodName) prog_22_method_2_code (2 : Nat) (Option.none : Option Jvm.ClassFile.FieldType)) ∈ Tw := tm_5 (i := 194) rfl rfl
set_option maxRecDepth 100000 in
theorem wd_t1155 : (Jvm.Cond.methodLink "java/lang/RuntimeException" (7 : Nat) ({ cls := "java/lang/Exception", name := "<init>", desc := "(Ljava/lang/String;)V" } : Jvm.MethodName)) ∈ Tw := tm_5 (i := 195) rfl rfl
set_option maxRecDepth 100000 in
theorem wd_t1156 : (Jvm.Cond.instanceMethod ({ cls := "java/lang/Exception", name := "<init>", desc := "(Ljava/lang/String;)V" } : Jvm.MethodName)) ∈ Tw := tm_5 (i := 196) rfl rfl
set_option maxRecDepth 100000 in
theorem wd_t1157 : (Jvm.Cond.code ({ cls := "java/lang/Exception", name := "<init>", desc := "(Ljava/lang/String;)V" } : Jvm.MethodName) prog_19_method_2_code (2 : Nat) (Option.none : Option Jvm.ClassFile.FieldType)) ∈ Tw := tm_5 (i := 197) rfl rfl
set_option maxRecDepth 100000 in
theorem wd_t1158 : (Jvm.Cond.methodLink "java/lang/Exception" (7 : Nat) ({ cls := "java/lang/Throwable", name := "<init>", desc := "(Ljava/lang/String;)V" } : Jvm.MethodName)) ∈ Tw := tm_5 (i := 198) rfl rfl
set_option maxRecDepth 100000 in
theorem wd_t1159 : (Jvm.Cond.instanceMethod ({ cls := "java/lang/Throwable", name := "<init>", desc := "(Ljava/lang/String;)V" } : Jvm.MethodName)) ∈ Tw := tm_5 (i := 199) rfl rfl
set_option maxRecDepth 100000 in
theorem wd_t1160 : (Jvm.Cond.code ({ cls := "java/lang/Throwable", name := "<init>", desc := "(Ljava/lang/String;)V" } : Jvm.MethodName) prog_27_method_2_code (2 : Nat) (Option.none : Option Jvm.ClassFile.FieldType)) ∈ Tw := tm_5 (i := 200) rfl rfl
set_option maxRecDepth 100000 in
theorem wd_t1162 : (Jvm.Cond.fieldLink "java/lang/Throwable" (31 : Nat) "java/lang/Throwable" "detailMessage" "Ljava/lang/String;") ∈ Tw := tm_5 (i := 202) rfl rfl
set_option maxRecDepth 100000 in
theorem wd_t1163 : (Jvm.Cond.fieldLink "java/lang/Throwable" (7 : Nat) "java/lang/Throwable" "cause" "Ljava/lang/Throwable;") ∈ Tw := tm_5 (i := 203) rfl rfl
set_option maxRecDepth 100000 in
theorem wd_t1164 : (Jvm.Cond.fieldLink "java/lang/Throwable" (17 : Nat) "java/lang/Throwable" "stackTrace" "[Ljava/lang/StackTraceElement;") ∈ Tw := tm_5 (i := 204) rfl rfl
set_option maxRecDepth 100000 in
theorem wd_t1165 : (Jvm.Cond.fieldLink "java/lang/Throwable" (24 : Nat) "java/lang/Throwable" "suppressedExceptions" "Ljava/util/List;") ∈ Tw := tm_5 (i := 205) rfl rfl
set_option maxRecDepth 100000 in
theorem wd_t1174 : (Jvm.Cond.stringRef "LentBoxes" (214 : Nat) "no such what") ∈ lw_tbl := tl_5 (i := 214) rfl
set_option maxRecDepth 100000 in
theorem wd_t1175 : (Jvm.Cond.methodLink "LentBoxesLaw" (138 : Nat) ({ cls := "LentBoxesLaw", name := "wear", desc := "(LLentBoxes;II[J)I" } : Jvm.MethodName)) ∈ Tw := tm_5 (i := 215) rfl rfl
set_option maxRecDepth 100000 in
theorem wd_t1176 : (Jvm.Cond.static ({ cls := "LentBoxesLaw", name := "wear", desc := "(LLentBoxes;II[J)I" } : Jvm.MethodName)) ∈ Tw := tm_5 (i := 216) rfl rfl
set_option maxRecDepth 100000 in
theorem wd_t1177 : (Jvm.Cond.codeWith ({ cls := "LentBoxesLaw", name := "wear", desc := "(LLentBoxes;II[J)I" } : Jvm.MethodName) method_4_code (5 : Nat) (Option.some Jvm.ClassFile.FieldType.int) [((0 : Nat), (10 : Nat), (13 : Nat), (13 : Nat))]) ∈ Tw := tm_5 (i := 217) rfl rfl
set_option maxRecDepth 100000 in
theorem wd_t1178 : (Jvm.Cond.methodLink "LentBoxesLaw" (15 : Nat) ({ cls := "LentBoxes", name := "wear", desc := "(II)I" } : Jvm.MethodName)) ∈ Tw := tm_5 (i := 218) rfl rfl
set_option maxRecDepth 100000 in
theorem wd_t1179 : (Jvm.Cond.instanceMethod ({ cls := "LentBoxes", name := "wear", desc := "(II)I" } : Jvm.MethodName)) ∈ Tw := tm_5 (i := 219) rfl rfl
set_option maxRecDepth 100000 in
theorem wd_t1180 : (Jvm.Cond.selects "LentBoxes" ({ cls := "LentBoxes", name := "wear", desc := "(II)I" } : Jvm.MethodName) ({ cls := "LentBoxes", name := "wear", desc := "(II)I" } : Jvm.MethodName)) ∈ Tw := tm_5 (i := 220) rfl rfl
set_option maxRecDepth 100000 in
theorem wd_t1181 : (Jvm.Cond.code ({ cls := "LentBoxes", name := "wear", desc := "(II)I" } : Jvm.MethodName) prog_1_method_28_code (3 : Nat) (Option.some Jvm.ClassFile.FieldType.int)) ∈ Tw := tm_5 (i := 221) rfl rfl
set_option maxRecDepth 100000 in
theorem wd_t1182 : (Jvm.Cond.stringRef "LentBoxes" (316 : Nat) "no such ones") ∈ lw_tbl := tl_5 (i := 222) rfl
set_option maxRecDepth 100000 in
theorem wd_t1183 : (Jvm.Cond.methodLink "LentBoxes" (318 : Nat) ({ cls := "LentBoxes", name := "inLeastTerms", desc := "(III)I" } : Jvm.MethodName)) ∈ Tw := tm_5 (i := 223) rfl rfl
set_option maxRecDepth 100000 in
theorem wd_t1184 : (Jvm.Cond.static ({ cls := "LentBoxes", name := "inLeastTerms", desc := "(III)I" } : Jvm.MethodName)) ∈ Tw := tm_5 (i := 224) rfl rfl
set_option maxRecDepth 100000 in
theorem wd_t1185 : (Jvm.Cond.code ({ cls := "LentBoxes", name := "inLeastTerms", desc := "(III)I" } : Jvm.MethodName) prog_1_method_58_code (7 : Nat) (Option.some Jvm.ClassFile.FieldType.int)) ∈ Tw := tm_5 (i := 225) rfl rfl
set_option maxRecDepth 100000 in
theorem wd_t1186 : (Jvm.Cond.methodLink "LentBoxesLaw" (141 : Nat) ({ cls := "LentBoxesLaw", name := "mean", desc := "(LLentBoxes;I[J)I" } : Jvm.MethodName)) ∈ Tw := tm_5 (i := 226) rfl rfl
set_option maxRecDepth 100000 in
theorem wd_t1187 : (Jvm.Cond.static ({ cls := "LentBoxesLaw", name := "mean", desc := "(LLentBoxes;I[J)I" } : Jvm.MethodName)) ∈ Tw := tm_5 (i := 227) rfl rfl
set_option maxRecDepth 100000 in
theorem wd_t1188 : (Jvm.Cond.codeWith ({ cls := "LentBoxesLaw", name := "mean", desc := "(LLentBoxes;I[J)I" } : Jvm.MethodName) method_5_code (4 : Nat) (Option.some Jvm.ClassFile.FieldType.int) [((0 : Nat), (9 : Nat), (12 : Nat), (13 : Nat))]) ∈ Tw := tm_5 (i := 228) rfl rfl
set_option maxRecDepth 100000 in
theorem wd_t1189 : (Jvm.Cond.methodLink "LentBoxesLaw" (18 : Nat) ({ cls := "LentBoxes", name := "mean", desc := "(I)I" } : Jvm.MethodName)) ∈ Tw := tm_5 (i := 229) rfl rfl
set_option maxRecDepth 100000 in
theorem wd_t1190 : (Jvm.Cond.instanceMethod ({ cls := "LentBoxes", name := "mean", desc := "(I)I" } : Jvm.MethodName)) ∈ Tw := tm_5 (i := 230) rfl rfl
set_option maxRecDepth 100000 in
theorem wd_t1191 : (Jvm.Cond.selects "LentBoxes" ({ cls := "LentBoxes", name := "mean", desc := "(I)I" } : Jvm.MethodName) ({ cls := "LentBoxes", name := "mean", desc := "(I)I" } : Jvm.MethodName)) ∈ Tw := tm_5 (i := 231) rfl rfl
set_option maxRecDepth 100000 in
theorem wd_t1192 : (Jvm.Cond.code ({ cls := "LentBoxes", name := "mean", desc := "(I)I" } : Jvm.MethodName) prog_1_method_29_code (4 : Nat) (Option.some Jvm.ClassFile.FieldType.int)) ∈ Tw := tm_5 (i := 232) rfl rfl
set_option maxRecDepth 100000 in
theorem wd_t1193 : (Jvm.Cond.methodLink "LentBoxesLaw" (59 : Nat) ({ cls := "LentBoxesModel", name := "thrown", desc := "()I" } : Jvm.MethodName)) ∈ Tw := tm_5 (i := 233) rfl rfl
set_option maxRecDepth 100000 in
theorem wd_t1194 : (Jvm.Cond.instanceMethod ({ cls := "LentBoxesModel", name := "thrown", desc := "()I" } : Jvm.MethodName)) ∈ Tw := tm_5 (i := 234) rfl rfl
set_option maxRecDepth 100000 in
theorem wd_t1195 : (Jvm.Cond.selects "LentBoxesModel" ({ cls := "LentBoxesModel", name := "thrown", desc := "()I" } : Jvm.MethodName) ({ cls := "LentBoxesModel", name := "thrown", desc := "()I" } : Jvm.MethodName)) ∈ Tw := tm_5 (i := 235) rfl rfl
set_option maxRecDepth 100000 in
theorem wd_t1196 : (Jvm.Cond.code ({ cls := "LentBoxesModel", name := "thrown", desc := "()I" } : Jvm.MethodName) prog_14_method_1_code (1 : Nat) (Option.some Jvm.ClassFile.FieldType.int)) ∈ Tw := tm_5 (i := 236) rfl rfl
set_option maxRecDepth 100000 in
theorem wd_t1197 : (Jvm.Cond.methodLink "LentBoxesLaw" (30 : Nat) ({ cls := "LentBoxesModel", name := "feed", desc := "(IIIII)I" } : Jvm.MethodName)) ∈ Tw := tm_5 (i := 237) rfl rfl
set_option maxRecDepth 100000 in
theorem wd_t1198 : (Jvm.Cond.instanceMethod ({ cls := "LentBoxesModel", name := "feed", desc := "(IIIII)I" } : Jvm.MethodName)) ∈ Tw := tm_5 (i := 238) rfl rfl
set_option maxRecDepth 100000 in
theorem wd_t1199 : (Jvm.Cond.selects "LentBoxesModel" ({ cls := "LentBoxesModel", name := "feed", desc := "(IIIII)I" } : Jvm.MethodName) ({ cls := "LentBoxesModel", name := "feed", desc := "(IIIII)I" } : Jvm.MethodName)) ∈ Tw := tm_5 (i := 239) rfl rfl
set_option maxRecDepth 100000 in
theorem wd_t1200 : (Jvm.Cond.code ({ cls := "LentBoxesModel", name := "feed", desc := "(IIIII)I" } : Jvm.MethodName) prog_14_method_4_code (6 : Nat) (Option.some Jvm.ClassFile.FieldType.int)) ∈ Tw := tm_6 (i := 0) rfl rfl
set_option maxRecDepth 100000 in
theorem wd_t1201 : (Jvm.Cond.methodLink "LentBoxesModel" (14 : Nat) ({ cls := "LentBoxesModel", name := "come", desc := "(I)V" } : Jvm.MethodName)) ∈ Tw := tm_6 (i := 1) rfl rfl
set_option maxRecDepth 100000 in
theorem wd_t1203 : (Jvm.Cond.instanceMethod ({ cls := "LentBoxesModel", name := "come", desc := "(I)V" } : Jvm.MethodName)) ∈ Tw := tm_6 (i := 3) rfl rfl
set_option maxRecDepth 100000 in
theorem wd_t1204 : (Jvm.Cond.instantiable "LentBoxesModel" (46 : Nat)) ∈ Tw := tm_6 (i := 4) rfl rfl
set_option maxRecDepth 100000 in
theorem wd_t1205 : (Jvm.Cond.code ({ cls := "LentBoxesModel", name := "come", desc := "(I)V" } : Jvm.MethodName) prog_14_method_3_code (3 : Nat) (Option.none : Option Jvm.ClassFile.FieldType)) ∈ Tw := tm_6 (i := 5) rfl rfl
set_option maxRecDepth 100000 in
theorem wd_t1206 : (Jvm.Cond.methodLink "LentBoxesLaw" (35 : Nat) ({ cls := "LentBoxesModel", name := "end", desc := "(I)Z" } : Jvm.MethodName)) ∈ Tw := tm_6 (i := 6) rfl rfl
set_option maxRecDepth 100000 in
theorem wd_t1207 : (Jvm.Cond.instanceMethod ({ cls := "LentBoxesModel", name := "end", desc := "(I)Z" } : Jvm.MethodName)) ∈ Tw := tm_6 (i := 7) rfl rfl
set_option maxRecDepth 100000 in
theorem wd_t1208 : (Jvm.Cond.selects "LentBoxesModel" ({ cls := "LentBoxesModel", name := "end", desc := "(I)Z" } : Jvm.MethodName) ({ cls := "LentBoxesModel", name := "end", desc := "(I)Z" } : Jvm.MethodName)) ∈ Tw := tm_6 (i := 8) rfl rfl
set_option maxRecDepth 100000 in
theorem wd_t1209 : (Jvm.Cond.code ({ cls := "LentBoxesModel", name := "end", desc := "(I)Z" } : Jvm.MethodName) prog_14_method_5_code (2 : Nat) (Option.some Jvm.ClassFile.FieldType.boolean)) ∈ Tw := tm_6 (i := 9) rfl rfl
set_option maxRecDepth 100000 in
theorem wd_t1210 : (Jvm.Cond.classLink "LentBoxesLaw" (23 : Nat) "LentBoxesModel") ∈ Tw := tm_6 (i := 10) rfl rfl
set_option maxRecDepth 100000 in
theorem wd_t1211 : (Jvm.Cond.methodLink "LentBoxesLaw" (25 : Nat) ({ cls := "LentBoxesModel", name := "<init>", desc := "()V" } : Jvm.MethodName)) ∈ Tw := tm_6 (i := 11) rfl rfl
set_option maxRecDepth 100000 in
theorem wd_t1212 : (Jvm.Cond.instanceMethod ({ cls := "LentBoxesModel", name := "<init>", desc := "()V" } : Jvm.MethodName)) ∈ Tw := tm_6 (i := 12) rfl rfl
set_option maxRecDepth 100000 in
theorem wd_t1213 : (Jvm.Cond.code ({ cls := "LentBoxesModel", name := "<init>", desc := "()V" } : Jvm.MethodName) prog_14_method_26_code (1 : Nat) (Option.none : Option Jvm.ClassFile.FieldType)) ∈ Tw := tm_6 (i := 13) rfl rfl
set_option maxRecDepth 100000 in
theorem wd_t1214 : (Jvm.Cond.methodLink "LentBoxesModel" (93 : Nat) ({ cls := "java/lang/Object", name := "<init>", desc := "()V" } : Jvm.MethodName)) ∈ Tw := tm_6 (i := 14) rfl rfl
set_option maxRecDepth 100000 in
theorem wd_t1215 : (Jvm.Cond.methodLink "LentBoxesModel" (160 : Nat) ({ cls := "LentBoxesModel", name := "startSo", desc := "()V" } : Jvm.MethodName)) ∈ Tw := tm_6 (i := 15) rfl rfl
set_option maxRecDepth 100000 in
theorem wd_t1217 : (Jvm.Cond.instanceMethod ({ cls := "LentBoxesModel", name := "startSo", desc := "()V" } : Jvm.MethodName)) ∈ Tw := tm_6 (i := 17) rfl rfl
set_option maxRecDepth 100000 in
theorem wd_t1218 : (Jvm.Cond.code ({ cls := "LentBoxesModel", name := "startSo", desc := "()V" } : Jvm.MethodName) prog_14_method_27_code (2 : Nat) (Option.none : Option Jvm.ClassFile.FieldType)) ∈ Tw := tm_6 (i := 18) rfl rfl
set_option maxRecDepth 100000 in
theorem wd_t1219 : (Jvm.Cond.methodLink "LentBoxesModel" (163 : Nat) ({ cls := "LentBoxesModel", name := "come", desc := "()V" } : Jvm.MethodName)) ∈ Tw := tm_6 (i := 19) rfl rfl
set_option maxRecDepth 100000 in
theorem wd_t1221 : (Jvm.Cond.instanceMethod ({ cls := "LentBoxesModel", name := "come", desc := "()V" } : Jvm.MethodName)) ∈ Tw := tm_6 (i := 21) rfl rfl
set_option maxRecDepth 100000 in
theorem wd_t1222 : (Jvm.Cond.code ({ cls := "LentBoxesModel", name := "come", desc := "()V" } : Jvm.MethodName) prog_14_method_28_code (2 : Nat) (Option.none : Option Jvm.ClassFile.FieldType)) ∈ Tw := tm_6 (i := 22) rfl rfl
set_option maxRecDepth 100000 in
theorem wd_t1223 : (Jvm.Cond.fieldLink "LentBoxesModel" (1 : Nat) "LentBoxesModel" "thrown" "I") ∈ Tw := tm_6 (i := 23) rfl rfl
set_option maxRecDepth 100000 in
theorem wd_t1224 : (Jvm.Cond.fieldLink "LentBoxesModel" (7 : Nat) "LentBoxesModel" "tape" "[I") ∈ Tw := tm_6 (i := 24) rfl rfl
set_option maxRecDepth 100000 in
theorem wd_t1225 : (Jvm.Cond.fieldLink "LentBoxesModel" (11 : Nat) "LentBoxesModel" "taped" "I") ∈ Tw := tm_6 (i := 25) rfl rfl
set_option maxRecDepth 100000 in
theorem wd_t1226 : (Jvm.Cond.fieldLink "LentBoxesModel" (18 : Nat) "LentBoxesModel" "size" "I") ∈ Tw := tm_6 (i := 26) rfl rfl
set_option maxRecDepth 100000 in
theorem wd_t1227 : (Jvm.Cond.fieldLink "LentBoxesModel" (27 : Nat) "LentBoxesModel" "limit" "I") ∈ Tw := tm_6 (i := 27) rfl rfl
set_option maxRecDepth 100000 in
theorem wd_t1228 : (Jvm.Cond.fieldLink "LentBoxesModel" (21 : Nat) "LentBoxesModel" "to" "I") ∈ Tw := tm_6 (i := 28) rfl rfl
set_option maxRecDepth 100000 in
theorem wd_t1229 : (Jvm.Cond.fieldLink "LentBoxesModel" (24 : Nat) "LentBoxesModel" "from" "I") ∈ Tw := tm_6 (i := 29) rfl rfl
set_option maxRecDepth 100000 in
theorem wd_t1230 : (Jvm.Cond.fieldLink "LentBoxesModel" (30 : Nat) "LentBoxesModel" "kind" "I") ∈ Tw := tm_6 (i := 30) rfl rfl
set_option maxRecDepth 100000 in
theorem wd_t1231 : (Jvm.Cond.fieldLink "LentBoxesModel" (47 : Nat) "LentBoxesModel" "number" "I") ∈ Tw := tm_6 (i := 31) rfl rfl
set_option maxRecDepth 100000 in
theorem wd_t1232 : (Jvm.Cond.fieldLink "LentBoxesModel" (40 : Nat) "LentBoxesModel" "sign" "I") ∈ Tw := tm_6 (i := 32) rfl rfl
set_option maxRecDepth 100000 in
theorem wd_t1233 : (Jvm.Cond.fieldLink "LentBoxesModel" (66 : Nat) "LentBoxesModel" "fault" "I") ∈ Tw := tm_6 (i := 33) rfl rfl
set_option maxRecDepth 100000 in
theorem wd_t1234 : (Jvm.Cond.fieldLink "LentBoxesModel" (69 : Nat) "LentBoxesModel" "place" "I") ∈ Tw := tm_6 (i := 34) rfl rfl
set_option maxRecDepth 100000 in
theorem wd_t1235 : (Jvm.Cond.fieldLink "LentBoxesModel" (43 : Nat) "LentBoxesModel" "word" "J") ∈ Tw := tm_6 (i := 35) rfl rfl
set_option maxRecDepth 100000 in
theorem wd_t1236 : (Jvm.Cond.fieldLink "LentBoxesModel" (79 : Nat) "LentBoxesModel" "told" "I") ∈ Tw := tm_6 (i := 36) rfl rfl
set_option maxRecDepth 100000 in
theorem wd_t1237 : (Jvm.Cond.fieldLink "LentBoxesModel" (98 : Nat) "LentBoxesModel" "now" "[I") ∈ Tw := tm_6 (i := 37) rfl rfl
set_option maxRecDepth 100000 in
theorem wd_t1238 : (Jvm.Cond.fieldLink "LentBoxesModel" (101 : Nat) "LentBoxesModel" "read" "[I") ∈ Tw := tm_6 (i := 38) rfl rfl
set_option maxRecDepth 100000 in
theorem wd_t1239 : (Jvm.Cond.fieldLink "LentBoxesModel" (104 : Nat) "LentBoxesModel" "kept" "[I") ∈ Tw := tm_6 (i := 39) rfl rfl
set_option maxRecDepth 100000 in
theorem wd_t1240 : (Jvm.Cond.fieldLink "LentBoxesModel" (107 : Nat) "LentBoxesModel" "snaps" "[I") ∈ Tw := tm_6 (i := 40) rfl rfl
set_option maxRecDepth 100000 in
theorem wd_t1241 : (Jvm.Cond.fieldLink "LentBoxesModel" (110 : Nat) "LentBoxesModel" "aside" "[I") ∈ Tw := tm_6 (i := 41) rfl rfl
set_option maxRecDepth 100000 in
theorem wd_t1242 : (Jvm.Cond.fieldLink "LentBoxesModel" (113 : Nat) "LentBoxesModel" "then" "[I") ∈ Tw := tm_6 (i := 42) rfl rfl
set_option maxRecDepth 100000 in
theorem wd_t1243 : (Jvm.Cond.fieldLink "LentBoxesModel" (116 : Nat) "LentBoxesModel" "name" "[J") ∈ Tw := tm_6 (i := 43) rfl rfl
set_option maxRecDepth 100000 in
theorem wd_t1244 : (Jvm.Cond.fieldLink "LentBoxesModel" (120 : Nat) "LentBoxesModel" "readName" "[J") ∈ Tw := tm_6 (i := 44) rfl rfl
set_option maxRecDepth 100000 in
theorem wd_t1245 : (Jvm.Cond.fieldLink "LentBoxesModel" (123 : Nat) "LentBoxesModel" "keptName" "[J") ∈ Tw := tm_6 (i := 45) rfl rfl
set_option maxRecDepth 100000 in
theorem wd_t1246 : (Jvm.Cond.fieldLink "LentBoxesModel" (126 : Nat) "LentBoxesModel" "isKept" "[Z") ∈ Tw := tm_6 (i := 46) rfl rfl
set_option maxRecDepth 100000 in
theorem wd_t1247 : (Jvm.Cond.fieldLink "LentBoxesModel" (193 : Nat) "LentBoxesModel" "hasAir" "Z") ∈ Tw := tm_6 (i := 47) rfl rfl
set_option maxRecDepth 100000 in
theorem wd_t1248 : (Jvm.Cond.fieldLink "LentBoxesModel" (230 : Nat) "LentBoxesModel" "snapMany" "I") ∈ Tw := tm_6 (i := 48) rfl rfl
set_option maxRecDepth 100000 in
theorem wd_t1249 : (Jvm.Cond.fieldLink "LentBoxesModel" (130 : Nat) "LentBoxesModel" "mostFrom" "[I") ∈ Tw := tm_6 (i := 49) rfl rfl
set_option maxRecDepth 100000 in
theorem wd_t1250 : (Jvm.Cond.fieldLink "LentBoxesModel" (133 : Nat) "LentBoxesModel" "matched" "[I") ∈ Tw := tm_6 (i := 50) rfl rfl
set_option maxRecDepth 100000 in
theorem wd_t1251 : (Jvm.Cond.fieldLink "LentBoxesModel" (320 : Nat) "LentBoxesModel" "matchMany" "I") ∈ Tw := tm_6 (i := 51) rfl rfl
set_option maxRecDepth 100000 in
theorem wd_t1252 : (Jvm.Cond.fieldLink "LentBoxesModel" (136 : Nat) "LentBoxesModel" "soonIn" "I") ∈ Tw := tm_6 (i := 52) rfl rfl
set_option maxRecDepth 100000 in
theorem wd_t1253 : (Jvm.Cond.fieldLink "LentBoxesModel" (139 : Nat) "LentBoxesModel" "ringRow" "[I") ∈ Tw := tm_6 (i := 53) rfl rfl
set_option maxRecDepth 100000 in
theorem wd_t1254 : (Jvm.Cond.fieldLink "LentBoxesModel" (142 : Nat) "LentBoxesModel" "ringTold" "[I") ∈ Tw := tm_6 (i := 54) rfl rfl
set_option maxRecDepth 100000 in
theorem wd_t1255 : (Jvm.Cond.fieldLink "LentBoxesModel" (332 : Nat) "LentBoxesModel" "ringMany" "I") ∈ Tw := tm_6 (i := 55) rfl rfl
set_option maxRecDepth 100000 in
theorem wd_t1256 : (Jvm.Cond.fieldLink "LentBoxesModel" (145 : Nat) "LentBoxesModel" "asking" "I") ∈ Tw := tm_6 (i := 56) rfl rfl
set_option maxRecDepth 100000 in
theorem wd_t1257 : (Jvm.Cond.fieldLink "LentBoxesModel" (148 : Nat) "LentBoxesModel" "text" "[I") ∈ Tw := tm_6 (i := 57) rfl rfl
set_option maxRecDepth 100000 in
theorem wd_t1258 : (Jvm.Cond.fieldLink "LentBoxesModel" (350 : Nat) "LentBoxesModel" "texts" "I") ∈ Tw := tm_6 (i := 58) rfl rfl
set_option maxRecDepth 100000 in
theorem wd_t1259 : (Jvm.Cond.fieldLink "LentBoxesModel" (363 : Nat) "LentBoxesModel" "seed" "I") ∈ Tw := tm_6 (i := 59) rfl rfl
set_option maxRecDepth 100000 in
theorem wd_t1260 : (Jvm.Cond.fieldLink "LentBoxesModel" (151 : Nat) "LentBoxesModel" "line" "[I") ∈ Tw := tm_6 (i := 60) rfl rfl
set_option maxRecDepth 100000 in
theorem wd_t1261 : (Jvm.Cond.fieldLink "LentBoxesModel" (154 : Nat) "LentBoxesModel" "written" "[I") ∈ Tw := tm_6 (i := 61) rfl rfl
set_option maxRecDepth 100000 in
theorem wd_t1262 : (Jvm.Cond.fieldLink "LentBoxesModel" (385 : Nat) "LentBoxesModel" "lineMany" "I") ∈ Tw := tm_6 (i := 62) rfl rfl
set_option maxRecDepth 100000 in
theorem wd_t1263 : (Jvm.Cond.fieldLink "LentBoxesModel" (406 : Nat) "LentBoxesModel" "hasWritten" "Z") ∈ Tw := tm_6 (i := 63) rfl rfl
set_option maxRecDepth 100000 in
theorem wd_t1264 : (Jvm.Cond.fieldLink "LentBoxesModel" (157 : Nat) "LentBoxesModel" "node" "[I") ∈ Tw := tm_6 (i := 64) rfl rfl
set_option maxRecDepth 100000 in
theorem wd_t1265 : (Jvm.Cond.fieldLink "LentBoxesModel" (413 : Nat) "LentBoxesModel" "nodes" "I") ∈ Tw := tm_6 (i := 65) rfl rfl
set_option maxRecDepth 100000 in
theorem wd_t1266 : (Jvm.Cond.fieldLink "LentBoxesModel" (429 : Nat) "LentBoxesModel" "onesMany" "I") ∈ Tw := tm_6 (i := 66) rfl rfl
set_option maxRecDepth 100000 in
theorem wd_t1267 : (Jvm.Cond.fieldLink "LentBoxesModel" (432 : Nat) "LentBoxesModel" "within" "I") ∈ Tw := tm_6 (i := 67) rfl rfl
set_option maxRecDepth 100000 in
theorem wd_t1268 : (Jvm.Cond.fieldLink "LentBoxesModel" (419 : Nat) "LentBoxesModel" "top" "I") ∈ Tw := tm_6 (i := 68) rfl rfl
set_option maxRecDepth 100000 in
theorem wd_t1269 : (Jvm.Cond.lays "LentBoxesModel" "LentBoxesModel" "thrown" "I") ∈ Tw := tm_6 (i := 69) rfl rfl
set_option maxRecDepth 100000 in
theorem wd_t1271 : (Jvm.Cond.laysFinal "LentBoxesModel" "LentBoxesModel" "tape" "[I") ∈ Tw := tm_6 (i := 71) rfl rfl
set_option maxRecDepth 100000 in
theorem wd_t1273 : (Jvm.Cond.lays "LentBoxesModel" "LentBoxesModel" "taped" "I") ∈ Tw := tm_6 (i := 73) rfl rfl
set_option maxRecDepth 100000 in
theorem wd_t1275 : (Jvm.Cond.lays "LentBoxesModel" "LentBoxesModel" "size" "I") ∈ Tw := tm_6 (i := 75) rfl rfl
set_option maxRecDepth 100000 in
theorem wd_t1277 : (Jvm.Cond.lays "LentBoxesModel" "LentBoxesModel" "limit" "I") ∈ Tw := tm_6 (i := 77) rfl rfl
set_option maxRecDepth 100000 in
theorem wd_t1279 : (Jvm.Cond.lays "LentBoxesModel" "LentBoxesModel" "to" "I") ∈ Tw := tm_6 (i := 79) rfl rfl
set_option maxRecDepth 100000 in
theorem wd_t1281 : (Jvm.Cond.lays "LentBoxesModel" "LentBoxesModel" "from" "I") ∈ Tw := tm_6 (i := 81) rfl rfl
set_option maxRecDepth 100000 in
theorem wd_t1283 : (Jvm.Cond.lays "LentBoxesModel" "LentBoxesModel" "kind" "I") ∈ Tw := tm_6 (i := 83) rfl rfl
set_option maxRecDepth 100000 in
theorem wd_t1285 : (Jvm.Cond.lays "LentBoxesModel" "LentBoxesModel" "number" "I") ∈ Tw := tm_6 (i := 85) rfl rfl
set_option maxRecDepth 100000 in
theorem wd_t1287 : (Jvm.Cond.lays "LentBoxesModel" "LentBoxesModel" "sign" "I") ∈ Tw := tm_6 (i := 87) rfl rfl
set_option maxRecDepth 100000 in
theorem wd_t1289 : (Jvm.Cond.lays "LentBoxesModel" "LentBoxesModel" "fault" "I") ∈ Tw := tm_6 (i := 89) rfl rfl
set_option maxRecDepth 100000 in
theorem wd_t1291 : (Jvm.Cond.lays "LentBoxesModel" "LentBoxesModel" "place" "I") ∈ Tw := tm_6 (i := 91) rfl rfl
set_option maxRecDepth 100000 in
theorem wd_t1293 : (Jvm.Cond.lays "LentBoxesModel" "LentBoxesModel" "word" "J") ∈ Tw := tm_6 (i := 93) rfl rfl
set_option maxRecDepth 100000 in
theorem wd_t1295 : (Jvm.Cond.lays "LentBoxesModel" "LentBoxesModel" "told" "I") ∈ Tw := tm_6 (i := 95) rfl rfl
set_option maxRecDepth 100000 in
theorem wd_t1297 : (Jvm.Cond.laysFinal "LentBoxesModel" "LentBoxesModel" "now" "[I") ∈ Tw := tm_6 (i := 97) rfl rfl
set_option maxRecDepth 100000 in
theorem wd_t1299 : (Jvm.Cond.laysFinal "LentBoxesModel" "LentBoxesModel" "read" "[I") ∈ Tw := tm_6 (i := 99) rfl rfl
set_option maxRecDepth 100000 in
theorem wd_t1301 : (Jvm.Cond.laysFinal "LentBoxesModel" "LentBoxesModel" "kept" "[I") ∈ Tw := tm_6 (i := 101) rfl rfl
set_option maxRecDepth 100000 in
theorem wd_t1303 : (Jvm.Cond.laysFinal "LentBoxesModel" "LentBoxesModel" "snaps" "[I") ∈ Tw := tm_6 (i := 103) rfl rfl
set_option maxRecDepth 100000 in
theorem wd_t1305 : (Jvm.Cond.laysFinal "LentBoxesModel" "LentBoxesModel" "aside" "[I") ∈ Tw := tm_6 (i := 105) rfl rfl
set_option maxRecDepth 100000 in
theorem wd_t1307 : (Jvm.Cond.laysFinal "LentBoxesModel" "LentBoxesModel" "then" "[I") ∈ Tw := tm_6 (i := 107) rfl rfl
set_option maxRecDepth 100000 in
theorem wd_t1309 : (Jvm.Cond.laysFinal "LentBoxesModel" "LentBoxesModel" "name" "[J") ∈ Tw := tm_6 (i := 109) rfl rfl
set_option maxRecDepth 100000 in
theorem wd_t1311 : (Jvm.Cond.laysFinal "LentBoxesModel" "LentBoxesModel" "readName" "[J") ∈ Tw := tm_6 (i := 111) rfl rfl
set_option maxRecDepth 100000 in
theorem wd_t1313 : (Jvm.Cond.laysFinal "LentBoxesModel" "LentBoxesModel" "keptName" "[J") ∈ Tw := tm_6 (i := 113) rfl rfl
set_option maxRecDepth 100000 in
theorem wd_t1315 : (Jvm.Cond.laysFinal "LentBoxesModel" "LentBoxesModel" "isKept" "[Z") ∈ Tw := tm_6 (i := 115) rfl rfl
set_option maxRecDepth 100000 in
theorem wd_t1317 : (Jvm.Cond.lays "LentBoxesModel" "LentBoxesModel" "hasAir" "Z") ∈ Tw := tm_6 (i := 117) rfl rfl
set_option maxRecDepth 100000 in
theorem wd_t1319 : (Jvm.Cond.lays "LentBoxesModel" "LentBoxesModel" "snapMany" "I") ∈ Tw := tm_6 (i := 119) rfl rfl
set_option maxRecDepth 100000 in
theorem wd_t1321 : (Jvm.Cond.laysFinal "LentBoxesModel" "LentBoxesModel" "mostFrom" "[I") ∈ Tw := tm_6 (i := 121) rfl rfl
set_option maxRecDepth 100000 in
theorem wd_t1323 : (Jvm.Cond.laysFinal "LentBoxesModel" "LentBoxesModel" "matched" "[I") ∈ Tw := tm_6 (i := 123) rfl rfl
set_option maxRecDepth 100000 in
theorem wd_t1325 : (Jvm.Cond.lays "LentBoxesModel" "LentBoxesModel" "matchMany" "I") ∈ Tw := tm_6 (i := 125) rfl rfl
set_option maxRecDepth 100000 in
theorem wd_t1327 : (Jvm.Cond.lays "LentBoxesModel" "LentBoxesModel" "soonIn" "I") ∈ Tw := tm_6 (i := 127) rfl rfl
set_option maxRecDepth 100000 in
theorem wd_t1329 : (Jvm.Cond.laysFinal "LentBoxesModel" "LentBoxesModel" "ringRow" "[I") ∈ Tw := tm_6 (i := 129) rfl rfl
set_option maxRecDepth 100000 in
theorem wd_t1331 : (Jvm.Cond.laysFinal "LentBoxesModel" "LentBoxesModel" "ringTold" "[I") ∈ Tw := tm_6 (i := 131) rfl rfl
set_option maxRecDepth 100000 in
theorem wd_t1333 : (Jvm.Cond.lays "LentBoxesModel" "LentBoxesModel" "ringMany" "I") ∈ Tw := tm_6 (i := 133) rfl rfl
set_option maxRecDepth 100000 in
theorem wd_t1335 : (Jvm.Cond.lays "LentBoxesModel" "LentBoxesModel" "asking" "I") ∈ Tw := tm_6 (i := 135) rfl rfl
set_option maxRecDepth 100000 in
theorem wd_t1337 : (Jvm.Cond.laysFinal "LentBoxesModel" "LentBoxesModel" "text" "[I") ∈ Tw := tm_6 (i := 137) rfl rfl
set_option maxRecDepth 100000 in
theorem wd_t1339 : (Jvm.Cond.lays "LentBoxesModel" "LentBoxesModel" "texts" "I") ∈ Tw := tm_6 (i := 139) rfl rfl
set_option maxRecDepth 100000 in
theorem wd_t1341 : (Jvm.Cond.lays "LentBoxesModel" "LentBoxesModel" "seed" "I") ∈ Tw := tm_6 (i := 141) rfl rfl
set_option maxRecDepth 100000 in
theorem wd_t1343 : (Jvm.Cond.laysFinal "LentBoxesModel" "LentBoxesModel" "line" "[I") ∈ Tw := tm_6 (i := 143) rfl rfl
set_option maxRecDepth 100000 in
theorem wd_t1345 : (Jvm.Cond.laysFinal "LentBoxesModel" "LentBoxesModel" "written" "[I") ∈ Tw := tm_6 (i := 145) rfl rfl
set_option maxRecDepth 100000 in
theorem wd_t1347 : (Jvm.Cond.lays "LentBoxesModel" "LentBoxesModel" "lineMany" "I") ∈ Tw := tm_6 (i := 147) rfl rfl
set_option maxRecDepth 100000 in
theorem wd_t1349 : (Jvm.Cond.lays "LentBoxesModel" "LentBoxesModel" "hasWritten" "Z") ∈ Tw := tm_6 (i := 149) rfl rfl
set_option maxRecDepth 100000 in
theorem wd_t1351 : (Jvm.Cond.laysFinal "LentBoxesModel" "LentBoxesModel" "node" "[I") ∈ Tw := tm_6 (i := 151) rfl rfl
set_option maxRecDepth 100000 in
theorem wd_t1353 : (Jvm.Cond.lays "LentBoxesModel" "LentBoxesModel" "nodes" "I") ∈ Tw := tm_6 (i := 153) rfl rfl
set_option maxRecDepth 100000 in
theorem wd_t1355 : (Jvm.Cond.lays "LentBoxesModel" "LentBoxesModel" "onesMany" "I") ∈ Tw := tm_6 (i := 155) rfl rfl
set_option maxRecDepth 100000 in
theorem wd_t1357 : (Jvm.Cond.lays "LentBoxesModel" "LentBoxesModel" "within" "I") ∈ Tw := tm_6 (i := 157) rfl rfl
set_option maxRecDepth 100000 in
theorem wd_t1359 : (Jvm.Cond.lays "LentBoxesModel" "LentBoxesModel" "top" "I") ∈ Tw := tm_6 (i := 159) rfl rfl
set_option maxRecDepth 100000 in
theorem wd_t1362 : (Jvm.Cond.arrayClass Jvm.ClassFile.FieldType.boolean) ∈ Tw := tm_6 (i := 162) rfl rfl
set_option maxRecDepth 100000 in
theorem wd_t1363 : (Jvm.Cond.methodLink "LentBoxesLaw" (40 : Nat) ({ cls := "LentBoxesModel", name := "vestry", desc := "()I" } : Jvm.MethodName)) ∈ Tw := tm_6 (i := 163) rfl rfl
set_option maxRecDepth 100000 in
theorem wd_t1364 : (Jvm.Cond.instanceMethod ({ cls := "LentBoxesModel", name := "vestry", desc := "()I" } : Jvm.MethodName)) ∈ Tw := tm_6 (i := 164) rfl rfl
set_option maxRecDepth 100000 in
theorem wd_t1365 : (Jvm.Cond.selects "LentBoxesModel" ({ cls := "LentBoxesModel", name := "vestry", desc := "()I" } : Jvm.MethodName) ({ cls := "LentBoxesModel", name := "vestry", desc := "()I" } : Jvm.MethodName)) ∈ Tw := tm_6 (i := 165) rfl rfl
set_option maxRecDepth 100000 in
theorem wd_t1366 : (Jvm.Cond.code ({ cls := "LentBoxesModel", name := "vestry", desc := "()I" } : Jvm.MethodName) prog_14_method_42_code (3 : Nat) (Option.some Jvm.ClassFile.FieldType.int)) ∈ Tw := tm_6 (i := 166) rfl rfl
set_option maxRecDepth 100000 in
theorem wd_t1367 : (Jvm.Cond.methodLink "LentBoxesModel" (221 : Nat) ({ cls := "LentBoxesModel", name := "begin", desc := "(I)V" } : Jvm.MethodName)) ∈ Tw := tm_6 (i := 167) rfl rfl
set_option maxRecDepth 100000 in
theorem wd_t1369 : (Jvm.Cond.instanceMethod ({ cls := "LentBoxesModel", name := "begin", desc := "(I)V" } : Jvm.MethodName)) ∈ Tw := tm_6 (i := 169) rfl rfl
set_option maxRecDepth 100000 in
theorem wd_t1370 : (Jvm.Cond.code ({ cls := "LentBoxesModel", name := "begin", desc := "(I)V" } : Jvm.MethodName) prog_14_method_25_code (2 : Nat) (Option.none : Option Jvm.ClassFile.FieldType)) ∈ Tw := tm_6 (i := 170) rfl rfl
set_option maxRecDepth 100000 in
theorem wd_t1371 : (Jvm.Cond.methodLink "LentBoxesModel" (89 : Nat) ({ cls := "LentBoxesModel", name := "take", desc := "()I" } : Jvm.MethodName)) ∈ Tw := tm_6 (i := 171) rfl rfl
set_option maxRecDepth 100000 in
theorem wd_t1373 : (Jvm.Cond.instanceMethod ({ cls := "LentBoxesModel", name := "take", desc := "()I" } : Jvm.MethodName)) ∈ Tw := tm_6 (i := 173) rfl rfl
set_option maxRecDepth 100000 in
theorem wd_t1374 : (Jvm.Cond.code ({ cls := "LentBoxesModel", name := "take", desc := "()I" } : Jvm.MethodName) prog_14_method_6_code (2 : Nat) (Option.some Jvm.ClassFile.FieldType.int)) ∈ Tw := tm_6 (i := 174) rfl rfl
set_option maxRecDepth 100000 in
theorem wd_t1375 : (Jvm.Cond.methodLink "LentBoxesModel" (82 : Nat) ({ cls := "LentBoxesModel", name := "go", desc := "()V" } : Jvm.MethodName)) ∈ Tw := tm_6 (i := 175) rfl rfl
set_option maxRecDepth 100000 in
theorem wd_t1377 : (Jvm.Cond.instanceMethod ({ cls := "LentBoxesModel", name := "go", desc := "()V" } : Jvm.MethodName)) ∈ Tw := tm_6 (i := 177) rfl rfl
set_option maxRecDepth 100000 in
theorem wd_t1378 : (Jvm.Cond.code ({ cls := "LentBoxesModel", name := "go", desc := "()V" } : Jvm.MethodName) prog_14_method_16_code (5 : Nat) (Option.none : Option Jvm.ClassFile.FieldType)) ∈ Tw := tm_6 (i := 178) rfl rfl
set_option maxRecDepth 100000 in
theorem wd_t1379 : (Jvm.Cond.methodLink "LentBoxesModel" (33 : Nat) ({ cls := "LentBoxesModel", name := "isLetter", desc := "(I)Z" } : Jvm.MethodName)) ∈ Tw := tm_6 (i := 179) rfl rfl
set_option maxRecDepth 100000 in
theorem wd_t1380 : (Jvm.Cond.static ({ cls := "LentBoxesModel", name := "isLetter", desc := "(I)Z" } : Jvm.MethodName)) ∈ Tw := tm_6 (i := 180) rfl rfl
set_option maxRecDepth 100000 in
theorem wd_t1381 : (Jvm.Cond.code ({ cls := "LentBoxesModel", name := "isLetter", desc := "(I)Z" } : Jvm.MethodName) prog_14_method_15_code (1 : Nat) (Option.some Jvm.ClassFile.FieldType.boolean)) ∈ Tw := tm_6 (i := 181) rfl rfl
set_option maxRecDepth 100000 in
theorem wd_t1382 : (Jvm.Cond.methodLink "LentBoxesModel" (37 : Nat) ({ cls := "LentBoxesModel", name := "isDigit", desc := "(I)Z" } : Jvm.MethodName)) ∈ Tw := tm_6 (i := 182) rfl rfl
set_option maxRecDepth 100000 in
theorem wd_t1383 : (Jvm.Cond.static ({ cls := "LentBoxesModel", name := "isDigit", desc := "(I)Z" } : Jvm.MethodName)) ∈ Tw := tm_6 (i := 183) rfl rfl
set_option maxRecDepth 100000 in
theorem wd_t1384 : (Jvm.Cond.code ({ cls := "LentBoxesModel", name := "isDigit", desc := "(I)Z" } : Jvm.MethodName) prog_14_method_14_code (1 : Nat) (Option.some Jvm.ClassFile.FieldType.boolean)) ∈ Tw := tm_6 (i := 184) rfl rfl
set_option maxRecDepth 100000 in
theorem wd_t1385 : (Jvm.Cond.methodLink "LentBoxesModel" (50 : Nat) ({ cls := "LentBoxesModel", name := "tapeAt", desc := "(I)I" } : Jvm.MethodName)) ∈ Tw := tm_6 (i := 185) rfl rfl
set_option maxRecDepth 100000 in
theorem wd_t1387 : (Jvm.Cond.instanceMethod ({ cls := "LentBoxesModel", name := "tapeAt", desc := "(I)I" } : Jvm.MethodName)) ∈ Tw := tm_6 (i := 187) rfl rfl
set_option maxRecDepth 100000 in
theorem wd_t1388 : (Jvm.Cond.code ({ cls := "LentBoxesModel", name := "tapeAt", desc := "(I)I" } : Jvm.MethodName) prog_14_method_13_code (2 : Nat) (Option.some Jvm.ClassFile.FieldType.int)) ∈ Tw := tm_6 (i := 188) rfl rfl
set_option maxRecDepth 100000 in
theorem wd_t1389 : (Jvm.Cond.constantLong "LentBoxesModel" (54 : Nat) (27 : Int64)) ∈ Tw := tm_6 (i := 189) rfl rfl
set_option maxRecDepth 100000 in
theorem wd_t1390 : (Jvm.Cond.constantLong "LentBoxesModel" (56 : Nat) (96 : Int64)) ∈ Tw := tm_6 (i := 190) rfl rfl
set_option maxRecDepth 100000 in
theorem wd_t1391 : (Jvm.Cond.methodLink "LentBoxesModel" (224 : Nat) ({ cls := "LentBoxesModel", name := "readLine", desc := "()Z" } : Jvm.MethodName)) ∈ Tw := tm_6 (i := 191) rfl rfl
set_option maxRecDepth 100000 in
theorem wd_t1393 : (Jvm.Cond.instanceMethod ({ cls := "LentBoxesModel", name := "readLine", desc := "()Z" } : Jvm.MethodName)) ∈ Tw := tm_6 (i := 193) rfl rfl
set_option maxRecDepth 100000 in
theorem wd_t1394 : (Jvm.Cond.code ({ cls := "LentBoxesModel", name := "readLine", desc := "()Z" } : Jvm.MethodName) prog_14_method_41_code (1 : Nat) (Option.some Jvm.ClassFile.FieldType.boolean)) ∈ Tw := tm_6 (i := 194) rfl rfl
set_option maxRecDepth 100000 in
theorem wd_t1395 : (Jvm.Cond.methodLink "LentBoxesModel" (197 : Nat) ({ cls := "LentBoxesModel", name := "isWord", desc := "(I)Z" } : Jvm.MethodName)) ∈ Tw := tm_6 (i := 195) rfl rfl
set_option maxRecDepth 100000 in
theorem wd_t1397 : (Jvm.Cond.instanceMethod ({ cls := "LentBoxesModel", name := "isWord", desc := "(I)Z" } : Jvm.MethodName)) ∈ Tw := tm_6 (i := 197) rfl rfl
set_option maxRecDepth 100000 in
theorem wd_t1398 : (Jvm.Cond.code ({ cls := "LentBoxesModel", name := "isWord", desc := "(I)Z" } : Jvm.MethodName) prog_14_method_19_code (2 : Nat) (Option.some Jvm.ClassFile.FieldType.boolean)) ∈ Tw := tm_6 (i := 198) rfl rfl
set_option maxRecDepth 100000 in
theorem wd_t1399 : (Jvm.Cond.methodLink "LentBoxesModel" (62 : Nat) ({ cls := "LentBoxesModel", name := "wordOf", desc := "(I)J" } : Jvm.MethodName)) ∈ Tw := tm_6 (i := 199) rfl rfl
set_option maxRecDepth 100000 in
theorem wd_t1400 : (Jvm.Cond.static ({ cls := "LentBoxesModel", name := "wordOf", desc := "(I)J" } : Jvm.MethodName)) ∈ Tw := tm_6 (i := 200) rfl rfl
set_option maxRecDepth 100000 in
theorem wd_t1401 : (Jvm.Cond.code ({ cls := "LentBoxesModel", name := "wordOf", desc := "(I)J" } : Jvm.MethodName) prog_14_method_18_code (1 : Nat) (Option.some Jvm.ClassFile.FieldType.long)) ∈ Tw := tm_6 (i := 201) rfl rfl
set_option maxRecDepth 100000 in
theorem wd_t1402 : (Jvm.Cond.methodLink "LentBoxesModel" (58 : Nat) ({ cls := "LentBoxesModel", name := "spelt", desc := "(IIIIIII)J" } : Jvm.MethodName)) ∈ Tw := tm_6 (i := 202) rfl rfl
set_option maxRecDepth 100000 in
theorem wd_t1403 : (Jvm.Cond.static ({ cls := "LentBoxesModel", name := "spelt", desc := "(IIIIIII)J" } : Jvm.MethodName)) ∈ Tw := tm_6 (i := 203) rfl rfl
set_option maxRecDepth 100000 in
theorem wd_t1404 : (Jvm.Cond.code ({ cls := "LentBoxesModel", name := "spelt", desc := "(IIIIIII)J" } : Jvm.MethodName) prog_14_method_17_code (9 : Nat) (Option.some Jvm.ClassFile.FieldType.long)) ∈ Tw := tm_6 (i := 204) rfl rfl
set_option maxRecDepth 100000 in
theorem wd_t1405 : (Jvm.Cond.methodLink "LentBoxesModel" (200 : Nat) ({ cls := "LentBoxesModel", name := "readBox", desc := "()Z" } : Jvm.MethodName)) ∈ Tw := tm_6 (i := 205) rfl rfl
set_option maxRecDepth 100000 in
theorem wd_t1407 : (Jvm.Cond.instanceMethod ({ cls := "LentBoxesModel", name := "readBox", desc := "()Z" } : Jvm.MethodName)) ∈ Tw := tm_6 (i := 207) rfl rfl
set_option maxRecDepth 100000 in
theorem wd_t1408 : (Jvm.Cond.code ({ cls := "LentBoxesModel", name := "readBox", desc := "()Z" } : Jvm.MethodName) prog_14_method_34_code (2 : Nat) (Option.some Jvm.ClassFile.FieldType.boolean)) ∈ Tw := tm_6 (i := 208) rfl rfl
set_option maxRecDepth 100000 in
theorem wd_t1409 : (Jvm.Cond.methodLink "LentBoxesModel" (173 : Nat) ({ cls := "LentBoxesModel", name := "readFirst", desc := "(II)Z" } : Jvm.MethodName)) ∈ Tw := tm_6 (i := 209) rfl rfl
set_option maxRecDepth 100000 in
theorem wd_t1411 : (Jvm.Cond.instanceMethod ({ cls := "LentBoxesModel", name := "readFirst", desc := "(II)Z" } : Jvm.MethodName)) ∈ Tw := tm_6 (i := 211) rfl rfl
set_option maxRecDepth 100000 in
theorem wd_t1412 : (Jvm.Cond.code ({ cls := "LentBoxesModel", name := "readFirst", desc := "(II)Z" } : Jvm.MethodName) prog_14_method_31_code (3 : Nat) (Option.some Jvm.ClassFile.FieldType.boolean)) ∈ Tw := tm_6 (i := 212) rfl rfl
set_option maxRecDepth 100000 in
theorem wd_t1413 : (Jvm.Cond.methodLink "LentBoxesModel" (72 : Nat) ({ cls := "LentBoxesModel", name := "bad", desc := "(I)Z" } : Jvm.MethodName)) ∈ Tw := tm_6 (i := 213) rfl rfl
set_option maxRecDepth 100000 in
theorem wd_t1415 : (Jvm.Cond.instanceMethod ({ cls := "LentBoxesModel", name := "bad", desc := "(I)Z" } : Jvm.MethodName)) ∈ Tw := tm_6 (i := 215) rfl rfl
set_option maxRecDepth 100000 in
theorem wd_t1416 : (Jvm.Cond.code ({ cls := "LentBoxesModel", name := "bad", desc := "(I)Z" } : Jvm.MethodName) prog_14_method_22_code (2 : Nat) (Option.some Jvm.ClassFile.FieldType.boolean)) ∈ Tw := tm_6 (i := 216) rfl rfl
set_option maxRecDepth 100000 in
theorem wd_t1417 : (Jvm.Cond.methodLink "LentBoxesModel" (177 : Nat) ({ cls := "LentBoxesModel", name := "readNew", desc := "(I)Z" } : Jvm.MethodName)) ∈ Tw := tm_6 (i := 217) rfl rfl
set_option maxRecDepth 100000 in
theorem wd_t1419 : (Jvm.Cond.instanceMethod ({ cls := "LentBoxesModel", name := "readNew", desc := "(I)Z" } : Jvm.MethodName)) ∈ Tw := tm_6 (i := 219) rfl rfl
set_option maxRecDepth 100000 in
theorem wd_t1420 : (Jvm.Cond.code ({ cls := "LentBoxesModel", name := "readNew", desc := "(I)Z" } : Jvm.MethodName) prog_14_method_30_code (3 : Nat) (Option.some Jvm.ClassFile.FieldType.boolean)) ∈ Tw := tm_6 (i := 220) rfl rfl
set_option maxRecDepth 100000 in
theorem wd_t1421 : (Jvm.Cond.methodLink "LentBoxesModel" (165 : Nat) ({ cls := "LentBoxesModel", name := "isName", desc := "()Z" } : Jvm.MethodName)) ∈ Tw := tm_6 (i := 221) rfl rfl
set_option maxRecDepth 100000 in
theorem wd_t1423 : (Jvm.Cond.instanceMethod ({ cls := "LentBoxesModel", name := "isName", desc := "()Z" } : Jvm.MethodName)) ∈ Tw := tm_6 (i := 223) rfl rfl
set_option maxRecDepth 100000 in
theorem wd_t1424 : (Jvm.Cond.code ({ cls := "LentBoxesModel", name := "isName", desc := "()Z" } : Jvm.MethodName) prog_14_method_21_code (2 : Nat) (Option.some Jvm.ClassFile.FieldType.boolean)) ∈ Tw := tm_6 (i := 224) rfl rfl
set_option maxRecDepth 100000 in
theorem wd_t1425 : (Jvm.Cond.methodLink "LentBoxesModel" (169 : Nat) ({ cls := "LentBoxesModel", name := "findIn", desc := "([JIIJ)I" } : Jvm.MethodName)) ∈ Tw := tm_6 (i := 225) rfl rfl
set_option maxRecDepth 100000 in
theorem wd_t1426 : (Jvm.Cond.static ({ cls := "LentBoxesModel", name := "findIn", desc := "([JIIJ)I" } : Jvm.MethodName)) ∈ Tw := tm_6 (i := 226) rfl rfl
set_option maxRecDepth 100000 in
theorem wd_t1427 : (Jvm.Cond.code ({ cls := "LentBoxesModel", name := "findIn", desc := "([JIIJ)I" } : Jvm.MethodName) prog_14_method_29_code (6 : Nat) (Option.some Jvm.ClassFile.FieldType.int)) ∈ Tw := tm_6 (i := 227) rfl rfl
set_option maxRecDepth 100000 in
theorem wd_t1428 : (Jvm.Cond.methodLink "LentBoxesModel" (180 : Nat) ({ cls := "LentBoxesModel", name := "readNumber", desc := "(II)Z" } : Jvm.MethodName)) ∈ Tw := tm_6 (i := 228) rfl rfl
set_option maxRecDepth 100000 in
theorem wd_t1430 : (Jvm.Cond.instanceMethod ({ cls := "LentBoxesModel", name := "readNumber", desc := "(II)Z" } : Jvm.MethodName)) ∈ Tw := tm_6 (i := 230) rfl rfl
set_option maxRecDepth 100000 in
theorem wd_t1431 : (Jvm.Cond.code ({ cls := "LentBoxesModel", name := "readNumber", desc := "(II)Z" } : Jvm.MethodName) prog_14_method_23_code (3 : Nat) (Option.some Jvm.ClassFile.FieldType.boolean)) ∈ Tw := tm_6 (i := 231) rfl rfl
set_option maxRecDepth 100000 in
theorem wd_t1432 : (Jvm.Cond.methodLink "LentBoxesModel" (75 : Nat) ({ cls := "LentBoxesModel", name := "isIn", desc := "(III)Z" } : Jvm.MethodName)) ∈ Tw := tm_6 (i := 232) rfl rfl
set_option maxRecDepth 100000 in
theorem wd_t1433 : (Jvm.Cond.static ({ cls := "LentBoxesModel", name := "isIn", desc := "(III)Z" } : Jvm.MethodName)) ∈ Tw := tm_6 (i := 233) rfl rfl
set_option maxRecDepth 100000 in
theorem wd_t1434 : (Jvm.Cond.code ({ cls := "LentBoxesModel", name := "isIn", desc := "(III)Z" } : Jvm.MethodName) prog_14_method_7_code (3 : Nat) (Option.some Jvm.ClassFile.FieldType.boolean)) ∈ Tw := tm_6 (i := 234) rfl rfl
set_option maxRecDepth 100000 in
theorem wd_t1435 : (Jvm.Cond.methodLink "LentBoxesModel" (183 : Nat) ({ cls := "LentBoxesModel", name := "noted", desc := "(IZ)Z" } : Jvm.MethodName)) ∈ Tw := tm_6 (i := 235) rfl rfl
set_option maxRecDepth 100000 in
theorem wd_t1437 : (Jvm.Cond.instanceMethod ({ cls := "LentBoxesModel", name := "noted", desc := "(IZ)Z" } : Jvm.MethodName)) ∈ Tw := tm_6 (i := 237) rfl rfl
set_option maxRecDepth 100000 in
theorem wd_t1438 : (Jvm.Cond.code ({ cls := "LentBoxesModel", name := "noted", desc := "(IZ)Z" } : Jvm.MethodName) prog_14_method_32_code (3 : Nat) (Option.some Jvm.ClassFile.FieldType.boolean)) ∈ Tw := tm_6 (i := 238) rfl rfl
set_option maxRecDepth 100000 in
theorem wd_t1439 : (Jvm.Cond.methodLink "LentBoxesModel" (203 : Nat) ({ cls := "LentBoxesModel", name := "readPlot", desc := "()Z" } : Jvm.MethodName)) ∈ Tw := tm_6 (i := 239) rfl rfl
set_option maxRecDepth 100000 in
theorem wd_t1441 : (Jvm.Cond.instanceMethod ({ cls := "LentBoxesModel", name := "readPlot", desc := "()Z" } : Jvm.MethodName)) ∈ Tw := tm_7 (i := 1) rfl rfl
set_option maxRecDepth 100000 in
theorem wd_t1442 : (Jvm.Cond.code ({ cls := "LentBoxesModel", name := "readPlot", desc := "()Z" } : Jvm.MethodName) prog_14_method_35_code (2 : Nat) (Option.some Jvm.ClassFile.FieldType.boolean)) ∈ Tw := tm_7 (i := 2) rfl rfl
set_option maxRecDepth 100000 in
theorem wd_t1443 : (Jvm.Cond.methodLink "LentBoxesModel" (206 : Nat) ({ cls := "LentBoxesModel", name := "readDead", desc := "()Z" } : Jvm.MethodName)) ∈ Tw := tm_7 (i := 3) rfl rfl
set_option maxRecDepth 100000 in
theorem wd_t1445 : (Jvm.Cond.instanceMethod ({ cls := "LentBoxesModel", name := "readDead", desc := "()Z" } : Jvm.MethodName)) ∈ Tw := tm_7 (i := 5) rfl rfl
set_option maxRecDepth 100000 in
theorem wd_t1446 : (Jvm.Cond.code ({ cls := "LentBoxesModel", name := "readDead", desc := "()Z" } : Jvm.MethodName) prog_14_method_36_code (2 : Nat) (Option.some Jvm.ClassFile.FieldType.boolean)) ∈ Tw := tm_7 (i := 6) rfl rfl
set_option maxRecDepth 100000 in
theorem wd_t1447 : (Jvm.Cond.methodLink "LentBoxesModel" (209 : Nat) ({ cls := "LentBoxesModel", name := "readKin", desc := "()Z" } : Jvm.MethodName)) ∈ Tw := tm_7 (i := 7) rfl rfl
set_option maxRecDepth 100000 in
theorem wd_t1449 : (Jvm.Cond.instanceMethod ({ cls := "LentBoxesModel", name := "readKin", desc := "()Z" } : Jvm.MethodName)) ∈ Tw := tm_7 (i := 9) rfl rfl
set_option maxRecDepth 100000 in
theorem wd_t1450 : (Jvm.Cond.code ({ cls := "LentBoxesModel", name := "readKin", desc := "()Z" } : Jvm.MethodName) prog_14_method_37_code (2 : Nat) (Option.some Jvm.ClassFile.FieldType.boolean)) ∈ Tw := tm_7 (i := 10) rfl rfl
set_option maxRecDepth 100000 in
theorem wd_t1451 : (Jvm.Cond.methodLink "LentBoxesModel" (187 : Nat) ({ cls := "LentBoxesModel", name := "isHere", desc := "(II)Z" } : Jvm.MethodName)) ∈ Tw := tm_7 (i := 11) rfl rfl
set_option maxRecDepth 100000 in
theorem wd_t1453 : (Jvm.Cond.instanceMethod ({ cls := "LentBoxesModel", name := "isHere", desc := "(II)Z" } : Jvm.MethodName)) ∈ Tw := tm_7 (i := 13) rfl rfl
set_option maxRecDepth 100000 in
theorem wd_t1454 : (Jvm.Cond.code ({ cls := "LentBoxesModel", name := "isHere", desc := "(II)Z" } : Jvm.MethodName) prog_14_method_33_code (3 : Nat) (Option.some Jvm.ClassFile.FieldType.boolean)) ∈ Tw := tm_7 (i := 14) rfl rfl
set_option maxRecDepth 100000 in
theorem wd_t1455 : (Jvm.Cond.methodLink "LentBoxesModel" (190 : Nat) ({ cls := "LentBoxesModel", name := "has", desc := "(II)Z" } : Jvm.MethodName)) ∈ Tw := tm_7 (i := 15) rfl rfl
set_option maxRecDepth 100000 in
theorem wd_t1456 : (Jvm.Cond.static ({ cls := "LentBoxesModel", name := "has", desc := "(II)Z" } : Jvm.MethodName)) ∈ Tw := tm_7 (i := 16) rfl rfl
set_option maxRecDepth 100000 in
theorem wd_t1457 : (Jvm.Cond.code ({ cls := "LentBoxesModel", name := "has", desc := "(II)Z" } : Jvm.MethodName) prog_14_method_8_code (2 : Nat) (Option.some Jvm.ClassFile.FieldType.boolean)) ∈ Tw := tm_7 (i := 17) rfl rfl
set_option maxRecDepth 100000 in
theorem wd_t1458 : (Jvm.Cond.methodLink "LentBoxesModel" (212 : Nat) ({ cls := "LentBoxesModel", name := "readAsks", desc := "()Z" } : Jvm.MethodName)) ∈ Tw := tm_7 (i := 18) rfl rfl
set_option maxRecDepth 100000 in
theorem wd_t1460 : (Jvm.Cond.instanceMethod ({ cls := "LentBoxesModel", name := "readAsks", desc := "()Z" } : Jvm.MethodName)) ∈ Tw := tm_7 (i := 20) rfl rfl
set_option maxRecDepth 100000 in
theorem wd_t1461 : (Jvm.Cond.code ({ cls := "LentBoxesModel", name := "readAsks", desc := "()Z" } : Jvm.MethodName) prog_14_method_38_code (2 : Nat) (Option.some Jvm.ClassFile.FieldType.boolean)) ∈ Tw := tm_7 (i := 21) rfl rfl
set_option maxRecDepth 100000 in
theorem wd_t1462 : (Jvm.Cond.methodLink "LentBoxesModel" (215 : Nat) ({ cls := "LentBoxesModel", name := "readFrost", desc := "()Z" } : Jvm.MethodName)) ∈ Tw := tm_7 (i := 22) rfl rfl
set_option maxRecDepth 100000 in
theorem wd_t1464 : (Jvm.Cond.instanceMethod ({ cls := "LentBoxesModel", name := "readFrost", desc := "()Z" } : Jvm.MethodName)) ∈ Tw := tm_7 (i := 24) rfl rfl
set_option maxRecDepth 100000 in
theorem wd_t1465 : (Jvm.Cond.code ({ cls := "LentBoxesModel", name := "readFrost", desc := "()Z" } : Jvm.MethodName) prog_14_method_39_code (2 : Nat) (Option.some Jvm.ClassFile.FieldType.boolean)) ∈ Tw := tm_7 (i := 25) rfl rfl
set_option maxRecDepth 100000 in
theorem wd_t1466 : (Jvm.Cond.methodLink "LentBoxesModel" (218 : Nat) ({ cls := "LentBoxesModel", name := "readAir", desc := "()Z" } : Jvm.MethodName)) ∈ Tw := tm_7 (i := 26) rfl rfl
set_option maxRecDepth 100000 in
theorem wd_t1468 : (Jvm.Cond.instanceMethod ({ cls := "LentBoxesModel", name := "readAir", desc := "()Z" } : Jvm.MethodName)) ∈ Tw := tm_7 (i := 28) rfl rfl
set_option maxRecDepth 100000 in
theorem wd_t1469 : (Jvm.Cond.code ({ cls := "LentBoxesModel", name := "readAir", desc := "()Z" } : Jvm.MethodName) prog_14_method_40_code (1 : Nat) (Option.some Jvm.ClassFile.FieldType.boolean)) ∈ Tw := tm_7 (i := 29) rfl rfl
set_option maxRecDepth 100000 in
theorem wd_t1470 : (Jvm.Cond.methodLink "LentBoxesModel" (227 : Nat) ({ cls := "LentBoxesModel", name := "readEnd", desc := "()Z" } : Jvm.MethodName)) ∈ Tw := tm_7 (i := 30) rfl rfl
set_option maxRecDepth 100000 in
theorem wd_t1472 : (Jvm.Cond.instanceMethod ({ cls := "LentBoxesModel", name := "readEnd", desc := "()Z" } : Jvm.MethodName)) ∈ Tw := tm_7 (i := 32) rfl rfl
set_option maxRecDepth 100000 in
theorem wd_t1473 : (Jvm.Cond.code ({ cls := "LentBoxesModel", name := "readEnd", desc := "()Z" } : Jvm.MethodName) prog_14_method_24_code (1 : Nat) (Option.some Jvm.ClassFile.FieldType.boolean)) ∈ Tw := tm_7 (i := 33) rfl rfl
set_option maxRecDepth 100000 in
theorem wd_t1474 : (Jvm.Cond.methodLink "LentBoxesModel" (86 : Nat) ({ cls := "LentBoxesModel", name := "isSign", desc := "(I)Z" } : Jvm.MethodName)) ∈ Tw := tm_7 (i := 34) rfl rfl
set_option maxRecDepth 100000 in
theorem wd_t1476 : (Jvm.Cond.instanceMethod ({ cls := "LentBoxesModel", name := "isSign", desc := "(I)Z" } : Jvm.MethodName)) ∈ Tw := tm_7 (i := 36) rfl rfl
set_option maxRecDepth 100000 in
theorem wd_t1477 : (Jvm.Cond.code ({ cls := "LentBoxesModel", name := "isSign", desc := "(I)Z" } : Jvm.MethodName) prog_14_method_20_code (2 : Nat) (Option.some Jvm.ClassFile.FieldType.boolean)) ∈ Tw := tm_7 (i := 37) rfl rfl
set_option maxRecDepth 100000 in
theorem wd_t1478 : (Jvm.Cond.methodLink "LentBoxesLaw" (44 : Nat) ({ cls := "LentBoxesModel", name := "fault", desc := "()I" } : Jvm.MethodName)) ∈ Tw := tm_7 (i := 38) rfl rfl
set_option maxRecDepth 100000 in
theorem wd_t1479 : (Jvm.Cond.instanceMethod ({ cls := "LentBoxesModel", name := "fault", desc := "()I" } : Jvm.MethodName)) ∈ Tw := tm_7 (i := 39) rfl rfl
set_option maxRecDepth 100000 in
theorem wd_t1480 : (Jvm.Cond.selects "LentBoxesModel" ({ cls := "LentBoxesModel", name := "fault", desc := "()I" } : Jvm.MethodName) ({ cls := "LentBoxesModel", name := "fault", desc := "()I" } : Jvm.MethodName)) ∈ Tw := tm_7 (i := 40) rfl rfl
set_option maxRecDepth 100000 in
theorem wd_t1481 : (Jvm.Cond.code ({ cls := "LentBoxesModel", name := "fault", desc := "()I" } : Jvm.MethodName) prog_14_method_43_code (1 : Nat) (Option.some Jvm.ClassFile.FieldType.int)) ∈ Tw := tm_7 (i := 41) rfl rfl
set_option maxRecDepth 100000 in
theorem wd_t1482 : (Jvm.Cond.methodLink "LentBoxesLaw" (48 : Nat) ({ cls := "LentBoxesModel", name := "box", desc := "(II)I" } : Jvm.MethodName)) ∈ Tw := tm_7 (i := 42) rfl rfl
set_option maxRecDepth 100000 in
theorem wd_t1483 : (Jvm.Cond.instanceMethod ({ cls := "LentBoxesModel", name := "box", desc := "(II)I" } : Jvm.MethodName)) ∈ Tw := tm_7 (i := 43) rfl rfl
set_option maxRecDepth 100000 in
theorem wd_t1484 : (Jvm.Cond.selects "LentBoxesModel" ({ cls := "LentBoxesModel", name := "box", desc := "(II)I" } : Jvm.MethodName) ({ cls := "LentBoxesModel", name := "box", desc := "(II)I" } : Jvm.MethodName)) ∈ Tw := tm_7 (i := 44) rfl rfl
set_option maxRecDepth 100000 in
theorem wd_t1485 : (Jvm.Cond.code ({ cls := "LentBoxesModel", name := "box", desc := "(II)I" } : Jvm.MethodName) prog_14_method_51_code (3 : Nat) (Option.some Jvm.ClassFile.FieldType.int)) ∈ Tw := tm_7 (i := 45) rfl rfl
set_option maxRecDepth 100000 in
theorem wd_t1486 : (Jvm.Cond.methodLink "LentBoxesModel" (233 : Nat) ({ cls := "LentBoxesModel", name := "isBox", desc := "(I)Z" } : Jvm.MethodName)) ∈ Tw := tm_7 (i := 46) rfl rfl
set_option maxRecDepth 100000 in
theorem wd_t1488 : (Jvm.Cond.instanceMethod ({ cls := "LentBoxesModel", name := "isBox", desc := "(I)Z" } : Jvm.MethodName)) ∈ Tw := tm_7 (i := 48) rfl rfl
set_option maxRecDepth 100000 in
theorem wd_t1489 : (Jvm.Cond.code ({ cls := "LentBoxesModel", name := "isBox", desc := "(I)Z" } : Jvm.MethodName) prog_14_method_44_code (2 : Nat) (Option.some Jvm.ClassFile.FieldType.boolean)) ∈ Tw := tm_7 (i := 49) rfl rfl
set_option maxRecDepth 100000 in
theorem wd_t1490 : (Jvm.Cond.methodLink "LentBoxesModel" (236 : Nat) ({ cls := "LentBoxesModel", name := "isFree", desc := "(I)Z" } : Jvm.MethodName)) ∈ Tw := tm_7 (i := 50) rfl rfl
set_option maxRecDepth 100000 in
theorem wd_t1492 : (Jvm.Cond.instanceMethod ({ cls := "LentBoxesModel", name := "isFree", desc := "(I)Z" } : Jvm.MethodName)) ∈ Tw := tm_7 (i := 52) rfl rfl
set_option maxRecDepth 100000 in
theorem wd_t1493 : (Jvm.Cond.code ({ cls := "LentBoxesModel", name := "isFree", desc := "(I)Z" } : Jvm.MethodName) prog_14_method_47_code (2 : Nat) (Option.some Jvm.ClassFile.FieldType.boolean)) ∈ Tw := tm_7 (i := 53) rfl rfl
set_option maxRecDepth 100000 in
theorem wd_t1494 : (Jvm.Cond.methodLink "LentBoxesLaw" (52 : Nat) ({ cls := "LentBoxesModel", name := "plot", desc := "(II)I" } : Jvm.MethodName)) ∈ Tw := tm_7 (i := 54) rfl rfl
set_option maxRecDepth 100000 in
theorem wd_t1495 : (Jvm.Cond.instanceMethod ({ cls := "LentBoxesModel", name := "plot", desc := "(II)I" } : Jvm.MethodName)) ∈ Tw := tm_7 (i := 55) rfl rfl
set_option maxRecDepth 100000 in
theorem wd_t1496 : (Jvm.Cond.selects "LentBoxesModel" ({ cls := "LentBoxesModel", name := "plot", desc := "(II)I" } : Jvm.MethodName) ({ cls := "LentBoxesModel", name := "plot", desc := "(II)I" } : Jvm.MethodName)) ∈ Tw := tm_7 (i := 56) rfl rfl
set_option maxRecDepth 100000 in
theorem wd_t1497 : (Jvm.Cond.code ({ cls := "LentBoxesModel", name := "plot", desc := "(II)I" } : Jvm.MethodName) prog_14_method_52_code (3 : Nat) (Option.some Jvm.ClassFile.FieldType.int)) ∈ Tw := tm_7 (i := 57) rfl rfl
set_option maxRecDepth 100000 in
theorem wd_t1498 : (Jvm.Cond.methodLink "LentBoxesModel" (239 : Nat) ({ cls := "LentBoxesModel", name := "isPlot", desc := "(I)Z" } : Jvm.MethodName)) ∈ Tw := tm_7 (i := 58) rfl rfl
set_option maxRecDepth 100000 in
theorem wd_t1500 : (Jvm.Cond.instanceMethod ({ cls := "LentBoxesModel", name := "isPlot", desc := "(I)Z" } : Jvm.MethodName)) ∈ Tw := tm_7 (i := 60) rfl rfl
set_option maxRecDepth 100000 in
theorem wd_t1501 : (Jvm.Cond.code ({ cls := "LentBoxesModel", name := "isPlot", desc := "(I)Z" } : Jvm.MethodName) prog_14_method_45_code (2 : Nat) (Option.some Jvm.ClassFile.FieldType.boolean)) ∈ Tw := tm_7 (i := 61) rfl rfl
set_option maxRecDepth 100000 in
theorem wd_t1502 : (Jvm.Cond.methodLink "LentBoxesLaw" (58 : Nat) ({ cls := "LentBoxesModel", name := "dead", desc := "(II)I" } : Jvm.MethodName)) ∈ Tw := tm_7 (i := 62) rfl rfl
set_option maxRecDepth 100000 in
theorem wd_t1503 : (Jvm.Cond.instanceMethod ({ cls := "LentBoxesModel", name := "dead", desc := "(II)I" } : Jvm.MethodName)) ∈ Tw := tm_7 (i := 63) rfl rfl
set_option maxRecDepth 100000 in
theorem wd_t1504 : (Jvm.Cond.selects "LentBoxesModel" ({ cls := "LentBoxesModel", name := "dead", desc := "(II)I" } : Jvm.MethodName) ({ cls := "LentBoxesModel", name := "dead", desc := "(II)I" } : Jvm.MethodName)) ∈ Tw := tm_7 (i := 64) rfl rfl
set_option maxRecDepth 100000 in
theorem wd_t1505 : (Jvm.Cond.code ({ cls := "LentBoxesModel", name := "dead", desc := "(II)I" } : Jvm.MethodName) prog_14_method_53_code (3 : Nat) (Option.some Jvm.ClassFile.FieldType.int)) ∈ Tw := tm_7 (i := 65) rfl rfl
set_option maxRecDepth 100000 in
theorem wd_t1506 : (Jvm.Cond.methodLink "LentBoxesModel" (242 : Nat) ({ cls := "LentBoxesModel", name := "isDead", desc := "(I)Z" } : Jvm.MethodName)) ∈ Tw := tm_7 (i := 66) rfl rfl
set_option maxRecDepth 100000 in
theorem wd_t1508 : (Jvm.Cond.instanceMethod ({ cls := "LentBoxesModel", name := "isDead", desc := "(I)Z" } : Jvm.MethodName)) ∈ Tw := tm_7 (i := 68) rfl rfl
set_option maxRecDepth 100000 in
theorem wd_t1509 : (Jvm.Cond.code ({ cls := "LentBoxesModel", name := "isDead", desc := "(I)Z" } : Jvm.MethodName) prog_14_method_46_code (2 : Nat) (Option.some Jvm.ClassFile.FieldType.boolean)) ∈ Tw := tm_7 (i := 69) rfl rfl
set_option maxRecDepth 100000 in
theorem wd_t1510 : (Jvm.Cond.methodLink "LentBoxesModel" (245 : Nat) ({ cls := "LentBoxesModel", name := "refuse", desc := "()I" } : Jvm.MethodName)) ∈ Tw := tm_7 (i := 70) rfl rfl
set_option maxRecDepth 100000 in
theorem wd_t1512 : (Jvm.Cond.instanceMethod ({ cls := "LentBoxesModel", name := "refuse", desc := "()I" } : Jvm.MethodName)) ∈ Tw := tm_7 (i := 72) rfl rfl
set_option maxRecDepth 100000 in
theorem wd_t1513 : (Jvm.Cond.code ({ cls := "LentBoxesModel", name := "refuse", desc := "()I" } : Jvm.MethodName) prog_14_method_2_code (1 : Nat) (Option.some Jvm.ClassFile.FieldType.int)) ∈ Tw := tm_7 (i := 73) rfl rfl
set_option maxRecDepth 100000 in
theorem wd_t1514 : (Jvm.Cond.methodLink "LentBoxesLaw" (65 : Nat) ({ cls := "LentBoxesModel", name := "now", desc := "(I)I" } : Jvm.MethodName)) ∈ Tw := tm_7 (i := 74) rfl rfl
set_option maxRecDepth 100000 in
theorem wd_t1515 : (Jvm.Cond.instanceMethod ({ cls := "LentBoxesModel", name := "now", desc := "(I)I" } : Jvm.MethodName)) ∈ Tw := tm_7 (i := 75) rfl rfl
set_option maxRecDepth 100000 in
theorem wd_t1516 : (Jvm.Cond.selects "LentBoxesModel" ({ cls := "LentBoxesModel", name := "now", desc := "(I)I" } : Jvm.MethodName) ({ cls := "LentBoxesModel", name := "now", desc := "(I)I" } : Jvm.MethodName)) ∈ Tw := tm_7 (i := 76) rfl rfl
set_option maxRecDepth 100000 in
theorem wd_t1517 : (Jvm.Cond.code ({ cls := "LentBoxesModel", name := "now", desc := "(I)I" } : Jvm.MethodName) prog_14_method_55_code (4 : Nat) (Option.some Jvm.ClassFile.FieldType.int)) ∈ Tw := tm_7 (i := 77) rfl rfl
set_option maxRecDepth 100000 in
theorem wd_t1518 : (Jvm.Cond.methodLink "LentBoxesModel" (248 : Nat) ({ cls := "LentBoxesModel", name := "those", desc := "(I)I" } : Jvm.MethodName)) ∈ Tw := tm_7 (i := 78) rfl rfl
set_option maxRecDepth 100000 in
theorem wd_t1520 : (Jvm.Cond.instanceMethod ({ cls := "LentBoxesModel", name := "those", desc := "(I)I" } : Jvm.MethodName)) ∈ Tw := tm_7 (i := 80) rfl rfl
set_option maxRecDepth 100000 in
theorem wd_t1521 : (Jvm.Cond.code ({ cls := "LentBoxesModel", name := "those", desc := "(I)I" } : Jvm.MethodName) prog_14_method_54_code (4 : Nat) (Option.some Jvm.ClassFile.FieldType.int)) ∈ Tw := tm_7 (i := 81) rfl rfl
set_option maxRecDepth 100000 in
theorem wd_t1522 : (Jvm.Cond.methodLink "LentBoxesModel" (251 : Nat) ({ cls := "LentBoxesModel", name := "isFrost", desc := "(I)Z" } : Jvm.MethodName)) ∈ Tw := tm_7 (i := 82) rfl rfl
set_option maxRecDepth 100000 in
theorem wd_t1524 : (Jvm.Cond.instanceMethod ({ cls := "LentBoxesModel", name := "isFrost", desc := "(I)Z" } : Jvm.MethodName)) ∈ Tw := tm_7 (i := 84) rfl rfl
set_option maxRecDepth 100000 in
theorem wd_t1525 : (Jvm.Cond.code ({ cls := "LentBoxesModel", name := "isFrost", desc := "(I)Z" } : Jvm.MethodName) prog_14_method_49_code (3 : Nat) (Option.some Jvm.ClassFile.FieldType.boolean)) ∈ Tw := tm_7 (i := 85) rfl rfl
set_option maxRecDepth 100000 in
theorem wd_t1526 : (Jvm.Cond.methodLink "LentBoxesLaw" (137 : Nat) ({ cls := "LentBoxesModel", name := "had", desc := "(II)I" } : Jvm.MethodName)) ∈ Tw := tm_7 (i := 86) rfl rfl
set_option maxRecDepth 100000 in
theorem wd_t1527 : (Jvm.Cond.instanceMethod ({ cls := "LentBoxesModel", name := "had", desc := "(II)I" } : Jvm.MethodName)) ∈ Tw := tm_7 (i := 87) rfl rfl
set_option maxRecDepth 100000 in
theorem wd_t1528 : (Jvm.Cond.selects "LentBoxesModel" ({ cls := "LentBoxesModel", name := "had", desc := "(II)I" } : Jvm.MethodName) ({ cls := "LentBoxesModel", name := "had", desc := "(II)I" } : Jvm.MethodName)) ∈ Tw := tm_7 (i := 88) rfl rfl
set_option maxRecDepth 100000 in
theorem wd_t1529 : (Jvm.Cond.code ({ cls := "LentBoxesModel", name := "had", desc := "(II)I" } : Jvm.MethodName) prog_14_method_56_code (3 : Nat) (Option.some Jvm.ClassFile.FieldType.int)) ∈ Tw := tm_7 (i := 89) rfl rfl
set_option maxRecDepth 100000 in
theorem wd_t1530 : (Jvm.Cond.methodLink "LentBoxesLaw" (69 : Nat) ({ cls := "LentBoxesModel", name := "lend", desc := "(II)I" } : Jvm.MethodName)) ∈ Tw := tm_7 (i := 90) rfl rfl
set_option maxRecDepth 100000 in
theorem wd_t1531 : (Jvm.Cond.instanceMethod ({ cls := "LentBoxesModel", name := "lend", desc := "(II)I" } : Jvm.MethodName)) ∈ Tw := tm_7 (i := 91) rfl rfl
set_option maxRecDepth 100000 in
theorem wd_t1532 : (Jvm.Cond.selects "LentBoxesModel" ({ cls := "LentBoxesModel", name := "lend", desc := "(II)I" } : Jvm.MethodName) ({ cls := "LentBoxesModel", name := "lend", desc := "(II)I" } : Jvm.MethodName)) ∈ Tw := tm_7 (i := 92) rfl rfl
set_option maxRecDepth 100000 in
theorem wd_t1533 : (Jvm.Cond.code ({ cls := "LentBoxesModel", name := "lend", desc := "(II)I" } : Jvm.MethodName) prog_14_method_69_code (3 : Nat) (Option.some Jvm.ClassFile.FieldType.int)) ∈ Tw := tm_7 (i := 93) rfl rfl
set_option maxRecDepth 100000 in
theorem wd_t1534 : (Jvm.Cond.methodLink "LentBoxesModel" (295 : Nat) ({ cls := "LentBoxesModel", name := "act", desc := "(IIIZ)I" } : Jvm.MethodName)) ∈ Tw := tm_7 (i := 94) rfl rfl
set_option maxRecDepth 100000 in
theorem wd_t1536 : (Jvm.Cond.instanceMethod ({ cls := "LentBoxesModel", name := "act", desc := "(IIIZ)I" } : Jvm.MethodName)) ∈ Tw := tm_7 (i := 96) rfl rfl
set_option maxRecDepth 100000 in
theorem wd_t1537 : (Jvm.Cond.code ({ cls := "LentBoxesModel", name := "act", desc := "(IIIZ)I" } : Jvm.MethodName) prog_14_method_68_code (6 : Nat) (Option.some Jvm.ClassFile.FieldType.int)) ∈ Tw := tm_7 (i := 97) rfl rfl
set_option maxRecDepth 100000 in
theorem wd_t1538 : (Jvm.Cond.methodLink "LentBoxesModel" (284 : Nat) ({ cls := "LentBoxesModel", name := "why", desc := "(III)I" } : Jvm.MethodName)) ∈ Tw := tm_7 (i := 98) rfl rfl
set_option maxRecDepth 100000 in
theorem wd_t1540 : (Jvm.Cond.instanceMethod ({ cls := "LentBoxesModel", name := "why", desc := "(III)I" } : Jvm.MethodName)) ∈ Tw := tm_7 (i := 100) rfl rfl
set_option maxRecDepth 100000 in
theorem wd_t1541 : (Jvm.Cond.code ({ cls := "LentBoxesModel", name := "why", desc := "(III)I" } : Jvm.MethodName) prog_14_method_63_code (4 : Nat) (Option.some Jvm.ClassFile.FieldType.int)) ∈ Tw := tm_7 (i := 101) rfl rfl
set_option maxRecDepth 100000 in
theorem wd_t1542 : (Jvm.Cond.methodLink "LentBoxesModel" (264 : Nat) ({ cls := "LentBoxesModel", name := "whyLend", desc := "(II)I" } : Jvm.MethodName)) ∈ Tw := tm_7 (i := 102) rfl rfl
set_option maxRecDepth 100000 in
theorem wd_t1544 : (Jvm.Cond.instanceMethod ({ cls := "LentBoxesModel", name := "whyLend", desc := "(II)I" } : Jvm.MethodName)) ∈ Tw := tm_7 (i := 104) rfl rfl
set_option maxRecDepth 100000 in
theorem wd_t1545 : (Jvm.Cond.code ({ cls := "LentBoxesModel", name := "whyLend", desc := "(II)I" } : Jvm.MethodName) prog_14_method_60_code (3 : Nat) (Option.some Jvm.ClassFile.FieldType.int)) ∈ Tw := tm_7 (i := 105) rfl rfl
set_option maxRecDepth 100000 in
theorem wd_t1546 : (Jvm.Cond.methodLink "LentBoxesModel" (258 : Nat) ({ cls := "LentBoxesModel", name := "fits", desc := "(II)Z" } : Jvm.MethodName)) ∈ Tw := tm_7 (i := 106) rfl rfl
set_option maxRecDepth 100000 in
theorem wd_t1548 : (Jvm.Cond.instanceMethod ({ cls := "LentBoxesModel", name := "fits", desc := "(II)Z" } : Jvm.MethodName)) ∈ Tw := tm_7 (i := 108) rfl rfl
set_option maxRecDepth 100000 in
theorem wd_t1549 : (Jvm.Cond.code ({ cls := "LentBoxesModel", name := "fits", desc := "(II)Z" } : Jvm.MethodName) prog_14_method_48_code (3 : Nat) (Option.some Jvm.ClassFile.FieldType.boolean)) ∈ Tw := tm_7 (i := 109) rfl rfl
set_option maxRecDepth 100000 in
theorem wd_t1550 : (Jvm.Cond.methodLink "LentBoxesModel" (268 : Nat) ({ cls := "LentBoxesModel", name := "whyLay", desc := "(II)I" } : Jvm.MethodName)) ∈ Tw := tm_7 (i := 110) rfl rfl
set_option maxRecDepth 100000 in
theorem wd_t1552 : (Jvm.Cond.instanceMethod ({ cls := "LentBoxesModel", name := "whyLay", desc := "(II)I" } : Jvm.MethodName)) ∈ Tw := tm_7 (i := 112) rfl rfl
set_option maxRecDepth 100000 in
theorem wd_t1553 : (Jvm.Cond.code ({ cls := "LentBoxesModel", name := "whyLay", desc := "(II)I" } : Jvm.MethodName) prog_14_method_61_code (3 : Nat) (Option.some Jvm.ClassFile.FieldType.int)) ∈ Tw := tm_7 (i := 113) rfl rfl
set_option maxRecDepth 100000 in
theorem wd_t1554 : (Jvm.Cond.methodLink "LentBoxesModel" (261 : Nat) ({ cls := "LentBoxesModel", name := "isByKin", desc := "(II)Z" } : Jvm.MethodName)) ∈ Tw := tm_7 (i := 114) rfl rfl
set_option maxRecDepth 100000 in
theorem wd_t1556 : (Jvm.Cond.instanceMethod ({ cls := "LentBoxesModel", name := "isByKin", desc := "(II)Z" } : Jvm.MethodName)) ∈ Tw := tm_7 (i := 116) rfl rfl
set_option maxRecDepth 100000 in
theorem wd_t1557 : (Jvm.Cond.code ({ cls := "LentBoxesModel", name := "isByKin", desc := "(II)Z" } : Jvm.MethodName) prog_14_method_50_code (3 : Nat) (Option.some Jvm.ClassFile.FieldType.boolean)) ∈ Tw := tm_7 (i := 117) rfl rfl
set_option maxRecDepth 100000 in
theorem wd_t1558 : (Jvm.Cond.methodLink "LentBoxesModel" (271 : Nat) ({ cls := "LentBoxesModel", name := "whySwap", desc := "(II)I" } : Jvm.MethodName)) ∈ Tw := tm_7 (i := 118) rfl rfl
set_option maxRecDepth 100000 in
theorem wd_t1560 : (Jvm.Cond.instanceMethod ({ cls := "LentBoxesModel", name := "whySwap", desc := "(II)I" } : Jvm.MethodName)) ∈ Tw := tm_7 (i := 120) rfl rfl
set_option maxRecDepth 100000 in
theorem wd_t1561 : (Jvm.Cond.code ({ cls := "LentBoxesModel", name := "whySwap", desc := "(II)I" } : Jvm.MethodName) prog_14_method_62_code (3 : Nat) (Option.some Jvm.ClassFile.FieldType.int)) ∈ Tw := tm_7 (i := 121) rfl rfl
set_option maxRecDepth 100000 in
theorem wd_t1562 : (Jvm.Cond.methodLink "LentBoxesModel" (288 : Nat) ({ cls := "LentBoxesModel", name := "snap", desc := "()V" } : Jvm.MethodName)) ∈ Tw := tm_7 (i := 122) rfl rfl
set_option maxRecDepth 100000 in
theorem wd_t1564 : (Jvm.Cond.instanceMethod ({ cls := "LentBoxesModel", name := "snap", desc := "()V" } : Jvm.MethodName)) ∈ Tw := tm_7 (i := 124) rfl rfl
set_option maxRecDepth 100000 in
theorem wd_t1565 : (Jvm.Cond.code ({ cls := "LentBoxesModel", name := "snap", desc := "()V" } : Jvm.MethodName) prog_14_method_59_code (2 : Nat) (Option.none : Option Jvm.ClassFile.FieldType)) ∈ Tw := tm_7 (i := 125) rfl rfl
set_option maxRecDepth 100000 in
theorem wd_t1566 : (Jvm.Cond.methodLink "LentBoxesModel" (254 : Nat) ({ cls := "LentBoxesModel", name := "save", desc := "([II)V" } : Jvm.MethodName)) ∈ Tw := tm_7 (i := 126) rfl rfl
set_option maxRecDepth 100000 in
theorem wd_t1568 : (Jvm.Cond.instanceMethod ({ cls := "LentBoxesModel", name := "save", desc := "([II)V" } : Jvm.MethodName)) ∈ Tw := tm_7 (i := 128) rfl rfl
set_option maxRecDepth 100000 in
theorem wd_t1569 : (Jvm.Cond.code ({ cls := "LentBoxesModel", name := "save", desc := "([II)V" } : Jvm.MethodName) prog_14_method_57_code (4 : Nat) (Option.none : Option Jvm.ClassFile.FieldType)) ∈ Tw := tm_7 (i := 129) rfl rfl
set_option maxRecDepth 100000 in
theorem wd_t1570 : (Jvm.Cond.methodLink "LentBoxesModel" (291 : Nat) ({ cls := "LentBoxesModel", name := "live", desc := "(III)V" } : Jvm.MethodName)) ∈ Tw := tm_7 (i := 130) rfl rfl
set_option maxRecDepth 100000 in
theorem wd_t1572 : (Jvm.Cond.instanceMethod ({ cls := "LentBoxesModel", name := "live", desc := "(III)V" } : Jvm.MethodName)) ∈ Tw := tm_7 (i := 132) rfl rfl
set_option maxRecDepth 100000 in
theorem wd_t1573 : (Jvm.Cond.code ({ cls := "LentBoxesModel", name := "live", desc := "(III)V" } : Jvm.MethodName) prog_14_method_67_code (5 : Nat) (Option.none : Option Jvm.ClassFile.FieldType)) ∈ Tw := tm_7 (i := 133) rfl rfl
set_option maxRecDepth 100000 in
theorem wd_t1574 : (Jvm.Cond.methodLink "LentBoxesModel" (278 : Nat) ({ cls := "LentBoxesModel", name := "lends", desc := "(II)V" } : Jvm.MethodName)) ∈ Tw := tm_7 (i := 134) rfl rfl
set_option maxRecDepth 100000 in
theorem wd_t1576 : (Jvm.Cond.instanceMethod ({ cls := "LentBoxesModel", name := "lends", desc := "(II)V" } : Jvm.MethodName)) ∈ Tw := tm_7 (i := 136) rfl rfl
set_option maxRecDepth 100000 in
theorem wd_t1577 : (Jvm.Cond.code ({ cls := "LentBoxesModel", name := "lends", desc := "(II)V" } : Jvm.MethodName) prog_14_method_65_code (4 : Nat) (Option.none : Option Jvm.ClassFile.FieldType)) ∈ Tw := tm_7 (i := 137) rfl rfl
set_option maxRecDepth 100000 in
theorem wd_t1578 : (Jvm.Cond.methodLink "LentBoxesModel" (274 : Nat) ({ cls := "LentBoxesModel", name := "lies", desc := "(II)V" } : Jvm.MethodName)) ∈ Tw := tm_7 (i := 138) rfl rfl
set_option maxRecDepth 100000 in
theorem wd_t1580 : (Jvm.Cond.instanceMethod ({ cls := "LentBoxesModel", name := "lies", desc := "(II)V" } : Jvm.MethodName)) ∈ Tw := tm_7 (i := 140) rfl rfl
set_option maxRecDepth 100000 in
theorem wd_t1581 : (Jvm.Cond.code ({ cls := "LentBoxesModel", name := "lies", desc := "(II)V" } : Jvm.MethodName) prog_14_method_64_code (3 : Nat) (Option.none : Option Jvm.ClassFile.FieldType)) ∈ Tw := tm_7 (i := 141) rfl rfl
set_option maxRecDepth 100000 in
theorem wd_t1582 : (Jvm.Cond.methodLink "LentBoxesModel" (281 : Nat) ({ cls := "LentBoxesModel", name := "lays", desc := "(II)V" } : Jvm.MethodName)) ∈ Tw := tm_7 (i := 142) rfl rfl
set_option maxRecDepth 100000 in
theorem wd_t1584 : (Jvm.Cond.instanceMethod ({ cls := "LentBoxesModel", name := "lays", desc := "(II)V" } : Jvm.MethodName)) ∈ Tw := tm_7 (i := 144) rfl rfl
set_option maxRecDepth 100000 in
theorem wd_t1585 : (Jvm.Cond.code ({ cls := "LentBoxesModel", name := "lays", desc := "(II)V" } : Jvm.MethodName) prog_14_method_66_code (4 : Nat) (Option.none : Option Jvm.ClassFile.FieldType)) ∈ Tw := tm_7 (i := 145) rfl rfl
set_option maxRecDepth 100000 in
theorem wd_t1586 : (Jvm.Cond.methodLink "LentBoxesLaw" (73 : Nat) ({ cls := "LentBoxesModel", name := "lay", desc := "(II)I" } : Jvm.MethodName)) ∈ Tw := tm_7 (i := 146) rfl rfl
set_option maxRecDepth 100000 in
theorem wd_t1587 : (Jvm.Cond.instanceMethod ({ cls := "LentBoxesModel", name := "lay", desc := "(II)I" } : Jvm.MethodName)) ∈ Tw := tm_7 (i := 147) rfl rfl
set_option maxRecDepth 100000 in
theorem wd_t1588 : (Jvm.Cond.selects "LentBoxesModel" ({ cls := "LentBoxesModel", name := "lay", desc := "(II)I" } : Jvm.MethodName) ({ cls := "LentBoxesModel", name := "lay", desc := "(II)I" } : Jvm.MethodName)) ∈ Tw := tm_7 (i := 148) rfl rfl
set_option maxRecDepth 100000 in
theorem wd_t1589 : (Jvm.Cond.code ({ cls := "LentBoxesModel", name := "lay", desc := "(II)I" } : Jvm.MethodName) prog_14_method_70_code (3 : Nat) (Option.some Jvm.ClassFile.FieldType.int)) ∈ Tw := tm_7 (i := 149) rfl rfl
set_option maxRecDepth 100000 in
theorem wd_t1590 : (Jvm.Cond.methodLink "LentBoxesLaw" (77 : Nat) ({ cls := "LentBoxesModel", name := "swap", desc := "(II)I" } : Jvm.MethodName)) ∈ Tw := tm_7 (i := 150) rfl rfl
set_option maxRecDepth 100000 in
theorem wd_t1591 : (Jvm.Cond.instanceMethod ({ cls := "LentBoxesModel", name := "swap", desc := "(II)I" } : Jvm.MethodName)) ∈ Tw := tm_7 (i := 151) rfl rfl
set_option maxRecDepth 100000 in
theorem wd_t1592 : (Jvm.Cond.selects "LentBoxesModel" ({ cls := "LentBoxesModel", name := "swap", desc := "(II)I" } : Jvm.MethodName) ({ cls := "LentBoxesModel", name := "swap", desc := "(II)I" } : Jvm.MethodName)) ∈ Tw := tm_7 (i := 152) rfl rfl
set_option maxRecDepth 100000 in
theorem wd_t1593 : (Jvm.Cond.code ({ cls := "LentBoxesModel", name := "swap", desc := "(II)I" } : Jvm.MethodName) prog_14_method_71_code (3 : Nat) (Option.some Jvm.ClassFile.FieldType.int)) ∈ Tw := tm_7 (i := 153) rfl rfl
set_option maxRecDepth 100000 in
theorem wd_t1594 : (Jvm.Cond.methodLink "LentBoxesLaw" (81 : Nat) ({ cls := "LentBoxesModel", name := "mend", desc := "(I)I" } : Jvm.MethodName)) ∈ Tw := tm_7 (i := 154) rfl rfl
set_option maxRecDepth 100000 in
theorem wd_t1595 : (Jvm.Cond.instanceMethod ({ cls := "LentBoxesModel", name := "mend", desc := "(I)I" } : Jvm.MethodName)) ∈ Tw := tm_7 (i := 155) rfl rfl
set_option maxRecDepth 100000 in
theorem wd_t1596 : (Jvm.Cond.selects "LentBoxesModel" ({ cls := "LentBoxesModel", name := "mend", desc := "(I)I" } : Jvm.MethodName) ({ cls := "LentBoxesModel", name := "mend", desc := "(I)I" } : Jvm.MethodName)) ∈ Tw := tm_7 (i := 156) rfl rfl
set_option maxRecDepth 100000 in
theorem wd_t1597 : (Jvm.Cond.code ({ cls := "LentBoxesModel", name := "mend", desc := "(I)I" } : Jvm.MethodName) prog_14_method_72_code (2 : Nat) (Option.some Jvm.ClassFile.FieldType.int)) ∈ Tw := tm_7 (i := 157) rfl rfl
set_option maxRecDepth 100000 in
theorem wd_t1598 : (Jvm.Cond.methodLink "LentBoxesLaw" (89 : Nat) ({ cls := "LentBoxesModel", name := "undo", desc := "()I" } : Jvm.MethodName)) ∈ Tw := tm_7 (i := 158) rfl rfl
set_option maxRecDepth 100000 in
theorem wd_t1599 : (Jvm.Cond.instanceMethod ({ cls := "LentBoxesModel", name := "undo", desc := "()I" } : Jvm.MethodName)) ∈ Tw := tm_7 (i := 159) rfl rfl
set_option maxRecDepth 100000 in
theorem wd_t1600 : (Jvm.Cond.selects "LentBoxesModel" ({ cls := "LentBoxesModel", name := "undo", desc := "()I" } : Jvm.MethodName) ({ cls := "LentBoxesModel", name := "undo", desc := "()I" } : Jvm.MethodName)) ∈ Tw := tm_7 (i := 160) rfl rfl
set_option maxRecDepth 100000 in
theorem wd_t1601 : (Jvm.Cond.code ({ cls := "LentBoxesModel", name := "undo", desc := "()I" } : Jvm.MethodName) prog_14_method_73_code (1 : Nat) (Option.some Jvm.ClassFile.FieldType.int)) ∈ Tw := tm_7 (i := 161) rfl rfl
set_option maxRecDepth 100000 in
theorem wd_t1602 : (Jvm.Cond.methodLink "LentBoxesModel" (299 : Nat) ({ cls := "LentBoxesModel", name := "comeBack", desc := "([II)V" } : Jvm.MethodName)) ∈ Tw := tm_7 (i := 162) rfl rfl
set_option maxRecDepth 100000 in
theorem wd_t1604 : (Jvm.Cond.instanceMethod ({ cls := "LentBoxesModel", name := "comeBack", desc := "([II)V" } : Jvm.MethodName)) ∈ Tw := tm_7 (i := 164) rfl rfl
set_option maxRecDepth 100000 in
theorem wd_t1605 : (Jvm.Cond.code ({ cls := "LentBoxesModel", name := "comeBack", desc := "([II)V" } : Jvm.MethodName) prog_14_method_58_code (4 : Nat) (Option.none : Option Jvm.ClassFile.FieldType)) ∈ Tw := tm_7 (i := 165) rfl rfl
set_option maxRecDepth 100000 in
theorem wd_t1606 : (Jvm.Cond.methodLink "LentBoxesLaw" (85 : Nat) ({ cls := "LentBoxesModel", name := "days", desc := "(I)I" } : Jvm.MethodName)) ∈ Tw := tm_7 (i := 166) rfl rfl
set_option maxRecDepth 100000 in
theorem wd_t1607 : (Jvm.Cond.instanceMethod ({ cls := "LentBoxesModel", name := "days", desc := "(I)I" } : Jvm.MethodName)) ∈ Tw := tm_7 (i := 167) rfl rfl
set_option maxRecDepth 100000 in
theorem wd_t1608 : (Jvm.Cond.selects "LentBoxesModel" ({ cls := "LentBoxesModel", name := "days", desc := "(I)I" } : Jvm.MethodName) ({ cls := "LentBoxesModel", name := "days", desc := "(I)I" } : Jvm.MethodName)) ∈ Tw := tm_7 (i := 168) rfl rfl
set_option maxRecDepth 100000 in
theorem wd_t1609 : (Jvm.Cond.code ({ cls := "LentBoxesModel", name := "days", desc := "(I)I" } : Jvm.MethodName) prog_14_method_76_code (2 : Nat) (Option.some Jvm.ClassFile.FieldType.int)) ∈ Tw := tm_7 (i := 169) rfl rfl
set_option maxRecDepth 100000 in
theorem wd_t1610 : (Jvm.Cond.methodLink "LentBoxesModel" (308 : Nat) ({ cls := "LentBoxesModel", name := "passDays", desc := "(I)I" } : Jvm.MethodName)) ∈ Tw := tm_7 (i := 170) rfl rfl
set_option maxRecDepth 100000 in
theorem wd_t1612 : (Jvm.Cond.instanceMethod ({ cls := "LentBoxesModel", name := "passDays", desc := "(I)I" } : Jvm.MethodName)) ∈ Tw := tm_7 (i := 172) rfl rfl
set_option maxRecDepth 100000 in
theorem wd_t1613 : (Jvm.Cond.code ({ cls := "LentBoxesModel", name := "passDays", desc := "(I)I" } : Jvm.MethodName) prog_14_method_75_code (4 : Nat) (Option.some Jvm.ClassFile.FieldType.int)) ∈ Tw := tm_7 (i := 173) rfl rfl
set_option maxRecDepth 100000 in
theorem wd_t1614 : (Jvm.Cond.methodLink "LentBoxesModel" (302 : Nat) ({ cls := "LentBoxesModel", name := "least", desc := "(II)I" } : Jvm.MethodName)) ∈ Tw := tm_7 (i := 174) rfl rfl
set_option maxRecDepth 100000 in
theorem wd_t1615 : (Jvm.Cond.static ({ cls := "LentBoxesModel", name := "least", desc := "(II)I" } : Jvm.MethodName)) ∈ Tw := tm_7 (i := 175) rfl rfl
set_option maxRecDepth 100000 in
theorem wd_t1616 : (Jvm.Cond.code ({ cls := "LentBoxesModel", name := "least", desc := "(II)I" } : Jvm.MethodName) prog_14_method_10_code (2 : Nat) (Option.some Jvm.ClassFile.FieldType.int)) ∈ Tw := tm_7 (i := 176) rfl rfl
set_option maxRecDepth 100000 in
theorem wd_t1617 : (Jvm.Cond.methodLink "LentBoxesModel" (305 : Nat) ({ cls := "LentBoxesModel", name := "oneDay", desc := "()V" } : Jvm.MethodName)) ∈ Tw := tm_7 (i := 177) rfl rfl
set_option maxRecDepth 100000 in
theorem wd_t1619 : (Jvm.Cond.instanceMethod ({ cls := "LentBoxesModel", name := "oneDay", desc := "()V" } : Jvm.MethodName)) ∈ Tw := tm_7 (i := 179) rfl rfl
set_option maxRecDepth 100000 in
theorem wd_t1620 : (Jvm.Cond.code ({ cls := "LentBoxesModel", name := "oneDay", desc := "()V" } : Jvm.MethodName) prog_14_method_74_code (2 : Nat) (Option.none : Option Jvm.ClassFile.FieldType)) ∈ Tw := tm_7 (i := 180) rfl rfl
set_option maxRecDepth 100000 in
theorem wd_t1621 : (Jvm.Cond.methodLink "LentBoxesLaw" (93 : Nat) ({ cls := "LentBoxesModel", name := "match", desc := "()I" } : Jvm.MethodName)) ∈ Tw := tm_7 (i := 181) rfl rfl
set_option maxRecDepth 100000 in
theorem wd_t1622 : (Jvm.Cond.instanceMethod ({ cls := "LentBoxesModel", name := "match", desc := "()I" } : Jvm.MethodName)) ∈ Tw := tm_7 (i := 182) rfl rfl
set_option maxRecDepth 100000 in
theorem wd_t1623 : (Jvm.Cond.selects "LentBoxesModel" ({ cls := "LentBoxesModel", name := "match", desc := "()I" } : Jvm.MethodName) ({ cls := "LentBoxesModel", name := "match", desc := "()I" } : Jvm.MethodName)) ∈ Tw := tm_7 (i := 183) rfl rfl
set_option maxRecDepth 100000 in
theorem wd_t1624 : (Jvm.Cond.code ({ cls := "LentBoxesModel", name := "match", desc := "()I" } : Jvm.MethodName) prog_14_method_80_code (4 : Nat) (Option.some Jvm.ClassFile.FieldType.int)) ∈ Tw := tm_7 (i := 184) rfl rfl
set_option maxRecDepth 100000 in
theorem wd_t1625 : (Jvm.Cond.methodLink "LentBoxesModel" (314 : Nat) ({ cls := "LentBoxesModel", name := "mostOf", desc := "(II)I" } : Jvm.MethodName)) ∈ Tw := tm_7 (i := 185) rfl rfl
set_option maxRecDepth 100000 in
theorem wd_t1627 : (Jvm.Cond.instanceMethod ({ cls := "LentBoxesModel", name := "mostOf", desc := "(II)I" } : Jvm.MethodName)) ∈ Tw := tm_7 (i := 187) rfl rfl
set_option maxRecDepth 100000 in
theorem wd_t1628 : (Jvm.Cond.code ({ cls := "LentBoxesModel", name := "mostOf", desc := "(II)I" } : Jvm.MethodName) prog_14_method_78_code (6 : Nat) (Option.some Jvm.ClassFile.FieldType.int)) ∈ Tw := tm_7 (i := 188) rfl rfl
set_option maxRecDepth 100000 in
theorem wd_t1629 : (Jvm.Cond.methodLink "LentBoxesModel" (311 : Nat) ({ cls := "LentBoxesModel", name := "canLend", desc := "(II)Z" } : Jvm.MethodName)) ∈ Tw := tm_7 (i := 189) rfl rfl
set_option maxRecDepth 100000 in
theorem wd_t1631 : (Jvm.Cond.instanceMethod ({ cls := "LentBoxesModel", name := "canLend", desc := "(II)Z" } : Jvm.MethodName)) ∈ Tw := tm_7 (i := 191) rfl rfl
set_option maxRecDepth 100000 in
theorem wd_t1632 : (Jvm.Cond.code ({ cls := "LentBoxesModel", name := "canLend", desc := "(II)Z" } : Jvm.MethodName) prog_14_method_77_code (3 : Nat) (Option.some Jvm.ClassFile.FieldType.boolean)) ∈ Tw := tm_7 (i := 192) rfl rfl
set_option maxRecDepth 100000 in
theorem wd_t1633 : (Jvm.Cond.methodLink "LentBoxesModel" (317 : Nat) ({ cls := "LentBoxesModel", name := "boxFor", desc := "(II)I" } : Jvm.MethodName)) ∈ Tw := tm_7 (i := 193) rfl rfl
set_option maxRecDepth 100000 in
theorem wd_t1635 : (Jvm.Cond.instanceMethod ({ cls := "LentBoxesModel", name := "boxFor", desc := "(II)I" } : Jvm.MethodName)) ∈ Tw := tm_7 (i := 195) rfl rfl
set_option maxRecDepth 100000 in
theorem wd_t1636 : (Jvm.Cond.code ({ cls := "LentBoxesModel", name := "boxFor", desc := "(II)I" } : Jvm.MethodName) prog_14_method_79_code (4 : Nat) (Option.some Jvm.ClassFile.FieldType.int)) ∈ Tw := tm_7 (i := 196) rfl rfl
set_option maxRecDepth 100000 in
theorem wd_t1637 : (Jvm.Cond.methodLink "LentBoxesLaw" (97 : Nat) ({ cls := "LentBoxesModel", name := "matchOf", desc := "(I)I" } : Jvm.MethodName)) ∈ Tw := tm_7 (i := 197) rfl rfl
set_option maxRecDepth 100000 in
theorem wd_t1638 : (Jvm.Cond.instanceMethod ({ cls := "LentBoxesModel", name := "matchOf", desc := "(I)I" } : Jvm.MethodName)) ∈ Tw := tm_7 (i := 198) rfl rfl
set_option maxRecDepth 100000 in
theorem wd_t1639 : (Jvm.Cond.selects "LentBoxesModel" ({ cls := "LentBoxesModel", name := "matchOf", desc := "(I)I" } : Jvm.MethodName) ({ cls := "LentBoxesModel", name := "matchOf", desc := "(I)I" } : Jvm.MethodName)) ∈ Tw := tm_7 (i := 199) rfl rfl
set_option maxRecDepth 100000 in
theorem wd_t1640 : (Jvm.Cond.code ({ cls := "LentBoxesModel", name := "matchOf", desc := "(I)I" } : Jvm.MethodName) prog_14_method_81_code (2 : Nat) (Option.some Jvm.ClassFile.FieldType.int)) ∈ Tw := tm_7 (i := 200) rfl rfl
set_option maxRecDepth 100000 in
theorem wd_t1641 : (Jvm.Cond.methodLink "LentBoxesLaw" (101 : Nat) ({ cls := "LentBoxesModel", name := "soon", desc := "(I)I" } : Jvm.MethodName)) ∈ Tw := tm_7 (i := 201) rfl rfl
set_option maxRecDepth 100000 in
theorem wd_t1642 : (Jvm.Cond.instanceMethod ({ cls := "LentBoxesModel", name := "soon", desc := "(I)I" } : Jvm.MethodName)) ∈ Tw := tm_7 (i := 202) rfl rfl
set_option maxRecDepth 100000 in
theorem wd_t1643 : (Jvm.Cond.selects "LentBoxesModel" ({ cls := "LentBoxesModel", name := "soon", desc := "(I)I" } : Jvm.MethodName) ({ cls := "LentBoxesModel", name := "soon", desc := "(I)I" } : Jvm.MethodName)) ∈ Tw := tm_7 (i := 203) rfl rfl
set_option maxRecDepth 100000 in
theorem wd_t1644 : (Jvm.Cond.code ({ cls := "LentBoxesModel", name := "soon", desc := "(I)I" } : Jvm.MethodName) prog_14_method_83_code (4 : Nat) (Option.some Jvm.ClassFile.FieldType.int)) ∈ Tw := tm_7 (i := 204) rfl rfl
set_option maxRecDepth 100000 in
theorem wd_t1645 : (Jvm.Cond.methodLink "LentBoxesModel" (323 : Nat) ({ cls := "LentBoxesModel", name := "plotIn", desc := "(II)I" } : Jvm.MethodName)) ∈ Tw := tm_7 (i := 205) rfl rfl
set_option maxRecDepth 100000 in
theorem wd_t1647 : (Jvm.Cond.instanceMethod ({ cls := "LentBoxesModel", name := "plotIn", desc := "(II)I" } : Jvm.MethodName)) ∈ Tw := tm_7 (i := 207) rfl rfl
set_option maxRecDepth 100000 in
theorem wd_t1648 : (Jvm.Cond.code ({ cls := "LentBoxesModel", name := "plotIn", desc := "(II)I" } : Jvm.MethodName) prog_14_method_82_code (4 : Nat) (Option.some Jvm.ClassFile.FieldType.int)) ∈ Tw := tm_7 (i := 208) rfl rfl
set_option maxRecDepth 100000 in
theorem wd_t1649 : (Jvm.Cond.methodLink "LentBoxesLaw" (105 : Nat) ({ cls := "LentBoxesModel", name := "soonIn", desc := "()I" } : Jvm.MethodName)) ∈ Tw := tm_7 (i := 209) rfl rfl
set_option maxRecDepth 100000 in
theorem wd_t1650 : (Jvm.Cond.instanceMethod ({ cls := "LentBoxesModel", name := "soonIn", desc := "()I" } : Jvm.MethodName)) ∈ Tw := tm_7 (i := 210) rfl rfl
set_option maxRecDepth 100000 in
theorem wd_t1651 : (Jvm.Cond.selects "LentBoxesModel" ({ cls := "LentBoxesModel", name := "soonIn", desc := "()I" } : Jvm.MethodName) ({ cls := "LentBoxesModel", name := "soonIn", desc := "()I" } : Jvm.MethodName)) ∈ Tw := tm_7 (i := 211) rfl rfl
set_option maxRecDepth 100000 in
theorem wd_t1652 : (Jvm.Cond.code ({ cls := "LentBoxesModel", name := "soonIn", desc := "()I" } : Jvm.MethodName) prog_14_method_84_code (1 : Nat) (Option.some Jvm.ClassFile.FieldType.int)) ∈ Tw := tm_7 (i := 212) rfl rfl
set_option maxRecDepth 100000 in
theorem wd_t1653 : (Jvm.Cond.methodLink "LentBoxesLaw" (109 : Nat) ({ cls := "LentBoxesModel", name := "crowd", desc := "(I)I" } : Jvm.MethodName)) ∈ Tw := tm_7 (i := 213) rfl rfl
set_option maxRecDepth 100000 in
theorem wd_t1654 : (Jvm.Cond.instanceMethod ({ cls := "LentBoxesModel", name := "crowd", desc := "(I)I" } : Jvm.MethodName)) ∈ Tw := tm_7 (i := 214) rfl rfl
set_option maxRecDepth 100000 in
theorem wd_t1655 : (Jvm.Cond.selects "LentBoxesModel" ({ cls := "LentBoxesModel", name := "crowd", desc := "(I)I" } : Jvm.MethodName) ({ cls := "LentBoxesModel", name := "crowd", desc := "(I)I" } : Jvm.MethodName)) ∈ Tw := tm_7 (i := 215) rfl rfl
set_option maxRecDepth 100000 in
theorem wd_t1656 : (Jvm.Cond.code ({ cls := "LentBoxesModel", name := "crowd", desc := "(I)I" } : Jvm.MethodName) prog_14_method_85_code (4 : Nat) (Option.some Jvm.ClassFile.FieldType.int)) ∈ Tw := tm_7 (i := 216) rfl rfl
set_option maxRecDepth 100000 in
theorem wd_t1657 : (Jvm.Cond.methodLink "LentBoxesLaw" (113 : Nat) ({ cls := "LentBoxesModel", name := "need", desc := "(II)I" } : Jvm.MethodName)) ∈ Tw := tm_7 (i := 217) rfl rfl
set_option maxRecDepth 100000 in
theorem wd_t1658 : (Jvm.Cond.instanceMethod ({ cls := "LentBoxesModel", name := "need", desc := "(II)I" } : Jvm.MethodName)) ∈ Tw := tm_7 (i := 218) rfl rfl
set_option maxRecDepth 100000 in
theorem wd_t1659 : (Jvm.Cond.selects "LentBoxesModel" ({ cls := "LentBoxesModel", name := "need", desc := "(II)I" } : Jvm.MethodName) ({ cls := "LentBoxesModel", name := "need", desc := "(II)I" } : Jvm.MethodName)) ∈ Tw := tm_7 (i := 219) rfl rfl
set_option maxRecDepth 100000 in
theorem wd_t1660 : (Jvm.Cond.code ({ cls := "LentBoxesModel", name := "need", desc := "(II)I" } : Jvm.MethodName) prog_14_method_87_code (7 : Nat) (Option.some Jvm.ClassFile.FieldType.int)) ∈ Tw := tm_7 (i := 220) rfl rfl
set_option maxRecDepth 100000 in
theorem wd_t1661 : (Jvm.Cond.methodLink "LentBoxesModel" (326 : Nat) ({ cls := "LentBoxesModel", name := "isOut", desc := "(III)Z" } : Jvm.MethodName)) ∈ Tw := tm_7 (i := 221) rfl rfl
set_option maxRecDepth 100000 in
theorem wd_t1663 : (Jvm.Cond.instanceMethod ({ cls := "LentBoxesModel", name := "isOut", desc := "(III)Z" } : Jvm.MethodName)) ∈ Tw := tm_7 (i := 223) rfl rfl
set_option maxRecDepth 100000 in
theorem wd_t1664 : (Jvm.Cond.code ({ cls := "LentBoxesModel", name := "isOut", desc := "(III)Z" } : Jvm.MethodName) prog_14_method_86_code (5 : Nat) (Option.some Jvm.ClassFile.FieldType.boolean)) ∈ Tw := tm_7 (i := 224) rfl rfl
set_option maxRecDepth 100000 in
theorem wd_t1665 : (Jvm.Cond.methodLink "LentBoxesLaw" (117 : Nat) ({ cls := "LentBoxesModel", name := "ring", desc := "(I)I" } : Jvm.MethodName)) ∈ Tw := tm_7 (i := 225) rfl rfl
set_option maxRecDepth 100000 in
theorem wd_t1666 : (Jvm.Cond.instanceMethod ({ cls := "LentBoxesModel", name := "ring", desc := "(I)I" } : Jvm.MethodName)) ∈ Tw := tm_7 (i := 226) rfl rfl
set_option maxRecDepth 100000 in
theorem wd_t1667 : (Jvm.Cond.selects "LentBoxesModel" ({ cls := "LentBoxesModel", name := "ring", desc := "(I)I" } : Jvm.MethodName) ({ cls := "LentBoxesModel", name := "ring", desc := "(I)I" } : Jvm.MethodName)) ∈ Tw := tm_7 (i := 227) rfl rfl
set_option maxRecDepth 100000 in
theorem wd_t1668 : (Jvm.Cond.code ({ cls := "LentBoxesModel", name := "ring", desc := "(I)I" } : Jvm.MethodName) prog_14_method_89_code (5 : Nat) (Option.some Jvm.ClassFile.FieldType.int)) ∈ Tw := tm_7 (i := 228) rfl rfl
set_option maxRecDepth 100000 in
theorem wd_t1669 : (Jvm.Cond.methodLink "LentBoxesModel" (329 : Nat) ({ cls := "LentBoxesModel", name := "nextIn", desc := "(I)I" } : Jvm.MethodName)) ∈ Tw := tm_7 (i := 229) rfl rfl
set_option maxRecDepth 100000 in
theorem wd_t1671 : (Jvm.Cond.instanceMethod ({ cls := "LentBoxesModel", name := "nextIn", desc := "(I)I" } : Jvm.MethodName)) ∈ Tw := tm_7 (i := 231) rfl rfl
set_option maxRecDepth 100000 in
theorem wd_t1672 : (Jvm.Cond.code ({ cls := "LentBoxesModel", name := "nextIn", desc := "(I)I" } : Jvm.MethodName) prog_14_method_88_code (3 : Nat) (Option.some Jvm.ClassFile.FieldType.int)) ∈ Tw := tm_7 (i := 232) rfl rfl
set_option maxRecDepth 100000 in
theorem wd_t1673 : (Jvm.Cond.methodLink "LentBoxesLaw" (121 : Nat) ({ cls := "LentBoxesModel", name := "ringAt", desc := "(I)I" } : Jvm.MethodName)) ∈ Tw := tm_7 (i := 233) rfl rfl
set_option maxRecDepth 100000 in
theorem wd_t1674 : (Jvm.Cond.instanceMethod ({ cls := "LentBoxesModel", name := "ringAt", desc := "(I)I" } : Jvm.MethodName)) ∈ Tw := tm_7 (i := 234) rfl rfl
set_option maxRecDepth 100000 in
theorem wd_t1675 : (Jvm.Cond.selects "LentBoxesModel" ({ cls := "LentBoxesModel", name := "ringAt", desc := "(I)I" } : Jvm.MethodName) ({ cls := "LentBoxesModel", name := "ringAt", desc := "(I)I" } : Jvm.MethodName)) ∈ Tw := tm_7 (i := 235) rfl rfl
set_option maxRecDepth 100000 in
theorem wd_t1676 : (Jvm.Cond.code ({ cls := "LentBoxesModel", name := "ringAt", desc := "(I)I" } : Jvm.MethodName) prog_14_method_90_code (2 : Nat) (Option.some Jvm.ClassFile.FieldType.int)) ∈ Tw := tm_7 (i := 236) rfl rfl
set_option maxRecDepth 100000 in
theorem wd_t1677 : (Jvm.Cond.methodLink "LentBoxesLaw" (125 : Nat) ({ cls := "LentBoxesModel", name := "who", desc := "()I" } : Jvm.MethodName)) ∈ Tw := tm_7 (i := 237) rfl rfl
set_option maxRecDepth 100000 in
theorem wd_t1678 : (Jvm.Cond.instanceMethod ({ cls := "LentBoxesModel", name := "who", desc := "()I" } : Jvm.MethodName)) ∈ Tw := tm_7 (i := 238) rfl rfl
set_option maxRecDepth 100000 in
theorem wd_t1679 : (Jvm.Cond.selects "LentBoxesModel" ({ cls := "LentBoxesModel", name := "who", desc := "()I" } : Jvm.MethodName) ({ cls := "LentBoxesModel", name := "who", desc := "()I" } : Jvm.MethodName)) ∈ Tw := tm_7 (i := 239) rfl rfl
set_option maxRecDepth 100000 in
theorem wd_t1680 : (Jvm.Cond.code ({ cls := "LentBoxesModel", name := "who", desc := "()I" } : Jvm.MethodName) prog_14_method_94_code (4 : Nat) (Option.some Jvm.ClassFile.FieldType.int)) ∈ Tw := tm_8 (i := 0) rfl rfl
set_option maxRecDepth 100000 in
theorem wd_t1681 : (Jvm.Cond.methodLink "LentBoxesModel" (338 : Nat) ({ cls := "LentBoxesModel", name := "isTold", desc := "(II)Z" } : Jvm.MethodName)) ∈ Tw := tm_8 (i := 1) rfl rfl
set_option maxRecDepth 100000 in
theorem wd_t1683 : (Jvm.Cond.instanceMethod ({ cls := "LentBoxesModel", name := "isTold", desc := "(II)Z" } : Jvm.MethodName)) ∈ Tw := tm_8 (i := 3) rfl rfl
set_option maxRecDepth 100000 in
theorem wd_t1684 : (Jvm.Cond.code ({ cls := "LentBoxesModel", name := "isTold", desc := "(II)Z" } : Jvm.MethodName) prog_14_method_93_code (4 : Nat) (Option.some Jvm.ClassFile.FieldType.boolean)) ∈ Tw := tm_8 (i := 4) rfl rfl
set_option maxRecDepth 100000 in
theorem wd_t1685 : (Jvm.Cond.methodLink "LentBoxesModel" (335 : Nat) ({ cls := "LentBoxesModel", name := "partOf", desc := "(II)I" } : Jvm.MethodName)) ∈ Tw := tm_8 (i := 5) rfl rfl
set_option maxRecDepth 100000 in
theorem wd_t1687 : (Jvm.Cond.instanceMethod ({ cls := "LentBoxesModel", name := "partOf", desc := "(II)I" } : Jvm.MethodName)) ∈ Tw := tm_8 (i := 7) rfl rfl
set_option maxRecDepth 100000 in
theorem wd_t1688 : (Jvm.Cond.code ({ cls := "LentBoxesModel", name := "partOf", desc := "(II)I" } : Jvm.MethodName) prog_14_method_91_code (3 : Nat) (Option.some Jvm.ClassFile.FieldType.int)) ∈ Tw := tm_8 (i := 8) rfl rfl
set_option maxRecDepth 100000 in
theorem wd_t1689 : (Jvm.Cond.methodLink "LentBoxesModel" (341 : Nat) ({ cls := "LentBoxesModel", name := "leftBy", desc := "(II)I" } : Jvm.MethodName)) ∈ Tw := tm_8 (i := 9) rfl rfl
set_option maxRecDepth 100000 in
theorem wd_t1691 : (Jvm.Cond.instanceMethod ({ cls := "LentBoxesModel", name := "leftBy", desc := "(II)I" } : Jvm.MethodName)) ∈ Tw := tm_8 (i := 11) rfl rfl
set_option maxRecDepth 100000 in
theorem wd_t1692 : (Jvm.Cond.code ({ cls := "LentBoxesModel", name := "leftBy", desc := "(II)I" } : Jvm.MethodName) prog_14_method_92_code (7 : Nat) (Option.some Jvm.ClassFile.FieldType.int)) ∈ Tw := tm_8 (i := 12) rfl rfl
set_option maxRecDepth 100000 in
theorem wd_t1693 : (Jvm.Cond.methodLink "LentBoxesLaw" (129 : Nat) ({ cls := "LentBoxesModel", name := "ask", desc := "()I" } : Jvm.MethodName)) ∈ Tw := tm_8 (i := 13) rfl rfl
set_option maxRecDepth 100000 in
theorem wd_t1694 : (Jvm.Cond.instanceMethod ({ cls := "LentBoxesModel", name := "ask", desc := "()I" } : Jvm.MethodName)) ∈ Tw := tm_8 (i := 14) rfl rfl
set_option maxRecDepth 100000 in
theorem wd_t1695 : (Jvm.Cond.selects "LentBoxesModel" ({ cls := "LentBoxesModel", name := "ask", desc := "()I" } : Jvm.MethodName) ({ cls := "LentBoxesModel", name := "ask", desc := "()I" } : Jvm.MethodName)) ∈ Tw := tm_8 (i := 15) rfl rfl
set_option maxRecDepth 100000 in
theorem wd_t1696 : (Jvm.Cond.code ({ cls := "LentBoxesModel", name := "ask", desc := "()I" } : Jvm.MethodName) prog_14_method_95_code (1 : Nat) (Option.some Jvm.ClassFile.FieldType.int)) ∈ Tw := tm_8 (i := 16) rfl rfl
set_option maxRecDepth 100000 in
theorem wd_t1697 : (Jvm.Cond.methodLink "LentBoxesLaw" (133 : Nat) ({ cls := "LentBoxesModel", name := "near", desc := "(II)I" } : Jvm.MethodName)) ∈ Tw := tm_8 (i := 17) rfl rfl
set_option maxRecDepth 100000 in
theorem wd_t1698 : (Jvm.Cond.instanceMethod ({ cls := "LentBoxesModel", name := "near", desc := "(II)I" } : Jvm.MethodName)) ∈ Tw := tm_8 (i := 18) rfl rfl
set_option maxRecDepth 100000 in
theorem wd_t1699 : (Jvm.Cond.selects "LentBoxesModel" ({ cls := "LentBoxesModel", name := "near", desc := "(II)I" } : Jvm.MethodName) ({ cls := "LentBoxesModel", name := "near", desc := "(II)I" } : Jvm.MethodName)) ∈ Tw := tm_8 (i := 19) rfl rfl
set_option maxRecDepth 100000 in
theorem wd_t1700 : (Jvm.Cond.code ({ cls := "LentBoxesModel", name := "near", desc := "(II)I" } : Jvm.MethodName) prog_14_method_96_code (7 : Nat) (Option.some Jvm.ClassFile.FieldType.int)) ∈ Tw := tm_8 (i := 20) rfl rfl
set_option maxRecDepth 100000 in
theorem wd_t1701 : (Jvm.Cond.methodLink "LentBoxesLaw" (140 : Nat) ({ cls := "LentBoxesModel", name := "wear", desc := "(II)I" } : Jvm.MethodName)) ∈ Tw := tm_8 (i := 21) rfl rfl
set_option maxRecDepth 100000 in
theorem wd_t1702 : (Jvm.Cond.instanceMethod ({ cls := "LentBoxesModel", name := "wear", desc := "(II)I" } : Jvm.MethodName)) ∈ Tw := tm_8 (i := 22) rfl rfl
set_option maxRecDepth 100000 in
theorem wd_t1703 : (Jvm.Cond.selects "LentBoxesModel" ({ cls := "LentBoxesModel", name := "wear", desc := "(II)I" } : Jvm.MethodName) ({ cls := "LentBoxesModel", name := "wear", desc := "(II)I" } : Jvm.MethodName)) ∈ Tw := tm_8 (i := 23) rfl rfl
set_option maxRecDepth 100000 in
theorem wd_t1704 : (Jvm.Cond.code ({ cls := "LentBoxesModel", name := "wear", desc := "(II)I" } : Jvm.MethodName) prog_14_method_98_code (3 : Nat) (Option.some Jvm.ClassFile.FieldType.int)) ∈ Tw := tm_8 (i := 24) rfl rfl
set_option maxRecDepth 100000 in
theorem wd_t1705 : (Jvm.Cond.methodLink "LentBoxesModel" (347 : Nat) ({ cls := "LentBoxesModel", name := "fraction", desc := "(III)I" } : Jvm.MethodName)) ∈ Tw := tm_8 (i := 25) rfl rfl
set_option maxRecDepth 100000 in
theorem wd_t1707 : (Jvm.Cond.instanceMethod ({ cls := "LentBoxesModel", name := "fraction", desc := "(III)I" } : Jvm.MethodName)) ∈ Tw := tm_8 (i := 27) rfl rfl
set_option maxRecDepth 100000 in
theorem wd_t1708 : (Jvm.Cond.code ({ cls := "LentBoxesModel", name := "fraction", desc := "(III)I" } : Jvm.MethodName) prog_14_method_97_code (4 : Nat) (Option.some Jvm.ClassFile.FieldType.int)) ∈ Tw := tm_8 (i := 28) rfl rfl
set_option maxRecDepth 100000 in
theorem wd_t1709 : (Jvm.Cond.methodLink "LentBoxesModel" (344 : Nat) ({ cls := "LentBoxesModel", name := "common", desc := "(II)I" } : Jvm.MethodName)) ∈ Tw := tm_8 (i := 29) rfl rfl
set_option maxRecDepth 100000 in
theorem wd_t1710 : (Jvm.Cond.static ({ cls := "LentBoxesModel", name := "common", desc := "(II)I" } : Jvm.MethodName)) ∈ Tw := tm_8 (i := 30) rfl rfl
set_option maxRecDepth 100000 in
theorem wd_t1711 : (Jvm.Cond.code ({ cls := "LentBoxesModel", name := "common", desc := "(II)I" } : Jvm.MethodName) prog_14_method_12_code (5 : Nat) (Option.some Jvm.ClassFile.FieldType.int)) ∈ Tw := tm_8 (i := 31) rfl rfl
set_option maxRecDepth 100000 in
theorem wd_t1712 : (Jvm.Cond.methodLink "LentBoxesLaw" (144 : Nat) ({ cls := "LentBoxesModel", name := "mean", desc := "(I)I" } : Jvm.MethodName)) ∈ Tw := tm_8 (i := 32) rfl rfl
set_option maxRecDepth 100000 in
theorem wd_t1713 : (Jvm.Cond.instanceMethod ({ cls := "LentBoxesModel", name := "mean", desc := "(I)I" } : Jvm.MethodName)) ∈ Tw := tm_8 (i := 33) rfl rfl
set_option maxRecDepth 100000 in
theorem wd_t1714 : (Jvm.Cond.selects "LentBoxesModel" ({ cls := "LentBoxesModel", name := "mean", desc := "(I)I" } : Jvm.MethodName) ({ cls := "LentBoxesModel", name := "mean", desc := "(I)I" } : Jvm.MethodName)) ∈ Tw := tm_8 (i := 34) rfl rfl
set_option maxRecDepth 100000 in
theorem wd_t1715 : (Jvm.Cond.code ({ cls := "LentBoxesModel", name := "mean", desc := "(I)I" } : Jvm.MethodName) prog_14_method_99_code (5 : Nat) (Option.some Jvm.ClassFile.FieldType.int)) ∈ Tw := tm_8 (i := 35) rfl rfl
set_option maxRecDepth 100000 in
theorem wd_t1716 : (Jvm.Cond.methodLink "LentBoxesLaw" (148 : Nat) ({ cls := "LentBoxesModel", name := "longest", desc := "()I" } : Jvm.MethodName)) ∈ Tw := tm_8 (i := 36) rfl rfl
set_option maxRecDepth 100000 in
theorem wd_t1717 : (Jvm.Cond.instanceMethod ({ cls := "LentBoxesModel", name := "longest", desc := "()I" } : Jvm.MethodName)) ∈ Tw := tm_8 (i := 37) rfl rfl
set_option maxRecDepth 100000 in
theorem wd_t1718 : (Jvm.Cond.selects "LentBoxesModel" ({ cls := "LentBoxesModel", name := "longest", desc := "()I" } : Jvm.MethodName) ({ cls := "LentBoxesModel", name := "longest", desc := "()I" } : Jvm.MethodName)) ∈ Tw := tm_8 (i := 38) rfl rfl
set_option maxRecDepth 100000 in
theorem wd_t1719 : (Jvm.Cond.code ({ cls := "LentBoxesModel", name := "longest", desc := "()I" } : Jvm.MethodName) prog_14_method_100_code (3 : Nat) (Option.some Jvm.ClassFile.FieldType.int)) ∈ Tw := tm_8 (i := 39) rfl rfl
set_option maxRecDepth 100000 in
theorem wd_t1720 : (Jvm.Cond.methodLink "LentBoxesLaw" (152 : Nat) ({ cls := "LentBoxesModel", name := "tag", desc := "(I)I" } : Jvm.MethodName)) ∈ Tw := tm_8 (i := 40) rfl rfl
set_option maxRecDepth 100000 in
theorem wd_t1721 : (Jvm.Cond.instanceMethod ({ cls := "LentBoxesModel", name := "tag", desc := "(I)I" } : Jvm.MethodName)) ∈ Tw := tm_8 (i := 41) rfl rfl
set_option maxRecDepth 100000 in
theorem wd_t1722 : (Jvm.Cond.selects "LentBoxesModel" ({ cls := "LentBoxesModel", name := "tag", desc := "(I)I" } : Jvm.MethodName) ({ cls := "LentBoxesModel", name := "tag", desc := "(I)I" } : Jvm.MethodName)) ∈ Tw := tm_8 (i := 42) rfl rfl
set_option maxRecDepth 100000 in
theorem wd_t1723 : (Jvm.Cond.code ({ cls := "LentBoxesModel", name := "tag", desc := "(I)I" } : Jvm.MethodName) prog_14_method_104_code (2 : Nat) (Option.some Jvm.ClassFile.FieldType.int)) ∈ Tw := tm_8 (i := 43) rfl rfl
set_option maxRecDepth 100000 in
theorem wd_t1724 : (Jvm.Cond.methodLink "LentBoxesModel" (353 : Nat) ({ cls := "LentBoxesModel", name := "writeWord", desc := "(J)V" } : Jvm.MethodName)) ∈ Tw := tm_8 (i := 44) rfl rfl
set_option maxRecDepth 100000 in
theorem wd_t1726 : (Jvm.Cond.instanceMethod ({ cls := "LentBoxesModel", name := "writeWord", desc := "(J)V" } : Jvm.MethodName)) ∈ Tw := tm_8 (i := 46) rfl rfl
set_option maxRecDepth 100000 in
theorem wd_t1727 : (Jvm.Cond.code ({ cls := "LentBoxesModel", name := "writeWord", desc := "(J)V" } : Jvm.MethodName) prog_14_method_102_code (3 : Nat) (Option.none : Option Jvm.ClassFile.FieldType)) ∈ Tw := tm_8 (i := 47) rfl rfl
set_option maxRecDepth 100000 in
theorem wd_t1728 : (Jvm.Cond.methodLink "LentBoxesModel" (357 : Nat) ({ cls := "LentBoxesModel", name := "write", desc := "(I)V" } : Jvm.MethodName)) ∈ Tw := tm_8 (i := 48) rfl rfl
set_option maxRecDepth 100000 in
theorem wd_t1730 : (Jvm.Cond.instanceMethod ({ cls := "LentBoxesModel", name := "write", desc := "(I)V" } : Jvm.MethodName)) ∈ Tw := tm_8 (i := 50) rfl rfl
set_option maxRecDepth 100000 in
theorem wd_t1731 : (Jvm.Cond.code ({ cls := "LentBoxesModel", name := "write", desc := "(I)V" } : Jvm.MethodName) prog_14_method_101_code (2 : Nat) (Option.none : Option Jvm.ClassFile.FieldType)) ∈ Tw := tm_8 (i := 51) rfl rfl
set_option maxRecDepth 100000 in
theorem wd_t1732 : (Jvm.Cond.methodLink "LentBoxesModel" (360 : Nat) ({ cls := "LentBoxesModel", name := "writeNext", desc := "(J)V" } : Jvm.MethodName)) ∈ Tw := tm_8 (i := 52) rfl rfl
set_option maxRecDepth 100000 in
theorem wd_t1734 : (Jvm.Cond.instanceMethod ({ cls := "LentBoxesModel", name := "writeNext", desc := "(J)V" } : Jvm.MethodName)) ∈ Tw := tm_8 (i := 54) rfl rfl
set_option maxRecDepth 100000 in
theorem wd_t1735 : (Jvm.Cond.code ({ cls := "LentBoxesModel", name := "writeNext", desc := "(J)V" } : Jvm.MethodName) prog_14_method_103_code (3 : Nat) (Option.none : Option Jvm.ClassFile.FieldType)) ∈ Tw := tm_8 (i := 55) rfl rfl
set_option maxRecDepth 100000 in
theorem wd_t1736 : (Jvm.Cond.methodLink "LentBoxesLaw" (156 : Nat) ({ cls := "LentBoxesModel", name := "byteAt", desc := "(I)I" } : Jvm.MethodName)) ∈ Tw := tm_8 (i := 56) rfl rfl
set_option maxRecDepth 100000 in
theorem wd_t1737 : (Jvm.Cond.instanceMethod ({ cls := "LentBoxesModel", name := "byteAt", desc := "(I)I" } : Jvm.MethodName)) ∈ Tw := tm_8 (i := 57) rfl rfl
set_option maxRecDepth 100000 in
theorem wd_t1738 : (Jvm.Cond.selects "LentBoxesModel" ({ cls := "LentBoxesModel", name := "byteAt", desc := "(I)I" } : Jvm.MethodName) ({ cls := "LentBoxesModel", name := "byteAt", desc := "(I)I" } : Jvm.MethodName)) ∈ Tw := tm_8 (i := 58) rfl rfl
set_option maxRecDepth 100000 in
theorem wd_t1739 : (Jvm.Cond.code ({ cls := "LentBoxesModel", name := "byteAt", desc := "(I)I" } : Jvm.MethodName) prog_14_method_105_code (2 : Nat) (Option.some Jvm.ClassFile.FieldType.int)) ∈ Tw := tm_8 (i := 59) rfl rfl
set_option maxRecDepth 100000 in
theorem wd_t1740 : (Jvm.Cond.methodLink "LentBoxesLaw" (160 : Nat) ({ cls := "LentBoxesModel", name := "drawn", desc := "(II)I" } : Jvm.MethodName)) ∈ Tw := tm_8 (i := 60) rfl rfl
set_option maxRecDepth 100000 in
theorem wd_t1741 : (Jvm.Cond.instanceMethod ({ cls := "LentBoxesModel", name := "drawn", desc := "(II)I" } : Jvm.MethodName)) ∈ Tw := tm_8 (i := 61) rfl rfl
set_option maxRecDepth 100000 in
theorem wd_t1742 : (Jvm.Cond.selects "LentBoxesModel" ({ cls := "LentBoxesModel", name := "drawn", desc := "(II)I" } : Jvm.MethodName) ({ cls := "LentBoxesModel", name := "drawn", desc := "(II)I" } : Jvm.MethodName)) ∈ Tw := tm_8 (i := 62) rfl rfl
set_option maxRecDepth 100000 in
theorem wd_t1743 : (Jvm.Cond.code ({ cls := "LentBoxesModel", name := "drawn", desc := "(II)I" } : Jvm.MethodName) prog_14_method_111_code (3 : Nat) (Option.some Jvm.ClassFile.FieldType.int)) ∈ Tw := tm_8 (i := 63) rfl rfl
set_option maxRecDepth 100000 in
theorem wd_t1744 : (Jvm.Cond.methodLink "LentBoxesModel" (379 : Nat) ({ cls := "LentBoxesModel", name := "drawDays", desc := "(II)I" } : Jvm.MethodName)) ∈ Tw := tm_8 (i := 64) rfl rfl
set_option maxRecDepth 100000 in
theorem wd_t1746 : (Jvm.Cond.instanceMethod ({ cls := "LentBoxesModel", name := "drawDays", desc := "(II)I" } : Jvm.MethodName)) ∈ Tw := tm_8 (i := 66) rfl rfl
set_option maxRecDepth 100000 in
theorem wd_t1747 : (Jvm.Cond.code ({ cls := "LentBoxesModel", name := "drawDays", desc := "(II)I" } : Jvm.MethodName) prog_14_method_110_code (5 : Nat) (Option.some Jvm.ClassFile.FieldType.int)) ∈ Tw := tm_8 (i := 67) rfl rfl
set_option maxRecDepth 100000 in
theorem wd_t1748 : (Jvm.Cond.methodLink "LentBoxesModel" (376 : Nat) ({ cls := "LentBoxesModel", name := "drawsFirst", desc := "()V" } : Jvm.MethodName)) ∈ Tw := tm_8 (i := 68) rfl rfl
set_option maxRecDepth 100000 in
theorem wd_t1750 : (Jvm.Cond.instanceMethod ({ cls := "LentBoxesModel", name := "drawsFirst", desc := "()V" } : Jvm.MethodName)) ∈ Tw := tm_8 (i := 70) rfl rfl
set_option maxRecDepth 100000 in
theorem wd_t1751 : (Jvm.Cond.code ({ cls := "LentBoxesModel", name := "drawsFirst", desc := "()V" } : Jvm.MethodName) prog_14_method_109_code (2 : Nat) (Option.none : Option Jvm.ClassFile.FieldType)) ∈ Tw := tm_8 (i := 71) rfl rfl
set_option maxRecDepth 100000 in
theorem wd_t1752 : (Jvm.Cond.methodLink "LentBoxesModel" (367 : Nat) ({ cls := "LentBoxesModel", name := "draw", desc := "(I)I" } : Jvm.MethodName)) ∈ Tw := tm_8 (i := 72) rfl rfl
set_option maxRecDepth 100000 in
theorem wd_t1754 : (Jvm.Cond.instanceMethod ({ cls := "LentBoxesModel", name := "draw", desc := "(I)I" } : Jvm.MethodName)) ∈ Tw := tm_8 (i := 74) rfl rfl
set_option maxRecDepth 100000 in
theorem wd_t1755 : (Jvm.Cond.code ({ cls := "LentBoxesModel", name := "draw", desc := "(I)I" } : Jvm.MethodName) prog_14_method_106_code (2 : Nat) (Option.some Jvm.ClassFile.FieldType.int)) ∈ Tw := tm_8 (i := 75) rfl rfl
set_option maxRecDepth 100000 in
theorem wd_t1756 : (Jvm.Cond.constant "LentBoxesModel" (366 : Nat) (1103515245 : Int32)) ∈ Tw := tm_8 (i := 76) rfl rfl
set_option maxRecDepth 100000 in
theorem wd_t1757 : (Jvm.Cond.methodLink "LentBoxesModel" (373 : Nat) ({ cls := "LentBoxesModel", name := "drawsTwo", desc := "(II)V" } : Jvm.MethodName)) ∈ Tw := tm_8 (i := 77) rfl rfl
set_option maxRecDepth 100000 in
theorem wd_t1759 : (Jvm.Cond.instanceMethod ({ cls := "LentBoxesModel", name := "drawsTwo", desc := "(II)V" } : Jvm.MethodName)) ∈ Tw := tm_8 (i := 79) rfl rfl
set_option maxRecDepth 100000 in
theorem wd_t1760 : (Jvm.Cond.code ({ cls := "LentBoxesModel", name := "drawsTwo", desc := "(II)V" } : Jvm.MethodName) prog_14_method_108_code (5 : Nat) (Option.none : Option Jvm.ClassFile.FieldType)) ∈ Tw := tm_8 (i := 80) rfl rfl
set_option maxRecDepth 100000 in
theorem wd_t1761 : (Jvm.Cond.methodLink "LentBoxesModel" (370 : Nat) ({ cls := "LentBoxesModel", name := "doIf", desc := "(III)V" } : Jvm.MethodName)) ∈ Tw := tm_8 (i := 81) rfl rfl
set_option maxRecDepth 100000 in
theorem wd_t1763 : (Jvm.Cond.instanceMethod ({ cls := "LentBoxesModel", name := "doIf", desc := "(III)V" } : Jvm.MethodName)) ∈ Tw := tm_8 (i := 83) rfl rfl
set_option maxRecDepth 100000 in
theorem wd_t1764 : (Jvm.Cond.code ({ cls := "LentBoxesModel", name := "doIf", desc := "(III)V" } : Jvm.MethodName) prog_14_method_107_code (4 : Nat) (Option.none : Option Jvm.ClassFile.FieldType)) ∈ Tw := tm_8 (i := 84) rfl rfl
set_option maxRecDepth 100000 in
theorem wd_t1765 : (Jvm.Cond.methodLink "LentBoxesLaw" (165 : Nat) ({ cls := "LentBoxesModel", name := "odds", desc := "(III)I" } : Jvm.MethodName)) ∈ Tw := tm_8 (i := 85) rfl rfl
set_option maxRecDepth 100000 in
theorem wd_t1766 : (Jvm.Cond.instanceMethod ({ cls := "LentBoxesModel", name := "odds", desc := "(III)I" } : Jvm.MethodName)) ∈ Tw := tm_8 (i := 86) rfl rfl
set_option maxRecDepth 100000 in
theorem wd_t1767 : (Jvm.Cond.selects "LentBoxesModel" ({ cls := "LentBoxesModel", name := "odds", desc := "(III)I" } : Jvm.MethodName) ({ cls := "LentBoxesModel", name := "odds", desc := "(III)I" } : Jvm.MethodName)) ∈ Tw := tm_8 (i := 87) rfl rfl
set_option maxRecDepth 100000 in
theorem wd_t1768 : (Jvm.Cond.code ({ cls := "LentBoxesModel", name := "odds", desc := "(III)I" } : Jvm.MethodName) prog_14_method_112_code (6 : Nat) (Option.some Jvm.ClassFile.FieldType.int)) ∈ Tw := tm_8 (i := 88) rfl rfl
set_option maxRecDepth 100000 in
theorem wd_t1769 : (Jvm.Cond.methodLink "LentBoxesLaw" (169 : Nat) ({ cls := "LentBoxesModel", name := "book", desc := "(I)I" } : Jvm.MethodName)) ∈ Tw := tm_8 (i := 89) rfl rfl
set_option maxRecDepth 100000 in
theorem wd_t1770 : (Jvm.Cond.instanceMethod ({ cls := "LentBoxesModel", name := "book", desc := "(I)I" } : Jvm.MethodName)) ∈ Tw := tm_8 (i := 90) rfl rfl
set_option maxRecDepth 100000 in
theorem wd_t1771 : (Jvm.Cond.selects "LentBoxesModel" ({ cls := "LentBoxesModel", name := "book", desc := "(I)I" } : Jvm.MethodName) ({ cls := "LentBoxesModel", name := "book", desc := "(I)I" } : Jvm.MethodName)) ∈ Tw := tm_8 (i := 91) rfl rfl
set_option maxRecDepth 100000 in
theorem wd_t1772 : (Jvm.Cond.code ({ cls := "LentBoxesModel", name := "book", desc := "(I)I" } : Jvm.MethodName) prog_14_method_120_code (4 : Nat) (Option.some Jvm.ClassFile.FieldType.int)) ∈ Tw := tm_8 (i := 92) rfl rfl
set_option maxRecDepth 100000 in
theorem wd_t1773 : (Jvm.Cond.methodLink "LentBoxesModel" (400 : Nat) ({ cls := "LentBoxesModel", name := "readBookLine", desc := "()Z" } : Jvm.MethodName)) ∈ Tw := tm_8 (i := 93) rfl rfl
set_option maxRecDepth 100000 in
theorem wd_t1775 : (Jvm.Cond.instanceMethod ({ cls := "LentBoxesModel", name := "readBookLine", desc := "()Z" } : Jvm.MethodName)) ∈ Tw := tm_8 (i := 95) rfl rfl
set_option maxRecDepth 100000 in
theorem wd_t1776 : (Jvm.Cond.code ({ cls := "LentBoxesModel", name := "readBookLine", desc := "()Z" } : Jvm.MethodName) prog_14_method_118_code (3 : Nat) (Option.some Jvm.ClassFile.FieldType.boolean)) ∈ Tw := tm_8 (i := 96) rfl rfl
set_option maxRecDepth 100000 in
theorem wd_t1777 : (Jvm.Cond.methodLink "LentBoxesModel" (388 : Nat) ({ cls := "LentBoxesModel", name := "readDeadName", desc := "()Z" } : Jvm.MethodName)) ∈ Tw := tm_8 (i := 97) rfl rfl
set_option maxRecDepth 100000 in
theorem wd_t1779 : (Jvm.Cond.instanceMethod ({ cls := "LentBoxesModel", name := "readDeadName", desc := "()Z" } : Jvm.MethodName)) ∈ Tw := tm_8 (i := 99) rfl rfl
set_option maxRecDepth 100000 in
theorem wd_t1780 : (Jvm.Cond.code ({ cls := "LentBoxesModel", name := "readDeadName", desc := "()Z" } : Jvm.MethodName) prog_14_method_116_code (1 : Nat) (Option.some Jvm.ClassFile.FieldType.boolean)) ∈ Tw := tm_8 (i := 100) rfl rfl
set_option maxRecDepth 100000 in
theorem wd_t1781 : (Jvm.Cond.methodLink "LentBoxesModel" (382 : Nat) ({ cls := "LentBoxesModel", name := "readNamed", desc := "(II)Z" } : Jvm.MethodName)) ∈ Tw := tm_8 (i := 101) rfl rfl
set_option maxRecDepth 100000 in
theorem wd_t1783 : (Jvm.Cond.instanceMethod ({ cls := "LentBoxesModel", name := "readNamed", desc := "(II)Z" } : Jvm.MethodName)) ∈ Tw := tm_8 (i := 103) rfl rfl
set_option maxRecDepth 100000 in
theorem wd_t1784 : (Jvm.Cond.code ({ cls := "LentBoxesModel", name := "readNamed", desc := "(II)Z" } : Jvm.MethodName) prog_14_method_114_code (3 : Nat) (Option.some Jvm.ClassFile.FieldType.boolean)) ∈ Tw := tm_8 (i := 104) rfl rfl
set_option maxRecDepth 100000 in
theorem wd_t1785 : (Jvm.Cond.methodLink "LentBoxesModel" (391 : Nat) ({ cls := "LentBoxesModel", name := "keep", desc := "(IZ)Z" } : Jvm.MethodName)) ∈ Tw := tm_8 (i := 105) rfl rfl
set_option maxRecDepth 100000 in
theorem wd_t1787 : (Jvm.Cond.instanceMethod ({ cls := "LentBoxesModel", name := "keep", desc := "(IZ)Z" } : Jvm.MethodName)) ∈ Tw := tm_8 (i := 107) rfl rfl
set_option maxRecDepth 100000 in
theorem wd_t1788 : (Jvm.Cond.code ({ cls := "LentBoxesModel", name := "keep", desc := "(IZ)Z" } : Jvm.MethodName) prog_14_method_113_code (3 : Nat) (Option.some Jvm.ClassFile.FieldType.boolean)) ∈ Tw := tm_8 (i := 108) rfl rfl
set_option maxRecDepth 100000 in
theorem wd_t1789 : (Jvm.Cond.methodLink "LentBoxesModel" (394 : Nat) ({ cls := "LentBoxesModel", name := "readBoxName", desc := "()Z" } : Jvm.MethodName)) ∈ Tw := tm_8 (i := 109) rfl rfl
set_option maxRecDepth 100000 in
theorem wd_t1791 : (Jvm.Cond.instanceMethod ({ cls := "LentBoxesModel", name := "readBoxName", desc := "()Z" } : Jvm.MethodName)) ∈ Tw := tm_8 (i := 111) rfl rfl
set_option maxRecDepth 100000 in
theorem wd_t1792 : (Jvm.Cond.code ({ cls := "LentBoxesModel", name := "readBoxName", desc := "()Z" } : Jvm.MethodName) prog_14_method_115_code (1 : Nat) (Option.some Jvm.ClassFile.FieldType.boolean)) ∈ Tw := tm_8 (i := 112) rfl rfl
set_option maxRecDepth 100000 in
theorem wd_t1793 : (Jvm.Cond.methodLink "LentBoxesModel" (397 : Nat) ({ cls := "LentBoxesModel", name := "readOther", desc := "(I)Z" } : Jvm.MethodName)) ∈ Tw := tm_8 (i := 113) rfl rfl
set_option maxRecDepth 100000 in
theorem wd_t1795 : (Jvm.Cond.instanceMethod ({ cls := "LentBoxesModel", name := "readOther", desc := "(I)Z" } : Jvm.MethodName)) ∈ Tw := tm_8 (i := 115) rfl rfl
set_option maxRecDepth 100000 in
theorem wd_t1796 : (Jvm.Cond.code ({ cls := "LentBoxesModel", name := "readOther", desc := "(I)Z" } : Jvm.MethodName) prog_14_method_117_code (2 : Nat) (Option.some Jvm.ClassFile.FieldType.boolean)) ∈ Tw := tm_8 (i := 116) rfl rfl
set_option maxRecDepth 100000 in
theorem wd_t1797 : (Jvm.Cond.methodLink "LentBoxesModel" (403 : Nat) ({ cls := "LentBoxesModel", name := "goBy", desc := "(I)I" } : Jvm.MethodName)) ∈ Tw := tm_8 (i := 117) rfl rfl
set_option maxRecDepth 100000 in
theorem wd_t1799 : (Jvm.Cond.instanceMethod ({ cls := "LentBoxesModel", name := "goBy", desc := "(I)I" } : Jvm.MethodName)) ∈ Tw := tm_8 (i := 119) rfl rfl
set_option maxRecDepth 100000 in
theorem wd_t1800 : (Jvm.Cond.code ({ cls := "LentBoxesModel", name := "goBy", desc := "(I)I" } : Jvm.MethodName) prog_14_method_119_code (5 : Nat) (Option.some Jvm.ClassFile.FieldType.int)) ∈ Tw := tm_8 (i := 120) rfl rfl
set_option maxRecDepth 100000 in
theorem wd_t1801 : (Jvm.Cond.methodLink "LentBoxesModel" (409 : Nat) ({ cls := "LentBoxesModel", name := "stay", desc := "(Z)V" } : Jvm.MethodName)) ∈ Tw := tm_8 (i := 121) rfl rfl
set_option maxRecDepth 100000 in
theorem wd_t1803 : (Jvm.Cond.instanceMethod ({ cls := "LentBoxesModel", name := "stay", desc := "(Z)V" } : Jvm.MethodName)) ∈ Tw := tm_8 (i := 123) rfl rfl
set_option maxRecDepth 100000 in
theorem wd_t1804 : (Jvm.Cond.code ({ cls := "LentBoxesModel", name := "stay", desc := "(Z)V" } : Jvm.MethodName) prog_14_method_121_code (2 : Nat) (Option.none : Option Jvm.ClassFile.FieldType)) ∈ Tw := tm_8 (i := 124) rfl rfl
set_option maxRecDepth 100000 in
theorem wd_t1805 : (Jvm.Cond.methodLink "LentBoxesLaw" (173 : Nat) ({ cls := "LentBoxesModel", name := "told", desc := "(I)I" } : Jvm.MethodName)) ∈ Tw := tm_8 (i := 125) rfl rfl
set_option maxRecDepth 100000 in
theorem wd_t1806 : (Jvm.Cond.instanceMethod ({ cls := "LentBoxesModel", name := "told", desc := "(I)I" } : Jvm.MethodName)) ∈ Tw := tm_8 (i := 126) rfl rfl
set_option maxRecDepth 100000 in
theorem wd_t1807 : (Jvm.Cond.selects "LentBoxesModel" ({ cls := "LentBoxesModel", name := "told", desc := "(I)I" } : Jvm.MethodName) ({ cls := "LentBoxesModel", name := "told", desc := "(I)I" } : Jvm.MethodName)) ∈ Tw := tm_8 (i := 127) rfl rfl
set_option maxRecDepth 100000 in
theorem wd_t1808 : (Jvm.Cond.code ({ cls := "LentBoxesModel", name := "told", desc := "(I)I" } : Jvm.MethodName) prog_14_method_122_code (2 : Nat) (Option.some Jvm.ClassFile.FieldType.int)) ∈ Tw := tm_8 (i := 128) rfl rfl
set_option maxRecDepth 100000 in
theorem wd_t1809 : (Jvm.Cond.methodLink "LentBoxesLaw" (177 : Nat) ({ cls := "LentBoxesModel", name := "sentence", desc := "()I" } : Jvm.MethodName)) ∈ Tw := tm_8 (i := 129) rfl rfl
set_option maxRecDepth 100000 in
theorem wd_t1810 : (Jvm.Cond.instanceMethod ({ cls := "LentBoxesModel", name := "sentence", desc := "()I" } : Jvm.MethodName)) ∈ Tw := tm_8 (i := 130) rfl rfl
set_option maxRecDepth 100000 in
theorem wd_t1811 : (Jvm.Cond.selects "LentBoxesModel" ({ cls := "LentBoxesModel", name := "sentence", desc := "()I" } : Jvm.MethodName) ({ cls := "LentBoxesModel", name := "sentence", desc := "()I" } : Jvm.MethodName)) ∈ Tw := tm_8 (i := 131) rfl rfl
set_option maxRecDepth 100000 in
theorem wd_t1812 : (Jvm.Cond.code ({ cls := "LentBoxesModel", name := "sentence", desc := "()I" } : Jvm.MethodName) prog_14_method_132_code (2 : Nat) (Option.some Jvm.ClassFile.FieldType.int)) ∈ Tw := tm_8 (i := 132) rfl rfl
set_option maxRecDepth 100000 in
theorem wd_t1813 : (Jvm.Cond.methodLink "LentBoxesModel" (447 : Nat) ({ cls := "LentBoxesModel", name := "readOr", desc := "()Z" } : Jvm.MethodName)) ∈ Tw := tm_8 (i := 133) rfl rfl
set_option maxRecDepth 100000 in
theorem wd_t1815 : (Jvm.Cond.instanceMethod ({ cls := "LentBoxesModel", name := "readOr", desc := "()Z" } : Jvm.MethodName)) ∈ Tw := tm_8 (i := 135) rfl rfl
set_option maxRecDepth 100000 in
theorem wd_t1816 : (Jvm.Cond.code ({ cls := "LentBoxesModel", name := "readOr", desc := "()Z" } : Jvm.MethodName) prog_14_method_125_code (2 : Nat) (Option.some Jvm.ClassFile.FieldType.boolean)) ∈ Tw := tm_8 (i := 136) rfl rfl
set_option maxRecDepth 100000 in
theorem wd_t1817 : (Jvm.Cond.methodLink "LentBoxesModel" (416 : Nat) ({ cls := "LentBoxesModel", name := "readAnd", desc := "()Z" } : Jvm.MethodName)) ∈ Tw := tm_8 (i := 137) rfl rfl
set_option maxRecDepth 100000 in
theorem wd_t1819 : (Jvm.Cond.instanceMethod ({ cls := "LentBoxesModel", name := "readAnd", desc := "()Z" } : Jvm.MethodName)) ∈ Tw := tm_8 (i := 139) rfl rfl
set_option maxRecDepth 100000 in
theorem wd_t1820 : (Jvm.Cond.code ({ cls := "LentBoxesModel", name := "readAnd", desc := "()Z" } : Jvm.MethodName) prog_14_method_126_code (2 : Nat) (Option.some Jvm.ClassFile.FieldType.boolean)) ∈ Tw := tm_8 (i := 140) rfl rfl
set_option maxRecDepth 100000 in
theorem wd_t1821 : (Jvm.Cond.methodLink "LentBoxesModel" (426 : Nat) ({ cls := "LentBoxesModel", name := "readSaid", desc := "()Z" } : Jvm.MethodName)) ∈ Tw := tm_8 (i := 141) rfl rfl
set_option maxRecDepth 100000 in
theorem wd_t1823 : (Jvm.Cond.instanceMethod ({ cls := "LentBoxesModel", name := "readSaid", desc := "()Z" } : Jvm.MethodName)) ∈ Tw := tm_8 (i := 143) rfl rfl
set_option maxRecDepth 100000 in
theorem wd_t1824 : (Jvm.Cond.code ({ cls := "LentBoxesModel", name := "readSaid", desc := "()Z" } : Jvm.MethodName) prog_14_method_127_code (4 : Nat) (Option.some Jvm.ClassFile.FieldType.boolean)) ∈ Tw := tm_8 (i := 144) rfl rfl
set_option maxRecDepth 100000 in
theorem wd_t1825 : (Jvm.Cond.methodLink "LentBoxesModel" (435 : Nat) ({ cls := "LentBoxesModel", name := "readBracket", desc := "()Z" } : Jvm.MethodName)) ∈ Tw := tm_8 (i := 145) rfl rfl
set_option maxRecDepth 100000 in
theorem wd_t1827 : (Jvm.Cond.instanceMethod ({ cls := "LentBoxesModel", name := "readBracket", desc := "()Z" } : Jvm.MethodName)) ∈ Tw := tm_8 (i := 147) rfl rfl
set_option maxRecDepth 100000 in
theorem wd_t1828 : (Jvm.Cond.code ({ cls := "LentBoxesModel", name := "readBracket", desc := "()Z" } : Jvm.MethodName) prog_14_method_129_code (1 : Nat) (Option.some Jvm.ClassFile.FieldType.boolean)) ∈ Tw := tm_8 (i := 148) rfl rfl
set_option maxRecDepth 100000 in
theorem wd_t1829 : (Jvm.Cond.methodLink "LentBoxesModel" (438 : Nat) ({ cls := "LentBoxesModel", name := "readNot", desc := "()Z" } : Jvm.MethodName)) ∈ Tw := tm_8 (i := 149) rfl rfl
set_option maxRecDepth 100000 in
theorem wd_t1831 : (Jvm.Cond.instanceMethod ({ cls := "LentBoxesModel", name := "readNot", desc := "()Z" } : Jvm.MethodName)) ∈ Tw := tm_8 (i := 151) rfl rfl
set_option maxRecDepth 100000 in
theorem wd_t1832 : (Jvm.Cond.code ({ cls := "LentBoxesModel", name := "readNot", desc := "()Z" } : Jvm.MethodName) prog_14_method_128_code (1 : Nat) (Option.some Jvm.ClassFile.FieldType.boolean)) ∈ Tw := tm_8 (i := 152) rfl rfl
set_option maxRecDepth 100000 in
theorem wd_t1833 : (Jvm.Cond.methodLink "LentBoxesModel" (422 : Nat) ({ cls := "LentBoxesModel", name := "saysOne", desc := "(IIII)I" } : Jvm.MethodName)) ∈ Tw := tm_8 (i := 153) rfl rfl
set_option maxRecDepth 100000 in
theorem wd_t1835 : (Jvm.Cond.instanceMethod ({ cls := "LentBoxesModel", name := "saysOne", desc := "(IIII)I" } : Jvm.MethodName)) ∈ Tw := tm_8 (i := 155) rfl rfl
set_option maxRecDepth 100000 in
theorem wd_t1836 : (Jvm.Cond.code ({ cls := "LentBoxesModel", name := "saysOne", desc := "(IIII)I" } : Jvm.MethodName) prog_14_method_124_code (6 : Nat) (Option.some Jvm.ClassFile.FieldType.int)) ∈ Tw := tm_8 (i := 156) rfl rfl
set_option maxRecDepth 100000 in
theorem wd_t1837 : (Jvm.Cond.methodLink "LentBoxesModel" (441 : Nat) ({ cls := "LentBoxesModel", name := "readOf", desc := "(I)Z" } : Jvm.MethodName)) ∈ Tw := tm_8 (i := 157) rfl rfl
set_option maxRecDepth 100000 in
theorem wd_t1839 : (Jvm.Cond.instanceMethod ({ cls := "LentBoxesModel", name := "readOf", desc := "(I)Z" } : Jvm.MethodName)) ∈ Tw := tm_8 (i := 159) rfl rfl
set_option maxRecDepth 100000 in
theorem wd_t1840 : (Jvm.Cond.code ({ cls := "LentBoxesModel", name := "readOf", desc := "(I)Z" } : Jvm.MethodName) prog_14_method_130_code (2 : Nat) (Option.some Jvm.ClassFile.FieldType.boolean)) ∈ Tw := tm_8 (i := 160) rfl rfl
set_option maxRecDepth 100000 in
theorem wd_t1841 : (Jvm.Cond.methodLink "LentBoxesModel" (450 : Nat) ({ cls := "LentBoxesModel", name := "readThat", desc := "(I)Z" } : Jvm.MethodName)) ∈ Tw := tm_8 (i := 161) rfl rfl
set_option maxRecDepth 100000 in
theorem wd_t1843 : (Jvm.Cond.instanceMethod ({ cls := "LentBoxesModel", name := "readThat", desc := "(I)Z" } : Jvm.MethodName)) ∈ Tw := tm_8 (i := 163) rfl rfl
set_option maxRecDepth 100000 in
theorem wd_t1844 : (Jvm.Cond.code ({ cls := "LentBoxesModel", name := "readThat", desc := "(I)Z" } : Jvm.MethodName) prog_14_method_123_code (2 : Nat) (Option.some Jvm.ClassFile.FieldType.boolean)) ∈ Tw := tm_8 (i := 164) rfl rfl
set_option maxRecDepth 100000 in
theorem wd_t1845 : (Jvm.Cond.methodLink "LentBoxesModel" (444 : Nat) ({ cls := "LentBoxesModel", name := "readCompare", desc := "(I)Z" } : Jvm.MethodName)) ∈ Tw := tm_8 (i := 165) rfl rfl
set_option maxRecDepth 100000 in
theorem wd_t1847 : (Jvm.Cond.instanceMethod ({ cls := "LentBoxesModel", name := "readCompare", desc := "(I)Z" } : Jvm.MethodName)) ∈ Tw := tm_8 (i := 167) rfl rfl
set_option maxRecDepth 100000 in
theorem wd_t1848 : (Jvm.Cond.code ({ cls := "LentBoxesModel", name := "readCompare", desc := "(I)Z" } : Jvm.MethodName) prog_14_method_131_code (3 : Nat) (Option.some Jvm.ClassFile.FieldType.boolean)) ∈ Tw := tm_8 (i := 168) rfl rfl
set_option maxRecDepth 100000 in
theorem wd_t1849 : (Jvm.Cond.methodLink "LentBoxesLaw" (181 : Nat) ({ cls := "LentBoxesModel", name := "said", desc := "(I)I" } : Jvm.MethodName)) ∈ Tw := tm_8 (i := 169) rfl rfl
set_option maxRecDepth 100000 in
theorem wd_t1850 : (Jvm.Cond.instanceMethod ({ cls := "LentBoxesModel", name := "said", desc := "(I)I" } : Jvm.MethodName)) ∈ Tw := tm_8 (i := 170) rfl rfl
set_option maxRecDepth 100000 in
theorem wd_t1851 : (Jvm.Cond.selects "LentBoxesModel" ({ cls := "LentBoxesModel", name := "said", desc := "(I)I" } : Jvm.MethodName) ({ cls := "LentBoxesModel", name := "said", desc := "(I)I" } : Jvm.MethodName)) ∈ Tw := tm_8 (i := 171) rfl rfl
set_option maxRecDepth 100000 in
theorem wd_t1852 : (Jvm.Cond.code ({ cls := "LentBoxesModel", name := "said", desc := "(I)I" } : Jvm.MethodName) prog_14_method_134_code (4 : Nat) (Option.some Jvm.ClassFile.FieldType.int)) ∈ Tw := tm_8 (i := 172) rfl rfl
set_option maxRecDepth 100000 in
theorem wd_t1853 : (Jvm.Cond.methodLink "LentBoxesModel" (453 : Nat) ({ cls := "LentBoxesModel", name := "holds", desc := "(II)Z" } : Jvm.MethodName)) ∈ Tw := tm_8 (i := 173) rfl rfl
set_option maxRecDepth 100000 in
theorem wd_t1855 : (Jvm.Cond.instanceMethod ({ cls := "LentBoxesModel", name := "holds", desc := "(II)Z" } : Jvm.MethodName)) ∈ Tw := tm_8 (i := 175) rfl rfl
set_option maxRecDepth 100000 in
theorem wd_t1856 : (Jvm.Cond.code ({ cls := "LentBoxesModel", name := "holds", desc := "(II)Z" } : Jvm.MethodName) prog_14_method_133_code (8 : Nat) (Option.some Jvm.ClassFile.FieldType.boolean)) ∈ Tw := tm_8 (i := 176) rfl rfl
set_option maxRecDepth 100000 in
theorem wd_t1857 : (Jvm.Cond.methodLink "LentBoxesLaw" (185 : Nat) ({ cls := "LentBoxesModel", name := "image", desc := "(I)Z" } : Jvm.MethodName)) ∈ Tw := tm_8 (i := 177) rfl rfl
set_option maxRecDepth 100000 in
theorem wd_t1858 : (Jvm.Cond.instanceMethod ({ cls := "LentBoxesModel", name := "image", desc := "(I)Z" } : Jvm.MethodName)) ∈ Tw := tm_8 (i := 178) rfl rfl
set_option maxRecDepth 100000 in
theorem wd_t1859 : (Jvm.Cond.selects "LentBoxesModel" ({ cls := "LentBoxesModel", name := "image", desc := "(I)Z" } : Jvm.MethodName) ({ cls := "LentBoxesModel", name := "image", desc := "(I)Z" } : Jvm.MethodName)) ∈ Tw := tm_8 (i := 179) rfl rfl
set_option maxRecDepth 100000 in
theorem wd_t1860 : (Jvm.Cond.code ({ cls := "LentBoxesModel", name := "image", desc := "(I)Z" } : Jvm.MethodName) prog_14_method_135_code (3 : Nat) (Option.some Jvm.ClassFile.FieldType.boolean)) ∈ Tw := tm_8 (i := 180) rfl rfl
set_option maxRecDepth 100000 in
theorem wd_t1861 : (Jvm.Cond.methodLink "LentBoxesLaw" (189 : Nat) ({ cls := "LentBoxesModel", name := "restore", desc := "(I)Z" } : Jvm.MethodName)) ∈ Tw := tm_8 (i := 181) rfl rfl
set_option maxRecDepth 100000 in
theorem wd_t1862 : (Jvm.Cond.instanceMethod ({ cls := "LentBoxesModel", name := "restore", desc := "(I)Z" } : Jvm.MethodName)) ∈ Tw := tm_8 (i := 182) rfl rfl
set_option maxRecDepth 100000 in
theorem wd_t1863 : (Jvm.Cond.selects "LentBoxesModel" ({ cls := "LentBoxesModel", name := "restore", desc := "(I)Z" } : Jvm.MethodName) ({ cls := "LentBoxesModel", name := "restore", desc := "(I)Z" } : Jvm.MethodName)) ∈ Tw := tm_8 (i := 183) rfl rfl
set_option maxRecDepth 100000 in
theorem wd_t1864 : (Jvm.Cond.code ({ cls := "LentBoxesModel", name := "restore", desc := "(I)Z" } : Jvm.MethodName) prog_14_method_136_code (3 : Nat) (Option.some Jvm.ClassFile.FieldType.boolean)) ∈ Tw := tm_8 (i := 184) rfl rfl
set_option maxRecDepth 100000 in
theorem wd_t1865 : (Jvm.Cond.methodLink "LentBoxesLaw" (193 : Nat) ({ cls := "LentBoxesModel", name := "count", desc := "(I)I" } : Jvm.MethodName)) ∈ Tw := tm_8 (i := 185) rfl rfl
set_option maxRecDepth 100000 in
theorem wd_t1866 : (Jvm.Cond.instanceMethod ({ cls := "LentBoxesModel", name := "count", desc := "(I)I" } : Jvm.MethodName)) ∈ Tw := tm_8 (i := 186) rfl rfl
set_option maxRecDepth 100000 in
theorem wd_t1867 : (Jvm.Cond.selects "LentBoxesModel" ({ cls := "LentBoxesModel", name := "count", desc := "(I)I" } : Jvm.MethodName) ({ cls := "LentBoxesModel", name := "count", desc := "(I)I" } : Jvm.MethodName)) ∈ Tw := tm_8 (i := 187) rfl rfl
set_option maxRecDepth 100000 in
theorem wd_t1868 : (Jvm.Cond.code ({ cls := "LentBoxesModel", name := "count", desc := "(I)I" } : Jvm.MethodName) prog_14_method_137_code (2 : Nat) (Option.some Jvm.ClassFile.FieldType.int)) ∈ Tw := tm_8 (i := 188) rfl rfl
set_option maxRecDepth 100000 in
theorem wd_t1885 : (Jvm.Cond.fieldLink "LentBoxes$Word" (105 : Nat) "LentBoxes$Word" "letters" "J") ∈ Tw := tm_8 (i := 205) rfl rfl
set_option maxRecDepth 100000 in
theorem wd_t1886 : (Jvm.Cond.fieldLink "java/lang/Enum" (7 : Nat) "java/lang/Enum" "ordinal" "I") ∈ Tw := tm_8 (i := 206) rfl rfl
set_option maxRecDepth 100000 in
theorem wd_t1887 : (Jvm.Cond.fieldLink "java/lang/String" (9 : Nat) "java/lang/String" "value" "[B") ∈ Tw := tm_8 (i := 207) rfl rfl
set_option maxRecDepth 100000 in
theorem wd_t1888 : (Jvm.Cond.fieldLink "java/lang/String" (15 : Nat) "java/lang/String" "coder" "B") ∈ Tw := tm_8 (i := 208) rfl rfl
set_option maxRecDepth 100000 in
theorem wd_t1889 : (Jvm.Cond.laysStatic "LentBoxes$Word" "BOX" "LLentBoxes$Word;") ∈ lw_tbl := tl_8 (i := 209) rfl
set_option maxRecDepth 100000 in
theorem wd_t1890 : (Jvm.Cond.laysStatic "LentBoxes$Word" "PLOT" "LLentBoxes$Word;") ∈ lw_tbl := tl_8 (i := 210) rfl
set_option maxRecDepth 100000 in
theorem wd_t1891 : (Jvm.Cond.laysStatic "LentBoxes$Word" "DEAD" "LLentBoxes$Word;") ∈ lw_tbl := tl_8 (i := 211) rfl
set_option maxRecDepth 100000 in
theorem wd_t1892 : (Jvm.Cond.laysStatic "LentBoxes$Word" "ASKS" "LLentBoxes$Word;") ∈ lw_tbl := tl_8 (i := 212) rfl
set_option maxRecDepth 100000 in
theorem wd_t1893 : (Jvm.Cond.laysStatic "LentBoxes$Word" "FROST" "LLentBoxes$Word;") ∈ lw_tbl := tl_8 (i := 213) rfl
set_option maxRecDepth 100000 in
theorem wd_t1894 : (Jvm.Cond.laysStatic "LentBoxes$Word" "AIR" "LLentBoxes$Word;") ∈ lw_tbl := tl_8 (i := 214) rfl
set_option maxRecDepth 100000 in
theorem wd_t1895 : (Jvm.Cond.laysStatic "LentBoxes$Word" "LEND" "LLentBoxes$Word;") ∈ lw_tbl := tl_8 (i := 215) rfl
set_option maxRecDepth 100000 in
theorem wd_t1896 : (Jvm.Cond.laysStatic "LentBoxes$Word" "LAY" "LLentBoxes$Word;") ∈ lw_tbl := tl_8 (i := 216) rfl
set_option maxRecDepth 100000 in
theorem wd_t1897 : (Jvm.Cond.laysStatic "LentBoxes$Word" "SWAP" "LLentBoxes$Word;") ∈ lw_tbl := tl_8 (i := 217) rfl
set_option maxRecDepth 100000 in
theorem wd_t1898 : (Jvm.Cond.laysStatic "LentBoxes$Word" "MEND" "LLentBoxes$Word;") ∈ lw_tbl := tl_8 (i := 218) rfl
set_option maxRecDepth 100000 in
theorem wd_t1899 : (Jvm.Cond.laysStatic "LentBoxes$Word" "DAY" "LLentBoxes$Word;") ∈ lw_tbl := tl_8 (i := 219) rfl
set_option maxRecDepth 100000 in
theorem wd_t1900 : (Jvm.Cond.laysStatic "LentBoxes$Word" "LAID" "LLentBoxes$Word;") ∈ lw_tbl := tl_8 (i := 220) rfl
theorem ws_code_110 : (Jvm.Cond.code ({ cls := "java/lang/String", name := "length", desc := "()I" } : Jvm.MethodName) prog_23_method_54_code (1 : Nat) (Option.some Jvm.ClassFile.FieldType.int)) ∈ Tw := wd_t853
theorem ws_inst_110 : (Jvm.Cond.instanceMethod ({ cls := "java/lang/String", name := "length", desc := "()I" } : Jvm.MethodName)) ∈ Tw := wd_t851
theorem ws_sel_110 : (Jvm.Cond.selects "java/lang/String" ({ cls := "java/lang/String", name := "length", desc := "()I" } : Jvm.MethodName) ({ cls := "java/lang/String", name := "length", desc := "()I" } : Jvm.MethodName)) ∈ Tw := wd_t852
theorem ws_code_111 : (Jvm.Cond.code ({ cls := "java/lang/String", name := "coder", desc := "()B" } : Jvm.MethodName) prog_23_method_152_code (1 : Nat) (Option.some Jvm.ClassFile.FieldType.byte)) ∈ Tw := wd_t857
theorem ws_inst_111 : (Jvm.Cond.instanceMethod ({ cls := "java/lang/String", name := "coder", desc := "()B" } : Jvm.MethodName)) ∈ Tw := wd_t855
theorem ws_sel_111 : (Jvm.Cond.selects "java/lang/String" ({ cls := "java/lang/String", name := "coder", desc := "()B" } : Jvm.MethodName) ({ cls := "java/lang/String", name := "coder", desc := "()B" } : Jvm.MethodName)) ∈ Tw := wd_t856
theorem ws_code_112 : (Jvm.Cond.code ({ cls := "java/lang/String", name := "charAt", desc := "(I)C" } : Jvm.MethodName) prog_23_method_56_code (2 : Nat) (Option.some Jvm.ClassFile.FieldType.char)) ∈ Tw := wd_t863
theorem ws_inst_112 : (Jvm.Cond.instanceMethod ({ cls := "java/lang/String", name := "charAt", desc := "(I)C" } : Jvm.MethodName)) ∈ Tw := wd_t861
theorem ws_sel_112 : (Jvm.Cond.selects "java/lang/String" ({ cls := "java/lang/String", name := "charAt", desc := "(I)C" } : Jvm.MethodName) ({ cls := "java/lang/String", name := "charAt", desc := "(I)C" } : Jvm.MethodName)) ∈ Tw := wd_t862
theorem ws_code_113 : (Jvm.Cond.code ({ cls := "java/lang/String", name := "isLatin1", desc := "()Z" } : Jvm.MethodName) prog_23_method_154_code (1 : Nat) (Option.some Jvm.ClassFile.FieldType.boolean)) ∈ Tw := wd_t867
theorem ws_inst_113 : (Jvm.Cond.instanceMethod ({ cls := "java/lang/String", name := "isLatin1", desc := "()Z" } : Jvm.MethodName)) ∈ Tw := wd_t865
theorem ws_sel_113 : (Jvm.Cond.selects "java/lang/String" ({ cls := "java/lang/String", name := "isLatin1", desc := "()Z" } : Jvm.MethodName) ({ cls := "java/lang/String", name := "isLatin1", desc := "()Z" } : Jvm.MethodName)) ∈ Tw := wd_t866
theorem ws_code_114 : (Jvm.Cond.code ({ cls := "java/lang/StringLatin1", name := "charAt", desc := "([BI)C" } : Jvm.MethodName) prog_24_method_2_code (2 : Nat) (Option.some Jvm.ClassFile.FieldType.char)) ∈ Tw := wd_t870
theorem ws_static_114 : (Jvm.Cond.static ({ cls := "java/lang/StringLatin1", name := "charAt", desc := "([BI)C" } : Jvm.MethodName)) ∈ Tw := wd_t869
theorem ws_code_115 : (Jvm.Cond.code ({ cls := "java/lang/String", name := "checkIndex", desc := "(II)V" } : Jvm.MethodName) prog_23_method_155_code (2 : Nat) (Option.none : Option Jvm.ClassFile.FieldType)) ∈ Tw := wd_t873
theorem ws_static_115 : (Jvm.Cond.static ({ cls := "java/lang/String", name := "checkIndex", desc := "(II)V" } : Jvm.MethodName)) ∈ Tw := wd_t872
theorem ws_code_116 : (Jvm.Cond.code ({ cls := "jdk/internal/util/Preconditions", name := "checkIndex", desc := "(IILjava/util/function/BiFunction;)I" } : Jvm.MethodName) prog_32_method_11_code (3 : Nat) (Option.some Jvm.ClassFile.FieldType.int)) ∈ Tw := wd_t878
theorem ws_static_116 : (Jvm.Cond.static ({ cls := "jdk/internal/util/Preconditions", name := "checkIndex", desc := "(IILjava/util/function/BiFunction;)I" } : Jvm.MethodName)) ∈ Tw := wd_t877
theorem ws_ini_S : (Jvm.Cond.initialized "java/lang/String") ∈ Tw := wd_t23
theorem ws_ini_L : (Jvm.Cond.initialized "java/lang/StringLatin1") ∈ Tw := wd_t24
theorem ws_ini_P : (Jvm.Cond.initialized "jdk/internal/util/Preconditions") ∈ Tw := wd_t25
theorem ws_l335 : (Jvm.Cond.methodLink "java/lang/String" (335 : Nat) ({ cls := "java/lang/String", name := "coder", desc := "()B" } : Jvm.MethodName)) ∈ Tw := wd_t854
theorem ws_l492 : (Jvm.Cond.methodLink "java/lang/String" (492 : Nat) ({ cls := "java/lang/String", name := "isLatin1", desc := "()Z" } : Jvm.MethodName)) ∈ Tw := wd_t864
theorem ws_l495 : (Jvm.Cond.methodLink "java/lang/String" (495 : Nat) ({ cls := "java/lang/StringLatin1", name := "charAt", desc := "([BI)C" } : Jvm.MethodName)) ∈ Tw := wd_t868
theorem ws_l9 : (Jvm.Cond.methodLink "java/lang/StringLatin1" (9 : Nat) ({ cls := "java/lang/String", name := "checkIndex", desc := "(II)V" } : Jvm.MethodName)) ∈ Tw := wd_t871
theorem ws_l1059 : (Jvm.Cond.methodLink "java/lang/String" (1059 : Nat) ({ cls := "jdk/internal/util/Preconditions", name := "checkIndex", desc := "(IILjava/util/function/BiFunction;)I" } : Jvm.MethodName)) ∈ Tw := wd_t876
theorem ws_f38 : (Jvm.Cond.fieldLink "java/lang/String" (38 : Nat) "java/lang/String" "COMPACT_STRINGS" "Z") ∈ Tw := wd_t858
theorem ws_f9 : (Jvm.Cond.fieldLink "java/lang/String" (9 : Nat) "java/lang/String" "value" "[B") ∈ Tw := wd_t1887
theorem ws_f15 : (Jvm.Cond.fieldLink "java/lang/String" (15 : Nat) "java/lang/String" "coder" "B") ∈ Tw := wd_t1888
theorem ws_f1053 : (Jvm.Cond.fieldLink "java/lang/String" (1053 : Nat) "jdk/internal/util/Preconditions" "SIOOBE_FORMATTER" "Ljava/util/function/BiFunction;") ∈ Tw := wd_t874
theorem wt_0 : (Jvm.Cond.initialized "java/lang/Throwable") ∈ Tw := wd_t18
theorem wt_1 : (Jvm.Cond.superclass "java/lang/Throwable" "java/lang/Object") ∈ Tw := wd_t1131
theorem wt_2 : (Jvm.Cond.instanceMethod ({ cls := "java/lang/Throwable", name := "fillInStackTrace", desc := "()Ljava/lang/Throwable;" } : Jvm.MethodName)) ∈ Tw := wd_t1140
theorem wt_3 : (Jvm.Cond.codeSync ({ cls := "java/lang/Throwable", name := "fillInStackTrace", desc := "()Ljava/lang/Throwable;" } : Jvm.MethodName) prog_27_method_18_code (1 : Nat) (Option.some (Jvm.ClassFile.FieldType.object "java/lang/Throwable"))) ∈ Tw := wd_t1142
theorem wt_4 : (Jvm.Cond.instanceMethod ({ cls := "java/lang/Throwable", name := "fillInStackTrace", desc := "(I)Ljava/lang/Throwable;" } : Jvm.MethodName)) ∈ Tw := wd_t1145
theorem wt_5 : (Jvm.Cond.native ({ cls := "java/lang/Throwable", name := "fillInStackTrace", desc := "(I)Ljava/lang/Throwable;" } : Jvm.MethodName)) ∈ Tw := wd_t1147
theorem wt_6 : (Jvm.Cond.instanceMethod ({ cls := "java/lang/Throwable", name := "<init>", desc := "()V" } : Jvm.MethodName)) ∈ Tw := wd_t1132
theorem wt_7 : (Jvm.Cond.code ({ cls := "java/lang/Throwable", name := "<init>", desc := "()V" } : Jvm.MethodName) prog_27_method_1_code (1 : Nat) (Option.none : Option Jvm.ClassFile.FieldType)) ∈ Tw := wd_t1133
theorem wt_8 : (Jvm.Cond.instanceMethod ({ cls := "java/lang/Object", name := "<init>", desc := "()V" } : Jvm.MethodName)) ∈ Tw := wd_t33
theorem wt_9 : (Jvm.Cond.code ({ cls := "java/lang/Object", name := "<init>", desc := "()V" } : Jvm.MethodName) object_method_1_code (1 : Nat) (Option.none : Option Jvm.ClassFile.FieldType)) ∈ Tw := wd_t34
theorem wt_10 : (Jvm.Cond.methodLink "java/lang/Throwable" (1 : Nat) ({ cls := "java/lang/Object", name := "<init>", desc := "()V" } : Jvm.MethodName)) ∈ Tw := wd_t1134
theorem wt_11 : (Jvm.Cond.methodLink "java/lang/Throwable" (27 : Nat) ({ cls := "java/lang/Throwable", name := "fillInStackTrace", desc := "()Ljava/lang/Throwable;" } : Jvm.MethodName)) ∈ Tw := wd_t1139
theorem wt_12 : (Jvm.Cond.methodLink "java/lang/Throwable" (202 : Nat) ({ cls := "java/lang/Throwable", name := "fillInStackTrace", desc := "(I)Ljava/lang/Throwable;" } : Jvm.MethodName)) ∈ Tw := wd_t1143
theorem wt_13 : (Jvm.Cond.fieldLink "java/lang/Throwable" (7 : Nat) "java/lang/Throwable" "cause" "Ljava/lang/Throwable;") ∈ Tw := wd_t1163
theorem wt_14 : (Jvm.Cond.lays "java/lang/Throwable" "java/lang/Throwable" "cause" "Ljava/lang/Throwable;") ∈ Tw := wd_t1121
theorem wt_15 : (Jvm.Cond.fieldLink "java/lang/Throwable" (17 : Nat) "java/lang/Throwable" "stackTrace" "[Ljava/lang/StackTraceElement;") ∈ Tw := wd_t1164
theorem wt_16 : (Jvm.Cond.lays "java/lang/Throwable" "java/lang/Throwable" "stackTrace" "[Ljava/lang/StackTraceElement;") ∈ Tw := wd_t1123
theorem wt_17 : (Jvm.Cond.fieldLink "java/lang/Throwable" (24 : Nat) "java/lang/Throwable" "suppressedExceptions" "Ljava/util/List;") ∈ Tw := wd_t1165
theorem wt_18 : (Jvm.Cond.lays "java/lang/Throwable" "java/lang/Throwable" "suppressedExceptions" "Ljava/util/List;") ∈ Tw := wd_t1125
theorem wt_19 : (Jvm.Cond.fieldLink "java/lang/Throwable" (13 : Nat) "java/lang/Throwable" "UNASSIGNED_STACK" "[Ljava/lang/StackTraceElement;") ∈ Tw := wd_t1135
theorem wt_20 : (Jvm.Cond.laysStatic "java/lang/Throwable" "UNASSIGNED_STACK" "[Ljava/lang/StackTraceElement;") ∈ lw_tbl := wd_t1136
theorem wt_21 : (Jvm.Cond.fieldLink "java/lang/Throwable" (20 : Nat) "java/lang/Throwable" "SUPPRESSED_SENTINEL" "Ljava/util/List;") ∈ Tw := wd_t1137
theorem wt_22 : (Jvm.Cond.laysStatic "java/lang/Throwable" "SUPPRESSED_SENTINEL" "Ljava/util/List;") ∈ lw_tbl := wd_t1138
theorem wt_23 : (Jvm.Cond.lays "java/lang/Throwable" "java/lang/Throwable" "detailMessage" "Ljava/lang/String;") ∈ Tw := wd_t1127
theorem wu_0 : (Jvm.Cond.instanceMethod ({ cls := "java/lang/Throwable", name := "<init>", desc := "(Ljava/lang/String;)V" } : Jvm.MethodName)) ∈ Tw := wd_t1159
theorem wu_1 : (Jvm.Cond.code ({ cls := "java/lang/Throwable", name := "<init>", desc := "(Ljava/lang/String;)V" } : Jvm.MethodName) prog_27_method_2_code (2 : Nat) (Option.none : Option Jvm.ClassFile.FieldType)) ∈ Tw := wd_t1160
theorem wu_2 : (Jvm.Cond.fieldLink "java/lang/Throwable" (31 : Nat) "java/lang/Throwable" "detailMessage" "Ljava/lang/String;") ∈ Tw := wd_t1162
theorem wu_3 : (Jvm.Cond.lays "java/lang/Throwable" "java/lang/Throwable" "detailMessage" "Ljava/lang/String;") ∈ Tw := wd_t1127
theorem wv_0_0 : (Jvm.Cond.instanceMethod ({ cls := "java/util/NoSuchElementException", name := "<init>", desc := "(Ljava/lang/String;)V" } : Jvm.MethodName)) ∈ Tw := wd_t1150
theorem wv_0_1 : (Jvm.Cond.code ({ cls := "java/util/NoSuchElementException", name := "<init>", desc := "(Ljava/lang/String;)V" } : Jvm.MethodName) prog_31_method_4_code (2 : Nat) (Option.none : Option Jvm.ClassFile.FieldType)) ∈ Tw := wd_t1151
theorem wv_0_2 : (Jvm.Cond.methodLink "java/util/NoSuchElementException" (13 : Nat) ({ cls := "java/lang/RuntimeException", name := "<init>", desc := "(Ljava/lang/String;)V" } : Jvm.MethodName)) ∈ Tw := wd_t1152
theorem wv_0_3 : (Jvm.Cond.instanceMethod ({ cls := "java/lang/RuntimeException", name := "<init>", desc := "(Ljava/lang/String;)V" } : Jvm.MethodName)) ∈ Tw := wd_t1153
theorem wv_0_4 : (Jvm.Cond.declares ({ cls := "java/lang/RuntimeException", name := "<init>", desc := "(Ljava/lang/String;)V" } : Jvm.MethodName)) ∈ lw_tbl := wd_t1113
theorem wv_1_0 : (Jvm.Cond.instanceMethod ({ cls := "java/lang/RuntimeException", name := "<init>", desc := "(Ljava/lang/String;)V" } : Jvm.MethodName)) ∈ Tw := wd_t1153
theorem wv_1_1 : (Jvm.Cond.code ({ cls := "java/lang/RuntimeException", name := "<init>", desc := "(Ljava/lang/String;)V" } : Jvm.MethodName) prog_22_method_2_code (2 : Nat) (Option.none : Option Jvm.ClassFile.FieldType)) ∈ Tw := wd_t1154
theorem wv_1_2 : (Jvm.Cond.methodLink "java/lang/RuntimeException" (7 : Nat) ({ cls := "java/lang/Exception", name := "<init>", desc := "(Ljava/lang/String;)V" } : Jvm.MethodName)) ∈ Tw := wd_t1155
theorem wv_1_3 : (Jvm.Cond.instanceMethod ({ cls := "java/lang/Exception", name := "<init>", desc := "(Ljava/lang/String;)V" } : Jvm.MethodName)) ∈ Tw := wd_t1156
theorem wv_1_4 : (Jvm.Cond.declares ({ cls := "java/lang/Exception", name := "<init>", desc := "(Ljava/lang/String;)V" } : Jvm.MethodName)) ∈ lw_tbl := wd_t1115
theorem wv_2_0 : (Jvm.Cond.instanceMethod ({ cls := "java/lang/Exception", name := "<init>", desc := "(Ljava/lang/String;)V" } : Jvm.MethodName)) ∈ Tw := wd_t1156
theorem wv_2_1 : (Jvm.Cond.code ({ cls := "java/lang/Exception", name := "<init>", desc := "(Ljava/lang/String;)V" } : Jvm.MethodName) prog_19_method_2_code (2 : Nat) (Option.none : Option Jvm.ClassFile.FieldType)) ∈ Tw := wd_t1157
theorem wv_2_2 : (Jvm.Cond.methodLink "java/lang/Exception" (7 : Nat) ({ cls := "java/lang/Throwable", name := "<init>", desc := "(Ljava/lang/String;)V" } : Jvm.MethodName)) ∈ Tw := wd_t1158
theorem wv_2_3 : (Jvm.Cond.instanceMethod ({ cls := "java/lang/Throwable", name := "<init>", desc := "(Ljava/lang/String;)V" } : Jvm.MethodName)) ∈ Tw := wd_t1159
theorem wv_2_4 : (Jvm.Cond.declares ({ cls := "java/lang/Throwable", name := "<init>", desc := "(Ljava/lang/String;)V" } : Jvm.MethodName)) ∈ lw_tbl := wd_t1117
theorem wo_0 : (Jvm.Cond.methodLink "LentBoxes" (187 : Nat) ({ cls := "java/util/NoSuchElementException", name := "<init>", desc := "(Ljava/lang/String;)V" } : Jvm.MethodName)) ∈ Tw := wd_t1149
theorem wo_1 : (Jvm.Cond.instantiable "java/util/NoSuchElementException" (6 : Nat)) ∈ Tw := wd_t1110
theorem wo_2 : (Jvm.Cond.castable "java/util/NoSuchElementException" "java/util/NoSuchElementException") ∈ lw_tbl := wd_t1111
theorem wo_3 : (Jvm.Cond.selects "java/util/NoSuchElementException" ({ cls := "java/lang/Throwable", name := "fillInStackTrace", desc := "(I)Ljava/lang/Throwable;" } : Jvm.MethodName) ({ cls := "java/lang/Throwable", name := "fillInStackTrace", desc := "(I)Ljava/lang/Throwable;" } : Jvm.MethodName)) ∈ Tw := wd_t1118
theorem wo_4 : (Jvm.Cond.selects "java/util/NoSuchElementException" ({ cls := "java/lang/Throwable", name := "fillInStackTrace", desc := "()Ljava/lang/Throwable;" } : Jvm.MethodName) ({ cls := "java/lang/Throwable", name := "fillInStackTrace", desc := "()Ljava/lang/Throwable;" } : Jvm.MethodName)) ∈ Tw := wd_t1119
theorem wo_5 : (Jvm.Cond.lays "java/util/NoSuchElementException" "java/lang/Throwable" "cause" "Ljava/lang/Throwable;") ∈ Tw := wd_t1120
theorem wo_6 : (Jvm.Cond.lays "java/util/NoSuchElementException" "java/lang/Throwable" "stackTrace" "[Ljava/lang/StackTraceElement;") ∈ Tw := wd_t1122
theorem wo_7 : (Jvm.Cond.lays "java/util/NoSuchElementException" "java/lang/Throwable" "suppressedExceptions" "Ljava/util/List;") ∈ Tw := wd_t1124
theorem wo_8 : (Jvm.Cond.lays "java/util/NoSuchElementException" "java/lang/Throwable" "detailMessage" "Ljava/lang/String;") ∈ Tw := wd_t1126
theorem wo_9 : (Jvm.Cond.fieldLink "java/lang/Throwable" (198 : Nat) "java/lang/Throwable" "backtrace" "Ljava/lang/Object;") ∈ Tw := wd_t1130
theorem wo_10 : (Jvm.Cond.lays "java/lang/Throwable" "java/lang/Throwable" "backtrace" "Ljava/lang/Object;") ∈ Tw := wd_t1129
theorem wo_11 : (Jvm.Cond.lays "java/util/NoSuchElementException" "java/lang/Throwable" "backtrace" "Ljava/lang/Object;") ∈ Tw := wd_t1128
theorem wo_12 : (Jvm.Cond.initialized "java/util/NoSuchElementException") ∈ Tw := wd_t21
theorem wo_13 : (Jvm.Cond.classLink "LentBoxes" (183 : Nat) "java/util/NoSuchElementException") ∈ Tw := wd_t1109
theorem wo_14 : (Jvm.Cond.classLink "LentBoxesLaw" (13 : Nat) "java/util/NoSuchElementException") ∈ Tw := wd_t1104
theorem wl_code_157 : (Jvm.Cond.codeWith ({ cls := "LentBoxesLaw", name := "dead", desc := "(LLentBoxes;II[J)I" } : Jvm.MethodName) method_3_code (5 : Nat) (Option.some Jvm.ClassFile.FieldType.int) [((0 : Nat), (10 : Nat), (13 : Nat), (13 : Nat))]) ∈ Tw := wd_t1103
theorem wl_static_157 : (Jvm.Cond.static ({ cls := "LentBoxesLaw", name := "dead", desc := "(LLentBoxes;II[J)I" } : Jvm.MethodName)) ∈ Tw := wd_t1102
theorem wl_code_165 : (Jvm.Cond.codeWith ({ cls := "LentBoxesLaw", name := "wear", desc := "(LLentBoxes;II[J)I" } : Jvm.MethodName) method_4_code (5 : Nat) (Option.some Jvm.ClassFile.FieldType.int) [((0 : Nat), (10 : Nat), (13 : Nat), (13 : Nat))]) ∈ Tw := wd_t1177
theorem wl_static_165 : (Jvm.Cond.static ({ cls := "LentBoxesLaw", name := "wear", desc := "(LLentBoxes;II[J)I" } : Jvm.MethodName)) ∈ Tw := wd_t1176
theorem wl_code_168 : (Jvm.Cond.codeWith ({ cls := "LentBoxesLaw", name := "mean", desc := "(LLentBoxes;I[J)I" } : Jvm.MethodName) method_5_code (4 : Nat) (Option.some Jvm.ClassFile.FieldType.int) [((0 : Nat), (9 : Nat), (12 : Nat), (13 : Nat))]) ∈ Tw := wd_t1188
theorem wl_static_168 : (Jvm.Cond.static ({ cls := "LentBoxesLaw", name := "mean", desc := "(LLentBoxes;I[J)I" } : Jvm.MethodName)) ∈ Tw := wd_t1187
theorem wl_ini : (Jvm.Cond.initialized "LentBoxesLaw") ∈ Tw := wd_t0
theorem wl_link_157 : (Jvm.Cond.methodLink "LentBoxesLaw" (53 : Nat) ({ cls := "LentBoxesLaw", name := "dead", desc := "(LLentBoxes;II[J)I" } : Jvm.MethodName)) ∈ Tw := wd_t1101
theorem wl_link_165 : (Jvm.Cond.methodLink "LentBoxesLaw" (138 : Nat) ({ cls := "LentBoxesLaw", name := "wear", desc := "(LLentBoxes;II[J)I" } : Jvm.MethodName)) ∈ Tw := wd_t1175
theorem wl_link_168 : (Jvm.Cond.methodLink "LentBoxesLaw" (141 : Nat) ({ cls := "LentBoxesLaw", name := "mean", desc := "(LLentBoxes;I[J)I" } : Jvm.MethodName)) ∈ Tw := wd_t1186
theorem wz_ls_CS : (Jvm.Cond.laysStatic "java/lang/String" "COMPACT_STRINGS" "Z") ∈ lw_tbl := wd_t859
theorem wz_ls_SI : (Jvm.Cond.laysStatic "jdk/internal/util/Preconditions" "SIOOBE_FORMATTER" "Ljava/util/function/BiFunction;") ∈ lw_tbl := wd_t875
theorem wz_ls_ALL : (Jvm.Cond.laysStatic "LentBoxes$Word" "ALL" "[LLentBoxes$Word;") ∈ lw_tbl := wd_t481
theorem wz_ls_SW : (Jvm.Cond.laysStatic "LentBoxes$1" "$SwitchMap$LentBoxes$Word" "[I") ∈ lw_tbl := wd_t496
theorem wz_ls_0 : (Jvm.Cond.laysStatic "LentBoxes$Word" "BOX" "LLentBoxes$Word;") ∈ lw_tbl := wd_t1889
theorem wz_ls_1 : (Jvm.Cond.laysStatic "LentBoxes$Word" "PLOT" "LLentBoxes$Word;") ∈ lw_tbl := wd_t1890
theorem wz_ls_2 : (Jvm.Cond.laysStatic "LentBoxes$Word" "DEAD" "LLentBoxes$Word;") ∈ lw_tbl := wd_t1891
theorem wz_ls_3 : (Jvm.Cond.laysStatic "LentBoxes$Word" "KIN" "LLentBoxes$Word;") ∈ lw_tbl := wd_t1025
theorem wz_ls_4 : (Jvm.Cond.laysStatic "LentBoxes$Word" "ASKS" "LLentBoxes$Word;") ∈ lw_tbl := wd_t1892
theorem wz_ls_5 : (Jvm.Cond.laysStatic "LentBoxes$Word" "FROST" "LLentBoxes$Word;") ∈ lw_tbl := wd_t1893
theorem wz_ls_6 : (Jvm.Cond.laysStatic "LentBoxes$Word" "AIR" "LLentBoxes$Word;") ∈ lw_tbl := wd_t1894
theorem wz_ls_7 : (Jvm.Cond.laysStatic "LentBoxes$Word" "LEND" "LLentBoxes$Word;") ∈ lw_tbl := wd_t1895
theorem wz_ls_8 : (Jvm.Cond.laysStatic "LentBoxes$Word" "LAY" "LLentBoxes$Word;") ∈ lw_tbl := wd_t1896
theorem wz_ls_9 : (Jvm.Cond.laysStatic "LentBoxes$Word" "SWAP" "LLentBoxes$Word;") ∈ lw_tbl := wd_t1897
theorem wz_ls_10 : (Jvm.Cond.laysStatic "LentBoxes$Word" "MEND" "LLentBoxes$Word;") ∈ lw_tbl := wd_t1898
theorem wz_ls_11 : (Jvm.Cond.laysStatic "LentBoxes$Word" "DAY" "LLentBoxes$Word;") ∈ lw_tbl := wd_t1899
theorem wz_ls_12 : (Jvm.Cond.laysStatic "LentBoxes$Word" "OR" "LLentBoxes$Word;") ∈ lw_tbl := wd_t1053
theorem wz_ls_13 : (Jvm.Cond.laysStatic "LentBoxes$Word" "AND" "LLentBoxes$Word;") ∈ lw_tbl := wd_t1047
theorem wz_ls_14 : (Jvm.Cond.laysStatic "LentBoxes$Word" "NOT" "LLentBoxes$Word;") ∈ lw_tbl := wd_t1010
theorem wz_ls_15 : (Jvm.Cond.laysStatic "LentBoxes$Word" "COMING" "LLentBoxes$Word;") ∈ lw_tbl := wd_t1038
theorem wz_ls_16 : (Jvm.Cond.laysStatic "LentBoxes$Word" "WAITING" "LLentBoxes$Word;") ∈ lw_tbl := wd_t1040
theorem wz_ls_17 : (Jvm.Cond.laysStatic "LentBoxes$Word" "LYING" "LLentBoxes$Word;") ∈ lw_tbl := wd_t1042
theorem wz_ls_18 : (Jvm.Cond.laysStatic "LentBoxes$Word" "LAID" "LLentBoxes$Word;") ∈ lw_tbl := wd_t1900
theorem wz_ls_19 : (Jvm.Cond.laysStatic "LentBoxes$Word" "IN" "LLentBoxes$Word;") ∈ lw_tbl := wd_t1023
theorem wz_ls_20 : (Jvm.Cond.laysStatic "LentBoxes$Word" "LONG" "LLentBoxes$Word;") ∈ lw_tbl := wd_t1027
theorem wz_ls_21 : (Jvm.Cond.laysStatic "LentBoxes$Word" "WAITED" "LLentBoxes$Word;") ∈ lw_tbl := wd_t1029
theorem wz_ls_22 : (Jvm.Cond.laysStatic "LentBoxes$Word" "LAIN" "LLentBoxes$Word;") ∈ lw_tbl := wd_t1031
theorem wz_ls_23 : (Jvm.Cond.laysStatic "LentBoxes$Word" "NUMBER" "LLentBoxes$Word;") ∈ lw_tbl := wd_t1033
theorem wz_ini_W : (Jvm.Cond.initialized "LentBoxes$Word") ∈ Tw := wd_t15
theorem wz_ini_1 : (Jvm.Cond.initialized "LentBoxes$1") ∈ Tw := wd_t16
theorem wz_sr_333 : (Jvm.Cond.stringRef "LentBoxes" (333 : Nat) " comes") ∈ lw_tbl := wd_t845
theorem wz_sr_338 : (Jvm.Cond.stringRef "LentBoxes" (338 : Nat) " waits") ∈ lw_tbl := wd_t898
theorem wz_sr_340 : (Jvm.Cond.stringRef "LentBoxes" (340 : Nat) " lies in ") ∈ lw_tbl := wd_t899
theorem wz_sr_345 : (Jvm.Cond.stringRef "LentBoxes" (345 : Nat) " laid in ") ∈ lw_tbl := wd_t900
theorem wz_sr_185 : (Jvm.Cond.stringRef "LentBoxes" (185 : Nat) "no such one") ∈ lw_tbl := wd_t1148
theorem wz_sr_214 : (Jvm.Cond.stringRef "LentBoxes" (214 : Nat) "no such what") ∈ lw_tbl := wd_t1174
theorem wz_sr_316 : (Jvm.Cond.stringRef "LentBoxes" (316 : Nat) "no such ones") ∈ lw_tbl := wd_t1182
theorem wz_in_0 : (Jvm.Cond.instantiable "LentBoxes" (19 : Nat)) ∈ Tw := wd_t28
theorem wz_in_1 : (Jvm.Cond.instantiable "LentBoxes$Tape" (12 : Nat)) ∈ Tw := wd_t36
theorem wz_in_2 : (Jvm.Cond.instantiable "LentBoxes$World" (4 : Nat)) ∈ Tw := wd_t91
theorem wz_in_3 : (Jvm.Cond.instantiable "LentBoxes$Vestry" (19 : Nat)) ∈ Tw := wd_t97
theorem wz_in_4 : (Jvm.Cond.instantiable "LentBoxes$State" (13 : Nat)) ∈ Tw := wd_t195
theorem wz_in_5 : (Jvm.Cond.instantiable "LentBoxes$Sentence" (6 : Nat)) ∈ Tw := wd_t260
theorem wz_in_6 : (Jvm.Cond.instantiable "LentBoxes$Past" (3 : Nat)) ∈ Tw := wd_t314
theorem wz_in_7 : (Jvm.Cond.instantiable "LentBoxes$Book" (4 : Nat)) ∈ Tw := wd_t339
theorem wz_in_8 : (Jvm.Cond.instantiable "LentBoxes$Matching" (4 : Nat)) ∈ Tw := wd_t359
theorem wz_in_9 : (Jvm.Cond.instantiable "LentBoxes$Draws" (1 : Nat)) ∈ Tw := wd_t380
theorem wz_in_10 : (Jvm.Cond.instantiable "LentBoxesModel" (46 : Nat)) ∈ Tw := wd_t1204
