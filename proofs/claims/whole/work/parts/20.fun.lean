/-! ===== written by gen_fun.py: do not edit ===== -/
abbrev scr0 : Nat × (Nat → Int) := (0, fun _ => 0)
def Mi_15 : mM := (false, false, 1, 3, (0, 0), 0, rs_7, cd_15, [(3, [0, 1, 2])])
abbrev env_15 (m : Nat) : Nat → List mV → mS → Option (Int × mS) := fun j as s => none
def F_15 (m : Nat) (as : List mV) (s : mS) : Option (Int × mS) := runS TT Mi_15 scr0 (env_15 m) (m + 1) 0 (ent 0 as) [] s (0, 0)
def l_Tp_append_L3 (m : Nat) (n : Nat) (x1 : Int) (x2 : Int) (s : mS) : Option (Int × mS) := runS TT Mi_15 scr0 (env_15 m) n 3 [(0, rv (some 1)), (1, iv x1), (2, iv x2)] [] s (0, 0)
def f_Tp_append (m : Nat) (a1 : Int) (s : mS) : Option (Int × mS) := F_15 m [rv (some 1), iv a1] s
def Mi_14 : mM := (false, false, 0, 6, (0, 0), 1, rs_0, cd_14, [])
abbrev env_14 (m : Nat) : Nat → List mV → mS → Option (Int × mS) := fun j as s => (bsel (Nat.beq j 15) (F_15 m as s) none)
def F_14 (m : Nat) (as : List mV) (s : mS) : Option (Int × mS) := runS TT Mi_14 scr0 (env_14 m) (m + 1) 0 (ent 0 as) [] s (0, 0)
def f_X_feed (m : Nat) (a1 : Int) (a2 : Int) (a3 : Int) (a4 : Int) (a5 : Int) (s : mS) : Option (Int × mS) := F_14 m [rv (some 0), iv a1, iv a2, iv a3, iv a4, iv a5] s
def Mi_16 : mM := (false, false, 0, 2, (0, 0), 4, rs_0, cd_16, [])
abbrev env_16 (m : Nat) : Nat → List mV → mS → Option (Int × mS) := fun j as s => none
def F_16 (m : Nat) (as : List mV) (s : mS) : Option (Int × mS) := runS TT Mi_16 scr0 (env_16 m) (m + 1) 0 (ent 0 as) [] s (0, 0)
def f_X_end (m : Nat) (a1 : Int) (s : mS) : Option (Int × mS) := F_16 m [rv (some 0), iv a1] s
def Mi_20 : mM := (false, false, 99, 2, (0, 0), 1, rs_0, cd_20, [])
abbrev env_20 (m : Nat) : Nat → List mV → mS → Option (Int × mS) := fun j as s => none
def F_20 (m : Nat) (as : List mV) (s : mS) : Option (Int × mS) := runS TT Mi_20 scr0 (env_20 m) (m + 1) 0 (ent 0 as) [] s (0, 0)
def f_Jm_min (m : Nat) (a0 : Int) (a1 : Int) (s : mS) : Option (Int × mS) := F_20 m [iv a0, iv a1] s
def Mi_21 : mM := (false, false, 1, 2, (0, 0), 1, rs_7, cd_21, [])
abbrev env_21 (m : Nat) : Nat → List mV → mS → Option (Int × mS) := fun j as s => none
def F_21 (m : Nat) (as : List mV) (s : mS) : Option (Int × mS) := runS TT Mi_21 scr0 (env_21 m) (m + 1) 0 (ent 0 as) [] s (0, 0)
def f_Tp_signOf (m : Nat) (a0 : Int) (s : mS) : Option (Int × mS) := F_21 m [iv a0] s
def Mi_22 : mM := (false, false, 99, 3, (0, 0), 3, rs_9, cd_22, [(2, [0, 2])])
abbrev env_22 (m : Nat) : Nat → List mV → mS → Option (Int × mS) := fun j as s => none
def F_22 (m : Nat) (as : List mV) (s : mS) : Option (Int × mS) := runS TT Mi_22 scr0 (env_22 m) (m + 1) 0 (ent 0 as) [] s (0, 0)
def l_Wo_of_L2 (m : Nat) (n : Nat) (x0 : Int) (x2 : Int) (s : mS) : Option (Int × mS) := runS TT Mi_22 scr0 (env_22 m) n 2 [(0, jv x0), (2, iv x2)] [] s (0, 0)
def f_Wo_of (m : Nat) (a0 : Int) (s : mS) : Option (Int × mS) := F_22 m [jv a0] s
def Mi_19 : mM := (false, false, 1, 5, (0, 0), 0, rs_7, cd_19, [(20, [0, 1]), (69, [0, 1]), (135, [0, 2, 3]), (192, [0, 2, 3, 4]), (239, [0, 2, 3])])
abbrev env_19 (m : Nat) : Nat → List mV → mS → Option (Int × mS) := fun j as s => (bsel (Nat.beq j 20) (F_20 m as s) (bsel (Nat.beq j 21) (F_21 m as s) (bsel (Nat.beq j 22) (F_22 m as s) none)))
def F_19 (m : Nat) (as : List mV) (s : mS) : Option (Int × mS) := runS TT Mi_19 scr0 (env_19 m) (m + 1) 0 (ent 0 as) [] s (0, 0)
def l_Tp_advance_L20 (m : Nat) (n : Nat) (x1 : Int) (s : mS) : Option (Int × mS) := runS TT Mi_19 scr0 (env_19 m) n 20 [(0, rv (some 1)), (1, iv x1)] [] s (0, 0)
def l_Tp_advance_L69 (m : Nat) (n : Nat) (x1 : Int) (s : mS) : Option (Int × mS) := runS TT Mi_19 scr0 (env_19 m) n 69 [(0, rv (some 1)), (1, iv x1)] [] s (0, 0)
def l_Tp_advance_L135 (m : Nat) (n : Nat) (x2 : Int) (x3 : Int) (s : mS) : Option (Int × mS) := runS TT Mi_19 scr0 (env_19 m) n 135 [(0, rv (some 1)), (2, iv x2), (3, iv x3)] [] s (0, 0)
def l_Tp_advance_L192 (m : Nat) (n : Nat) (x2 : Int) (x3 : Int) (x4 : Int) (s : mS) : Option (Int × mS) := runS TT Mi_19 scr0 (env_19 m) n 192 [(0, rv (some 1)), (2, iv x2), (3, iv x3), (4, iv x4)] [] s (0, 0)
def l_Tp_advance_L239 (m : Nat) (n : Nat) (x2 : Int) (x3 : Int) (s : mS) : Option (Int × mS) := runS TT Mi_19 scr0 (env_19 m) n 239 [(0, rv (some 1)), (2, iv x2), (3, iv x3)] [] s (0, 0)
def f_Tp_advance (m : Nat) (s : mS) : Option (Int × mS) := F_19 m [rv (some 1)] s
def Mi_18 : mM := (false, false, 1, 2, (0, 0), 0, rs_7, cd_18, [])
abbrev env_18 (m : Nat) : Nat → List mV → mS → Option (Int × mS) := fun j as s => (bsel (Nat.beq j 19) (F_19 m as s) none)
def F_18 (m : Nat) (as : List mV) (s : mS) : Option (Int × mS) := runS TT Mi_18 scr0 (env_18 m) (m + 1) 0 (ent 0 as) [] s (0, 0)
def f_Tp_open (m : Nat) (a1 : Int) (s : mS) : Option (Int × mS) := F_18 m [rv (some 1), iv a1] s
def Mi_8 : mM := (false, false, 99, 4, (0, 0), 0, rs_0, cd_8, [(5, [0, 1, 2, 3])])
abbrev env_8 (m : Nat) : Nat → List mV → mS → Option (Int × mS) := fun j as s => none
def F_8 (m : Nat) (as : List mV) (s : mS) : Option (Int × mS) := runS TT Mi_8 scr0 (env_8 m) (m + 1) 0 (ent 0 as) [] s (0, 0)
def l_Ja_fill_228_L5 (m : Nat) (n : Nat) (x1 : Int) (x2 : Int) (x3 : Int) (s : mS) : Option (Int × mS) := runS TT Mi_8 scr0 (env_8 m) n 5 [(0, rv (some 228)), (1, iv x1), (2, iv x2), (3, iv x3)] [] s (0, 0)
def f_Ja_fill_228 (m : Nat) (a1 : Int) (s : mS) : Option (Int × mS) := F_8 m [rv (some 228), iv a1] s
def l_Ja_fill_229_L5 (m : Nat) (n : Nat) (x1 : Int) (x2 : Int) (x3 : Int) (s : mS) : Option (Int × mS) := runS TT Mi_8 scr0 (env_8 m) n 5 [(0, rv (some 229)), (1, iv x1), (2, iv x2), (3, iv x3)] [] s (0, 0)
def f_Ja_fill_229 (m : Nat) (a1 : Int) (s : mS) : Option (Int × mS) := F_8 m [rv (some 229), iv a1] s
def l_Ja_fill_18_L5 (m : Nat) (n : Nat) (x1 : Int) (x2 : Int) (x3 : Int) (s : mS) : Option (Int × mS) := runS TT Mi_8 scr0 (env_8 m) n 5 [(0, rv (some 18)), (1, iv x1), (2, iv x2), (3, iv x3)] [] s (0, 0)
def f_Ja_fill_18 (m : Nat) (a1 : Int) (s : mS) : Option (Int × mS) := F_8 m [rv (some 18), iv a1] s
def l_Ja_fill_19_L5 (m : Nat) (n : Nat) (x1 : Int) (x2 : Int) (x3 : Int) (s : mS) : Option (Int × mS) := runS TT Mi_8 scr0 (env_8 m) n 5 [(0, rv (some 19)), (1, iv x1), (2, iv x2), (3, iv x3)] [] s (0, 0)
def f_Ja_fill_19 (m : Nat) (a1 : Int) (s : mS) : Option (Int × mS) := F_8 m [rv (some 19), iv a1] s
def l_Ja_fill_20_L5 (m : Nat) (n : Nat) (x1 : Int) (x2 : Int) (x3 : Int) (s : mS) : Option (Int × mS) := runS TT Mi_8 scr0 (env_8 m) n 5 [(0, rv (some 20)), (1, iv x1), (2, iv x2), (3, iv x3)] [] s (0, 0)
def f_Ja_fill_20 (m : Nat) (a1 : Int) (s : mS) : Option (Int × mS) := F_8 m [rv (some 20), iv a1] s
def l_Ja_fill_21_L5 (m : Nat) (n : Nat) (x1 : Int) (x2 : Int) (x3 : Int) (s : mS) : Option (Int × mS) := runS TT Mi_8 scr0 (env_8 m) n 5 [(0, rv (some 21)), (1, iv x1), (2, iv x2), (3, iv x3)] [] s (0, 0)
def f_Ja_fill_21 (m : Nat) (a1 : Int) (s : mS) : Option (Int × mS) := F_8 m [rv (some 21), iv a1] s
def l_Ja_fill_22_L5 (m : Nat) (n : Nat) (x1 : Int) (x2 : Int) (x3 : Int) (s : mS) : Option (Int × mS) := runS TT Mi_8 scr0 (env_8 m) n 5 [(0, rv (some 22)), (1, iv x1), (2, iv x2), (3, iv x3)] [] s (0, 0)
def f_Ja_fill_22 (m : Nat) (a1 : Int) (s : mS) : Option (Int × mS) := F_8 m [rv (some 22), iv a1] s
def l_Ja_fill_23_L5 (m : Nat) (n : Nat) (x1 : Int) (x2 : Int) (x3 : Int) (s : mS) : Option (Int × mS) := runS TT Mi_8 scr0 (env_8 m) n 5 [(0, rv (some 23)), (1, iv x1), (2, iv x2), (3, iv x3)] [] s (0, 0)
def f_Ja_fill_23 (m : Nat) (a1 : Int) (s : mS) : Option (Int × mS) := F_8 m [rv (some 23), iv a1] s
def l_Ja_fill_24_L5 (m : Nat) (n : Nat) (x1 : Int) (x2 : Int) (x3 : Int) (s : mS) : Option (Int × mS) := runS TT Mi_8 scr0 (env_8 m) n 5 [(0, rv (some 24)), (1, iv x1), (2, iv x2), (3, iv x3)] [] s (0, 0)
def f_Ja_fill_24 (m : Nat) (a1 : Int) (s : mS) : Option (Int × mS) := F_8 m [rv (some 24), iv a1] s
def l_Ja_fill_25_L5 (m : Nat) (n : Nat) (x1 : Int) (x2 : Int) (x3 : Int) (s : mS) : Option (Int × mS) := runS TT Mi_8 scr0 (env_8 m) n 5 [(0, rv (some 25)), (1, iv x1), (2, iv x2), (3, iv x3)] [] s (0, 0)
def f_Ja_fill_25 (m : Nat) (a1 : Int) (s : mS) : Option (Int × mS) := F_8 m [rv (some 25), iv a1] s
def l_Ja_fill_26_L5 (m : Nat) (n : Nat) (x1 : Int) (x2 : Int) (x3 : Int) (s : mS) : Option (Int × mS) := runS TT Mi_8 scr0 (env_8 m) n 5 [(0, rv (some 26)), (1, iv x1), (2, iv x2), (3, iv x3)] [] s (0, 0)
def f_Ja_fill_26 (m : Nat) (a1 : Int) (s : mS) : Option (Int × mS) := F_8 m [rv (some 26), iv a1] s
def l_Ja_fill_27_L5 (m : Nat) (n : Nat) (x1 : Int) (x2 : Int) (x3 : Int) (s : mS) : Option (Int × mS) := runS TT Mi_8 scr0 (env_8 m) n 5 [(0, rv (some 27)), (1, iv x1), (2, iv x2), (3, iv x3)] [] s (0, 0)
def f_Ja_fill_27 (m : Nat) (a1 : Int) (s : mS) : Option (Int × mS) := F_8 m [rv (some 27), iv a1] s
def l_Ja_fill_28_L5 (m : Nat) (n : Nat) (x1 : Int) (x2 : Int) (x3 : Int) (s : mS) : Option (Int × mS) := runS TT Mi_8 scr0 (env_8 m) n 5 [(0, rv (some 28)), (1, iv x1), (2, iv x2), (3, iv x3)] [] s (0, 0)
def f_Ja_fill_28 (m : Nat) (a1 : Int) (s : mS) : Option (Int × mS) := F_8 m [rv (some 28), iv a1] s
def l_Ja_fill_29_L5 (m : Nat) (n : Nat) (x1 : Int) (x2 : Int) (x3 : Int) (s : mS) : Option (Int × mS) := runS TT Mi_8 scr0 (env_8 m) n 5 [(0, rv (some 29)), (1, iv x1), (2, iv x2), (3, iv x3)] [] s (0, 0)
def f_Ja_fill_29 (m : Nat) (a1 : Int) (s : mS) : Option (Int × mS) := F_8 m [rv (some 29), iv a1] s
def l_Ja_fill_244_L5 (m : Nat) (n : Nat) (x1 : Int) (x2 : Int) (x3 : Int) (s : mS) : Option (Int × mS) := runS TT Mi_8 scr0 (env_8 m) n 5 [(0, rv (some 244)), (1, iv x1), (2, iv x2), (3, iv x3)] [] s (0, 0)
def f_Ja_fill_244 (m : Nat) (a1 : Int) (s : mS) : Option (Int × mS) := F_8 m [rv (some 244), iv a1] s
def Mi_25 : mM := (false, false, 1, 2, (0, 0), 4, rs_7, cd_25, [])
abbrev env_25 (m : Nat) : Nat → List mV → mS → Option (Int × mS) := fun j as s => none
def F_25 (m : Nat) (as : List mV) (s : mS) : Option (Int × mS) := runS TT Mi_25 scr0 (env_25 m) (m + 1) 0 (ent 0 as) [] s (0, 0)
def f_Tp_fail (m : Nat) (a1 : Int) (s : mS) : Option (Int × mS) := F_25 m [rv (some 1), iv a1] s
def Mi_26 : mM := (false, false, 99, 1, (0, 0), 1, rs_13, cd_26, [])
abbrev env_26 (m : Nat) : Nat → List mV → mS → Option (Int × mS) := fun j as s => none
def F_26 (m : Nat) (as : List mV) (s : mS) : Option (Int × mS) := runS TT Mi_26 scr0 (env_26 m) (m + 1) 0 (ent 0 as) [] s (0, 0)
def f_Je_ordinal (m : Nat) (t0 : Nat) (s : mS) : Option (Int × mS) := F_26 m [rv (some t0)] s
def Mi_30 : mM := (false, false, 1, 4, (0, 0), 1, rs_7, cd_30, [])
abbrev env_30 (m : Nat) : Nat → List mV → mS → Option (Int × mS) := fun j as s => (bsel (Nat.beq j 19) (F_19 m as s) (bsel (Nat.beq j 25) (F_25 m as s) none))
def F_30 (m : Nat) (as : List mV) (s : mS) : Option (Int × mS) := runS TT Mi_30 scr0 (env_30 m) (m + 1) 0 (ent 0 as) [] s (0, 0)
def f_Tp_takeNumber (m : Nat) (a1 : Int) (a2 : Int) (s : mS) : Option (Int × mS) := F_30 m [rv (some 1), iv a1, iv a2] s
def Mi_41 : mM := (false, false, 3, 2, (0, 0), 4, rs_8, cd_41, [])
abbrev env_41 (m : Nat) : Nat → List mV → mS → Option (Int × mS) := fun j as s => (bsel (Nat.beq j 19) (F_19 m as s) (bsel (Nat.beq j 30) (F_30 m as s) none))
def F_41 (m : Nat) (as : List mV) (s : mS) : Option (Int × mS) := runS TT Mi_41 scr0 (env_41 m) (m + 1) 0 (ent 0 as) [] s (0, 0)
def f_Vs_readAir (m : Nat) (s : mS) : Option (Int × mS) := F_41 m [rv (some 219), rv (some 1)] s
def Mi_40 : mM := (false, false, 3, 2, (0, 0), 4, rs_8, cd_40, [])
abbrev env_40 (m : Nat) : Nat → List mV → mS → Option (Int × mS) := fun j as s => (bsel (Nat.beq j 19) (F_19 m as s) (bsel (Nat.beq j 30) (F_30 m as s) none))
def F_40 (m : Nat) (as : List mV) (s : mS) : Option (Int × mS) := runS TT Mi_40 scr0 (env_40 m) (m + 1) 0 (ent 0 as) [] s (0, 0)
def f_Vs_readFrost (m : Nat) (s : mS) : Option (Int × mS) := F_40 m [rv (some 219), rv (some 1)] s
def Mi_29 : mM := (false, false, 3, 5, (0, 0), 1, rs_8, cd_29, [(3, [0, 2, 3, 4])])
abbrev env_29 (m : Nat) : Nat → List mV → mS → Option (Int × mS) := fun j as s => none
def F_29 (m : Nat) (as : List mV) (s : mS) : Option (Int × mS) := runS TT Mi_29 scr0 (env_29 m) (m + 1) 0 (ent 0 as) [] s (0, 0)
def l_Vs_placeOf_225_L3 (m : Nat) (n : Nat) (x0 : Int) (x3 : Int) (x4 : Int) (s : mS) : Option (Int × mS) := runS TT Mi_29 scr0 (env_29 m) n 3 [(0, jv x0), (2, rv (some 225)), (3, iv x3), (4, iv x4)] [] s (0, 0)
def f_Vs_placeOf_225 (m : Nat) (a0 : Int) (a2 : Int) (s : mS) : Option (Int × mS) := F_29 m [jv a0, rv (some 225), iv a2] s
def l_Vs_placeOf_220_L3 (m : Nat) (n : Nat) (x0 : Int) (x3 : Int) (x4 : Int) (s : mS) : Option (Int × mS) := runS TT Mi_29 scr0 (env_29 m) n 3 [(0, jv x0), (2, rv (some 220)), (3, iv x3), (4, iv x4)] [] s (0, 0)
def f_Vs_placeOf_220 (m : Nat) (a0 : Int) (a2 : Int) (s : mS) : Option (Int × mS) := F_29 m [jv a0, rv (some 220), iv a2] s
def l_Vs_placeOf_223_L3 (m : Nat) (n : Nat) (x0 : Int) (x3 : Int) (x4 : Int) (s : mS) : Option (Int × mS) := runS TT Mi_29 scr0 (env_29 m) n 3 [(0, jv x0), (2, rv (some 223)), (3, iv x3), (4, iv x4)] [] s (0, 0)
def f_Vs_placeOf_223 (m : Nat) (a0 : Int) (a2 : Int) (s : mS) : Option (Int × mS) := F_29 m [jv a0, rv (some 223), iv a2] s
def l_Vs_placeOf_5_L3 (m : Nat) (n : Nat) (x0 : Int) (x3 : Int) (x4 : Int) (s : mS) : Option (Int × mS) := runS TT Mi_29 scr0 (env_29 m) n 3 [(0, jv x0), (2, rv (some 5)), (3, iv x3), (4, iv x4)] [] s (0, 0)
def f_Vs_placeOf_5 (m : Nat) (a0 : Int) (a2 : Int) (s : mS) : Option (Int × mS) := F_29 m [jv a0, rv (some 5), iv a2] s
def l_Vs_placeOf_10_L3 (m : Nat) (n : Nat) (x0 : Int) (x3 : Int) (x4 : Int) (s : mS) : Option (Int × mS) := runS TT Mi_29 scr0 (env_29 m) n 3 [(0, jv x0), (2, rv (some 10)), (3, iv x3), (4, iv x4)] [] s (0, 0)
def f_Vs_placeOf_10 (m : Nat) (a0 : Int) (a2 : Int) (s : mS) : Option (Int × mS) := F_29 m [jv a0, rv (some 10), iv a2] s
def l_Vs_placeOf_8_L3 (m : Nat) (n : Nat) (x0 : Int) (x3 : Int) (x4 : Int) (s : mS) : Option (Int × mS) := runS TT Mi_29 scr0 (env_29 m) n 3 [(0, jv x0), (2, rv (some 8)), (3, iv x3), (4, iv x4)] [] s (0, 0)
def f_Vs_placeOf_8 (m : Nat) (a0 : Int) (a2 : Int) (s : mS) : Option (Int × mS) := F_29 m [jv a0, rv (some 8), iv a2] s
def Mi_35 : mM := (false, false, 3, 4, (0, 0), 1, rs_8, cd_35, [])
abbrev env_35 (m : Nat) : Nat → List mV → mS → Option (Int × mS) := fun j as s => (bsel (Nat.beq j 25) (F_25 m as s) (bsel (Nat.beq j 29) (F_29 m as s) none))
def F_35 (m : Nat) (as : List mV) (s : mS) : Option (Int × mS) := runS TT Mi_35 scr0 (env_35 m) (m + 1) 0 (ent 0 as) [] s (0, 0)
def f_Vs_see_1_225 (m : Nat) (a2 : Int) (s : mS) : Option (Int × mS) := F_35 m [rv (some 1), rv (some 225), iv a2] s
def f_Vs_see_1_220 (m : Nat) (a2 : Int) (s : mS) : Option (Int × mS) := F_35 m [rv (some 1), rv (some 220), iv a2] s
def f_Vs_see_1_5 (m : Nat) (a2 : Int) (s : mS) : Option (Int × mS) := F_35 m [rv (some 1), rv (some 5), iv a2] s
def f_Vs_see_1_10 (m : Nat) (a2 : Int) (s : mS) : Option (Int × mS) := F_35 m [rv (some 1), rv (some 10), iv a2] s
def f_Vs_see_1_8 (m : Nat) (a2 : Int) (s : mS) : Option (Int × mS) := F_35 m [rv (some 1), rv (some 8), iv a2] s
def Mi_36 : mM := (false, false, 3, 2, (0, 0), 1, rs_8, cd_36, [])
abbrev env_36 (m : Nat) : Nat → List mV → mS → Option (Int × mS) := fun j as s => (bsel (Nat.beq j 35) (F_35 m as s) none)
def F_36 (m : Nat) (as : List mV) (s : mS) : Option (Int × mS) := runS TT Mi_36 scr0 (env_36 m) (m + 1) 0 (ent 0 as) [] s (0, 0)
def f_Vs_seeDead_219_1 (m : Nat) (s : mS) : Option (Int × mS) := F_36 m [rv (some 219), rv (some 1)] s
def f_Vs_seeDead_4_1 (m : Nat) (s : mS) : Option (Int × mS) := F_36 m [rv (some 4), rv (some 1)] s
def Mi_39 : mM := (false, false, 3, 3, (0, 0), 1, rs_8, cd_39, [])
abbrev env_39 (m : Nat) : Nat → List mV → mS → Option (Int × mS) := fun j as s => (bsel (Nat.beq j 19) (F_19 m as s) (bsel (Nat.beq j 35) (F_35 m as s) none))
def F_39 (m : Nat) (as : List mV) (s : mS) : Option (Int × mS) := runS TT Mi_39 scr0 (env_39 m) (m + 1) 0 (ent 0 as) [] s (0, 0)
def f_Vs_takeBox_219_1 (m : Nat) (s : mS) : Option (Int × mS) := F_39 m [rv (some 219), rv (some 1)] s
def f_Vs_takeBox_4_1 (m : Nat) (s : mS) : Option (Int × mS) := F_39 m [rv (some 4), rv (some 1)] s
def Mi_38 : mM := (false, false, 3, 3, (0, 0), 4, rs_8, cd_38, [])
abbrev env_38 (m : Nat) : Nat → List mV → mS → Option (Int × mS) := fun j as s => (bsel (Nat.beq j 19) (F_19 m as s) (bsel (Nat.beq j 25) (F_25 m as s) (bsel (Nat.beq j 36) (F_36 m as s) (bsel (Nat.beq j 39) (F_39 m as s) none))))
def F_38 (m : Nat) (as : List mV) (s : mS) : Option (Int × mS) := runS TT Mi_38 scr0 (env_38 m) (m + 1) 0 (ent 0 as) [] s (0, 0)
def f_Vs_readAsks (m : Nat) (s : mS) : Option (Int × mS) := F_38 m [rv (some 219), rv (some 1)] s
def Mi_34 : mM := (false, false, 3, 3, (0, 0), 1, rs_8, cd_34, [])
abbrev env_34 (m : Nat) : Nat → List mV → mS → Option (Int × mS) := fun j as s => (bsel (Nat.beq j 19) (F_19 m as s) (bsel (Nat.beq j 35) (F_35 m as s) none))
def F_34 (m : Nat) (as : List mV) (s : mS) : Option (Int × mS) := runS TT Mi_34 scr0 (env_34 m) (m + 1) 0 (ent 0 as) [] s (0, 0)
def f_Vs_takeDead_219_1 (m : Nat) (s : mS) : Option (Int × mS) := F_34 m [rv (some 219), rv (some 1)] s
def f_Vs_takeDead_4_1 (m : Nat) (s : mS) : Option (Int × mS) := F_34 m [rv (some 4), rv (some 1)] s
def Mi_37 : mM := (false, false, 3, 3, (0, 0), 4, rs_8, cd_37, [])
abbrev env_37 (m : Nat) : Nat → List mV → mS → Option (Int × mS) := fun j as s => none
def F_37 (m : Nat) (as : List mV) (s : mS) : Option (Int × mS) := runS TT Mi_37 scr0 (env_37 m) (m + 1) 0 (ent 0 as) [] s (0, 0)
def f_Vs_areKin_219 (m : Nat) (a1 : Int) (a2 : Int) (s : mS) : Option (Int × mS) := F_37 m [rv (some 219), iv a1, iv a2] s
def f_Vs_areKin_4 (m : Nat) (a1 : Int) (a2 : Int) (s : mS) : Option (Int × mS) := F_37 m [rv (some 4), iv a1, iv a2] s
def Mi_33 : mM := (false, false, 3, 4, (0, 0), 4, rs_8, cd_33, [])
abbrev env_33 (m : Nat) : Nat → List mV → mS → Option (Int × mS) := fun j as s => (bsel (Nat.beq j 19) (F_19 m as s) (bsel (Nat.beq j 25) (F_25 m as s) (bsel (Nat.beq j 34) (F_34 m as s) (bsel (Nat.beq j 36) (F_36 m as s) (bsel (Nat.beq j 37) (F_37 m as s) none)))))
def F_33 (m : Nat) (as : List mV) (s : mS) : Option (Int × mS) := runS TT Mi_33 scr0 (env_33 m) (m + 1) 0 (ent 0 as) [] s (0, 0)
def f_Vs_readKin (m : Nat) (s : mS) : Option (Int × mS) := F_33 m [rv (some 219), rv (some 1)] s
def Mi_28 : mM := (false, false, 3, 2, (0, 0), 4, rs_8, cd_28, [])
abbrev env_28 (m : Nat) : Nat → List mV → mS → Option (Int × mS) := fun j as s => (bsel (Nat.beq j 19) (F_19 m as s) (bsel (Nat.beq j 25) (F_25 m as s) (bsel (Nat.beq j 29) (F_29 m as s) none)))
def F_28 (m : Nat) (as : List mV) (s : mS) : Option (Int × mS) := runS TT Mi_28 scr0 (env_28 m) (m + 1) 0 (ent 0 as) [] s (0, 0)
def f_Vs_takeNewName (m : Nat) (s : mS) : Option (Int × mS) := F_28 m [rv (some 219), rv (some 1)] s
def Mi_32 : mM := (false, false, 3, 2, (0, 0), 4, rs_8, cd_32, [])
abbrev env_32 (m : Nat) : Nat → List mV → mS → Option (Int × mS) := fun j as s => (bsel (Nat.beq j 19) (F_19 m as s) (bsel (Nat.beq j 28) (F_28 m as s) (bsel (Nat.beq j 30) (F_30 m as s) none)))
def F_32 (m : Nat) (as : List mV) (s : mS) : Option (Int × mS) := runS TT Mi_32 scr0 (env_32 m) (m + 1) 0 (ent 0 as) [] s (0, 0)
def f_Vs_readOne (m : Nat) (s : mS) : Option (Int × mS) := F_32 m [rv (some 219), rv (some 1)] s
def Mi_31 : mM := (false, false, 3, 2, (0, 0), 4, rs_8, cd_31, [])
abbrev env_31 (m : Nat) : Nat → List mV → mS → Option (Int × mS) := fun j as s => (bsel (Nat.beq j 19) (F_19 m as s) (bsel (Nat.beq j 28) (F_28 m as s) (bsel (Nat.beq j 30) (F_30 m as s) none)))
def F_31 (m : Nat) (as : List mV) (s : mS) : Option (Int × mS) := runS TT Mi_31 scr0 (env_31 m) (m + 1) 0 (ent 0 as) [] s (0, 0)
def f_Vs_readPlot (m : Nat) (s : mS) : Option (Int × mS) := F_31 m [rv (some 219), rv (some 1)] s
def Mi_27 : mM := (false, false, 3, 2, (0, 0), 4, rs_8, cd_27, [])
abbrev env_27 (m : Nat) : Nat → List mV → mS → Option (Int × mS) := fun j as s => (bsel (Nat.beq j 19) (F_19 m as s) (bsel (Nat.beq j 28) (F_28 m as s) (bsel (Nat.beq j 30) (F_30 m as s) none)))
def F_27 (m : Nat) (as : List mV) (s : mS) : Option (Int × mS) := runS TT Mi_27 scr0 (env_27 m) (m + 1) 0 (ent 0 as) [] s (0, 0)
def f_Vs_readBox (m : Nat) (s : mS) : Option (Int × mS) := F_27 m [rv (some 219), rv (some 1)] s
def Mi_24 : mM := (false, false, 3, 3, (0, 0), 4, rs_8, cd_24, [])
abbrev env_24 (m : Nat) : Nat → List mV → mS → Option (Int × mS) := fun j as s => (bsel (Nat.beq j 25) (F_25 m as s) (bsel (Nat.beq j 26) (F_26 m as s) (bsel (Nat.beq j 27) (F_27 m as s) (bsel (Nat.beq j 31) (F_31 m as s) (bsel (Nat.beq j 32) (F_32 m as s) (bsel (Nat.beq j 33) (F_33 m as s) (bsel (Nat.beq j 38) (F_38 m as s) (bsel (Nat.beq j 40) (F_40 m as s) (bsel (Nat.beq j 41) (F_41 m as s) none)))))))))
def F_24 (m : Nat) (as : List mV) (s : mS) : Option (Int × mS) := runS TT Mi_24 scr0 (env_24 m) (m + 1) 0 (ent 0 as) [] s (0, 0)
def f_Vs_readLine (m : Nat) (s : mS) : Option (Int × mS) := F_24 m [rv (some 219), rv (some 1)] s
def Mi_42 : mM := (false, false, 1, 2, (0, 0), 4, rs_7, cd_42, [])
abbrev env_42 (m : Nat) : Nat → List mV → mS → Option (Int × mS) := fun j as s => (bsel (Nat.beq j 19) (F_19 m as s) (bsel (Nat.beq j 25) (F_25 m as s) none))
def F_42 (m : Nat) (as : List mV) (s : mS) : Option (Int × mS) := runS TT Mi_42 scr0 (env_42 m) (m + 1) 0 (ent 0 as) [] s (0, 0)
def f_Tp_takeSign (m : Nat) (a1 : Int) (s : mS) : Option (Int × mS) := F_42 m [rv (some 1), iv a1] s
def Mi_23 : mM := (false, false, 3, 3, (0, 0), 1, rs_8, cd_23, [(53, [0, 1, 2])])
abbrev env_23 (m : Nat) : Nat → List mV → mS → Option (Int × mS) := fun j as s => (bsel (Nat.beq j 8) (F_8 m as s) (bsel (Nat.beq j 24) (F_24 m as s) (bsel (Nat.beq j 42) (F_42 m as s) none)))
def F_23 (m : Nat) (as : List mV) (s : mS) : Option (Int × mS) := runS TT Mi_23 scr0 (env_23 m) (m + 1) 0 (ent 0 as) [] s (0, 0)
def l_Vs_readFrom_L53 (m : Nat) (n : Nat) (x2 : Int) (s : mS) : Option (Int × mS) := runS TT Mi_23 scr0 (env_23 m) n 53 [(0, rv (some 219)), (1, rv (some 1)), (2, iv x2)] [] s (0, 0)
def f_Vs_readFrom (m : Nat) (s : mS) : Option (Int × mS) := F_23 m [rv (some 219), rv (some 1)] s
def Mi_43 : mM := (false, false, 3, 2, (0, 0), 0, rs_8, cd_43, [])
abbrev env_43 (m : Nat) : Nat → List mV → mS → Option (Int × mS) := fun j as s => none
def F_43 (m : Nat) (as : List mV) (s : mS) : Option (Int × mS) := runS TT Mi_43 scr0 (env_43 m) (m + 1) 0 (ent 0 as) [] s (0, 0)
def f_Vs_copyOf_4_219 (m : Nat) (s : mS) : Option (Int × mS) := F_43 m [rv (some 4), rv (some 219)] s
def f_Vs_copyOf_37_4 (m : Nat) (s : mS) : Option (Int × mS) := F_43 m [rv (some 37), rv (some 4)] s
def f_Vs_copyOf_69_4 (m : Nat) (s : mS) : Option (Int × mS) := F_43 m [rv (some 69), rv (some 4)] s
def f_Vs_copyOf_4_37 (m : Nat) (s : mS) : Option (Int × mS) := F_43 m [rv (some 4), rv (some 37)] s
def f_Vs_copyOf_4_69 (m : Nat) (s : mS) : Option (Int × mS) := F_43 m [rv (some 4), rv (some 69)] s
def Mi_9 : mM := (false, false, 4, 3, (0, 0), 0, rs_6, cd_9, [(2, [0, 1, 2])])
abbrev env_9 (m : Nat) : Nat → List mV → mS → Option (Int × mS) := fun j as s => none
def F_9 (m : Nat) (as : List mV) (s : mS) : Option (Int × mS) := runS TT Mi_9 scr0 (env_9 m) (m + 1) 0 (ent 0 as) [] s (0, 0)
def l_St_arrive_17_4_L2 (m : Nat) (n : Nat) (x2 : Int) (s : mS) : Option (Int × mS) := runS TT Mi_9 scr0 (env_9 m) n 2 [(0, rv (some 17)), (1, rv (some 4)), (2, iv x2)] [] s (0, 0)
def f_St_arrive_17_4 (m : Nat) (s : mS) : Option (Int × mS) := F_9 m [rv (some 17), rv (some 4)] s
def l_St_arrive_206_4_L2 (m : Nat) (n : Nat) (x2 : Int) (s : mS) : Option (Int × mS) := runS TT Mi_9 scr0 (env_9 m) n 2 [(0, rv (some 206)), (1, rv (some 4)), (2, iv x2)] [] s (0, 0)
def f_St_arrive_206_4 (m : Nat) (s : mS) : Option (Int × mS) := F_9 m [rv (some 206), rv (some 4)] s
def Mi_7 : mM := (false, false, 4, 2, (0, 0), 0, rs_6, cd_7, [])
abbrev env_7 (m : Nat) : Nat → List mV → mS → Option (Int × mS) := fun j as s => (bsel (Nat.beq j 8) (F_8 m as s) (bsel (Nat.beq j 9) (F_9 m as s) none))
def F_7 (m : Nat) (as : List mV) (s : mS) : Option (Int × mS) := runS TT Mi_7 scr0 (env_7 m) (m + 1) 0 (ent 0 as) [] s (0, 0)
def f_St_begin (m : Nat) (s : mS) : Option (Int × mS) := F_7 m [rv (some 17), rv (some 4)] s
def Mi_44 : mM := (false, false, 5, 1, (0, 0), 0, rs_5, cd_44, [])
abbrev env_44 (m : Nat) : Nat → List mV → mS → Option (Int × mS) := fun j as s => none
def F_44 (m : Nat) (as : List mV) (s : mS) : Option (Int × mS) := runS TT Mi_44 scr0 (env_44 m) (m + 1) 0 (ent 0 as) [] s (0, 0)
def f_Sn_wipe_30 (m : Nat) (s : mS) : Option (Int × mS) := F_44 m [rv (some 30)] s
def f_Sn_wipe_232 (m : Nat) (s : mS) : Option (Int × mS) := F_44 m [rv (some 232)] s
def Mi_45 : mM := (false, false, 6, 1, (0, 0), 0, rs_4, cd_45, [])
abbrev env_45 (m : Nat) : Nat → List mV → mS → Option (Int × mS) := fun j as s => none
def F_45 (m : Nat) (as : List mV) (s : mS) : Option (Int × mS) := runS TT Mi_45 scr0 (env_45 m) (m + 1) 0 (ent 0 as) [] s (0, 0)
def f_Ps_forget (m : Nat) (s : mS) : Option (Int × mS) := F_45 m [rv (some 100)] s
def Mi_17 : mM := (false, false, 0, 2, (0, 0), 1, rs_0, cd_17, [])
abbrev env_17 (m : Nat) : Nat → List mV → mS → Option (Int × mS) := fun j as s => (bsel (Nat.beq j 7) (F_7 m as s) (bsel (Nat.beq j 18) (F_18 m as s) (bsel (Nat.beq j 23) (F_23 m as s) (bsel (Nat.beq j 43) (F_43 m as s) (bsel (Nat.beq j 44) (F_44 m as s) (bsel (Nat.beq j 45) (F_45 m as s) none))))))
def F_17 (m : Nat) (as : List mV) (s : mS) : Option (Int × mS) := runS TT Mi_17 scr0 (env_17 m) (m + 1) 0 (ent 0 as) [] s (0, 0)
def f_X_vestry (m : Nat) (s : mS) : Option (Int × mS) := F_17 m [rv (some 0)] s
def Mi_46 : mM := (false, false, 0, 1, (0, 0), 1, rs_0, cd_46, [])
abbrev env_46 (m : Nat) : Nat → List mV → mS → Option (Int × mS) := fun j as s => none
def F_46 (m : Nat) (as : List mV) (s : mS) : Option (Int × mS) := runS TT Mi_46 scr0 (env_46 m) (m + 1) 0 (ent 0 as) [] s (0, 0)
def f_X_fault (m : Nat) (s : mS) : Option (Int × mS) := F_46 m [rv (some 0)] s
def Mi_48 : mM := (false, false, 0, 2, (0, 0), 4, rs_0, cd_48, [])
abbrev env_48 (m : Nat) : Nat → List mV → mS → Option (Int × mS) := fun j as s => none
def F_48 (m : Nat) (as : List mV) (s : mS) : Option (Int × mS) := runS TT Mi_48 scr0 (env_48 m) (m + 1) 0 (ent 0 as) [] s (0, 0)
def f_X_isBox (m : Nat) (a1 : Int) (s : mS) : Option (Int × mS) := F_48 m [rv (some 0), iv a1] s
def Mi_51 : mM := (false, false, 99, 2, (0, 0), 1, rs_0, cd_51, [])
abbrev env_51 (m : Nat) : Nat → List mV → mS → Option (Int × mS) := fun j as s => none
def F_51 (m : Nat) (as : List mV) (s : mS) : Option (Int × mS) := runS TT Mi_51 scr0 (env_51 m) (m + 1) 0 (ent 0 as) [] s (0, 0)
def f_Jm_max (m : Nat) (a0 : Int) (a1 : Int) (s : mS) : Option (Int × mS) := F_51 m [iv a0, iv a1] s
def Mi_50 : mM := (false, false, 4, 2, (0, 0), 1, rs_6, cd_50, [])
abbrev env_50 (m : Nat) : Nat → List mV → mS → Option (Int × mS) := fun j as s => (bsel (Nat.beq j 51) (F_51 m as s) none)
def F_50 (m : Nat) (as : List mV) (s : mS) : Option (Int × mS) := runS TT Mi_50 scr0 (env_50 m) (m + 1) 0 (ent 0 as) [] s (0, 0)
def f_St_daysTill (m : Nat) (a1 : Int) (s : mS) : Option (Int × mS) := F_50 m [rv (some 17), iv a1] s
def Mi_49 : mM := (false, false, 4, 2, (0, 0), 4, rs_6, cd_49, [])
abbrev env_49 (m : Nat) : Nat → List mV → mS → Option (Int × mS) := fun j as s => none
def F_49 (m : Nat) (as : List mV) (s : mS) : Option (Int × mS) := runS TT Mi_49 scr0 (env_49 m) (m + 1) 0 (ent 0 as) [] s (0, 0)
def f_St_boxFree_17 (m : Nat) (a1 : Int) (s : mS) : Option (Int × mS) := F_49 m [rv (some 17), iv a1] s
def f_St_boxFree_206 (m : Nat) (a1 : Int) (s : mS) : Option (Int × mS) := F_49 m [rv (some 206), iv a1] s
def Mi_47 : mM := (false, false, 0, 4, (0, 0), 1, rs_0, cd_47, [])
abbrev env_47 (m : Nat) : Nat → List mV → mS → Option (Int × mS) := fun j as s => (bsel (Nat.beq j 48) (F_48 m as s) (bsel (Nat.beq j 49) (F_49 m as s) (bsel (Nat.beq j 50) (F_50 m as s) none)))
def F_47 (m : Nat) (as : List mV) (s : mS) : Option (Int × mS) := runS TT Mi_47 scr0 (env_47 m) (m + 1) 0 (ent 0 as) [] s (0, 0)
def f_X_box (m : Nat) (a1 : Int) (a2 : Int) (s : mS) : Option (Int × mS) := F_47 m [rv (some 0), iv a1, iv a2] s
def Mi_53 : mM := (false, false, 0, 2, (0, 0), 4, rs_0, cd_53, [])
abbrev env_53 (m : Nat) : Nat → List mV → mS → Option (Int × mS) := fun j as s => none
def F_53 (m : Nat) (as : List mV) (s : mS) : Option (Int × mS) := runS TT Mi_53 scr0 (env_53 m) (m + 1) 0 (ent 0 as) [] s (0, 0)
def f_X_isPlot (m : Nat) (a1 : Int) (s : mS) : Option (Int × mS) := F_53 m [rv (some 0), iv a1] s
def Mi_52 : mM := (false, false, 0, 4, (0, 0), 1, rs_0, cd_52, [])
abbrev env_52 (m : Nat) : Nat → List mV → mS → Option (Int × mS) := fun j as s => (bsel (Nat.beq j 50) (F_50 m as s) (bsel (Nat.beq j 53) (F_53 m as s) none))
def F_52 (m : Nat) (as : List mV) (s : mS) : Option (Int × mS) := runS TT Mi_52 scr0 (env_52 m) (m + 1) 0 (ent 0 as) [] s (0, 0)
def f_X_plot (m : Nat) (a1 : Int) (a2 : Int) (s : mS) : Option (Int × mS) := F_52 m [rv (some 0), iv a1, iv a2] s
def Mi_59 : mM := (false, false, 3, 3, (0, 0), 4, rs_8, cd_59, [(2, [0, 1, 2])])
abbrev env_59 (m : Nat) : Nat → List mV → mS → Option (Int × mS) := fun j as s => none
def F_59 (m : Nat) (as : List mV) (s : mS) : Option (Int × mS) := runS TT Mi_59 scr0 (env_59 m) (m + 1) 0 (ent 0 as) [] s (0, 0)
def l_Vs_frostOn_L2 (m : Nat) (n : Nat) (x1 : Int) (x2 : Int) (s : mS) : Option (Int × mS) := runS TT Mi_59 scr0 (env_59 m) n 2 [(0, rv (some 4)), (1, iv x1), (2, iv x2)] [] s (0, 0)
def f_Vs_frostOn (m : Nat) (a1 : Int) (s : mS) : Option (Int × mS) := F_59 m [rv (some 4), iv a1] s
def Mi_58 : mM := (false, false, 4, 2, (0, 0), 4, rs_6, cd_58, [])
abbrev env_58 (m : Nat) : Nat → List mV → mS → Option (Int × mS) := fun j as s => none
def F_58 (m : Nat) (as : List mV) (s : mS) : Option (Int × mS) := runS TT Mi_58 scr0 (env_58 m) (m + 1) 0 (ent 0 as) [] s (0, 0)
def f_St_plotFree_17 (m : Nat) (a1 : Int) (s : mS) : Option (Int × mS) := F_58 m [rv (some 17), iv a1] s
def f_St_plotFree_206 (m : Nat) (a1 : Int) (s : mS) : Option (Int × mS) := F_58 m [rv (some 206), iv a1] s
def Mi_57 : mM := (false, false, 4, 4, (0, 0), 1, rs_6, cd_57, [(4, [0, 1, 2, 3])])
abbrev env_57 (m : Nat) : Nat → List mV → mS → Option (Int × mS) := fun j as s => (bsel (Nat.beq j 58) (F_58 m as s) none)
def F_57 (m : Nat) (as : List mV) (s : mS) : Option (Int × mS) := runS TT Mi_57 scr0 (env_57 m) (m + 1) 0 (ent 0 as) [] s (0, 0)
def l_St_freePlots_L4 (m : Nat) (n : Nat) (x2 : Int) (x3 : Int) (s : mS) : Option (Int × mS) := runS TT Mi_57 scr0 (env_57 m) n 4 [(0, rv (some 17)), (1, rv (some 4)), (2, iv x2), (3, iv x3)] [] s (0, 0)
def f_St_freePlots (m : Nat) (s : mS) : Option (Int × mS) := F_57 m [rv (some 17), rv (some 4)] s
def Mi_56 : mM := (false, false, 4, 4, (0, 0), 1, rs_6, cd_56, [(4, [0, 1, 2, 3])])
abbrev env_56 (m : Nat) : Nat → List mV → mS → Option (Int × mS) := fun j as s => (bsel (Nat.beq j 49) (F_49 m as s) none)
def F_56 (m : Nat) (as : List mV) (s : mS) : Option (Int × mS) := runS TT Mi_56 scr0 (env_56 m) (m + 1) 0 (ent 0 as) [] s (0, 0)
def l_St_freeBoxes_L4 (m : Nat) (n : Nat) (x2 : Int) (x3 : Int) (s : mS) : Option (Int × mS) := runS TT Mi_56 scr0 (env_56 m) n 4 [(0, rv (some 17)), (1, rv (some 4)), (2, iv x2), (3, iv x3)] [] s (0, 0)
def f_St_freeBoxes (m : Nat) (s : mS) : Option (Int × mS) := F_56 m [rv (some 17), rv (some 4)] s
def Mi_55 : mM := (false, false, 4, 5, (0, 0), 1, rs_6, cd_55, [(5, [0, 1, 2, 3, 4])])
abbrev env_55 (m : Nat) : Nat → List mV → mS → Option (Int × mS) := fun j as s => none
def F_55 (m : Nat) (as : List mV) (s : mS) : Option (Int × mS) := runS TT Mi_55 scr0 (env_55 m) (m + 1) 0 (ent 0 as) [] s (0, 0)
def l_St_bitsOf_17_4_L5 (m : Nat) (n : Nat) (x1 : Int) (x3 : Int) (x4 : Int) (s : mS) : Option (Int × mS) := runS TT Mi_55 scr0 (env_55 m) n 5 [(0, rv (some 17)), (1, iv x1), (2, rv (some 4)), (3, iv x3), (4, iv x4)] [] s (0, 0)
def f_St_bitsOf_17_4 (m : Nat) (a1 : Int) (s : mS) : Option (Int × mS) := F_55 m [rv (some 17), iv a1, rv (some 4)] s
def l_St_bitsOf_206_4_L5 (m : Nat) (n : Nat) (x1 : Int) (x3 : Int) (x4 : Int) (s : mS) : Option (Int × mS) := runS TT Mi_55 scr0 (env_55 m) n 5 [(0, rv (some 206)), (1, iv x1), (2, rv (some 4)), (3, iv x3), (4, iv x4)] [] s (0, 0)
def f_St_bitsOf_206_4 (m : Nat) (a1 : Int) (s : mS) : Option (Int × mS) := F_55 m [rv (some 206), iv a1, rv (some 4)] s
def Mi_54 : mM := (false, false, 0, 3, (0, 0), 1, rs_0, cd_54, [])
abbrev env_54 (m : Nat) : Nat → List mV → mS → Option (Int × mS) := fun j as s => (bsel (Nat.beq j 55) (F_55 m as s) (bsel (Nat.beq j 56) (F_56 m as s) (bsel (Nat.beq j 57) (F_57 m as s) (bsel (Nat.beq j 59) (F_59 m as s) none))))
def F_54 (m : Nat) (as : List mV) (s : mS) : Option (Int × mS) := runS TT Mi_54 scr0 (env_54 m) (m + 1) 0 (ent 0 as) [] s (0, 0)
def f_X_now (m : Nat) (a1 : Int) (s : mS) : Option (Int × mS) := F_54 m [rv (some 0), iv a1] s
def Mi_61 : mM := (false, false, 0, 2, (0, 0), 4, rs_0, cd_61, [])
abbrev env_61 (m : Nat) : Nat → List mV → mS → Option (Int × mS) := fun j as s => none
def F_61 (m : Nat) (as : List mV) (s : mS) : Option (Int × mS) := runS TT Mi_61 scr0 (env_61 m) (m + 1) 0 (ent 0 as) [] s (0, 0)
def f_X_isDead (m : Nat) (a1 : Int) (s : mS) : Option (Int × mS) := F_61 m [rv (some 0), iv a1] s
def Mi_62 : mM := (false, false, 4, 2, (0, 0), 0, rs_6, cd_62, [])
abbrev env_62 (m : Nat) : Nat → List mV → mS → Option (Int × mS) := fun j as s => none
def F_62 (m : Nat) (as : List mV) (s : mS) : Option (Int × mS) := runS TT Mi_62 scr0 (env_62 m) (m + 1) 0 (ent 0 as) [] s (0, 0)
def f_St_copyOf_206_17 (m : Nat) (s : mS) : Option (Int × mS) := F_62 m [rv (some 206), rv (some 17)] s
def f_St_copyOf_102_206 (m : Nat) (s : mS) : Option (Int × mS) := F_62 m [rv (some 102), rv (some 206)] s
def f_St_copyOf_115_206 (m : Nat) (s : mS) : Option (Int × mS) := F_62 m [rv (some 115), rv (some 206)] s
def f_St_copyOf_128_206 (m : Nat) (s : mS) : Option (Int × mS) := F_62 m [rv (some 128), rv (some 206)] s
def f_St_copyOf_141_206 (m : Nat) (s : mS) : Option (Int × mS) := F_62 m [rv (some 141), rv (some 206)] s
def f_St_copyOf_154_206 (m : Nat) (s : mS) : Option (Int × mS) := F_62 m [rv (some 154), rv (some 206)] s
def f_St_copyOf_167_206 (m : Nat) (s : mS) : Option (Int × mS) := F_62 m [rv (some 167), rv (some 206)] s
def f_St_copyOf_180_206 (m : Nat) (s : mS) : Option (Int × mS) := F_62 m [rv (some 180), rv (some 206)] s
def f_St_copyOf_193_206 (m : Nat) (s : mS) : Option (Int × mS) := F_62 m [rv (some 193), rv (some 206)] s
def f_St_copyOf_17_102 (m : Nat) (s : mS) : Option (Int × mS) := F_62 m [rv (some 17), rv (some 102)] s
def f_St_copyOf_17_115 (m : Nat) (s : mS) : Option (Int × mS) := F_62 m [rv (some 17), rv (some 115)] s
def f_St_copyOf_17_128 (m : Nat) (s : mS) : Option (Int × mS) := F_62 m [rv (some 17), rv (some 128)] s
def f_St_copyOf_17_141 (m : Nat) (s : mS) : Option (Int × mS) := F_62 m [rv (some 17), rv (some 141)] s
def f_St_copyOf_17_154 (m : Nat) (s : mS) : Option (Int × mS) := F_62 m [rv (some 17), rv (some 154)] s
def f_St_copyOf_17_167 (m : Nat) (s : mS) : Option (Int × mS) := F_62 m [rv (some 17), rv (some 167)] s
def f_St_copyOf_17_180 (m : Nat) (s : mS) : Option (Int × mS) := F_62 m [rv (some 17), rv (some 180)] s
def f_St_copyOf_17_193 (m : Nat) (s : mS) : Option (Int × mS) := F_62 m [rv (some 17), rv (some 193)] s
def f_St_copyOf_102_17 (m : Nat) (s : mS) : Option (Int × mS) := F_62 m [rv (some 102), rv (some 17)] s
def f_St_copyOf_115_17 (m : Nat) (s : mS) : Option (Int × mS) := F_62 m [rv (some 115), rv (some 17)] s
def f_St_copyOf_128_17 (m : Nat) (s : mS) : Option (Int × mS) := F_62 m [rv (some 128), rv (some 17)] s
def f_St_copyOf_141_17 (m : Nat) (s : mS) : Option (Int × mS) := F_62 m [rv (some 141), rv (some 17)] s
def f_St_copyOf_154_17 (m : Nat) (s : mS) : Option (Int × mS) := F_62 m [rv (some 154), rv (some 17)] s
def f_St_copyOf_167_17 (m : Nat) (s : mS) : Option (Int × mS) := F_62 m [rv (some 167), rv (some 17)] s
def f_St_copyOf_180_17 (m : Nat) (s : mS) : Option (Int × mS) := F_62 m [rv (some 180), rv (some 17)] s
def f_St_copyOf_193_17 (m : Nat) (s : mS) : Option (Int × mS) := F_62 m [rv (some 193), rv (some 17)] s
def f_St_copyOf_17_206 (m : Nat) (s : mS) : Option (Int × mS) := F_62 m [rv (some 17), rv (some 206)] s
def f_St_copyOf_50_17 (m : Nat) (s : mS) : Option (Int × mS) := F_62 m [rv (some 50), rv (some 17)] s
def f_St_copyOf_82_17 (m : Nat) (s : mS) : Option (Int × mS) := F_62 m [rv (some 82), rv (some 17)] s
def f_St_copyOf_17_50 (m : Nat) (s : mS) : Option (Int × mS) := F_62 m [rv (some 17), rv (some 50)] s
def f_St_copyOf_17_82 (m : Nat) (s : mS) : Option (Int × mS) := F_62 m [rv (some 17), rv (some 82)] s
def Mi_64 : mM := (false, false, 4, 4, (0, 0), 1, rs_6, cd_64, [])
abbrev env_64 (m : Nat) : Nat → List mV → mS → Option (Int × mS) := fun j as s => (bsel (Nat.beq j 49) (F_49 m as s) none)
def F_64 (m : Nat) (as : List mV) (s : mS) : Option (Int × mS) := runS TT Mi_64 scr0 (env_64 m) (m + 1) 0 (ent 0 as) [] s (0, 0)
def f_St_whyNotLent_17_4 (m : Nat) (a1 : Int) (a2 : Int) (s : mS) : Option (Int × mS) := F_64 m [rv (some 17), iv a1, iv a2, rv (some 4)] s
def f_St_whyNotLent_206_4 (m : Nat) (a1 : Int) (a2 : Int) (s : mS) : Option (Int × mS) := F_64 m [rv (some 206), iv a1, iv a2, rv (some 4)] s
def Mi_63 : mM := (false, false, 4, 6, (0, 0), 1, rs_6, cd_63, [(51, [0, 1, 2, 5])])
abbrev env_63 (m : Nat) : Nat → List mV → mS → Option (Int × mS) := fun j as s => (bsel (Nat.beq j 64) (F_64 m as s) none)
def F_63 (m : Nat) (as : List mV) (s : mS) : Option (Int × mS) := runS TT Mi_63 scr0 (env_63 m) (m + 1) 0 (ent 0 as) [] s (0, 0)
def l_St_lendHim_17_4_L51 (m : Nat) (n : Nat) (x1 : Int) (x2 : Int) (x5 : Int) (s : mS) : Option (Int × mS) := runS TT Mi_63 scr0 (env_63 m) n 51 [(0, rv (some 17)), (1, iv x1), (2, iv x2), (5, iv x5)] [] s (0, 0)
def f_St_lendHim_17_4 (m : Nat) (a1 : Int) (a2 : Int) (s : mS) : Option (Int × mS) := F_63 m [rv (some 17), iv a1, iv a2, rv (some 4)] s
def l_St_lendHim_206_4_L51 (m : Nat) (n : Nat) (x1 : Int) (x2 : Int) (x5 : Int) (s : mS) : Option (Int × mS) := runS TT Mi_63 scr0 (env_63 m) n 51 [(0, rv (some 206)), (1, iv x1), (2, iv x2), (5, iv x5)] [] s (0, 0)
def f_St_lendHim_206_4 (m : Nat) (a1 : Int) (a2 : Int) (s : mS) : Option (Int × mS) := F_63 m [rv (some 206), iv a1, iv a2, rv (some 4)] s
def Mi_66 : mM := (false, false, 6, 2, (0, 0), 0, rs_4, cd_66, [(17, [0, 1])])
abbrev env_66 (m : Nat) : Nat → List mV → mS → Option (Int × mS) := fun j as s => (bsel (Nat.beq j 62) (F_62 m as s) none)
def F_66 (m : Nat) (as : List mV) (s : mS) : Option (Int × mS) := runS TT Mi_66 scr0 (env_66 m) (m + 1) 0 (ent 0 as) [] s (0, 0)
def l_Ps_keep_100_206_L17 (m : Nat) (n : Nat) (v0 : Option Nat) (s : mS) : Option (Int × mS) := runS TT Mi_66 scr0 (env_66 m) n 17 [(0, rv (some 100)), (1, rv (some 206))] [rv v0] s (0, 0)
def f_Ps_keep_100_206 (m : Nat) (s : mS) : Option (Int × mS) := F_66 m [rv (some 100), rv (some 206)] s
def l_Ps_keep_100_17_L17 (m : Nat) (n : Nat) (v0 : Option Nat) (s : mS) : Option (Int × mS) := runS TT Mi_66 scr0 (env_66 m) n 17 [(0, rv (some 100)), (1, rv (some 17))] [rv v0] s (0, 0)
def f_Ps_keep_100_17 (m : Nat) (s : mS) : Option (Int × mS) := F_66 m [rv (some 100), rv (some 17)] s
def Mi_65 : mM := (false, false, 0, 2, (0, 0), 1, rs_0, cd_65, [])
abbrev env_65 (m : Nat) : Nat → List mV → mS → Option (Int × mS) := fun j as s => (bsel (Nat.beq j 66) (F_66 m as s) none)
def F_65 (m : Nat) (as : List mV) (s : mS) : Option (Int × mS) := runS TT Mi_65 scr0 (env_65 m) (m + 1) 0 (ent 0 as) [] s (0, 0)
def f_X_done (m : Nat) (a1 : Int) (s : mS) : Option (Int × mS) := F_65 m [rv (some 0), iv a1] s
def Mi_60 : mM := (false, false, 0, 3, (0, 0), 1, rs_0, cd_60, [])
abbrev env_60 (m : Nat) : Nat → List mV → mS → Option (Int × mS) := fun j as s => (bsel (Nat.beq j 48) (F_48 m as s) (bsel (Nat.beq j 61) (F_61 m as s) (bsel (Nat.beq j 62) (F_62 m as s) (bsel (Nat.beq j 63) (F_63 m as s) (bsel (Nat.beq j 65) (F_65 m as s) none)))))
def F_60 (m : Nat) (as : List mV) (s : mS) : Option (Int × mS) := runS TT Mi_60 scr0 (env_60 m) (m + 1) 0 (ent 0 as) [] s (0, 0)
def f_X_lend (m : Nat) (a1 : Int) (a2 : Int) (s : mS) : Option (Int × mS) := F_60 m [rv (some 0), iv a1, iv a2] s
def Mi_68 : mM := (false, false, 4, 5, (0, 0), 1, rs_6, cd_68, [])
abbrev env_68 (m : Nat) : Nat → List mV → mS → Option (Int × mS) := fun j as s => (bsel (Nat.beq j 37) (F_37 m as s) (bsel (Nat.beq j 58) (F_58 m as s) (bsel (Nat.beq j 59) (F_59 m as s) none)))
def F_68 (m : Nat) (as : List mV) (s : mS) : Option (Int × mS) := runS TT Mi_68 scr0 (env_68 m) (m + 1) 0 (ent 0 as) [] s (0, 0)
def f_St_layHim_17_4 (m : Nat) (a1 : Int) (a2 : Int) (s : mS) : Option (Int × mS) := F_68 m [rv (some 17), iv a1, iv a2, rv (some 4)] s
def f_St_layHim_206_4 (m : Nat) (a1 : Int) (a2 : Int) (s : mS) : Option (Int × mS) := F_68 m [rv (some 206), iv a1, iv a2, rv (some 4)] s
def Mi_67 : mM := (false, false, 0, 3, (0, 0), 1, rs_0, cd_67, [])
abbrev env_67 (m : Nat) : Nat → List mV → mS → Option (Int × mS) := fun j as s => (bsel (Nat.beq j 53) (F_53 m as s) (bsel (Nat.beq j 61) (F_61 m as s) (bsel (Nat.beq j 62) (F_62 m as s) (bsel (Nat.beq j 65) (F_65 m as s) (bsel (Nat.beq j 68) (F_68 m as s) none)))))
def F_67 (m : Nat) (as : List mV) (s : mS) : Option (Int × mS) := runS TT Mi_67 scr0 (env_67 m) (m + 1) 0 (ent 0 as) [] s (0, 0)
def f_X_lay (m : Nat) (a1 : Int) (a2 : Int) (s : mS) : Option (Int × mS) := F_67 m [rv (some 0), iv a1, iv a2] s
def Mi_70 : mM := (false, false, 4, 6, (0, 0), 1, rs_6, cd_70, [])
abbrev env_70 (m : Nat) : Nat → List mV → mS → Option (Int × mS) := fun j as s => none
def F_70 (m : Nat) (as : List mV) (s : mS) : Option (Int × mS) := runS TT Mi_70 scr0 (env_70 m) (m + 1) 0 (ent 0 as) [] s (0, 0)
def f_St_swapThem_17_4 (m : Nat) (a1 : Int) (a2 : Int) (s : mS) : Option (Int × mS) := F_70 m [rv (some 17), iv a1, iv a2, rv (some 4)] s
def f_St_swapThem_206_4 (m : Nat) (a1 : Int) (a2 : Int) (s : mS) : Option (Int × mS) := F_70 m [rv (some 206), iv a1, iv a2, rv (some 4)] s
def Mi_69 : mM := (false, false, 0, 3, (0, 0), 1, rs_0, cd_69, [])
abbrev env_69 (m : Nat) : Nat → List mV → mS → Option (Int × mS) := fun j as s => (bsel (Nat.beq j 61) (F_61 m as s) (bsel (Nat.beq j 62) (F_62 m as s) (bsel (Nat.beq j 65) (F_65 m as s) (bsel (Nat.beq j 70) (F_70 m as s) none))))
def F_69 (m : Nat) (as : List mV) (s : mS) : Option (Int × mS) := runS TT Mi_69 scr0 (env_69 m) (m + 1) 0 (ent 0 as) [] s (0, 0)
def f_X_swap (m : Nat) (a1 : Int) (a2 : Int) (s : mS) : Option (Int × mS) := F_69 m [rv (some 0), iv a1, iv a2] s
def Mi_72 : mM := (false, false, 4, 2, (0, 0), 1, rs_6, cd_72, [])
abbrev env_72 (m : Nat) : Nat → List mV → mS → Option (Int × mS) := fun j as s => none
def F_72 (m : Nat) (as : List mV) (s : mS) : Option (Int × mS) := runS TT Mi_72 scr0 (env_72 m) (m + 1) 0 (ent 0 as) [] s (0, 0)
def f_St_mendIt_17 (m : Nat) (a1 : Int) (s : mS) : Option (Int × mS) := F_72 m [rv (some 17), iv a1] s
def f_St_mendIt_206 (m : Nat) (a1 : Int) (s : mS) : Option (Int × mS) := F_72 m [rv (some 206), iv a1] s
def Mi_71 : mM := (false, false, 0, 2, (0, 0), 1, rs_0, cd_71, [])
abbrev env_71 (m : Nat) : Nat → List mV → mS → Option (Int × mS) := fun j as s => (bsel (Nat.beq j 48) (F_48 m as s) (bsel (Nat.beq j 62) (F_62 m as s) (bsel (Nat.beq j 65) (F_65 m as s) (bsel (Nat.beq j 72) (F_72 m as s) none))))
def F_71 (m : Nat) (as : List mV) (s : mS) : Option (Int × mS) := runS TT Mi_71 scr0 (env_71 m) (m + 1) 0 (ent 0 as) [] s (0, 0)
def f_X_mend (m : Nat) (a1 : Int) (s : mS) : Option (Int × mS) := F_71 m [rv (some 0), iv a1] s
def Mi_74 : mM := (false, false, 4, 5, (0, 0), 1, rs_6, cd_74, [(2, [0, 1, 2, 3]), (20, [0, 1, 2, 3, 4])])
abbrev env_74 (m : Nat) : Nat → List mV → mS → Option (Int × mS) := fun j as s => (bsel (Nat.beq j 9) (F_9 m as s) none)
def F_74 (m : Nat) (as : List mV) (s : mS) : Option (Int × mS) := runS TT Mi_74 scr0 (env_74 m) (m + 1) 0 (ent 0 as) [] s (0, 0)
def l_St_passDays_17_4_L2 (m : Nat) (n : Nat) (x1 : Int) (x3 : Int) (s : mS) : Option (Int × mS) := runS TT Mi_74 scr0 (env_74 m) n 2 [(0, rv (some 17)), (1, iv x1), (2, rv (some 4)), (3, iv x3)] [] s (0, 0)
def l_St_passDays_17_4_L20 (m : Nat) (n : Nat) (x1 : Int) (x3 : Int) (x4 : Int) (s : mS) : Option (Int × mS) := runS TT Mi_74 scr0 (env_74 m) n 20 [(0, rv (some 17)), (1, iv x1), (2, rv (some 4)), (3, iv x3), (4, iv x4)] [] s (0, 0)
def f_St_passDays_17_4 (m : Nat) (a1 : Int) (s : mS) : Option (Int × mS) := F_74 m [rv (some 17), iv a1, rv (some 4)] s
def l_St_passDays_206_4_L2 (m : Nat) (n : Nat) (x1 : Int) (x3 : Int) (s : mS) : Option (Int × mS) := runS TT Mi_74 scr0 (env_74 m) n 2 [(0, rv (some 206)), (1, iv x1), (2, rv (some 4)), (3, iv x3)] [] s (0, 0)
def l_St_passDays_206_4_L20 (m : Nat) (n : Nat) (x1 : Int) (x3 : Int) (x4 : Int) (s : mS) : Option (Int × mS) := runS TT Mi_74 scr0 (env_74 m) n 20 [(0, rv (some 206)), (1, iv x1), (2, rv (some 4)), (3, iv x3), (4, iv x4)] [] s (0, 0)
def f_St_passDays_206_4 (m : Nat) (a1 : Int) (s : mS) : Option (Int × mS) := F_74 m [rv (some 206), iv a1, rv (some 4)] s
def Mi_75 : mM := (false, false, 0, 2, (0, 0), 1, rs_0, cd_75, [])
abbrev env_75 (m : Nat) : Nat → List mV → mS → Option (Int × mS) := fun j as s => (bsel (Nat.beq j 66) (F_66 m as s) none)
def F_75 (m : Nat) (as : List mV) (s : mS) : Option (Int × mS) := runS TT Mi_75 scr0 (env_75 m) (m + 1) 0 (ent 0 as) [] s (0, 0)
def f_X_wentBy (m : Nat) (a1 : Int) (s : mS) : Option (Int × mS) := F_75 m [rv (some 0), iv a1] s
def Mi_73 : mM := (false, false, 0, 2, (0, 0), 1, rs_0, cd_73, [])
abbrev env_73 (m : Nat) : Nat → List mV → mS → Option (Int × mS) := fun j as s => (bsel (Nat.beq j 62) (F_62 m as s) (bsel (Nat.beq j 74) (F_74 m as s) (bsel (Nat.beq j 75) (F_75 m as s) none)))
def F_73 (m : Nat) (as : List mV) (s : mS) : Option (Int × mS) := runS TT Mi_73 scr0 (env_73 m) (m + 1) 0 (ent 0 as) [] s (0, 0)
def f_X_days (m : Nat) (a1 : Int) (s : mS) : Option (Int × mS) := F_73 m [rv (some 0), iv a1] s
def Mi_77 : mM := (false, false, 6, 2, (0, 0), 1, rs_4, cd_77, [(37, [0])])
abbrev env_77 (m : Nat) : Nat → List mV → mS → Option (Int × mS) := fun j as s => (bsel (Nat.beq j 62) (F_62 m as s) none)
def F_77 (m : Nat) (as : List mV) (s : mS) : Option (Int × mS) := runS TT Mi_77 scr0 (env_77 m) (m + 1) 0 (ent 0 as) [] s (0, 0)
def l_Ps_backTo_L37 (m : Nat) (n : Nat) (v1 : Option Nat) (s : mS) : Option (Int × mS) := runS TT Mi_77 scr0 (env_77 m) n 37 [(0, rv (some 100))] [rv v1, rv (some 17)] s (0, 0)
def f_Ps_backTo (m : Nat) (s : mS) : Option (Int × mS) := F_77 m [rv (some 100), rv (some 17)] s
def Mi_76 : mM := (false, false, 0, 1, (0, 0), 1, rs_0, cd_76, [])
abbrev env_76 (m : Nat) : Nat → List mV → mS → Option (Int × mS) := fun j as s => (bsel (Nat.beq j 77) (F_77 m as s) none)
def F_76 (m : Nat) (as : List mV) (s : mS) : Option (Int × mS) := runS TT Mi_76 scr0 (env_76 m) (m + 1) 0 (ent 0 as) [] s (0, 0)
def f_X_undo (m : Nat) (s : mS) : Option (Int × mS) := F_76 m [rv (some 0)] s
def Mi_81 : mM := (false, false, 8, 4, (0, 0), 4, rs_3, cd_81, [(20, [0, 1, 2, 3])])
def Fg_81 (m : Nat) : Nat → Nat → List mV → mS → Option (Int × mS)
  | 0, _, _, _ => none
  | d + 1, j, as, s => bsel (Nat.beq j 81) (runS TT Mi_81 scr0 (fun j as s => (bsel (Nat.beq j 81) (Fg_81 m d 81 as s) none)) (m + 1) 0 (ent 0 as) [] s (0, 0)) (none)
abbrev env_81 (m d : Nat) : Nat → List mV → mS → Option (Int × mS) := fun j as s => (bsel (Nat.beq j 81) (Fg_81 m d 81 as s) none)
def l_Mt_finds_L20 (m : Nat) (d : Nat) (n : Nat) (x1 : Int) (x2 : Int) (x3 : Int) (s : mS) : Option (Int × mS) := runS TT Mi_81 scr0 (env_81 m d) n 20 [(0, rv (some 241)), (1, iv x1), (2, iv x2), (3, iv x3)] [] s (0, 0)
def f_Mt_finds (m : Nat) (d : Nat) (a1 : Int) (a2 : Int) (s : mS) : Option (Int × mS) := Fg_81 m d 81 [rv (some 241), iv a1, iv a2] s
def Mi_80 : mM := (false, false, 8, 5, (0, 0), 1, rs_3, cd_80, [(13, [0, 2, 3, 4])])
abbrev env_80 (m : Nat) : Nat → List mV → mS → Option (Int × mS) := fun j as s => (bsel (Nat.beq j 8) (F_8 m as s) (bsel (Nat.beq j 81) (Fg_81 m 64 81 as s) none))
def F_80 (m : Nat) (as : List mV) (s : mS) : Option (Int × mS) := runS TT Mi_80 scr0 (env_80 m) (m + 1) 0 (ent 0 as) [] s (0, 0)
def l_Mt_mostFrom_L13 (m : Nat) (n : Nat) (x2 : Int) (x3 : Int) (x4 : Int) (s : mS) : Option (Int × mS) := runS TT Mi_80 scr0 (env_80 m) n 13 [(0, rv (some 241)), (2, iv x2), (3, iv x3), (4, iv x4)] [] s (0, 0)
def f_Mt_mostFrom (m : Nat) (a1 : Int) (a2 : Int) (s : mS) : Option (Int × mS) := F_80 m [rv (some 241), iv a1, iv a2] s
def Mi_82 : mM := (false, false, 8, 7, (0, 0), 0, rs_3, cd_82, [(7, [0, 2, 3, 4]), (25, [0, 2, 3, 4, 5])])
abbrev env_82 (m : Nat) : Nat → List mV → mS → Option (Int × mS) := fun j as s => (bsel (Nat.beq j 80) (F_80 m as s) none)
def F_82 (m : Nat) (as : List mV) (s : mS) : Option (Int × mS) := runS TT Mi_82 scr0 (env_82 m) (m + 1) 0 (ent 0 as) [] s (0, 0)
def l_Mt_chooseFirst_L7 (m : Nat) (n : Nat) (x2 : Int) (x3 : Int) (x4 : Int) (s : mS) : Option (Int × mS) := runS TT Mi_82 scr0 (env_82 m) n 7 [(0, rv (some 241)), (2, iv x2), (3, iv x3), (4, iv x4)] [] s (0, 0)
def l_Mt_chooseFirst_L25 (m : Nat) (n : Nat) (x2 : Int) (x3 : Int) (x4 : Int) (x5 : Int) (s : mS) : Option (Int × mS) := runS TT Mi_82 scr0 (env_82 m) n 25 [(0, rv (some 241)), (2, iv x2), (3, iv x3), (4, iv x4), (5, iv x5)] [] s (0, 0)
def f_Mt_chooseFirst (m : Nat) (a1 : Int) (s : mS) : Option (Int × mS) := F_82 m [rv (some 241), iv a1] s
def Mi_79 : mM := (false, false, 8, 5, (0, 0), 1, rs_3, cd_79, [(2, [0, 1, 2, 3]), (18, [0, 1, 2, 3, 4])])
abbrev env_79 (m : Nat) : Nat → List mV → mS → Option (Int × mS) := fun j as s => (bsel (Nat.beq j 64) (F_64 m as s) (bsel (Nat.beq j 80) (F_80 m as s) (bsel (Nat.beq j 82) (F_82 m as s) none)))
def F_79 (m : Nat) (as : List mV) (s : mS) : Option (Int × mS) := runS TT Mi_79 scr0 (env_79 m) (m + 1) 0 (ent 0 as) [] s (0, 0)
def l_Mt_find_L2 (m : Nat) (n : Nat) (x3 : Int) (s : mS) : Option (Int × mS) := runS TT Mi_79 scr0 (env_79 m) n 2 [(0, rv (some 241)), (1, rv (some 4)), (2, rv (some 17)), (3, iv x3)] [] s (0, 0)
def l_Mt_find_L18 (m : Nat) (n : Nat) (x3 : Int) (x4 : Int) (s : mS) : Option (Int × mS) := runS TT Mi_79 scr0 (env_79 m) n 18 [(0, rv (some 241)), (1, rv (some 4)), (2, rv (some 17)), (3, iv x3), (4, iv x4)] [] s (0, 0)
def f_Mt_find (m : Nat) (s : mS) : Option (Int × mS) := F_79 m [rv (some 241), rv (some 4), rv (some 17)] s
def Mi_78 : mM := (false, false, 0, 1, (0, 0), 1, rs_0, cd_78, [])
abbrev env_78 (m : Nat) : Nat → List mV → mS → Option (Int × mS) := fun j as s => (bsel (Nat.beq j 79) (F_79 m as s) none)
def F_78 (m : Nat) (as : List mV) (s : mS) : Option (Int × mS) := runS TT Mi_78 scr0 (env_78 m) (m + 1) 0 (ent 0 as) [] s (0, 0)
def f_X_match (m : Nat) (s : mS) : Option (Int × mS) := F_78 m [rv (some 0)] s
def Mi_83 : mM := (false, false, 0, 2, (0, 0), 1, rs_0, cd_83, [])
abbrev env_83 (m : Nat) : Nat → List mV → mS → Option (Int × mS) := fun j as s => none
def F_83 (m : Nat) (as : List mV) (s : mS) : Option (Int × mS) := runS TT Mi_83 scr0 (env_83 m) (m + 1) 0 (ent 0 as) [] s (0, 0)
def f_X_matchOf (m : Nat) (a1 : Int) (s : mS) : Option (Int × mS) := F_83 m [rv (some 0), iv a1] s
def Mi_85 : mM := (false, false, 0, 5, (0, 0), 1, rs_0, cd_85, [(32, [0, 1, 3, 4])])
abbrev env_85 (m : Nat) : Nat → List mV → mS → Option (Int × mS) := fun j as s => (bsel (Nat.beq j 37) (F_37 m as s) (bsel (Nat.beq j 59) (F_59 m as s) none))
def F_85 (m : Nat) (as : List mV) (s : mS) : Option (Int × mS) := runS TT Mi_85 scr0 (env_85 m) (m + 1) 0 (ent 0 as) [] s (0, 0)
def l_X_plotBehind_L32 (m : Nat) (n : Nat) (x1 : Int) (x3 : Int) (x4 : Int) (s : mS) : Option (Int × mS) := runS TT Mi_85 scr0 (env_85 m) n 32 [(0, rv (some 0)), (1, iv x1), (3, iv x3), (4, iv x4)] [] s (0, 0)
def f_X_plotBehind (m : Nat) (a1 : Int) (a2 : Int) (s : mS) : Option (Int × mS) := F_85 m [rv (some 0), iv a1, iv a2] s
def Mi_84 : mM := (false, false, 0, 4, (0, 0), 1, rs_0, cd_84, [(28, [0, 1, 2])])
abbrev env_84 (m : Nat) : Nat → List mV → mS → Option (Int × mS) := fun j as s => (bsel (Nat.beq j 61) (F_61 m as s) (bsel (Nat.beq j 85) (F_85 m as s) none))
def F_84 (m : Nat) (as : List mV) (s : mS) : Option (Int × mS) := runS TT Mi_84 scr0 (env_84 m) (m + 1) 0 (ent 0 as) [] s (0, 0)
def l_X_soon_L28 (m : Nat) (n : Nat) (x1 : Int) (x2 : Int) (s : mS) : Option (Int × mS) := runS TT Mi_84 scr0 (env_84 m) n 28 [(0, rv (some 0)), (1, iv x1), (2, iv x2)] [] s (0, 0)
def f_X_soon (m : Nat) (a1 : Int) (s : mS) : Option (Int × mS) := F_84 m [rv (some 0), iv a1] s
def Mi_86 : mM := (false, false, 0, 1, (0, 0), 1, rs_0, cd_86, [])
abbrev env_86 (m : Nat) : Nat → List mV → mS → Option (Int × mS) := fun j as s => none
def F_86 (m : Nat) (as : List mV) (s : mS) : Option (Int × mS) := runS TT Mi_86 scr0 (env_86 m) (m + 1) 0 (ent 0 as) [] s (0, 0)
def f_X_soonIn (m : Nat) (s : mS) : Option (Int × mS) := F_86 m [rv (some 0)] s
def Mi_87 : mM := (false, false, 0, 5, (0, 0), 1, rs_0, cd_87, [(16, [0, 1, 2, 3])])
abbrev env_87 (m : Nat) : Nat → List mV → mS → Option (Int × mS) := fun j as s => none
def F_87 (m : Nat) (as : List mV) (s : mS) : Option (Int × mS) := runS TT Mi_87 scr0 (env_87 m) (m + 1) 0 (ent 0 as) [] s (0, 0)
def l_X_crowd_L16 (m : Nat) (n : Nat) (x1 : Int) (x2 : Int) (x3 : Int) (s : mS) : Option (Int × mS) := runS TT Mi_87 scr0 (env_87 m) n 16 [(0, rv (some 0)), (1, iv x1), (2, iv x2), (3, iv x3)] [] s (0, 0)
def f_X_crowd (m : Nat) (a1 : Int) (s : mS) : Option (Int × mS) := F_87 m [rv (some 0), iv a1] s
def Mi_89 : mM := (false, false, 0, 7, (0, 0), 1, rs_0, cd_89, [(5, [0, 1, 2, 3, 4])])
abbrev env_89 (m : Nat) : Nat → List mV → mS → Option (Int × mS) := fun j as s => none
def F_89 (m : Nat) (as : List mV) (s : mS) : Option (Int × mS) := runS TT Mi_89 scr0 (env_89 m) (m + 1) 0 (ent 0 as) [] s (0, 0)
def l_X_outOn_L5 (m : Nat) (n : Nat) (x1 : Int) (x2 : Int) (x3 : Int) (x4 : Int) (s : mS) : Option (Int × mS) := runS TT Mi_89 scr0 (env_89 m) n 5 [(0, rv (some 0)), (1, iv x1), (2, iv x2), (3, iv x3), (4, iv x4)] [] s (0, 0)
def f_X_outOn (m : Nat) (a1 : Int) (a2 : Int) (s : mS) : Option (Int × mS) := F_89 m [rv (some 0), iv a1, iv a2] s
def Mi_88 : mM := (false, false, 0, 5, (0, 0), 1, rs_0, cd_88, [(28, [0, 1, 2, 3, 4])])
abbrev env_88 (m : Nat) : Nat → List mV → mS → Option (Int × mS) := fun j as s => (bsel (Nat.beq j 51) (F_51 m as s) (bsel (Nat.beq j 89) (F_89 m as s) none))
def F_88 (m : Nat) (as : List mV) (s : mS) : Option (Int × mS) := runS TT Mi_88 scr0 (env_88 m) (m + 1) 0 (ent 0 as) [] s (0, 0)
def l_X_need_L28 (m : Nat) (n : Nat) (x1 : Int) (x2 : Int) (x3 : Int) (x4 : Int) (s : mS) : Option (Int × mS) := runS TT Mi_88 scr0 (env_88 m) n 28 [(0, rv (some 0)), (1, iv x1), (2, iv x2), (3, iv x3), (4, iv x4)] [] s (0, 0)
def f_X_need (m : Nat) (a1 : Int) (a2 : Int) (s : mS) : Option (Int × mS) := F_88 m [rv (some 0), iv a1, iv a2] s
def Mi_91 : mM := (false, false, 0, 7, (0, 0), 1, rs_0, cd_91, [(19, [0, 2, 3, 4, 5]), (39, [0, 2, 3, 4, 5])])
abbrev env_91 (m : Nat) : Nat → List mV → mS → Option (Int × mS) := fun j as s => (bsel (Nat.beq j 48) (F_48 m as s) (bsel (Nat.beq j 61) (F_61 m as s) none))
def F_91 (m : Nat) (as : List mV) (s : mS) : Option (Int × mS) := runS TT Mi_91 scr0 (env_91 m) (m + 1) 0 (ent 0 as) [] s (0, 0)
def l_X_ringFrom_L19 (m : Nat) (n : Nat) (x2 : Int) (x3 : Int) (x4 : Int) (x5 : Int) (s : mS) : Option (Int × mS) := runS TT Mi_91 scr0 (env_91 m) n 19 [(0, rv (some 0)), (2, iv x2), (3, iv x3), (4, iv x4), (5, iv x5)] [] s (0, 0)
def l_X_ringFrom_L39 (m : Nat) (n : Nat) (x2 : Int) (x3 : Int) (x4 : Int) (x5 : Int) (s : mS) : Option (Int × mS) := runS TT Mi_91 scr0 (env_91 m) n 39 [(0, rv (some 0)), (2, iv x2), (3, iv x3), (4, iv x4), (5, iv x5)] [] s (0, 0)
def f_X_ringFrom (m : Nat) (a1 : Int) (a2 : Int) (s : mS) : Option (Int × mS) := F_91 m [rv (some 0), iv a1, iv a2] s
def Mi_90 : mM := (false, false, 0, 3, (0, 0), 1, rs_0, cd_90, [])
abbrev env_90 (m : Nat) : Nat → List mV → mS → Option (Int × mS) := fun j as s => (bsel (Nat.beq j 61) (F_61 m as s) (bsel (Nat.beq j 91) (F_91 m as s) none))
def F_90 (m : Nat) (as : List mV) (s : mS) : Option (Int × mS) := runS TT Mi_90 scr0 (env_90 m) (m + 1) 0 (ent 0 as) [] s (0, 0)
def f_X_ring (m : Nat) (a1 : Int) (s : mS) : Option (Int × mS) := F_90 m [rv (some 0), iv a1] s
def Mi_92 : mM := (false, false, 0, 2, (0, 0), 1, rs_0, cd_92, [])
abbrev env_92 (m : Nat) : Nat → List mV → mS → Option (Int × mS) := fun j as s => none
def F_92 (m : Nat) (as : List mV) (s : mS) : Option (Int × mS) := runS TT Mi_92 scr0 (env_92 m) (m + 1) 0 (ent 0 as) [] s (0, 0)
def f_X_ringAt (m : Nat) (a1 : Int) (s : mS) : Option (Int × mS) := F_92 m [rv (some 0), iv a1] s
def Mi_94 : mM := (false, false, 3, 1, (0, 0), 1, rs_8, cd_94, [])
abbrev env_94 (m : Nat) : Nat → List mV → mS → Option (Int × mS) := fun j as s => none
def F_94 (m : Nat) (as : List mV) (s : mS) : Option (Int × mS) := runS TT Mi_94 scr0 (env_94 m) (m + 1) 0 (ent 0 as) [] s (0, 0)
def f_Vs_allDead (m : Nat) (s : mS) : Option (Int × mS) := F_94 m [rv (some 4)] s
def Mi_95 : mM := (false, false, 1, 2, (0, 0), 1, rs_7, cd_95, [])
abbrev env_95 (m : Nat) : Nat → List mV → mS → Option (Int × mS) := fun j as s => none
def F_95 (m : Nat) (as : List mV) (s : mS) : Option (Int × mS) := runS TT Mi_95 scr0 (env_95 m) (m + 1) 0 (ent 0 as) [] s (0, 0)
def f_Tp_byteOf (m : Nat) (a1 : Int) (s : mS) : Option (Int × mS) := F_95 m [rv (some 1), iv a1] s
def Mi_97 : mM := (false, false, 0, 3, (0, 0), 1, rs_0, cd_97, [])
abbrev env_97 (m : Nat) : Nat → List mV → mS → Option (Int × mS) := fun j as s => none
def F_97 (m : Nat) (as : List mV) (s : mS) : Option (Int × mS) := runS TT Mi_97 scr0 (env_97 m) (m + 1) 0 (ent 0 as) [] s (0, 0)
def f_X_numberOf (m : Nat) (a1 : Int) (a2 : Int) (s : mS) : Option (Int × mS) := F_97 m [rv (some 0), iv a1, iv a2] s
def Mi_96 : mM := (false, false, 0, 5, (0, 0), 1, rs_0, cd_96, [(5, [0, 1, 2, 3, 4])])
abbrev env_96 (m : Nat) : Nat → List mV → mS → Option (Int × mS) := fun j as s => (bsel (Nat.beq j 97) (F_97 m as s) none)
def F_96 (m : Nat) (as : List mV) (s : mS) : Option (Int × mS) := runS TT Mi_96 scr0 (env_96 m) (m + 1) 0 (ent 0 as) [] s (0, 0)
def l_X_thoseWith_L5 (m : Nat) (n : Nat) (x1 : Int) (x2 : Int) (x3 : Int) (x4 : Int) (s : mS) : Option (Int × mS) := runS TT Mi_96 scr0 (env_96 m) n 5 [(0, rv (some 0)), (1, iv x1), (2, iv x2), (3, iv x3), (4, iv x4)] [] s (0, 0)
def f_X_thoseWith (m : Nat) (a1 : Int) (a2 : Int) (s : mS) : Option (Int × mS) := F_96 m [rv (some 0), iv a1, iv a2] s
def Mi_100 : mM := (false, false, 99, 1, (0, 0), 1, rs_15, cd_100, [])
abbrev env_100 (m : Nat) : Nat → List mV → mS → Option (Int × mS) := fun j as s => none
def F_100 (m : Nat) (as : List mV) (s : mS) : Option (Int × mS) := runS TT Mi_100 scr0 (env_100 m) (m + 1) 0 (ent 0 as) [] s (0, 0)
def f_Ji_bitCount (m : Nat) (a0 : Int) (s : mS) : Option (Int × mS) := F_100 m [iv a0] s
def Mi_99 : mM := (false, false, 0, 6, (0, 0), 1, rs_0, cd_99, [(5, [0, 1, 2, 3, 4])])
abbrev env_99 (m : Nat) : Nat → List mV → mS → Option (Int × mS) := fun j as s => (bsel (Nat.beq j 51) (F_51 m as s) (bsel (Nat.beq j 96) (F_96 m as s) (bsel (Nat.beq j 97) (F_97 m as s) (bsel (Nat.beq j 100) (F_100 m as s) none))))
def F_99 (m : Nat) (as : List mV) (s : mS) : Option (Int × mS) := runS TT Mi_99 scr0 (env_99 m) (m + 1) 0 (ent 0 as) [] s (0, 0)
def l_X_greatestAlike_L5 (m : Nat) (n : Nat) (x1 : Int) (x2 : Int) (x3 : Int) (x4 : Int) (s : mS) : Option (Int × mS) := runS TT Mi_99 scr0 (env_99 m) n 5 [(0, rv (some 0)), (1, iv x1), (2, iv x2), (3, iv x3), (4, iv x4)] [] s (0, 0)
def f_X_greatestAlike (m : Nat) (a1 : Int) (a2 : Int) (s : mS) : Option (Int × mS) := F_99 m [rv (some 0), iv a1, iv a2] s
def Mi_98 : mM := (false, false, 0, 6, (0, 0), 1, rs_0, cd_98, [(8, [0, 1, 2, 3, 4])])
abbrev env_98 (m : Nat) : Nat → List mV → mS → Option (Int × mS) := fun j as s => (bsel (Nat.beq j 99) (F_99 m as s) none)
def F_98 (m : Nat) (as : List mV) (s : mS) : Option (Int × mS) := runS TT Mi_98 scr0 (env_98 m) (m + 1) 0 (ent 0 as) [] s (0, 0)
def l_X_bestToAsk_L8 (m : Nat) (n : Nat) (x1 : Int) (x2 : Int) (x3 : Int) (x4 : Int) (s : mS) : Option (Int × mS) := runS TT Mi_98 scr0 (env_98 m) n 8 [(0, rv (some 0)), (1, iv x1), (2, iv x2), (3, iv x3), (4, iv x4)] [] s (0, 0)
def f_X_bestToAsk (m : Nat) (a1 : Int) (s : mS) : Option (Int × mS) := F_98 m [rv (some 0), iv a1] s
def Mi_93 : mM := (false, false, 0, 5, (0, 0), 1, rs_0, cd_93, [(48, [0, 1, 2, 3])])
abbrev env_93 (m : Nat) : Nat → List mV → mS → Option (Int × mS) := fun j as s => (bsel (Nat.beq j 94) (F_94 m as s) (bsel (Nat.beq j 95) (F_95 m as s) (bsel (Nat.beq j 96) (F_96 m as s) (bsel (Nat.beq j 98) (F_98 m as s) none))))
def F_93 (m : Nat) (as : List mV) (s : mS) : Option (Int × mS) := runS TT Mi_93 scr0 (env_93 m) (m + 1) 0 (ent 0 as) [] s (0, 0)
def l_X_who_L48 (m : Nat) (n : Nat) (x1 : Int) (x2 : Int) (x3 : Int) (s : mS) : Option (Int × mS) := runS TT Mi_93 scr0 (env_93 m) n 48 [(0, rv (some 0)), (1, iv x1), (2, iv x2), (3, iv x3)] [] s (0, 0)
def f_X_who (m : Nat) (s : mS) : Option (Int × mS) := F_93 m [rv (some 0)] s
def Mi_101 : mM := (false, false, 0, 1, (0, 0), 1, rs_0, cd_101, [])
abbrev env_101 (m : Nat) : Nat → List mV → mS → Option (Int × mS) := fun j as s => none
def F_101 (m : Nat) (as : List mV) (s : mS) : Option (Int × mS) := runS TT Mi_101 scr0 (env_101 m) (m + 1) 0 (ent 0 as) [] s (0, 0)
def f_X_ask (m : Nat) (s : mS) : Option (Int × mS) := F_101 m [rv (some 0)] s
def Mi_103 : mM := (false, false, 3, 4, (0, 0), 1, rs_8, cd_103, [(4, [0, 1, 2, 3])])
abbrev env_103 (m : Nat) : Nat → List mV → mS → Option (Int × mS) := fun j as s => none
def F_103 (m : Nat) (as : List mV) (s : mS) : Option (Int × mS) := runS TT Mi_103 scr0 (env_103 m) (m + 1) 0 (ent 0 as) [] s (0, 0)
def l_Vs_kinOfAny_L4 (m : Nat) (n : Nat) (x1 : Int) (x2 : Int) (x3 : Int) (s : mS) : Option (Int × mS) := runS TT Mi_103 scr0 (env_103 m) n 4 [(0, rv (some 4)), (1, iv x1), (2, iv x2), (3, iv x3)] [] s (0, 0)
def f_Vs_kinOfAny (m : Nat) (a1 : Int) (s : mS) : Option (Int × mS) := F_103 m [rv (some 4), iv a1] s
def Mi_102 : mM := (false, false, 0, 5, (0, 0), 1, rs_0, cd_102, [(25, [0, 2, 3, 4])])
abbrev env_102 (m : Nat) : Nat → List mV → mS → Option (Int × mS) := fun j as s => (bsel (Nat.beq j 61) (F_61 m as s) (bsel (Nat.beq j 103) (F_103 m as s) none))
def F_102 (m : Nat) (as : List mV) (s : mS) : Option (Int × mS) := runS TT Mi_102 scr0 (env_102 m) (m + 1) 0 (ent 0 as) [] s (0, 0)
def l_X_near_L25 (m : Nat) (n : Nat) (x2 : Int) (x3 : Int) (x4 : Int) (s : mS) : Option (Int × mS) := runS TT Mi_102 scr0 (env_102 m) n 25 [(0, rv (some 0)), (2, iv x2), (3, iv x3), (4, iv x4)] [] s (0, 0)
def f_X_near (m : Nat) (a1 : Int) (a2 : Int) (s : mS) : Option (Int × mS) := F_102 m [rv (some 0), iv a1, iv a2] s
def Mi_104 : mM := (false, false, 0, 3, (0, 0), 1, rs_0, cd_104, [])
abbrev env_104 (m : Nat) : Nat → List mV → mS → Option (Int × mS) := fun j as s => (bsel (Nat.beq j 48) (F_48 m as s) none)
def F_104 (m : Nat) (as : List mV) (s : mS) : Option (Int × mS) := runS TT Mi_104 scr0 (env_104 m) (m + 1) 0 (ent 0 as) [] s (0, 0)
def f_X_had (m : Nat) (a1 : Int) (a2 : Int) (s : mS) : Option (Int × mS) := F_104 m [rv (some 0), iv a1, iv a2] s
def Mi_105 : mM := (false, false, 0, 4, (0, 0), 1, rs_0, cd_105, [(6, [0, 1, 2, 3])])
abbrev env_105 (m : Nat) : Nat → List mV → mS → Option (Int × mS) := fun j as s => none
def F_105 (m : Nat) (as : List mV) (s : mS) : Option (Int × mS) := runS TT Mi_105 scr0 (env_105 m) (m + 1) 0 (ent 0 as) [] s (0, 0)
def l_X_longest_L6 (m : Nat) (n : Nat) (x1 : Int) (x2 : Int) (x3 : Int) (s : mS) : Option (Int × mS) := runS TT Mi_105 scr0 (env_105 m) n 6 [(0, rv (some 0)), (1, iv x1), (2, iv x2), (3, iv x3)] [] s (0, 0)
def f_X_longest (m : Nat) (s : mS) : Option (Int × mS) := F_105 m [rv (some 0)] s
def Mi_108 : mM := (false, false, 0, 2, (0, 0), 0, rs_0, cd_108, [])
abbrev env_108 (m : Nat) : Nat → List mV → mS → Option (Int × mS) := fun j as s => none
def F_108 (m : Nat) (as : List mV) (s : mS) : Option (Int × mS) := runS TT Mi_108 scr0 (env_108 m) (m + 1) 0 (ent 0 as) [] s (0, 0)
def f_X_tagByte (m : Nat) (a1 : Int) (s : mS) : Option (Int × mS) := F_108 m [rv (some 0), iv a1] s
def Mi_107 : mM := (false, false, 0, 5, (0, 0), 0, rs_0, cd_107, [(3, [0, 1, 3])])
abbrev env_107 (m : Nat) : Nat → List mV → mS → Option (Int × mS) := fun j as s => (bsel (Nat.beq j 108) (F_108 m as s) none)
def F_107 (m : Nat) (as : List mV) (s : mS) : Option (Int × mS) := runS TT Mi_107 scr0 (env_107 m) (m + 1) 0 (ent 0 as) [] s (0, 0)
def l_X_tagName_L3 (m : Nat) (n : Nat) (x1 : Int) (x3 : Int) (s : mS) : Option (Int × mS) := runS TT Mi_107 scr0 (env_107 m) n 3 [(0, rv (some 0)), (1, jv x1), (3, iv x3)] [] s (0, 0)
def f_X_tagName (m : Nat) (a1 : Int) (s : mS) : Option (Int × mS) := F_107 m [rv (some 0), jv a1] s
def F_110 (_ : Nat) (as : List mV) (s : mS) : Option (Int × mS) := match as with
  | [.inr (some t)] => some (((strB (t - 1200)).length : Int), s)
  | _ => none
def f_Js_length_1200 (m : Nat) (s : mS) : Option (Int × mS) := F_110 m [rv (some 1200)] s
def f_Js_length_1201 (m : Nat) (s : mS) : Option (Int × mS) := F_110 m [rv (some 1201)] s
def f_Js_length_1202 (m : Nat) (s : mS) : Option (Int × mS) := F_110 m [rv (some 1202)] s
def f_Js_length_1203 (m : Nat) (s : mS) : Option (Int × mS) := F_110 m [rv (some 1203)] s
def F_112 (_ : Nat) (as : List mV) (s : mS) : Option (Int × mS) := match as with
  | [.inr (some t), .inl (.inl i)] => inR i (strB (t - 1200)).length (some ((strB (t - 1200)).getD i.toNat 0, s))
  | _ => none
def f_Js_charAt_1200 (m : Nat) (a1 : Int) (s : mS) : Option (Int × mS) := F_112 m [rv (some 1200), iv a1] s
def f_Js_charAt_1201 (m : Nat) (a1 : Int) (s : mS) : Option (Int × mS) := F_112 m [rv (some 1201), iv a1] s
def f_Js_charAt_1202 (m : Nat) (a1 : Int) (s : mS) : Option (Int × mS) := F_112 m [rv (some 1202), iv a1] s
def f_Js_charAt_1203 (m : Nat) (a1 : Int) (s : mS) : Option (Int × mS) := F_112 m [rv (some 1203), iv a1] s
def Mi_109 : mM := (false, false, 0, 3, (0, 0), 0, rs_0, cd_109, [(2, [0, 1, 2])])
abbrev env_109 (m : Nat) : Nat → List mV → mS → Option (Int × mS) := fun j as s => (bsel (Nat.beq j 108) (F_108 m as s) (bsel (Nat.beq j 110) (F_110 m as s) (bsel (Nat.beq j 112) (F_112 m as s) none)))
def F_109 (m : Nat) (as : List mV) (s : mS) : Option (Int × mS) := runS TT Mi_109 scr0 (env_109 m) (m + 1) 0 (ent 0 as) [] s (0, 0)
def l_X_tagText_0_1200_L2 (m : Nat) (n : Nat) (x2 : Int) (s : mS) : Option (Int × mS) := runS TT Mi_109 scr0 (env_109 m) n 2 [(0, rv (some 0)), (1, rv (some 1200)), (2, iv x2)] [] s (0, 0)
def f_X_tagText_0_1200 (m : Nat) (s : mS) : Option (Int × mS) := F_109 m [rv (some 0), rv (some 1200)] s
def l_X_tagText_0_1201_L2 (m : Nat) (n : Nat) (x2 : Int) (s : mS) : Option (Int × mS) := runS TT Mi_109 scr0 (env_109 m) n 2 [(0, rv (some 0)), (1, rv (some 1201)), (2, iv x2)] [] s (0, 0)
def f_X_tagText_0_1201 (m : Nat) (s : mS) : Option (Int × mS) := F_109 m [rv (some 0), rv (some 1201)] s
def l_X_tagText_0_1202_L2 (m : Nat) (n : Nat) (x2 : Int) (s : mS) : Option (Int × mS) := runS TT Mi_109 scr0 (env_109 m) n 2 [(0, rv (some 0)), (1, rv (some 1202)), (2, iv x2)] [] s (0, 0)
def f_X_tagText_0_1202 (m : Nat) (s : mS) : Option (Int × mS) := F_109 m [rv (some 0), rv (some 1202)] s
def l_X_tagText_0_1203_L2 (m : Nat) (n : Nat) (x2 : Int) (s : mS) : Option (Int × mS) := runS TT Mi_109 scr0 (env_109 m) n 2 [(0, rv (some 0)), (1, rv (some 1203)), (2, iv x2)] [] s (0, 0)
def f_X_tagText_0_1203 (m : Nat) (s : mS) : Option (Int × mS) := F_109 m [rv (some 0), rv (some 1203)] s
def Mi_106 : mM := (false, false, 0, 5, (0, 0), 1, rs_0, cd_106, [(139, [0, 2, 4])])
abbrev env_106 (m : Nat) : Nat → List mV → mS → Option (Int × mS) := fun j as s => (bsel (Nat.beq j 48) (F_48 m as s) (bsel (Nat.beq j 53) (F_53 m as s) (bsel (Nat.beq j 61) (F_61 m as s) (bsel (Nat.beq j 107) (F_107 m as s) (bsel (Nat.beq j 109) (F_109 m as s) none)))))
def F_106 (m : Nat) (as : List mV) (s : mS) : Option (Int × mS) := runS TT Mi_106 scr0 (env_106 m) (m + 1) 0 (ent 0 as) [] s (0, 0)
def l_X_tag_L139 (m : Nat) (n : Nat) (x2 : Int) (x4 : Int) (s : mS) : Option (Int × mS) := runS TT Mi_106 scr0 (env_106 m) n 139 [(0, rv (some 0)), (2, iv x2), (4, iv x4)] [] s (0, 0)
def f_X_tag (m : Nat) (a1 : Int) (s : mS) : Option (Int × mS) := F_106 m [rv (some 0), iv a1] s
def Mi_121 : mM := (false, false, 0, 2, (0, 0), 1, rs_0, cd_121, [])
abbrev env_121 (m : Nat) : Nat → List mV → mS → Option (Int × mS) := fun j as s => none
def F_121 (m : Nat) (as : List mV) (s : mS) : Option (Int × mS) := runS TT Mi_121 scr0 (env_121 m) (m + 1) 0 (ent 0 as) [] s (0, 0)
def f_X_byteAt (m : Nat) (a1 : Int) (s : mS) : Option (Int × mS) := F_121 m [rv (some 0), iv a1] s
def Mi_125 : mM := (false, false, 9, 2, (0, 0), 1, rs_2, cd_125, [])
abbrev env_125 (m : Nat) : Nat → List mV → mS → Option (Int × mS) := fun j as s => none
def F_125 (m : Nat) (as : List mV) (s : mS) : Option (Int × mS) := runS TT Mi_125 scr0 (env_125 m) (m + 1) 0 (ent 0 as) [] s (0, 0)
def f_Dr_draw (m : Nat) (a1 : Int) (s : mS) : Option (Int × mS) := F_125 m [rv (some 245), iv a1] s
def Mi_124 : mM := (false, false, 9, 6, (0, 0), 0, rs_2, cd_124, [(65, [0, 1, 2, 3]), (136, [0, 1, 2, 3])])
abbrev env_124 (m : Nat) : Nat → List mV → mS → Option (Int × mS) := fun j as s => (bsel (Nat.beq j 63) (F_63 m as s) (bsel (Nat.beq j 68) (F_68 m as s) (bsel (Nat.beq j 70) (F_70 m as s) (bsel (Nat.beq j 72) (F_72 m as s) (bsel (Nat.beq j 125) (F_125 m as s) none)))))
def F_124 (m : Nat) (as : List mV) (s : mS) : Option (Int × mS) := runS TT Mi_124 scr0 (env_124 m) (m + 1) 0 (ent 0 as) [] s (0, 0)
def l_Dr_actOnce_245_4_17_L65 (m : Nat) (n : Nat) (x3 : Int) (s : mS) : Option (Int × mS) := runS TT Mi_124 scr0 (env_124 m) n 65 [(0, rv (some 245)), (1, rv (some 4)), (2, rv (some 17)), (3, iv x3)] [] s (0, 0)
def l_Dr_actOnce_245_4_17_L136 (m : Nat) (n : Nat) (x3 : Int) (s : mS) : Option (Int × mS) := runS TT Mi_124 scr0 (env_124 m) n 136 [(0, rv (some 245)), (1, rv (some 4)), (2, rv (some 17)), (3, iv x3)] [] s (0, 0)
def f_Dr_actOnce_245_4_17 (m : Nat) (s : mS) : Option (Int × mS) := F_124 m [rv (some 245), rv (some 4), rv (some 17)] s
def l_Dr_actOnce_245_4_206_L65 (m : Nat) (n : Nat) (x3 : Int) (s : mS) : Option (Int × mS) := runS TT Mi_124 scr0 (env_124 m) n 65 [(0, rv (some 245)), (1, rv (some 4)), (2, rv (some 206)), (3, iv x3)] [] s (0, 0)
def l_Dr_actOnce_245_4_206_L136 (m : Nat) (n : Nat) (x3 : Int) (s : mS) : Option (Int × mS) := runS TT Mi_124 scr0 (env_124 m) n 136 [(0, rv (some 245)), (1, rv (some 4)), (2, rv (some 206)), (3, iv x3)] [] s (0, 0)
def f_Dr_actOnce_245_4_206 (m : Nat) (s : mS) : Option (Int × mS) := F_124 m [rv (some 245), rv (some 4), rv (some 206)] s
def Mi_123 : mM := (false, false, 9, 6, (0, 0), 1, rs_2, cd_123, [(8, [0, 1, 3, 4, 5])])
abbrev env_123 (m : Nat) : Nat → List mV → mS → Option (Int × mS) := fun j as s => (bsel (Nat.beq j 74) (F_74 m as s) (bsel (Nat.beq j 124) (F_124 m as s) none))
def F_123 (m : Nat) (as : List mV) (s : mS) : Option (Int × mS) := runS TT Mi_123 scr0 (env_123 m) (m + 1) 0 (ent 0 as) [] s (0, 0)
def l_Dr_live_245_4_17_L8 (m : Nat) (n : Nat) (x1 : Int) (x5 : Int) (s : mS) : Option (Int × mS) := runS TT Mi_123 scr0 (env_123 m) n 8 [(0, rv (some 245)), (1, iv x1), (3, rv (some 4)), (4, rv (some 17)), (5, iv x5)] [] s (0, 0)
def f_Dr_live_245_4_17 (m : Nat) (a1 : Int) (a2 : Int) (s : mS) : Option (Int × mS) := F_123 m [rv (some 245), iv a1, iv a2, rv (some 4), rv (some 17)] s
def l_Dr_live_245_4_206_L8 (m : Nat) (n : Nat) (x1 : Int) (x5 : Int) (s : mS) : Option (Int × mS) := runS TT Mi_123 scr0 (env_123 m) n 8 [(0, rv (some 245)), (1, iv x1), (3, rv (some 4)), (4, rv (some 206)), (5, iv x5)] [] s (0, 0)
def f_Dr_live_245_4_206 (m : Nat) (a1 : Int) (a2 : Int) (s : mS) : Option (Int × mS) := F_123 m [rv (some 245), iv a1, iv a2, rv (some 4), rv (some 206)] s
def Mi_122 : mM := (false, false, 0, 3, (0, 0), 1, rs_0, cd_122, [])
abbrev env_122 (m : Nat) : Nat → List mV → mS → Option (Int × mS) := fun j as s => (bsel (Nat.beq j 62) (F_62 m as s) (bsel (Nat.beq j 75) (F_75 m as s) (bsel (Nat.beq j 123) (F_123 m as s) none)))
def F_122 (m : Nat) (as : List mV) (s : mS) : Option (Int × mS) := runS TT Mi_122 scr0 (env_122 m) (m + 1) 0 (ent 0 as) [] s (0, 0)
def f_X_drawn (m : Nat) (a1 : Int) (a2 : Int) (s : mS) : Option (Int × mS) := F_122 m [rv (some 0), iv a1, iv a2] s
def Mi_126 : mM := (false, false, 0, 6, (0, 0), 1, rs_0, cd_126, [(27, [0, 1, 2, 3, 4, 5])])
abbrev env_126 (m : Nat) : Nat → List mV → mS → Option (Int × mS) := fun j as s => (bsel (Nat.beq j 61) (F_61 m as s) (bsel (Nat.beq j 62) (F_62 m as s) (bsel (Nat.beq j 123) (F_123 m as s) none)))
def F_126 (m : Nat) (as : List mV) (s : mS) : Option (Int × mS) := runS TT Mi_126 scr0 (env_126 m) (m + 1) 0 (ent 0 as) [] s (0, 0)
def l_X_odds_L27 (m : Nat) (n : Nat) (x1 : Int) (x2 : Int) (x3 : Int) (x4 : Int) (x5 : Int) (s : mS) : Option (Int × mS) := runS TT Mi_126 scr0 (env_126 m) n 27 [(0, rv (some 0)), (1, iv x1), (2, iv x2), (3, iv x3), (4, iv x4), (5, iv x5)] [] s (0, 0)
def f_X_odds (m : Nat) (a1 : Int) (a2 : Int) (a3 : Int) (s : mS) : Option (Int × mS) := F_126 m [rv (some 0), iv a1, iv a2, iv a3] s
def Mi_130 : mM := (false, false, 7, 2, (0, 0), 1, rs_1, cd_130, [])
abbrev env_130 (m : Nat) : Nat → List mV → mS → Option (Int × mS) := fun j as s => (bsel (Nat.beq j 26) (F_26 m as s) none)
def F_130 (m : Nat) (as : List mV) (s : mS) : Option (Int × mS) := runS TT Mi_130 scr0 (env_130 m) (m + 1) 0 (ent 0 as) [] s (0, 0)
def f_Bk_actOf (m : Nat) (s : mS) : Option (Int × mS) := F_130 m [rv (some 1)] s
def Mi_131 : mM := (false, false, 7, 3, (0, 0), 4, rs_1, cd_131, [])
abbrev env_131 (m : Nat) : Nat → List mV → mS → Option (Int × mS) := fun j as s => (bsel (Nat.beq j 19) (F_19 m as s) (bsel (Nat.beq j 25) (F_25 m as s) (bsel (Nat.beq j 36) (F_36 m as s) none)))
def F_131 (m : Nat) (as : List mV) (s : mS) : Option (Int × mS) := runS TT Mi_131 scr0 (env_131 m) (m + 1) 0 (ent 0 as) [] s (0, 0)
def f_Bk_readOther (m : Nat) (s : mS) : Option (Int × mS) := F_131 m [rv (some 237), rv (some 1), rv (some 4)] s
def Mi_132 : mM := (false, false, 3, 3, (0, 0), 1, rs_8, cd_132, [])
abbrev env_132 (m : Nat) : Nat → List mV → mS → Option (Int × mS) := fun j as s => (bsel (Nat.beq j 19) (F_19 m as s) (bsel (Nat.beq j 35) (F_35 m as s) none))
def F_132 (m : Nat) (as : List mV) (s : mS) : Option (Int × mS) := runS TT Mi_132 scr0 (env_132 m) (m + 1) 0 (ent 0 as) [] s (0, 0)
def f_Vs_takePlot (m : Nat) (s : mS) : Option (Int × mS) := F_132 m [rv (some 4), rv (some 1)] s
def Mi_129 : mM := (false, false, 7, 4, (0, 0), 4, rs_1, cd_129, [(111, [0, 1, 2, 3])])
abbrev env_129 (m : Nat) : Nat → List mV → mS → Option (Int × mS) := fun j as s => (bsel (Nat.beq j 19) (F_19 m as s) (bsel (Nat.beq j 25) (F_25 m as s) (bsel (Nat.beq j 30) (F_30 m as s) (bsel (Nat.beq j 34) (F_34 m as s) (bsel (Nat.beq j 39) (F_39 m as s) (bsel (Nat.beq j 130) (F_130 m as s) (bsel (Nat.beq j 131) (F_131 m as s) (bsel (Nat.beq j 132) (F_132 m as s) none))))))))
def F_129 (m : Nat) (as : List mV) (s : mS) : Option (Int × mS) := runS TT Mi_129 scr0 (env_129 m) (m + 1) 0 (ent 0 as) [] s (0, 0)
def l_Bk_readLine_L111 (m : Nat) (n : Nat) (x3 : Int) (y1 : Int) (y2 : Int) (s : mS) : Option (Int × mS) := runS TT Mi_129 scr0 (env_129 m) n 111 [(0, rv (some 237)), (1, rv (some 1)), (2, rv (some 4)), (3, iv x3)] [iv y2, iv y1, rv (some 239)] s (0, 0)
def f_Bk_readLine (m : Nat) (s : mS) : Option (Int × mS) := F_129 m [rv (some 237), rv (some 1), rv (some 4)] s
def Mi_128 : mM := (false, false, 7, 4, (0, 0), 0, rs_1, cd_128, [(7, [0, 1, 2, 3])])
abbrev env_128 (m : Nat) : Nat → List mV → mS → Option (Int × mS) := fun j as s => (bsel (Nat.beq j 42) (F_42 m as s) (bsel (Nat.beq j 129) (F_129 m as s) none))
def F_128 (m : Nat) (as : List mV) (s : mS) : Option (Int × mS) := runS TT Mi_128 scr0 (env_128 m) (m + 1) 0 (ent 0 as) [] s (0, 0)
def l_Bk_readFrom_L7 (m : Nat) (n : Nat) (x3 : Int) (s : mS) : Option (Int × mS) := runS TT Mi_128 scr0 (env_128 m) n 7 [(0, rv (some 237)), (1, rv (some 1)), (2, rv (some 4)), (3, iv x3)] [] s (0, 0)
def f_Bk_readFrom (m : Nat) (s : mS) : Option (Int × mS) := F_128 m [rv (some 237), rv (some 1), rv (some 4)] s
def Mi_135 : mM := (false, false, 7, 4, (0, 0), 1, rs_1, cd_135, [])
abbrev env_135 (m : Nat) : Nat → List mV → mS → Option (Int × mS) := fun j as s => (bsel (Nat.beq j 63) (F_63 m as s) (bsel (Nat.beq j 68) (F_68 m as s) (bsel (Nat.beq j 70) (F_70 m as s) (bsel (Nat.beq j 72) (F_72 m as s) (bsel (Nat.beq j 74) (F_74 m as s) none)))))
def F_135 (m : Nat) (as : List mV) (s : mS) : Option (Int × mS) := runS TT Mi_135 scr0 (env_135 m) (m + 1) 0 (ent 0 as) [] s (0, 0)
def f_Bk_liveAct (m : Nat) (a1 : Int) (s : mS) : Option (Int × mS) := F_135 m [rv (some 237), iv a1, rv (some 4), rv (some 206)] s
def Mi_134 : mM := (false, false, 7, 5, (0, 0), 1, rs_1, cd_134, [])
abbrev env_134 (m : Nat) : Nat → List mV → mS → Option (Int × mS) := fun j as s => (bsel (Nat.beq j 135) (F_135 m as s) none)
def F_134 (m : Nat) (as : List mV) (s : mS) : Option (Int × mS) := runS TT Mi_134 scr0 (env_134 m) (m + 1) 0 (ent 0 as) [] s (0, 0)
def f_Bk_liveLine (m : Nat) (a1 : Int) (s : mS) : Option (Int × mS) := F_134 m [rv (some 237), iv a1, rv (some 4), rv (some 206)] s
def Mi_133 : mM := (false, false, 0, 3, (0, 0), 1, rs_0, cd_133, [(4, [0, 1, 2]), (49, [0, 1, 2])])
abbrev env_133 (m : Nat) : Nat → List mV → mS → Option (Int × mS) := fun j as s => (bsel (Nat.beq j 55) (F_55 m as s) (bsel (Nat.beq j 134) (F_134 m as s) none))
def F_133 (m : Nat) (as : List mV) (s : mS) : Option (Int × mS) := runS TT Mi_133 scr0 (env_133 m) (m + 1) 0 (ent 0 as) [] s (0, 0)
def l_X_judge_L4 (m : Nat) (n : Nat) (x1 : Int) (x2 : Int) (s : mS) : Option (Int × mS) := runS TT Mi_133 scr0 (env_133 m) n 4 [(0, rv (some 0)), (1, iv x1), (2, iv x2)] [] s (0, 0)
def l_X_judge_L49 (m : Nat) (n : Nat) (x1 : Int) (x2 : Int) (s : mS) : Option (Int × mS) := runS TT Mi_133 scr0 (env_133 m) n 49 [(0, rv (some 0)), (1, iv x1), (2, iv x2)] [] s (0, 0)
def f_X_judge (m : Nat) (s : mS) : Option (Int × mS) := F_133 m [rv (some 0)] s
def Mi_127 : mM := (false, false, 0, 3, (0, 0), 1, rs_0, cd_127, [])
abbrev env_127 (m : Nat) : Nat → List mV → mS → Option (Int × mS) := fun j as s => (bsel (Nat.beq j 18) (F_18 m as s) (bsel (Nat.beq j 62) (F_62 m as s) (bsel (Nat.beq j 66) (F_66 m as s) (bsel (Nat.beq j 128) (F_128 m as s) (bsel (Nat.beq j 133) (F_133 m as s) none)))))
def F_127 (m : Nat) (as : List mV) (s : mS) : Option (Int × mS) := runS TT Mi_127 scr0 (env_127 m) (m + 1) 0 (ent 0 as) [] s (0, 0)
def f_X_book (m : Nat) (a1 : Int) (s : mS) : Option (Int × mS) := F_127 m [rv (some 0), iv a1] s
def Mi_136 : mM := (false, false, 0, 2, (0, 0), 1, rs_0, cd_136, [])
abbrev env_136 (m : Nat) : Nat → List mV → mS → Option (Int × mS) := fun j as s => none
def F_136 (m : Nat) (as : List mV) (s : mS) : Option (Int × mS) := runS TT Mi_136 scr0 (env_136 m) (m + 1) 0 (ent 0 as) [] s (0, 0)
def f_X_told (m : Nat) (a1 : Int) (s : mS) : Option (Int × mS) := F_136 m [rv (some 0), iv a1] s
def Mi_141 : mM := (false, false, 5, 1, (0, 0), 4, rs_5, cd_141, [])
abbrev env_141 (m : Nat) : Nat → List mV → mS → Option (Int × mS) := fun j as s => (bsel (Nat.beq j 26) (F_26 m as s) none)
def F_141 (m : Nat) (as : List mV) (s : mS) : Option (Int × mS) := runS TT Mi_141 scr0 (env_141 m) (m + 1) 0 (ent 0 as) [] s (0, 0)
def f_Sn_beginsOne (m : Nat) (q0 : Option Nat) (s : mS) : Option (Int × mS) := F_141 m [rv q0] s
def Mi_142 : mM := (false, false, 5, 4, (0, 0), 4, rs_5, cd_142, [])
abbrev env_142 (m : Nat) : Nat → List mV → mS → Option (Int × mS) := fun j as s => none
def F_142 (m : Nat) (as : List mV) (s : mS) : Option (Int × mS) := runS TT Mi_142 scr0 (env_142 m) (m + 1) 0 (ent 0 as) [] s (0, 0)
def f_Sn_put (m : Nat) (a1 : Int) (a2 : Int) (a3 : Int) (s : mS) : Option (Int × mS) := F_142 m [rv (some 232), iv a1, iv a2, iv a3] s
def Mi_144 : mM := (false, false, 5, 1, (0, 0), 1, rs_5, cd_144, [])
abbrev env_144 (m : Nat) : Nat → List mV → mS → Option (Int × mS) := fun j as s => none
def F_144 (m : Nat) (as : List mV) (s : mS) : Option (Int × mS) := runS TT Mi_144 scr0 (env_144 m) (m + 1) 0 (ent 0 as) [] s (0, 0)
def f_Sn_partOf (m : Nat) (q0 : Option Nat) (s : mS) : Option (Int × mS) := F_144 m [rv q0] s
def Mi_145 : mM := (false, false, 5, 1, (0, 0), 1, rs_5, cd_145, [])
abbrev env_145 (m : Nat) : Nat → List mV → mS → Option (Int × mS) := fun j as s => none
def F_145 (m : Nat) (as : List mV) (s : mS) : Option (Int × mS) := runS TT Mi_145 scr0 (env_145 m) (m + 1) 0 (ent 0 as) [] s (0, 0)
def f_Sn_howOf (m : Nat) (q0 : Option Nat) (s : mS) : Option (Int × mS) := F_145 m [rv q0] s
def Mi_143 : mM := (false, false, 5, 7, (0, 0), 4, rs_5, cd_143, [(35, [0, 2, 3, 4])])
abbrev env_143 (m : Nat) : Nat → List mV → mS → Option (Int × mS) := fun j as s => (bsel (Nat.beq j 19) (F_19 m as s) (bsel (Nat.beq j 25) (F_25 m as s) (bsel (Nat.beq j 30) (F_30 m as s) (bsel (Nat.beq j 34) (F_34 m as s) (bsel (Nat.beq j 39) (F_39 m as s) (bsel (Nat.beq j 142) (F_142 m as s) (bsel (Nat.beq j 144) (F_144 m as s) (bsel (Nat.beq j 145) (F_145 m as s) none))))))))
def F_143 (m : Nat) (as : List mV) (s : mS) : Option (Int × mS) := runS TT Mi_143 scr0 (env_143 m) (m + 1) 0 (ent 0 as) [] s (0, 0)
def l_Sn_readPlain_L35 (m : Nat) (n : Nat) (x4 : Int) (s : mS) : Option (Int × mS) := runS TT Mi_143 scr0 (env_143 m) n 35 [(0, rv (some 232)), (2, rv (some 1)), (3, rv (some 4)), (4, iv x4)] [] s (0, 0)
def f_Sn_readPlain (m : Nat) (q1 : Option Nat) (s : mS) : Option (Int × mS) := F_143 m [rv (some 232), rv q1, rv (some 1), rv (some 4)] s
def Mi_146 : mM := (false, false, 1, 2, (0, 0), 4, rs_7, cd_146, [])
abbrev env_146 (m : Nat) : Nat → List mV → mS → Option (Int × mS) := fun j as s => none
def F_146 (m : Nat) (as : List mV) (s : mS) : Option (Int × mS) := runS TT Mi_146 scr0 (env_146 m) (m + 1) 0 (ent 0 as) [] s (0, 0)
def f_Tp_isWord_1_1013 (m : Nat) (s : mS) : Option (Int × mS) := F_146 m [rv (some 1), rv (some 1013)] s
def f_Tp_isWord_1_1012 (m : Nat) (s : mS) : Option (Int × mS) := F_146 m [rv (some 1), rv (some 1012)] s
def Mi_138 : mM := (false, false, 5, 5, (0, 0), 4, rs_5, cd_138, [(15, [0, 1, 2, 3, 4])])
def Mi_139 : mM := (false, false, 5, 5, (0, 0), 4, rs_5, cd_139, [(15, [0, 1, 2, 3, 4])])
def Mi_140 : mM := (false, false, 5, 6, (0, 0), 4, rs_5, cd_140, [(41, [0, 1, 2, 3, 4, 5])])
def Fg_138 (m : Nat) : Nat → Nat → List mV → mS → Option (Int × mS)
  | 0, _, _, _ => none
  | d + 1, j, as, s => bsel (Nat.beq j 138) (runS TT Mi_138 scr0 (fun j as s => (bsel (Nat.beq j 19) (F_19 m as s) (bsel (Nat.beq j 139) (Fg_138 m d 139 as s) (bsel (Nat.beq j 142) (F_142 m as s) (bsel (Nat.beq j 146) (F_146 m as s) none))))) (m + 1) 0 (ent 0 as) [] s (0, 0)) (bsel (Nat.beq j 139) (runS TT Mi_139 scr0 (fun j as s => (bsel (Nat.beq j 19) (F_19 m as s) (bsel (Nat.beq j 140) (Fg_138 m d 140 as s) (bsel (Nat.beq j 142) (F_142 m as s) (bsel (Nat.beq j 146) (F_146 m as s) none))))) (m + 1) 0 (ent 0 as) [] s (0, 0)) (bsel (Nat.beq j 140) (runS TT Mi_140 scr0 (fun j as s => (bsel (Nat.beq j 19) (F_19 m as s) (bsel (Nat.beq j 25) (F_25 m as s) (bsel (Nat.beq j 42) (F_42 m as s) (bsel (Nat.beq j 138) (Fg_138 m d 138 as s) (bsel (Nat.beq j 140) (Fg_138 m d 140 as s) (bsel (Nat.beq j 141) (F_141 m as s) (bsel (Nat.beq j 142) (F_142 m as s) (bsel (Nat.beq j 143) (F_143 m as s) none))))))))) (m + 1) 0 (ent 0 as) [] s (0, 0)) (none)))
abbrev env_138 (m d : Nat) : Nat → List mV → mS → Option (Int × mS) := fun j as s => (bsel (Nat.beq j 19) (F_19 m as s) (bsel (Nat.beq j 139) (Fg_138 m d 139 as s) (bsel (Nat.beq j 142) (F_142 m as s) (bsel (Nat.beq j 146) (F_146 m as s) none))))
abbrev env_139 (m d : Nat) : Nat → List mV → mS → Option (Int × mS) := fun j as s => (bsel (Nat.beq j 19) (F_19 m as s) (bsel (Nat.beq j 140) (Fg_138 m d 140 as s) (bsel (Nat.beq j 142) (F_142 m as s) (bsel (Nat.beq j 146) (F_146 m as s) none))))
abbrev env_140 (m d : Nat) : Nat → List mV → mS → Option (Int × mS) := fun j as s => (bsel (Nat.beq j 19) (F_19 m as s) (bsel (Nat.beq j 25) (F_25 m as s) (bsel (Nat.beq j 42) (F_42 m as s) (bsel (Nat.beq j 138) (Fg_138 m d 138 as s) (bsel (Nat.beq j 140) (Fg_138 m d 140 as s) (bsel (Nat.beq j 141) (F_141 m as s) (bsel (Nat.beq j 142) (F_142 m as s) (bsel (Nat.beq j 143) (F_143 m as s) none))))))))
def l_Sn_readCond_L15 (m : Nat) (d : Nat) (n : Nat) (x3 : Int) (x4 : Int) (s : mS) : Option (Int × mS) := runS TT Mi_138 scr0 (env_138 m d) n 15 [(0, rv (some 232)), (1, rv (some 1)), (2, rv (some 4)), (3, iv x3), (4, iv x4)] [] s (0, 0)
def f_Sn_readCond (m : Nat) (d : Nat) (a3 : Int) (s : mS) : Option (Int × mS) := Fg_138 m d 138 [rv (some 232), rv (some 1), rv (some 4), iv a3] s
def l_Sn_readEach_L15 (m : Nat) (d : Nat) (n : Nat) (x3 : Int) (x4 : Int) (s : mS) : Option (Int × mS) := runS TT Mi_139 scr0 (env_139 m d) n 15 [(0, rv (some 232)), (1, rv (some 1)), (2, rv (some 4)), (3, iv x3), (4, iv x4)] [] s (0, 0)
def f_Sn_readEach (m : Nat) (d : Nat) (a3 : Int) (s : mS) : Option (Int × mS) := Fg_138 m d 139 [rv (some 232), rv (some 1), rv (some 4), iv a3] s
def l_Sn_readOne_L41 (m : Nat) (d : Nat) (n : Nat) (x3 : Int) (q4 : Option Nat) (x5 : Int) (s : mS) : Option (Int × mS) := runS TT Mi_140 scr0 (env_140 m d) n 41 [(0, rv (some 232)), (1, rv (some 1)), (2, rv (some 4)), (3, iv x3), (4, rv q4), (5, iv x5)] [] s (0, 0)
def f_Sn_readOne (m : Nat) (d : Nat) (a3 : Int) (s : mS) : Option (Int × mS) := Fg_138 m d 140 [rv (some 232), rv (some 1), rv (some 4), iv a3] s
def Mi_147 : mM := (false, false, 5, 2, (0, 0), 0, rs_5, cd_147, [])
abbrev env_147 (m : Nat) : Nat → List mV → mS → Option (Int × mS) := fun j as s => none
def F_147 (m : Nat) (as : List mV) (s : mS) : Option (Int × mS) := runS TT Mi_147 scr0 (env_147 m) (m + 1) 0 (ent 0 as) [] s (0, 0)
def f_Sn_copyOf_30_232 (m : Nat) (s : mS) : Option (Int × mS) := F_147 m [rv (some 30), rv (some 232)] s
def f_Sn_copyOf_63_30 (m : Nat) (s : mS) : Option (Int × mS) := F_147 m [rv (some 63), rv (some 30)] s
def f_Sn_copyOf_95_30 (m : Nat) (s : mS) : Option (Int × mS) := F_147 m [rv (some 95), rv (some 30)] s
def f_Sn_copyOf_30_63 (m : Nat) (s : mS) : Option (Int × mS) := F_147 m [rv (some 30), rv (some 63)] s
def f_Sn_copyOf_30_95 (m : Nat) (s : mS) : Option (Int × mS) := F_147 m [rv (some 30), rv (some 95)] s
def Mi_137 : mM := (false, false, 0, 1, (0, 0), 1, rs_0, cd_137, [])
abbrev env_137 (m : Nat) : Nat → List mV → mS → Option (Int × mS) := fun j as s => (bsel (Nat.beq j 18) (F_18 m as s) (bsel (Nat.beq j 25) (F_25 m as s) (bsel (Nat.beq j 44) (F_44 m as s) (bsel (Nat.beq j 138) (Fg_138 m 64 138 as s) (bsel (Nat.beq j 147) (F_147 m as s) none)))))
def F_137 (m : Nat) (as : List mV) (s : mS) : Option (Int × mS) := runS TT Mi_137 scr0 (env_137 m) (m + 1) 0 (ent 0 as) [] s (0, 0)
def f_X_sentence (m : Nat) (s : mS) : Option (Int × mS) := F_137 m [rv (some 0)] s
def Mi_152 : mM := (false, false, 5, 3, (0, 0), 4, rs_5, cd_152, [])
abbrev env_152 (m : Nat) : Nat → List mV → mS → Option (Int × mS) := fun j as s => none
def F_152 (m : Nat) (as : List mV) (s : mS) : Option (Int × mS) := runS TT Mi_152 scr0 (env_152 m) (m + 1) 0 (ent 0 as) [] s (0, 0)
def f_Sn_compares (m : Nat) (a1 : Int) (a2 : Int) (s : mS) : Option (Int × mS) := F_152 m [rv (some 30), iv a1, iv a2] s
def Mi_151 : mM := (false, false, 5, 5, (0, 0), 4, rs_5, cd_151, [])
abbrev env_151 (m : Nat) : Nat → List mV → mS → Option (Int × mS) := fun j as s => (bsel (Nat.beq j 37) (F_37 m as s) (bsel (Nat.beq j 152) (F_152 m as s) none))
def F_151 (m : Nat) (as : List mV) (s : mS) : Option (Int × mS) := runS TT Mi_151 scr0 (env_151 m) (m + 1) 0 (ent 0 as) [] s (0, 0)
def f_Sn_isSo (m : Nat) (a1 : Int) (a2 : Int) (s : mS) : Option (Int × mS) := F_151 m [rv (some 30), iv a1, iv a2, rv (some 4), rv (some 17)] s
def Mi_150 : mM := (false, false, 5, 6, (0, 0), 1, rs_5, cd_150, [(6, [0, 1, 2, 3, 4, 5])])
abbrev env_150 (m : Nat) : Nat → List mV → mS → Option (Int × mS) := fun j as s => (bsel (Nat.beq j 151) (F_151 m as s) none)
def F_150 (m : Nat) (as : List mV) (s : mS) : Option (Int × mS) := runS TT Mi_150 scr0 (env_150 m) (m + 1) 0 (ent 0 as) [] s (0, 0)
def l_Sn_thoseBy_L6 (m : Nat) (n : Nat) (x1 : Int) (x4 : Int) (x5 : Int) (s : mS) : Option (Int × mS) := runS TT Mi_150 scr0 (env_150 m) n 6 [(0, rv (some 30)), (1, iv x1), (2, rv (some 4)), (3, rv (some 17)), (4, iv x4), (5, iv x5)] [] s (0, 0)
def f_Sn_thoseBy (m : Nat) (a1 : Int) (s : mS) : Option (Int × mS) := F_150 m [rv (some 30), iv a1, rv (some 4), rv (some 17)] s
def Mi_149 : mM := (false, false, 5, 5, (0, 0), 1, rs_5, cd_149, [(5, [0, 1, 2, 3, 4]), (46, [0, 1, 2, 3, 4]), (85, [0, 1, 2, 3, 4])])
abbrev env_149 (m : Nat) : Nat → List mV → mS → Option (Int × mS) := fun j as s => (bsel (Nat.beq j 94) (F_94 m as s) (bsel (Nat.beq j 150) (F_150 m as s) none))
def F_149 (m : Nat) (as : List mV) (s : mS) : Option (Int × mS) := runS TT Mi_149 scr0 (env_149 m) (m + 1) 0 (ent 0 as) [] s (0, 0)
def l_Sn_saidOf_L5 (m : Nat) (n : Nat) (x3 : Int) (x4 : Int) (s : mS) : Option (Int × mS) := runS TT Mi_149 scr0 (env_149 m) n 5 [(0, rv (some 30)), (1, rv (some 4)), (2, rv (some 17)), (3, iv x3), (4, iv x4)] [] s (0, 0)
def l_Sn_saidOf_L46 (m : Nat) (n : Nat) (x3 : Int) (x4 : Int) (s : mS) : Option (Int × mS) := runS TT Mi_149 scr0 (env_149 m) n 46 [(0, rv (some 30)), (1, rv (some 4)), (2, rv (some 17)), (3, iv x3), (4, iv x4)] [] s (0, 0)
def l_Sn_saidOf_L85 (m : Nat) (n : Nat) (x3 : Int) (x4 : Int) (s : mS) : Option (Int × mS) := runS TT Mi_149 scr0 (env_149 m) n 85 [(0, rv (some 30)), (1, rv (some 4)), (2, rv (some 17)), (3, iv x3), (4, iv x4)] [] s (0, 0)
def f_Sn_saidOf (m : Nat) (s : mS) : Option (Int × mS) := F_149 m [rv (some 30), rv (some 4), rv (some 17)] s
def Mi_148 : mM := (false, false, 0, 5, (0, 0), 1, rs_0, cd_148, [(60, [1, 2, 3, 4])])
abbrev env_148 (m : Nat) : Nat → List mV → mS → Option (Int × mS) := fun j as s => (bsel (Nat.beq j 100) (F_100 m as s) (bsel (Nat.beq j 149) (F_149 m as s) none))
def F_148 (m : Nat) (as : List mV) (s : mS) : Option (Int × mS) := runS TT Mi_148 scr0 (env_148 m) (m + 1) 0 (ent 0 as) [] s (0, 0)
def l_X_said_L60 (m : Nat) (n : Nat) (x1 : Int) (x2 : Int) (x3 : Int) (x4 : Int) (s : mS) : Option (Int × mS) := runS TT Mi_148 scr0 (env_148 m) n 60 [(1, iv x1), (2, iv x2), (3, iv x3), (4, iv x4)] [] s (0, 0)
def f_X_said (m : Nat) (a1 : Int) (s : mS) : Option (Int × mS) := F_148 m [rv (some 0), iv a1] s
def Mi_154 : mM := (false, false, 2, 2, (0, 0), 0, rs_10, cd_154, [])
abbrev env_154 (m : Nat) : Nat → List mV → mS → Option (Int × mS) := fun j as s => (bsel (Nat.beq j 43) (F_43 m as s) (bsel (Nat.beq j 62) (F_62 m as s) (bsel (Nat.beq j 147) (F_147 m as s) none)))
def F_154 (m : Nat) (as : List mV) (s : mS) : Option (Int × mS) := runS TT Mi_154 scr0 (env_154 m) (m + 1) 0 (ent 0 as) [] s (0, 0)
def f_Wd_copyOf_36_3 (m : Nat) (s : mS) : Option (Int × mS) := F_154 m [rv (some 36), rv (some 3)] s
def f_Wd_copyOf_68_3 (m : Nat) (s : mS) : Option (Int × mS) := F_154 m [rv (some 68), rv (some 3)] s
def f_Wd_copyOf_3_36 (m : Nat) (s : mS) : Option (Int × mS) := F_154 m [rv (some 3), rv (some 36)] s
def f_Wd_copyOf_3_68 (m : Nat) (s : mS) : Option (Int × mS) := F_154 m [rv (some 3), rv (some 68)] s
def Mi_153 : mM := (false, false, 0, 2, (0, 0), 4, rs_0, cd_153, [(17, [0, 1]), (30, [])])
abbrev env_153 (m : Nat) : Nat → List mV → mS → Option (Int × mS) := fun j as s => (bsel (Nat.beq j 154) (F_154 m as s) none)
def F_153 (m : Nat) (as : List mV) (s : mS) : Option (Int × mS) := runS TT Mi_153 scr0 (env_153 m) (m + 1) 0 (ent 0 as) [] s (0, 0)
def l_X_image_L17 (m : Nat) (n : Nat) (x1 : Int) (v0 : Option Nat) (s : mS) : Option (Int × mS) := runS TT Mi_153 scr0 (env_153 m) n 17 [(0, rv (some 0)), (1, iv x1)] [rv v0] s (0, 0)
def l_X_image_L30 (m : Nat) (n : Nat) (v0 : Option Nat) (s : mS) : Option (Int × mS) := runS TT Mi_153 scr0 (env_153 m) n 30 [] [rv v0] s (0, 0)
def f_X_image (m : Nat) (a1 : Int) (s : mS) : Option (Int × mS) := F_153 m [rv (some 0), iv a1] s
def Mi_155 : mM := (false, false, 0, 2, (0, 0), 4, rs_0, cd_155, [(15, [0, 1]), (33, [0])])
abbrev env_155 (m : Nat) : Nat → List mV → mS → Option (Int × mS) := fun j as s => (bsel (Nat.beq j 45) (F_45 m as s) (bsel (Nat.beq j 154) (F_154 m as s) none))
def F_155 (m : Nat) (as : List mV) (s : mS) : Option (Int × mS) := runS TT Mi_155 scr0 (env_155 m) (m + 1) 0 (ent 0 as) [] s (0, 0)
def l_X_restore_L15 (m : Nat) (n : Nat) (x1 : Int) (v0 : Option Nat) (s : mS) : Option (Int × mS) := runS TT Mi_155 scr0 (env_155 m) n 15 [(0, rv (some 0)), (1, iv x1)] [rv v0] s (0, 0)
def l_X_restore_L33 (m : Nat) (n : Nat) (v1 : Option Nat) (s : mS) : Option (Int × mS) := runS TT Mi_155 scr0 (env_155 m) n 33 [(0, rv (some 0))] [rv v1, rv (some 3)] s (0, 0)
def f_X_restore (m : Nat) (a1 : Int) (s : mS) : Option (Int × mS) := F_155 m [rv (some 0), iv a1] s
def Mi_156 : mM := (false, false, 0, 2, (0, 0), 1, rs_0, cd_156, [])
abbrev env_156 (m : Nat) : Nat → List mV → mS → Option (Int × mS) := fun j as s => none
def F_156 (m : Nat) (as : List mV) (s : mS) : Option (Int × mS) := runS TT Mi_156 scr0 (env_156 m) (m + 1) 0 (ent 0 as) [] s (0, 0)
def f_X_count (m : Nat) (a1 : Int) (s : mS) : Option (Int × mS) := F_156 m [rv (some 0), iv a1] s
def Mi_158 : mM := (false, false, 0, 4, (0, 0), 1, rs_0, cd_158, [])
abbrev env_158 (m : Nat) : Nat → List mV → mS → Option (Int × mS) := fun j as s => (bsel (Nat.beq j 61) (F_61 m as s) none)
def F_158 (m : Nat) (as : List mV) (s : mS) : Option (Int × mS) := runS TT Mi_158 scr0 (env_158 m) (m + 1) 0 (ent 0 as) [] s (0, 0)
def f_X_dead (m : Nat) (a1 : Int) (a2 : Int) (s : mS) : Option (Int × mS) := F_158 m [rv (some 0), iv a1, iv a2] s
def Mi_167 : mM := (false, false, 0, 7, (0, 0), 1, rs_0, cd_167, [(8, [0, 1, 2, 3, 4, 5])])
abbrev env_167 (m : Nat) : Nat → List mV → mS → Option (Int × mS) := fun j as s => none
def F_167 (m : Nat) (as : List mV) (s : mS) : Option (Int × mS) := runS TT Mi_167 scr0 (env_167 m) (m + 1) 0 (ent 0 as) [] s (0, 0)
def l_X_inLeastTerms_L8 (m : Nat) (n : Nat) (x0 : Int) (x1 : Int) (x2 : Int) (x3 : Int) (x4 : Int) (x5 : Int) (s : mS) : Option (Int × mS) := runS TT Mi_167 scr0 (env_167 m) n 8 [(0, iv x0), (1, iv x1), (2, iv x2), (3, iv x3), (4, iv x4), (5, iv x5)] [] s (0, 0)
def f_X_inLeastTerms (m : Nat) (a0 : Int) (a1 : Int) (a2 : Int) (s : mS) : Option (Int × mS) := F_167 m [iv a0, iv a1, iv a2] s
def Mi_166 : mM := (false, false, 0, 3, (0, 0), 1, rs_0, cd_166, [])
abbrev env_166 (m : Nat) : Nat → List mV → mS → Option (Int × mS) := fun j as s => (bsel (Nat.beq j 48) (F_48 m as s) (bsel (Nat.beq j 167) (F_167 m as s) none))
def F_166 (m : Nat) (as : List mV) (s : mS) : Option (Int × mS) := runS TT Mi_166 scr0 (env_166 m) (m + 1) 0 (ent 0 as) [] s (0, 0)
def f_X_wear (m : Nat) (a1 : Int) (a2 : Int) (s : mS) : Option (Int × mS) := F_166 m [rv (some 0), iv a1, iv a2] s
def Mi_169 : mM := (false, false, 0, 4, (0, 0), 1, rs_0, cd_169, [(37, [0, 1, 2, 3])])
abbrev env_169 (m : Nat) : Nat → List mV → mS → Option (Int × mS) := fun j as s => (bsel (Nat.beq j 167) (F_167 m as s) none)
def F_169 (m : Nat) (as : List mV) (s : mS) : Option (Int × mS) := runS TT Mi_169 scr0 (env_169 m) (m + 1) 0 (ent 0 as) [] s (0, 0)
def l_X_mean_L37 (m : Nat) (n : Nat) (x1 : Int) (x2 : Int) (x3 : Int) (s : mS) : Option (Int × mS) := runS TT Mi_169 scr0 (env_169 m) n 37 [(0, rv (some 0)), (1, iv x1), (2, iv x2), (3, iv x3)] [] s (0, 0)
def f_X_mean (m : Nat) (a1 : Int) (s : mS) : Option (Int × mS) := F_169 m [rv (some 0), iv a1] s
def Mi_170 : mM := (false, false, 10, 1, (0, 0), 1, rs_12, cd_170, [])
abbrev env_170 (m : Nat) : Nat → List mV → mS → Option (Int × mS) := fun j as s => none
def F_170 (m : Nat) (as : List mV) (s : mS) : Option (Int × mS) := runS TT Mi_170 scr0 (env_170 m) (m + 1) 0 (ent 0 as) [] s (0, 0)
def f_R_thrown (m : Nat) (s : mS) : Option (Int × mS) := F_170 m [rv (some 249)] s
def Mi_172 : mM := (false, false, 10, 3, (0, 0), 0, rs_12, cd_172, [(3, [0, 1, 2])])
abbrev env_172 (m : Nat) : Nat → List mV → mS → Option (Int × mS) := fun j as s => none
def F_172 (m : Nat) (as : List mV) (s : mS) : Option (Int × mS) := runS TT Mi_172 scr0 (env_172 m) (m + 1) 0 (ent 0 as) [] s (0, 0)
def l_R_comea_L3 (m : Nat) (n : Nat) (x1 : Int) (x2 : Int) (s : mS) : Option (Int × mS) := runS TT Mi_172 scr0 (env_172 m) n 3 [(0, rv (some 249)), (1, iv x1), (2, iv x2)] [] s (0, 0)
def f_R_comea (m : Nat) (a1 : Int) (s : mS) : Option (Int × mS) := F_172 m [rv (some 249), iv a1] s
def Mi_171 : mM := (false, false, 10, 6, (0, 0), 1, rs_12, cd_171, [])
abbrev env_171 (m : Nat) : Nat → List mV → mS → Option (Int × mS) := fun j as s => (bsel (Nat.beq j 172) (F_172 m as s) none)
def F_171 (m : Nat) (as : List mV) (s : mS) : Option (Int × mS) := runS TT Mi_171 scr0 (env_171 m) (m + 1) 0 (ent 0 as) [] s (0, 0)
def f_R_feed (m : Nat) (a1 : Int) (a2 : Int) (a3 : Int) (a4 : Int) (a5 : Int) (s : mS) : Option (Int × mS) := F_171 m [rv (some 249), iv a1, iv a2, iv a3, iv a4, iv a5] s
def Mi_173 : mM := (false, false, 10, 2, (0, 0), 4, rs_12, cd_173, [])
abbrev env_173 (m : Nat) : Nat → List mV → mS → Option (Int × mS) := fun j as s => none
def F_173 (m : Nat) (as : List mV) (s : mS) : Option (Int × mS) := runS TT Mi_173 scr0 (env_173 m) (m + 1) 0 (ent 0 as) [] s (0, 0)
def f_R_end (m : Nat) (a1 : Int) (s : mS) : Option (Int × mS) := F_173 m [rv (some 249), iv a1] s
def Mi_179 : mM := (false, false, 10, 2, (0, 0), 1, rs_12, cd_179, [])
abbrev env_179 (m : Nat) : Nat → List mV → mS → Option (Int × mS) := fun j as s => none
def F_179 (m : Nat) (as : List mV) (s : mS) : Option (Int × mS) := runS TT Mi_179 scr0 (env_179 m) (m + 1) 0 (ent 0 as) [] s (0, 0)
def f_R_take (m : Nat) (s : mS) : Option (Int × mS) := F_179 m [rv (some 249)] s
def Mi_181 : mM := (false, false, 10, 1, (0, 0), 4, rs_12, cd_181, [])
abbrev env_181 (m : Nat) : Nat → List mV → mS → Option (Int × mS) := fun j as s => none
def F_181 (m : Nat) (as : List mV) (s : mS) : Option (Int × mS) := runS TT Mi_181 scr0 (env_181 m) (m + 1) 0 (ent 0 as) [] s (0, 0)
def f_R_isLetter (m : Nat) (a0 : Int) (s : mS) : Option (Int × mS) := F_181 m [iv a0] s
def Mi_182 : mM := (false, false, 10, 1, (0, 0), 4, rs_12, cd_182, [])
abbrev env_182 (m : Nat) : Nat → List mV → mS → Option (Int × mS) := fun j as s => none
def F_182 (m : Nat) (as : List mV) (s : mS) : Option (Int × mS) := runS TT Mi_182 scr0 (env_182 m) (m + 1) 0 (ent 0 as) [] s (0, 0)
def f_R_isDigit (m : Nat) (a0 : Int) (s : mS) : Option (Int × mS) := F_182 m [iv a0] s
def Mi_183 : mM := (false, false, 10, 2, (0, 0), 1, rs_12, cd_183, [])
abbrev env_183 (m : Nat) : Nat → List mV → mS → Option (Int × mS) := fun j as s => none
def F_183 (m : Nat) (as : List mV) (s : mS) : Option (Int × mS) := runS TT Mi_183 scr0 (env_183 m) (m + 1) 0 (ent 0 as) [] s (0, 0)
def f_R_tapeAt (m : Nat) (a1 : Int) (s : mS) : Option (Int × mS) := F_183 m [rv (some 249), iv a1] s
def Mi_180 : mM := (false, false, 10, 5, (0, 0), 0, rs_12, cd_180, [(0, [0]), (96, [0]), (215, [0, 2, 3]), (243, [0, 2, 3]), (307, [0, 2, 3, 4])])
abbrev env_180 (m : Nat) : Nat → List mV → mS → Option (Int × mS) := fun j as s => (bsel (Nat.beq j 181) (F_181 m as s) (bsel (Nat.beq j 182) (F_182 m as s) (bsel (Nat.beq j 183) (F_183 m as s) none)))
def F_180 (m : Nat) (as : List mV) (s : mS) : Option (Int × mS) := runS TT Mi_180 scr0 (env_180 m) (m + 1) 0 (ent 0 as) [] s (0, 0)
def l_R_go_L0 (m : Nat) (n : Nat) (s : mS) : Option (Int × mS) := runS TT Mi_180 scr0 (env_180 m) n 0 [(0, rv (some 249))] [] s (0, 0)
def l_R_go_L96 (m : Nat) (n : Nat) (s : mS) : Option (Int × mS) := runS TT Mi_180 scr0 (env_180 m) n 96 [(0, rv (some 249))] [] s (0, 0)
def l_R_go_L215 (m : Nat) (n : Nat) (x2 : Int) (x3 : Int) (s : mS) : Option (Int × mS) := runS TT Mi_180 scr0 (env_180 m) n 215 [(0, rv (some 249)), (2, iv x2), (3, iv x3)] [] s (0, 0)
def l_R_go_L243 (m : Nat) (n : Nat) (x2 : Int) (x3 : Int) (s : mS) : Option (Int × mS) := runS TT Mi_180 scr0 (env_180 m) n 243 [(0, rv (some 249)), (2, iv x2), (3, iv x3)] [] s (0, 0)
def l_R_go_L307 (m : Nat) (n : Nat) (x2 : Int) (x3 : Int) (x4 : Int) (s : mS) : Option (Int × mS) := runS TT Mi_180 scr0 (env_180 m) n 307 [(0, rv (some 249)), (2, iv x2), (3, iv x3), (4, iv x4)] [] s (0, 0)
def f_R_go (m : Nat) (s : mS) : Option (Int × mS) := F_180 m [rv (some 249)] s
def Mi_178 : mM := (false, false, 10, 2, (0, 0), 0, rs_12, cd_178, [])
abbrev env_178 (m : Nat) : Nat → List mV → mS → Option (Int × mS) := fun j as s => (bsel (Nat.beq j 179) (F_179 m as s) (bsel (Nat.beq j 180) (F_180 m as s) none))
def F_178 (m : Nat) (as : List mV) (s : mS) : Option (Int × mS) := runS TT Mi_178 scr0 (env_178 m) (m + 1) 0 (ent 0 as) [] s (0, 0)
def f_R_begin (m : Nat) (a1 : Int) (s : mS) : Option (Int × mS) := F_178 m [rv (some 249), iv a1] s
def Mi_187 : mM := (false, false, 10, 9, (0, 0), 2, rs_12, cd_187, [(38, [3, 4, 5, 6, 7]), (78, [5, 6, 7])])
abbrev env_187 (m : Nat) : Nat → List mV → mS → Option (Int × mS) := fun j as s => none
def F_187 (m : Nat) (as : List mV) (s : mS) : Option (Int × mS) := runS TT Mi_187 scr0 (env_187 m) (m + 1) 0 (ent 0 as) [] s (0, 0)
def l_R_spelt_L38 (m : Nat) (n : Nat) (x3 : Int) (x4 : Int) (x5 : Int) (x6 : Int) (x7 : Int) (s : mS) : Option (Int × mS) := runS TT Mi_187 scr0 (env_187 m) n 38 [(3, iv x3), (4, iv x4), (5, iv x5), (6, iv x6), (7, jv x7)] [] s (0, 0)
def l_R_spelt_L78 (m : Nat) (n : Nat) (x5 : Int) (x6 : Int) (x7 : Int) (s : mS) : Option (Int × mS) := runS TT Mi_187 scr0 (env_187 m) n 78 [(5, iv x5), (6, iv x6), (7, jv x7)] [] s (0, 0)
def f_R_spelt (m : Nat) (a0 : Int) (a1 : Int) (a2 : Int) (a3 : Int) (a4 : Int) (a5 : Int) (a6 : Int) (s : mS) : Option (Int × mS) := F_187 m [iv a0, iv a1, iv a2, iv a3, iv a4, iv a5, iv a6] s
def Mi_186 : mM := (false, false, 10, 1, (0, 0), 2, rs_12, cd_186, [])
abbrev env_186 (m : Nat) : Nat → List mV → mS → Option (Int × mS) := fun j as s => (bsel (Nat.beq j 187) (F_187 m as s) none)
def F_186 (m : Nat) (as : List mV) (s : mS) : Option (Int × mS) := runS TT Mi_186 scr0 (env_186 m) (m + 1) 0 (ent 0 as) [] s (0, 0)
def f_R_wordOf (m : Nat) (a0 : Int) (s : mS) : Option (Int × mS) := F_186 m [iv a0] s
def Mi_185 : mM := (false, false, 10, 2, (0, 0), 4, rs_12, cd_185, [])
abbrev env_185 (m : Nat) : Nat → List mV → mS → Option (Int × mS) := fun j as s => (bsel (Nat.beq j 186) (F_186 m as s) none)
def F_185 (m : Nat) (as : List mV) (s : mS) : Option (Int × mS) := runS TT Mi_185 scr0 (env_185 m) (m + 1) 0 (ent 0 as) [] s (0, 0)
def f_R_isWord (m : Nat) (a1 : Int) (s : mS) : Option (Int × mS) := F_185 m [rv (some 249), iv a1] s
def Mi_190 : mM := (false, false, 10, 2, (0, 0), 4, rs_12, cd_190, [])
abbrev env_190 (m : Nat) : Nat → List mV → mS → Option (Int × mS) := fun j as s => none
def F_190 (m : Nat) (as : List mV) (s : mS) : Option (Int × mS) := runS TT Mi_190 scr0 (env_190 m) (m + 1) 0 (ent 0 as) [] s (0, 0)
def f_R_bad (m : Nat) (a1 : Int) (s : mS) : Option (Int × mS) := F_190 m [rv (some 249), iv a1] s
def Mi_195 : mM := (false, false, 10, 3, (0, 0), 4, rs_12, cd_195, [])
abbrev env_195 (m : Nat) : Nat → List mV → mS → Option (Int × mS) := fun j as s => none
def F_195 (m : Nat) (as : List mV) (s : mS) : Option (Int × mS) := runS TT Mi_195 scr0 (env_195 m) (m + 1) 0 (ent 0 as) [] s (0, 0)
def f_R_isIn (m : Nat) (a0 : Int) (a1 : Int) (a2 : Int) (s : mS) : Option (Int × mS) := F_195 m [iv a0, iv a1, iv a2] s
def Mi_194 : mM := (false, false, 10, 3, (0, 0), 4, rs_12, cd_194, [])
abbrev env_194 (m : Nat) : Nat → List mV → mS → Option (Int × mS) := fun j as s => (bsel (Nat.beq j 180) (F_180 m as s) (bsel (Nat.beq j 190) (F_190 m as s) (bsel (Nat.beq j 195) (F_195 m as s) none)))
def F_194 (m : Nat) (as : List mV) (s : mS) : Option (Int × mS) := runS TT Mi_194 scr0 (env_194 m) (m + 1) 0 (ent 0 as) [] s (0, 0)
def f_R_readNumber (m : Nat) (a1 : Int) (a2 : Int) (s : mS) : Option (Int × mS) := F_194 m [rv (some 249), iv a1, iv a2] s
def Mi_196 : mM := (false, false, 10, 3, (0, 0), 4, rs_12, cd_196, [])
abbrev env_196 (m : Nat) : Nat → List mV → mS → Option (Int × mS) := fun j as s => none
def F_196 (m : Nat) (as : List mV) (s : mS) : Option (Int × mS) := runS TT Mi_196 scr0 (env_196 m) (m + 1) 0 (ent 0 as) [] s (0, 0)
def f_R_noted (m : Nat) (a1 : Int) (a2 : Int) (s : mS) : Option (Int × mS) := F_196 m [rv (some 249), iv a1, iv a2] s
def Mi_204 : mM := (false, false, 10, 1, (0, 0), 4, rs_12, cd_204, [])
abbrev env_204 (m : Nat) : Nat → List mV → mS → Option (Int × mS) := fun j as s => (bsel (Nat.beq j 180) (F_180 m as s) (bsel (Nat.beq j 190) (F_190 m as s) (bsel (Nat.beq j 194) (F_194 m as s) (bsel (Nat.beq j 196) (F_196 m as s) none))))
def F_204 (m : Nat) (as : List mV) (s : mS) : Option (Int × mS) := runS TT Mi_204 scr0 (env_204 m) (m + 1) 0 (ent 0 as) [] s (0, 0)
def f_R_readAir (m : Nat) (s : mS) : Option (Int × mS) := F_204 m [rv (some 249)] s
def Mi_189 : mM := (false, false, 10, 3, (0, 0), 4, rs_12, cd_189, [])
abbrev env_189 (m : Nat) : Nat → List mV → mS → Option (Int × mS) := fun j as s => (bsel (Nat.beq j 180) (F_180 m as s) (bsel (Nat.beq j 190) (F_190 m as s) none))
def F_189 (m : Nat) (as : List mV) (s : mS) : Option (Int × mS) := runS TT Mi_189 scr0 (env_189 m) (m + 1) 0 (ent 0 as) [] s (0, 0)
def f_R_readFirst (m : Nat) (a1 : Int) (a2 : Int) (s : mS) : Option (Int × mS) := F_189 m [rv (some 249), iv a1, iv a2] s
def Mi_203 : mM := (false, false, 10, 2, (0, 0), 4, rs_12, cd_203, [])
abbrev env_203 (m : Nat) : Nat → List mV → mS → Option (Int × mS) := fun j as s => (bsel (Nat.beq j 189) (F_189 m as s) (bsel (Nat.beq j 194) (F_194 m as s) (bsel (Nat.beq j 196) (F_196 m as s) none)))
def F_203 (m : Nat) (as : List mV) (s : mS) : Option (Int × mS) := runS TT Mi_203 scr0 (env_203 m) (m + 1) 0 (ent 0 as) [] s (0, 0)
def f_R_readFrost (m : Nat) (s : mS) : Option (Int × mS) := F_203 m [rv (some 249)] s
def Mi_192 : mM := (false, false, 10, 2, (0, 0), 4, rs_12, cd_192, [(12, [0, 1])])
abbrev env_192 (m : Nat) : Nat → List mV → mS → Option (Int × mS) := fun j as s => (bsel (Nat.beq j 186) (F_186 m as s) none)
def F_192 (m : Nat) (as : List mV) (s : mS) : Option (Int × mS) := runS TT Mi_192 scr0 (env_192 m) (m + 1) 0 (ent 0 as) [] s (0, 0)
def l_R_isName_L12 (m : Nat) (n : Nat) (x1 : Int) (s : mS) : Option (Int × mS) := runS TT Mi_192 scr0 (env_192 m) n 12 [(0, rv (some 249)), (1, iv x1)] [] s (0, 0)
def f_R_isName (m : Nat) (s : mS) : Option (Int × mS) := F_192 m [rv (some 249)] s
def Mi_193 : mM := (false, false, 10, 6, (0, 0), 1, rs_12, cd_193, [(3, [0, 1, 2, 3, 5])])
abbrev env_193 (m : Nat) : Nat → List mV → mS → Option (Int × mS) := fun j as s => none
def F_193 (m : Nat) (as : List mV) (s : mS) : Option (Int × mS) := runS TT Mi_193 scr0 (env_193 m) (m + 1) 0 (ent 0 as) [] s (0, 0)
def l_R_findIn_258_L3 (m : Nat) (n : Nat) (x1 : Int) (x2 : Int) (x3 : Int) (x5 : Int) (s : mS) : Option (Int × mS) := runS TT Mi_193 scr0 (env_193 m) n 3 [(0, rv (some 258)), (1, iv x1), (2, iv x2), (3, jv x3), (5, iv x5)] [] s (0, 0)
def f_R_findIn_258 (m : Nat) (a1 : Int) (a2 : Int) (a3 : Int) (s : mS) : Option (Int × mS) := F_193 m [rv (some 258), iv a1, iv a2, jv a3] s
def l_R_findIn_257_L3 (m : Nat) (n : Nat) (x1 : Int) (x2 : Int) (x3 : Int) (x5 : Int) (s : mS) : Option (Int × mS) := runS TT Mi_193 scr0 (env_193 m) n 3 [(0, rv (some 257)), (1, iv x1), (2, iv x2), (3, jv x3), (5, iv x5)] [] s (0, 0)
def f_R_findIn_257 (m : Nat) (a1 : Int) (a2 : Int) (a3 : Int) (s : mS) : Option (Int × mS) := F_193 m [rv (some 257), iv a1, iv a2, jv a3] s
def Mi_200 : mM := (false, false, 10, 3, (0, 0), 4, rs_12, cd_200, [])
abbrev env_200 (m : Nat) : Nat → List mV → mS → Option (Int × mS) := fun j as s => (bsel (Nat.beq j 190) (F_190 m as s) (bsel (Nat.beq j 192) (F_192 m as s) (bsel (Nat.beq j 193) (F_193 m as s) none)))
def F_200 (m : Nat) (as : List mV) (s : mS) : Option (Int × mS) := runS TT Mi_200 scr0 (env_200 m) (m + 1) 0 (ent 0 as) [] s (0, 0)
def f_R_isHere (m : Nat) (a1 : Int) (a2 : Int) (s : mS) : Option (Int × mS) := F_200 m [rv (some 249), iv a1, iv a2] s
def Mi_202 : mM := (false, false, 10, 2, (0, 0), 4, rs_12, cd_202, [])
abbrev env_202 (m : Nat) : Nat → List mV → mS → Option (Int × mS) := fun j as s => (bsel (Nat.beq j 180) (F_180 m as s) (bsel (Nat.beq j 190) (F_190 m as s) (bsel (Nat.beq j 200) (F_200 m as s) none)))
def F_202 (m : Nat) (as : List mV) (s : mS) : Option (Int × mS) := runS TT Mi_202 scr0 (env_202 m) (m + 1) 0 (ent 0 as) [] s (0, 0)
def f_R_readAsks (m : Nat) (s : mS) : Option (Int × mS) := F_202 m [rv (some 249)] s
def Mi_201 : mM := (false, false, 10, 2, (0, 0), 4, rs_12, cd_201, [])
abbrev env_201 (m : Nat) : Nat → List mV → mS → Option (Int × mS) := fun j as s => none
def F_201 (m : Nat) (as : List mV) (s : mS) : Option (Int × mS) := runS TT Mi_201 scr0 (env_201 m) (m + 1) 0 (ent 0 as) [] s (0, 0)
def f_R_has (m : Nat) (a0 : Int) (a1 : Int) (s : mS) : Option (Int × mS) := F_201 m [iv a0, iv a1] s
def Mi_199 : mM := (false, false, 10, 2, (0, 0), 4, rs_12, cd_199, [])
abbrev env_199 (m : Nat) : Nat → List mV → mS → Option (Int × mS) := fun j as s => (bsel (Nat.beq j 180) (F_180 m as s) (bsel (Nat.beq j 189) (F_189 m as s) (bsel (Nat.beq j 190) (F_190 m as s) (bsel (Nat.beq j 200) (F_200 m as s) (bsel (Nat.beq j 201) (F_201 m as s) none)))))
def F_199 (m : Nat) (as : List mV) (s : mS) : Option (Int × mS) := runS TT Mi_199 scr0 (env_199 m) (m + 1) 0 (ent 0 as) [] s (0, 0)
def f_R_readKin (m : Nat) (s : mS) : Option (Int × mS) := F_199 m [rv (some 249)] s
def Mi_191 : mM := (false, false, 10, 3, (0, 0), 4, rs_12, cd_191, [(63, [0, 1])])
abbrev env_191 (m : Nat) : Nat → List mV → mS → Option (Int × mS) := fun j as s => (bsel (Nat.beq j 180) (F_180 m as s) (bsel (Nat.beq j 190) (F_190 m as s) (bsel (Nat.beq j 192) (F_192 m as s) (bsel (Nat.beq j 193) (F_193 m as s) none))))
def F_191 (m : Nat) (as : List mV) (s : mS) : Option (Int × mS) := runS TT Mi_191 scr0 (env_191 m) (m + 1) 0 (ent 0 as) [] s (0, 0)
def l_R_readNew_L63 (m : Nat) (n : Nat) (x1 : Int) (y0 : Int) (s : mS) : Option (Int × mS) := runS TT Mi_191 scr0 (env_191 m) n 63 [(0, rv (some 249)), (1, iv x1)] [iv y0] s (0, 0)
def f_R_readNew (m : Nat) (a1 : Int) (s : mS) : Option (Int × mS) := F_191 m [rv (some 249), iv a1] s
def Mi_198 : mM := (false, false, 10, 2, (0, 0), 4, rs_12, cd_198, [])
abbrev env_198 (m : Nat) : Nat → List mV → mS → Option (Int × mS) := fun j as s => (bsel (Nat.beq j 189) (F_189 m as s) (bsel (Nat.beq j 191) (F_191 m as s) (bsel (Nat.beq j 194) (F_194 m as s) (bsel (Nat.beq j 196) (F_196 m as s) none))))
def F_198 (m : Nat) (as : List mV) (s : mS) : Option (Int × mS) := runS TT Mi_198 scr0 (env_198 m) (m + 1) 0 (ent 0 as) [] s (0, 0)
def f_R_readDead (m : Nat) (s : mS) : Option (Int × mS) := F_198 m [rv (some 249)] s
def Mi_197 : mM := (false, false, 10, 2, (0, 0), 4, rs_12, cd_197, [])
abbrev env_197 (m : Nat) : Nat → List mV → mS → Option (Int × mS) := fun j as s => (bsel (Nat.beq j 189) (F_189 m as s) (bsel (Nat.beq j 191) (F_191 m as s) (bsel (Nat.beq j 194) (F_194 m as s) (bsel (Nat.beq j 196) (F_196 m as s) none))))
def F_197 (m : Nat) (as : List mV) (s : mS) : Option (Int × mS) := runS TT Mi_197 scr0 (env_197 m) (m + 1) 0 (ent 0 as) [] s (0, 0)
def f_R_readPlot (m : Nat) (s : mS) : Option (Int × mS) := F_197 m [rv (some 249)] s
def Mi_188 : mM := (false, false, 10, 2, (0, 0), 4, rs_12, cd_188, [])
abbrev env_188 (m : Nat) : Nat → List mV → mS → Option (Int × mS) := fun j as s => (bsel (Nat.beq j 189) (F_189 m as s) (bsel (Nat.beq j 191) (F_191 m as s) (bsel (Nat.beq j 194) (F_194 m as s) (bsel (Nat.beq j 196) (F_196 m as s) none))))
def F_188 (m : Nat) (as : List mV) (s : mS) : Option (Int × mS) := runS TT Mi_188 scr0 (env_188 m) (m + 1) 0 (ent 0 as) [] s (0, 0)
def f_R_readBox (m : Nat) (s : mS) : Option (Int × mS) := F_188 m [rv (some 249)] s
def Mi_184 : mM := (false, false, 10, 1, (0, 0), 4, rs_12, cd_184, [])
abbrev env_184 (m : Nat) : Nat → List mV → mS → Option (Int × mS) := fun j as s => (bsel (Nat.beq j 185) (F_185 m as s) (bsel (Nat.beq j 188) (F_188 m as s) (bsel (Nat.beq j 190) (F_190 m as s) (bsel (Nat.beq j 197) (F_197 m as s) (bsel (Nat.beq j 198) (F_198 m as s) (bsel (Nat.beq j 199) (F_199 m as s) (bsel (Nat.beq j 202) (F_202 m as s) (bsel (Nat.beq j 203) (F_203 m as s) (bsel (Nat.beq j 204) (F_204 m as s) none)))))))))
def F_184 (m : Nat) (as : List mV) (s : mS) : Option (Int × mS) := runS TT Mi_184 scr0 (env_184 m) (m + 1) 0 (ent 0 as) [] s (0, 0)
def f_R_readLine (m : Nat) (s : mS) : Option (Int × mS) := F_184 m [rv (some 249)] s
def Mi_206 : mM := (false, false, 10, 2, (0, 0), 4, rs_12, cd_206, [])
abbrev env_206 (m : Nat) : Nat → List mV → mS → Option (Int × mS) := fun j as s => none
def F_206 (m : Nat) (as : List mV) (s : mS) : Option (Int × mS) := runS TT Mi_206 scr0 (env_206 m) (m + 1) 0 (ent 0 as) [] s (0, 0)
def f_R_isSign (m : Nat) (a1 : Int) (s : mS) : Option (Int × mS) := F_206 m [rv (some 249), iv a1] s
def Mi_205 : mM := (false, false, 10, 1, (0, 0), 4, rs_12, cd_205, [])
abbrev env_205 (m : Nat) : Nat → List mV → mS → Option (Int × mS) := fun j as s => (bsel (Nat.beq j 180) (F_180 m as s) (bsel (Nat.beq j 190) (F_190 m as s) (bsel (Nat.beq j 206) (F_206 m as s) none)))
def F_205 (m : Nat) (as : List mV) (s : mS) : Option (Int × mS) := runS TT Mi_205 scr0 (env_205 m) (m + 1) 0 (ent 0 as) [] s (0, 0)
def f_R_readEnd (m : Nat) (s : mS) : Option (Int × mS) := F_205 m [rv (some 249)] s
def Mi_176 : mM := (false, false, 10, 2, (0, 0), 0, rs_12, cd_176, [(2, [0, 1])])
abbrev env_176 (m : Nat) : Nat → List mV → mS → Option (Int × mS) := fun j as s => none
def F_176 (m : Nat) (as : List mV) (s : mS) : Option (Int × mS) := runS TT Mi_176 scr0 (env_176 m) (m + 1) 0 (ent 0 as) [] s (0, 0)
def l_R_comeb_L2 (m : Nat) (n : Nat) (x1 : Int) (s : mS) : Option (Int × mS) := runS TT Mi_176 scr0 (env_176 m) n 2 [(0, rv (some 249)), (1, iv x1)] [] s (0, 0)
def f_R_comeb (m : Nat) (s : mS) : Option (Int × mS) := F_176 m [rv (some 249)] s
def Mi_175 : mM := (false, false, 10, 2, (0, 0), 0, rs_12, cd_175, [(3, [0, 1]), (25, [0, 1]), (49, [0, 1]), (73, [0, 1]), (97, [0, 1])])
abbrev env_175 (m : Nat) : Nat → List mV → mS → Option (Int × mS) := fun j as s => (bsel (Nat.beq j 176) (F_176 m as s) none)
def F_175 (m : Nat) (as : List mV) (s : mS) : Option (Int × mS) := runS TT Mi_175 scr0 (env_175 m) (m + 1) 0 (ent 0 as) [] s (0, 0)
def l_R_startSo_L3 (m : Nat) (n : Nat) (x1 : Int) (s : mS) : Option (Int × mS) := runS TT Mi_175 scr0 (env_175 m) n 3 [(0, rv (some 249)), (1, iv x1)] [] s (0, 0)
def l_R_startSo_L25 (m : Nat) (n : Nat) (x1 : Int) (s : mS) : Option (Int × mS) := runS TT Mi_175 scr0 (env_175 m) n 25 [(0, rv (some 249)), (1, iv x1)] [] s (0, 0)
def l_R_startSo_L49 (m : Nat) (n : Nat) (x1 : Int) (s : mS) : Option (Int × mS) := runS TT Mi_175 scr0 (env_175 m) n 49 [(0, rv (some 249)), (1, iv x1)] [] s (0, 0)
def l_R_startSo_L73 (m : Nat) (n : Nat) (x1 : Int) (s : mS) : Option (Int × mS) := runS TT Mi_175 scr0 (env_175 m) n 73 [(0, rv (some 249)), (1, iv x1)] [] s (0, 0)
def l_R_startSo_L97 (m : Nat) (n : Nat) (x1 : Int) (s : mS) : Option (Int × mS) := runS TT Mi_175 scr0 (env_175 m) n 97 [(0, rv (some 249)), (1, iv x1)] [] s (0, 0)
def f_R_startSo (m : Nat) (s : mS) : Option (Int × mS) := F_175 m [rv (some 249)] s
def Mi_177 : mM := (false, false, 10, 3, (0, 0), 1, rs_12, cd_177, [(9, [0, 1]), (42, [0, 1]), (78, [0, 1, 2]), (104, [0, 1, 2])])
abbrev env_177 (m : Nat) : Nat → List mV → mS → Option (Int × mS) := fun j as s => (bsel (Nat.beq j 175) (F_175 m as s) (bsel (Nat.beq j 178) (F_178 m as s) (bsel (Nat.beq j 184) (F_184 m as s) (bsel (Nat.beq j 205) (F_205 m as s) none))))
def F_177 (m : Nat) (as : List mV) (s : mS) : Option (Int × mS) := runS TT Mi_177 scr0 (env_177 m) (m + 1) 0 (ent 0 as) [] s (0, 0)
def l_R_vestry_L9 (m : Nat) (n : Nat) (x1 : Int) (s : mS) : Option (Int × mS) := runS TT Mi_177 scr0 (env_177 m) n 9 [(0, rv (some 249)), (1, iv x1)] [] s (0, 0)
def l_R_vestry_L42 (m : Nat) (n : Nat) (x1 : Int) (s : mS) : Option (Int × mS) := runS TT Mi_177 scr0 (env_177 m) n 42 [(0, rv (some 249)), (1, iv x1)] [] s (0, 0)
def l_R_vestry_L78 (m : Nat) (n : Nat) (x1 : Int) (x2 : Int) (s : mS) : Option (Int × mS) := runS TT Mi_177 scr0 (env_177 m) n 78 [(0, rv (some 249)), (1, iv x1), (2, iv x2)] [] s (0, 0)
def l_R_vestry_L104 (m : Nat) (n : Nat) (x1 : Int) (x2 : Int) (s : mS) : Option (Int × mS) := runS TT Mi_177 scr0 (env_177 m) n 104 [(0, rv (some 249)), (1, iv x1), (2, iv x2)] [] s (0, 0)
def f_R_vestry (m : Nat) (s : mS) : Option (Int × mS) := F_177 m [rv (some 249)] s
def Mi_207 : mM := (false, false, 10, 1, (0, 0), 1, rs_12, cd_207, [])
abbrev env_207 (m : Nat) : Nat → List mV → mS → Option (Int × mS) := fun j as s => none
def F_207 (m : Nat) (as : List mV) (s : mS) : Option (Int × mS) := runS TT Mi_207 scr0 (env_207 m) (m + 1) 0 (ent 0 as) [] s (0, 0)
def f_R_fault (m : Nat) (s : mS) : Option (Int × mS) := F_207 m [rv (some 249)] s
def Mi_209 : mM := (false, false, 10, 2, (0, 0), 4, rs_12, cd_209, [])
abbrev env_209 (m : Nat) : Nat → List mV → mS → Option (Int × mS) := fun j as s => (bsel (Nat.beq j 195) (F_195 m as s) none)
def F_209 (m : Nat) (as : List mV) (s : mS) : Option (Int × mS) := runS TT Mi_209 scr0 (env_209 m) (m + 1) 0 (ent 0 as) [] s (0, 0)
def f_R_isBox (m : Nat) (a1 : Int) (s : mS) : Option (Int × mS) := F_209 m [rv (some 249), iv a1] s
def Mi_210 : mM := (false, false, 10, 2, (0, 0), 4, rs_12, cd_210, [])
abbrev env_210 (m : Nat) : Nat → List mV → mS → Option (Int × mS) := fun j as s => none
def F_210 (m : Nat) (as : List mV) (s : mS) : Option (Int × mS) := runS TT Mi_210 scr0 (env_210 m) (m + 1) 0 (ent 0 as) [] s (0, 0)
def f_R_isFree (m : Nat) (a1 : Int) (s : mS) : Option (Int × mS) := F_210 m [rv (some 249), iv a1] s
def Mi_208 : mM := (false, false, 10, 3, (0, 0), 1, rs_12, cd_208, [])
abbrev env_208 (m : Nat) : Nat → List mV → mS → Option (Int × mS) := fun j as s => (bsel (Nat.beq j 209) (F_209 m as s) (bsel (Nat.beq j 210) (F_210 m as s) none))
def F_208 (m : Nat) (as : List mV) (s : mS) : Option (Int × mS) := runS TT Mi_208 scr0 (env_208 m) (m + 1) 0 (ent 0 as) [] s (0, 0)
def f_R_box (m : Nat) (a1 : Int) (a2 : Int) (s : mS) : Option (Int × mS) := F_208 m [rv (some 249), iv a1, iv a2] s
def Mi_212 : mM := (false, false, 10, 2, (0, 0), 4, rs_12, cd_212, [])
abbrev env_212 (m : Nat) : Nat → List mV → mS → Option (Int × mS) := fun j as s => (bsel (Nat.beq j 195) (F_195 m as s) none)
def F_212 (m : Nat) (as : List mV) (s : mS) : Option (Int × mS) := runS TT Mi_212 scr0 (env_212 m) (m + 1) 0 (ent 0 as) [] s (0, 0)
def f_R_isPlot (m : Nat) (a1 : Int) (s : mS) : Option (Int × mS) := F_212 m [rv (some 249), iv a1] s
def Mi_211 : mM := (false, false, 10, 3, (0, 0), 1, rs_12, cd_211, [])
abbrev env_211 (m : Nat) : Nat → List mV → mS → Option (Int × mS) := fun j as s => (bsel (Nat.beq j 212) (F_212 m as s) none)
def F_211 (m : Nat) (as : List mV) (s : mS) : Option (Int × mS) := runS TT Mi_211 scr0 (env_211 m) (m + 1) 0 (ent 0 as) [] s (0, 0)
def f_R_plot (m : Nat) (a1 : Int) (a2 : Int) (s : mS) : Option (Int × mS) := F_211 m [rv (some 249), iv a1, iv a2] s
def Mi_214 : mM := (false, false, 10, 2, (0, 0), 4, rs_12, cd_214, [])
abbrev env_214 (m : Nat) : Nat → List mV → mS → Option (Int × mS) := fun j as s => (bsel (Nat.beq j 195) (F_195 m as s) none)
def F_214 (m : Nat) (as : List mV) (s : mS) : Option (Int × mS) := runS TT Mi_214 scr0 (env_214 m) (m + 1) 0 (ent 0 as) [] s (0, 0)
def f_R_isDead (m : Nat) (a1 : Int) (s : mS) : Option (Int × mS) := F_214 m [rv (some 249), iv a1] s
def Mi_215 : mM := (false, false, 10, 1, (0, 0), 1, rs_12, cd_215, [])
abbrev env_215 (m : Nat) : Nat → List mV → mS → Option (Int × mS) := fun j as s => none
def F_215 (m : Nat) (as : List mV) (s : mS) : Option (Int × mS) := runS TT Mi_215 scr0 (env_215 m) (m + 1) 0 (ent 0 as) [] s (0, 0)
def f_R_refuse (m : Nat) (s : mS) : Option (Int × mS) := F_215 m [rv (some 249)] s
def Mi_213 : mM := (false, false, 10, 3, (0, 0), 1, rs_12, cd_213, [])
abbrev env_213 (m : Nat) : Nat → List mV → mS → Option (Int × mS) := fun j as s => (bsel (Nat.beq j 214) (F_214 m as s) (bsel (Nat.beq j 215) (F_215 m as s) none))
def F_213 (m : Nat) (as : List mV) (s : mS) : Option (Int × mS) := runS TT Mi_213 scr0 (env_213 m) (m + 1) 0 (ent 0 as) [] s (0, 0)
def f_R_dead (m : Nat) (a1 : Int) (a2 : Int) (s : mS) : Option (Int × mS) := F_213 m [rv (some 249), iv a1, iv a2] s
def Mi_218 : mM := (false, false, 10, 3, (0, 0), 4, rs_12, cd_218, [(2, [0, 1, 2])])
abbrev env_218 (m : Nat) : Nat → List mV → mS → Option (Int × mS) := fun j as s => (bsel (Nat.beq j 195) (F_195 m as s) none)
def F_218 (m : Nat) (as : List mV) (s : mS) : Option (Int × mS) := runS TT Mi_218 scr0 (env_218 m) (m + 1) 0 (ent 0 as) [] s (0, 0)
def l_R_isFrost_L2 (m : Nat) (n : Nat) (x1 : Int) (x2 : Int) (s : mS) : Option (Int × mS) := runS TT Mi_218 scr0 (env_218 m) n 2 [(0, rv (some 249)), (1, iv x1), (2, iv x2)] [] s (0, 0)
def f_R_isFrost (m : Nat) (a1 : Int) (s : mS) : Option (Int × mS) := F_218 m [rv (some 249), iv a1] s
def Mi_217 : mM := (false, false, 10, 4, (0, 0), 1, rs_12, cd_217, [(4, [0, 1, 2, 3])])
abbrev env_217 (m : Nat) : Nat → List mV → mS → Option (Int × mS) := fun j as s => none
def F_217 (m : Nat) (as : List mV) (s : mS) : Option (Int × mS) := runS TT Mi_217 scr0 (env_217 m) (m + 1) 0 (ent 0 as) [] s (0, 0)
def l_R_those_L4 (m : Nat) (n : Nat) (x1 : Int) (x2 : Int) (x3 : Int) (s : mS) : Option (Int × mS) := runS TT Mi_217 scr0 (env_217 m) n 4 [(0, rv (some 249)), (1, iv x1), (2, iv x2), (3, iv x3)] [] s (0, 0)
def f_R_those (m : Nat) (a1 : Int) (s : mS) : Option (Int × mS) := F_217 m [rv (some 249), iv a1] s
def Mi_216 : mM := (false, false, 10, 4, (0, 0), 1, rs_12, cd_216, [(74, [0, 2, 3]), (108, [0, 2, 3])])
abbrev env_216 (m : Nat) : Nat → List mV → mS → Option (Int × mS) := fun j as s => (bsel (Nat.beq j 210) (F_210 m as s) (bsel (Nat.beq j 217) (F_217 m as s) (bsel (Nat.beq j 218) (F_218 m as s) none)))
def F_216 (m : Nat) (as : List mV) (s : mS) : Option (Int × mS) := runS TT Mi_216 scr0 (env_216 m) (m + 1) 0 (ent 0 as) [] s (0, 0)
def l_R_now_L108 (m : Nat) (n : Nat) (x2 : Int) (x3 : Int) (s : mS) : Option (Int × mS) := runS TT Mi_216 scr0 (env_216 m) n 108 [(0, rv (some 249)), (2, iv x2), (3, iv x3)] [] s (0, 0)
def l_R_now_L74 (m : Nat) (n : Nat) (x2 : Int) (x3 : Int) (s : mS) : Option (Int × mS) := runS TT Mi_216 scr0 (env_216 m) n 74 [(0, rv (some 249)), (2, iv x2), (3, iv x3)] [] s (0, 0)
def f_R_now (m : Nat) (a1 : Int) (s : mS) : Option (Int × mS) := F_216 m [rv (some 249), iv a1] s
def Mi_219 : mM := (false, false, 10, 3, (0, 0), 1, rs_12, cd_219, [])
abbrev env_219 (m : Nat) : Nat → List mV → mS → Option (Int × mS) := fun j as s => (bsel (Nat.beq j 195) (F_195 m as s) (bsel (Nat.beq j 209) (F_209 m as s) none))
def F_219 (m : Nat) (as : List mV) (s : mS) : Option (Int × mS) := runS TT Mi_219 scr0 (env_219 m) (m + 1) 0 (ent 0 as) [] s (0, 0)
def f_R_had (m : Nat) (a1 : Int) (a2 : Int) (s : mS) : Option (Int × mS) := F_219 m [rv (some 249), iv a1, iv a2] s
def Mi_224 : mM := (false, false, 10, 3, (0, 0), 4, rs_12, cd_224, [])
abbrev env_224 (m : Nat) : Nat → List mV → mS → Option (Int × mS) := fun j as s => none
def F_224 (m : Nat) (as : List mV) (s : mS) : Option (Int × mS) := runS TT Mi_224 scr0 (env_224 m) (m + 1) 0 (ent 0 as) [] s (0, 0)
def f_R_fits (m : Nat) (a1 : Int) (a2 : Int) (s : mS) : Option (Int × mS) := F_224 m [rv (some 249), iv a1, iv a2] s
def Mi_227 : mM := (false, false, 10, 3, (0, 0), 1, rs_12, cd_227, [])
abbrev env_227 (m : Nat) : Nat → List mV → mS → Option (Int × mS) := fun j as s => (bsel (Nat.beq j 224) (F_224 m as s) none)
def F_227 (m : Nat) (as : List mV) (s : mS) : Option (Int × mS) := runS TT Mi_227 scr0 (env_227 m) (m + 1) 0 (ent 0 as) [] s (0, 0)
def f_R_whySwap (m : Nat) (a1 : Int) (a2 : Int) (s : mS) : Option (Int × mS) := F_227 m [rv (some 249), iv a1, iv a2] s
def Mi_226 : mM := (false, false, 10, 3, (0, 0), 4, rs_12, cd_226, [])
abbrev env_226 (m : Nat) : Nat → List mV → mS → Option (Int × mS) := fun j as s => (bsel (Nat.beq j 201) (F_201 m as s) none)
def F_226 (m : Nat) (as : List mV) (s : mS) : Option (Int × mS) := runS TT Mi_226 scr0 (env_226 m) (m + 1) 0 (ent 0 as) [] s (0, 0)
def f_R_isByKin (m : Nat) (a1 : Int) (a2 : Int) (s : mS) : Option (Int × mS) := F_226 m [rv (some 249), iv a1, iv a2] s
def Mi_225 : mM := (false, false, 10, 3, (0, 0), 1, rs_12, cd_225, [])
abbrev env_225 (m : Nat) : Nat → List mV → mS → Option (Int × mS) := fun j as s => (bsel (Nat.beq j 218) (F_218 m as s) (bsel (Nat.beq j 226) (F_226 m as s) none))
def F_225 (m : Nat) (as : List mV) (s : mS) : Option (Int × mS) := runS TT Mi_225 scr0 (env_225 m) (m + 1) 0 (ent 0 as) [] s (0, 0)
def f_R_whyLay (m : Nat) (a1 : Int) (a2 : Int) (s : mS) : Option (Int × mS) := F_225 m [rv (some 249), iv a1, iv a2] s
def Mi_223 : mM := (false, false, 10, 3, (0, 0), 1, rs_12, cd_223, [])
abbrev env_223 (m : Nat) : Nat → List mV → mS → Option (Int × mS) := fun j as s => (bsel (Nat.beq j 210) (F_210 m as s) (bsel (Nat.beq j 224) (F_224 m as s) none))
def F_223 (m : Nat) (as : List mV) (s : mS) : Option (Int × mS) := runS TT Mi_223 scr0 (env_223 m) (m + 1) 0 (ent 0 as) [] s (0, 0)
def f_R_whyLend (m : Nat) (a1 : Int) (a2 : Int) (s : mS) : Option (Int × mS) := F_223 m [rv (some 249), iv a1, iv a2] s
def Mi_222 : mM := (false, false, 10, 4, (0, 0), 1, rs_12, cd_222, [])
abbrev env_222 (m : Nat) : Nat → List mV → mS → Option (Int × mS) := fun j as s => (bsel (Nat.beq j 223) (F_223 m as s) (bsel (Nat.beq j 225) (F_225 m as s) (bsel (Nat.beq j 227) (F_227 m as s) none)))
def F_222 (m : Nat) (as : List mV) (s : mS) : Option (Int × mS) := runS TT Mi_222 scr0 (env_222 m) (m + 1) 0 (ent 0 as) [] s (0, 0)
def f_R_why (m : Nat) (a1 : Int) (a2 : Int) (a3 : Int) (s : mS) : Option (Int × mS) := F_222 m [rv (some 249), iv a1, iv a2, iv a3] s
def Mi_229 : mM := (false, false, 10, 4, (0, 0), 0, rs_12, cd_229, [(2, [0, 1, 2, 3])])
abbrev env_229 (m : Nat) : Nat → List mV → mS → Option (Int × mS) := fun j as s => none
def F_229 (m : Nat) (as : List mV) (s : mS) : Option (Int × mS) := runS TT Mi_229 scr0 (env_229 m) (m + 1) 0 (ent 0 as) [] s (0, 0)
def l_R_save_249_254_L2 (m : Nat) (n : Nat) (x2 : Int) (x3 : Int) (s : mS) : Option (Int × mS) := runS TT Mi_229 scr0 (env_229 m) n 2 [(0, rv (some 249)), (1, rv (some 254)), (2, iv x2), (3, iv x3)] [] s (0, 0)
def f_R_save_249_254 (m : Nat) (a2 : Int) (s : mS) : Option (Int × mS) := F_229 m [rv (some 249), rv (some 254), iv a2] s
def l_R_save_249_256_L2 (m : Nat) (n : Nat) (x2 : Int) (x3 : Int) (s : mS) : Option (Int × mS) := runS TT Mi_229 scr0 (env_229 m) n 2 [(0, rv (some 249)), (1, rv (some 256)), (2, iv x2), (3, iv x3)] [] s (0, 0)
def f_R_save_249_256 (m : Nat) (a2 : Int) (s : mS) : Option (Int × mS) := F_229 m [rv (some 249), rv (some 256), iv a2] s
def l_R_save_249_255_L2 (m : Nat) (n : Nat) (x2 : Int) (x3 : Int) (s : mS) : Option (Int × mS) := runS TT Mi_229 scr0 (env_229 m) n 2 [(0, rv (some 249)), (1, rv (some 255)), (2, iv x2), (3, iv x3)] [] s (0, 0)
def f_R_save_249_255 (m : Nat) (a2 : Int) (s : mS) : Option (Int × mS) := F_229 m [rv (some 249), rv (some 255), iv a2] s
def Mi_228 : mM := (false, false, 10, 2, (0, 0), 0, rs_12, cd_228, [(11, [0, 1])])
abbrev env_228 (m : Nat) : Nat → List mV → mS → Option (Int × mS) := fun j as s => (bsel (Nat.beq j 229) (F_229 m as s) none)
def F_228 (m : Nat) (as : List mV) (s : mS) : Option (Int × mS) := runS TT Mi_228 scr0 (env_228 m) (m + 1) 0 (ent 0 as) [] s (0, 0)
def l_R_snap_L11 (m : Nat) (n : Nat) (x1 : Int) (s : mS) : Option (Int × mS) := runS TT Mi_228 scr0 (env_228 m) n 11 [(0, rv (some 249)), (1, iv x1)] [] s (0, 0)
def f_R_snap (m : Nat) (s : mS) : Option (Int × mS) := F_228 m [rv (some 249)] s
def Mi_232 : mM := (false, false, 10, 3, (0, 0), 0, rs_12, cd_232, [])
abbrev env_232 (m : Nat) : Nat → List mV → mS → Option (Int × mS) := fun j as s => none
def F_232 (m : Nat) (as : List mV) (s : mS) : Option (Int × mS) := runS TT Mi_232 scr0 (env_232 m) (m + 1) 0 (ent 0 as) [] s (0, 0)
def f_R_lies (m : Nat) (a1 : Int) (a2 : Int) (s : mS) : Option (Int × mS) := F_232 m [rv (some 249), iv a1, iv a2] s
def Mi_233 : mM := (false, false, 10, 4, (0, 0), 0, rs_12, cd_233, [])
abbrev env_233 (m : Nat) : Nat → List mV → mS → Option (Int × mS) := fun j as s => none
def F_233 (m : Nat) (as : List mV) (s : mS) : Option (Int × mS) := runS TT Mi_233 scr0 (env_233 m) (m + 1) 0 (ent 0 as) [] s (0, 0)
def f_R_lays (m : Nat) (a1 : Int) (a2 : Int) (s : mS) : Option (Int × mS) := F_233 m [rv (some 249), iv a1, iv a2] s
def Mi_231 : mM := (false, false, 10, 4, (0, 0), 0, rs_12, cd_231, [(32, [0, 1, 2, 3])])
abbrev env_231 (m : Nat) : Nat → List mV → mS → Option (Int × mS) := fun j as s => (bsel (Nat.beq j 232) (F_232 m as s) none)
def F_231 (m : Nat) (as : List mV) (s : mS) : Option (Int × mS) := runS TT Mi_231 scr0 (env_231 m) (m + 1) 0 (ent 0 as) [] s (0, 0)
def l_R_lends_L32 (m : Nat) (n : Nat) (x1 : Int) (x2 : Int) (x3 : Int) (s : mS) : Option (Int × mS) := runS TT Mi_231 scr0 (env_231 m) n 32 [(0, rv (some 249)), (1, iv x1), (2, iv x2), (3, iv x3)] [] s (0, 0)
def f_R_lends (m : Nat) (a1 : Int) (a2 : Int) (s : mS) : Option (Int × mS) := F_231 m [rv (some 249), iv a1, iv a2] s
def Mi_230 : mM := (false, false, 10, 5, (0, 0), 0, rs_12, cd_230, [])
abbrev env_230 (m : Nat) : Nat → List mV → mS → Option (Int × mS) := fun j as s => (bsel (Nat.beq j 231) (F_231 m as s) (bsel (Nat.beq j 232) (F_232 m as s) (bsel (Nat.beq j 233) (F_233 m as s) none)))
def F_230 (m : Nat) (as : List mV) (s : mS) : Option (Int × mS) := runS TT Mi_230 scr0 (env_230 m) (m + 1) 0 (ent 0 as) [] s (0, 0)
def f_R_live (m : Nat) (a1 : Int) (a2 : Int) (a3 : Int) (s : mS) : Option (Int × mS) := F_230 m [rv (some 249), iv a1, iv a2, iv a3] s
def Mi_221 : mM := (false, false, 10, 6, (0, 0), 1, rs_12, cd_221, [])
abbrev env_221 (m : Nat) : Nat → List mV → mS → Option (Int × mS) := fun j as s => (bsel (Nat.beq j 222) (F_222 m as s) (bsel (Nat.beq j 228) (F_228 m as s) (bsel (Nat.beq j 230) (F_230 m as s) none)))
def F_221 (m : Nat) (as : List mV) (s : mS) : Option (Int × mS) := runS TT Mi_221 scr0 (env_221 m) (m + 1) 0 (ent 0 as) [] s (0, 0)
def f_R_act (m : Nat) (a1 : Int) (a2 : Int) (a3 : Int) (a4 : Int) (s : mS) : Option (Int × mS) := F_221 m [rv (some 249), iv a1, iv a2, iv a3, iv a4] s
def Mi_220 : mM := (false, false, 10, 3, (0, 0), 1, rs_12, cd_220, [])
abbrev env_220 (m : Nat) : Nat → List mV → mS → Option (Int × mS) := fun j as s => (bsel (Nat.beq j 209) (F_209 m as s) (bsel (Nat.beq j 214) (F_214 m as s) (bsel (Nat.beq j 221) (F_221 m as s) none)))
def F_220 (m : Nat) (as : List mV) (s : mS) : Option (Int × mS) := runS TT Mi_220 scr0 (env_220 m) (m + 1) 0 (ent 0 as) [] s (0, 0)
def f_R_lend (m : Nat) (a1 : Int) (a2 : Int) (s : mS) : Option (Int × mS) := F_220 m [rv (some 249), iv a1, iv a2] s
def Mi_234 : mM := (false, false, 10, 3, (0, 0), 1, rs_12, cd_234, [])
abbrev env_234 (m : Nat) : Nat → List mV → mS → Option (Int × mS) := fun j as s => (bsel (Nat.beq j 212) (F_212 m as s) (bsel (Nat.beq j 214) (F_214 m as s) (bsel (Nat.beq j 221) (F_221 m as s) none)))
def F_234 (m : Nat) (as : List mV) (s : mS) : Option (Int × mS) := runS TT Mi_234 scr0 (env_234 m) (m + 1) 0 (ent 0 as) [] s (0, 0)
def f_R_lay (m : Nat) (a1 : Int) (a2 : Int) (s : mS) : Option (Int × mS) := F_234 m [rv (some 249), iv a1, iv a2] s
def Mi_235 : mM := (false, false, 10, 3, (0, 0), 1, rs_12, cd_235, [])
abbrev env_235 (m : Nat) : Nat → List mV → mS → Option (Int × mS) := fun j as s => (bsel (Nat.beq j 214) (F_214 m as s) (bsel (Nat.beq j 221) (F_221 m as s) none))
def F_235 (m : Nat) (as : List mV) (s : mS) : Option (Int × mS) := runS TT Mi_235 scr0 (env_235 m) (m + 1) 0 (ent 0 as) [] s (0, 0)
def f_R_swap (m : Nat) (a1 : Int) (a2 : Int) (s : mS) : Option (Int × mS) := F_235 m [rv (some 249), iv a1, iv a2] s
def Mi_236 : mM := (false, false, 10, 2, (0, 0), 1, rs_12, cd_236, [])
abbrev env_236 (m : Nat) : Nat → List mV → mS → Option (Int × mS) := fun j as s => (bsel (Nat.beq j 209) (F_209 m as s) (bsel (Nat.beq j 221) (F_221 m as s) none))
def F_236 (m : Nat) (as : List mV) (s : mS) : Option (Int × mS) := runS TT Mi_236 scr0 (env_236 m) (m + 1) 0 (ent 0 as) [] s (0, 0)
def f_R_mend (m : Nat) (a1 : Int) (s : mS) : Option (Int × mS) := F_236 m [rv (some 249), iv a1] s
def Mi_238 : mM := (false, false, 10, 4, (0, 0), 0, rs_12, cd_238, [(2, [0, 1, 2, 3])])
abbrev env_238 (m : Nat) : Nat → List mV → mS → Option (Int × mS) := fun j as s => none
def F_238 (m : Nat) (as : List mV) (s : mS) : Option (Int × mS) := runS TT Mi_238 scr0 (env_238 m) (m + 1) 0 (ent 0 as) [] s (0, 0)
def l_R_comeBack_249_254_L2 (m : Nat) (n : Nat) (x2 : Int) (x3 : Int) (s : mS) : Option (Int × mS) := runS TT Mi_238 scr0 (env_238 m) n 2 [(0, rv (some 249)), (1, rv (some 254)), (2, iv x2), (3, iv x3)] [] s (0, 0)
def f_R_comeBack_249_254 (m : Nat) (a2 : Int) (s : mS) : Option (Int × mS) := F_238 m [rv (some 249), rv (some 254), iv a2] s
def l_R_comeBack_249_256_L2 (m : Nat) (n : Nat) (x2 : Int) (x3 : Int) (s : mS) : Option (Int × mS) := runS TT Mi_238 scr0 (env_238 m) n 2 [(0, rv (some 249)), (1, rv (some 256)), (2, iv x2), (3, iv x3)] [] s (0, 0)
def f_R_comeBack_249_256 (m : Nat) (a2 : Int) (s : mS) : Option (Int × mS) := F_238 m [rv (some 249), rv (some 256), iv a2] s
def l_R_comeBack_249_255_L2 (m : Nat) (n : Nat) (x2 : Int) (x3 : Int) (s : mS) : Option (Int × mS) := runS TT Mi_238 scr0 (env_238 m) n 2 [(0, rv (some 249)), (1, rv (some 255)), (2, iv x2), (3, iv x3)] [] s (0, 0)
def f_R_comeBack_249_255 (m : Nat) (a2 : Int) (s : mS) : Option (Int × mS) := F_238 m [rv (some 249), rv (some 255), iv a2] s
def Mi_237 : mM := (false, false, 10, 1, (0, 0), 1, rs_12, cd_237, [])
abbrev env_237 (m : Nat) : Nat → List mV → mS → Option (Int × mS) := fun j as s => (bsel (Nat.beq j 238) (F_238 m as s) none)
def F_237 (m : Nat) (as : List mV) (s : mS) : Option (Int × mS) := runS TT Mi_237 scr0 (env_237 m) (m + 1) 0 (ent 0 as) [] s (0, 0)
def f_R_undo (m : Nat) (s : mS) : Option (Int × mS) := F_237 m [rv (some 249)] s
def Mi_241 : mM := (false, false, 10, 2, (0, 0), 1, rs_12, cd_241, [])
abbrev env_241 (m : Nat) : Nat → List mV → mS → Option (Int × mS) := fun j as s => none
def F_241 (m : Nat) (as : List mV) (s : mS) : Option (Int × mS) := runS TT Mi_241 scr0 (env_241 m) (m + 1) 0 (ent 0 as) [] s (0, 0)
def f_R_least (m : Nat) (a0 : Int) (a1 : Int) (s : mS) : Option (Int × mS) := F_241 m [iv a0, iv a1] s
def Mi_242 : mM := (false, false, 10, 2, (0, 0), 0, rs_12, cd_242, [(2, [0, 1]), (76, [0, 1]), (115, [0, 1])])
abbrev env_242 (m : Nat) : Nat → List mV → mS → Option (Int × mS) := fun j as s => (bsel (Nat.beq j 176) (F_176 m as s) none)
def F_242 (m : Nat) (as : List mV) (s : mS) : Option (Int × mS) := runS TT Mi_242 scr0 (env_242 m) (m + 1) 0 (ent 0 as) [] s (0, 0)
def l_R_oneDay_L2 (m : Nat) (n : Nat) (x1 : Int) (s : mS) : Option (Int × mS) := runS TT Mi_242 scr0 (env_242 m) n 2 [(0, rv (some 249)), (1, iv x1)] [] s (0, 0)
def l_R_oneDay_L76 (m : Nat) (n : Nat) (x1 : Int) (s : mS) : Option (Int × mS) := runS TT Mi_242 scr0 (env_242 m) n 76 [(0, rv (some 249)), (1, iv x1)] [] s (0, 0)
def l_R_oneDay_L115 (m : Nat) (n : Nat) (x1 : Int) (s : mS) : Option (Int × mS) := runS TT Mi_242 scr0 (env_242 m) n 115 [(0, rv (some 249)), (1, iv x1)] [] s (0, 0)
def f_R_oneDay (m : Nat) (s : mS) : Option (Int × mS) := F_242 m [rv (some 249)] s
def Mi_240 : mM := (false, false, 10, 4, (0, 0), 1, rs_12, cd_240, [(18, [0, 2, 3])])
abbrev env_240 (m : Nat) : Nat → List mV → mS → Option (Int × mS) := fun j as s => (bsel (Nat.beq j 241) (F_241 m as s) (bsel (Nat.beq j 242) (F_242 m as s) none))
def F_240 (m : Nat) (as : List mV) (s : mS) : Option (Int × mS) := runS TT Mi_240 scr0 (env_240 m) (m + 1) 0 (ent 0 as) [] s (0, 0)
def l_R_passDays_L18 (m : Nat) (n : Nat) (x2 : Int) (x3 : Int) (s : mS) : Option (Int × mS) := runS TT Mi_240 scr0 (env_240 m) n 18 [(0, rv (some 249)), (2, iv x2), (3, iv x3)] [] s (0, 0)
def f_R_passDays (m : Nat) (a1 : Int) (s : mS) : Option (Int × mS) := F_240 m [rv (some 249), iv a1] s
def Mi_239 : mM := (false, false, 10, 2, (0, 0), 1, rs_12, cd_239, [])
abbrev env_239 (m : Nat) : Nat → List mV → mS → Option (Int × mS) := fun j as s => (bsel (Nat.beq j 195) (F_195 m as s) (bsel (Nat.beq j 228) (F_228 m as s) (bsel (Nat.beq j 240) (F_240 m as s) none)))
def F_239 (m : Nat) (as : List mV) (s : mS) : Option (Int × mS) := runS TT Mi_239 scr0 (env_239 m) (m + 1) 0 (ent 0 as) [] s (0, 0)
def f_R_days (m : Nat) (a1 : Int) (s : mS) : Option (Int × mS) := F_239 m [rv (some 249), iv a1] s
def Mi_245 : mM := (false, false, 10, 3, (0, 0), 4, rs_12, cd_245, [])
abbrev env_245 (m : Nat) : Nat → List mV → mS → Option (Int × mS) := fun j as s => (bsel (Nat.beq j 210) (F_210 m as s) (bsel (Nat.beq j 224) (F_224 m as s) none))
def F_245 (m : Nat) (as : List mV) (s : mS) : Option (Int × mS) := runS TT Mi_245 scr0 (env_245 m) (m + 1) 0 (ent 0 as) [] s (0, 0)
def f_R_canLend (m : Nat) (a1 : Int) (a2 : Int) (s : mS) : Option (Int × mS) := F_245 m [rv (some 249), iv a1, iv a2] s
def Mi_246 : mM := (false, false, 10, 4, (0, 0), 1, rs_12, cd_246, [(2, [0, 1, 2, 3])])
abbrev env_246 (m : Nat) : Nat → List mV → mS → Option (Int × mS) := fun j as s => (bsel (Nat.beq j 201) (F_201 m as s) (bsel (Nat.beq j 245) (F_245 m as s) none))
def F_246 (m : Nat) (as : List mV) (s : mS) : Option (Int × mS) := runS TT Mi_246 scr0 (env_246 m) (m + 1) 0 (ent 0 as) [] s (0, 0)
def l_R_boxFor_L2 (m : Nat) (n : Nat) (x1 : Int) (x2 : Int) (x3 : Int) (s : mS) : Option (Int × mS) := runS TT Mi_246 scr0 (env_246 m) n 2 [(0, rv (some 249)), (1, iv x1), (2, iv x2), (3, iv x3)] [] s (0, 0)
def f_R_boxFor (m : Nat) (a1 : Int) (a2 : Int) (s : mS) : Option (Int × mS) := F_246 m [rv (some 249), iv a1, iv a2] s
def Mi_244 : mM := (false, false, 10, 6, (0, 0), 1, rs_12, cd_244, [(18, [0, 1, 2, 3, 4])])
abbrev env_244 (m : Nat) : Nat → List mV → mS → Option (Int × mS) := fun j as s => (bsel (Nat.beq j 201) (F_201 m as s) (bsel (Nat.beq j 245) (F_245 m as s) none))
def F_244 (m : Nat) (as : List mV) (s : mS) : Option (Int × mS) := runS TT Mi_244 scr0 (env_244 m) (m + 1) 0 (ent 0 as) [] s (0, 0)
def l_R_mostOf_L18 (m : Nat) (n : Nat) (x1 : Int) (x2 : Int) (x3 : Int) (x4 : Int) (s : mS) : Option (Int × mS) := runS TT Mi_244 scr0 (env_244 m) n 18 [(0, rv (some 249)), (1, iv x1), (2, iv x2), (3, iv x3), (4, iv x4)] [] s (0, 0)
def f_R_mostOf (m : Nat) (a1 : Int) (a2 : Int) (s : mS) : Option (Int × mS) := F_244 m [rv (some 249), iv a1, iv a2] s
def Mi_243 : mM := (false, false, 10, 4, (0, 0), 1, rs_12, cd_243, [(14, [0, 1, 2]), (44, [0, 1, 2]), (50, [0, 1, 2, 3]), (91, [0, 1, 2, 3])])
abbrev env_243 (m : Nat) : Nat → List mV → mS → Option (Int × mS) := fun j as s => (bsel (Nat.beq j 244) (F_244 m as s) (bsel (Nat.beq j 246) (F_246 m as s) none))
def F_243 (m : Nat) (as : List mV) (s : mS) : Option (Int × mS) := runS TT Mi_243 scr0 (env_243 m) (m + 1) 0 (ent 0 as) [] s (0, 0)
def l_R_match_L14 (m : Nat) (n : Nat) (x1 : Int) (x2 : Int) (s : mS) : Option (Int × mS) := runS TT Mi_243 scr0 (env_243 m) n 14 [(0, rv (some 249)), (1, iv x1), (2, iv x2)] [] s (0, 0)
def l_R_match_L44 (m : Nat) (n : Nat) (x1 : Int) (x2 : Int) (s : mS) : Option (Int × mS) := runS TT Mi_243 scr0 (env_243 m) n 44 [(0, rv (some 249)), (1, iv x1), (2, iv x2)] [] s (0, 0)
def l_R_match_L91 (m : Nat) (n : Nat) (x1 : Int) (x2 : Int) (x3 : Int) (s : mS) : Option (Int × mS) := runS TT Mi_243 scr0 (env_243 m) n 91 [(0, rv (some 249)), (1, iv x1), (2, iv x2), (3, iv x3)] [] s (0, 0)
def l_R_match_L50 (m : Nat) (n : Nat) (x1 : Int) (x2 : Int) (x3 : Int) (s : mS) : Option (Int × mS) := runS TT Mi_243 scr0 (env_243 m) n 50 [(0, rv (some 249)), (1, iv x1), (2, iv x2), (3, iv x3)] [] s (0, 0)
def f_R_match (m : Nat) (s : mS) : Option (Int × mS) := F_243 m [rv (some 249)] s
def Mi_247 : mM := (false, false, 10, 2, (0, 0), 1, rs_12, cd_247, [])
abbrev env_247 (m : Nat) : Nat → List mV → mS → Option (Int × mS) := fun j as s => (bsel (Nat.beq j 195) (F_195 m as s) none)
def F_247 (m : Nat) (as : List mV) (s : mS) : Option (Int × mS) := runS TT Mi_247 scr0 (env_247 m) (m + 1) 0 (ent 0 as) [] s (0, 0)
def f_R_matchOf (m : Nat) (a1 : Int) (s : mS) : Option (Int × mS) := F_247 m [rv (some 249), iv a1] s
def Mi_249 : mM := (false, false, 10, 4, (0, 0), 1, rs_12, cd_249, [(20, [0, 1, 2, 3])])
abbrev env_249 (m : Nat) : Nat → List mV → mS → Option (Int × mS) := fun j as s => (bsel (Nat.beq j 218) (F_218 m as s) (bsel (Nat.beq j 226) (F_226 m as s) none))
def F_249 (m : Nat) (as : List mV) (s : mS) : Option (Int × mS) := runS TT Mi_249 scr0 (env_249 m) (m + 1) 0 (ent 0 as) [] s (0, 0)
def l_R_plotIn_L20 (m : Nat) (n : Nat) (x1 : Int) (x2 : Int) (x3 : Int) (s : mS) : Option (Int × mS) := runS TT Mi_249 scr0 (env_249 m) n 20 [(0, rv (some 249)), (1, iv x1), (2, iv x2), (3, iv x3)] [] s (0, 0)
def f_R_plotIn (m : Nat) (a1 : Int) (a2 : Int) (s : mS) : Option (Int × mS) := F_249 m [rv (some 249), iv a1, iv a2] s
def Mi_248 : mM := (false, false, 10, 4, (0, 0), 1, rs_12, cd_248, [(31, [0, 1, 2])])
abbrev env_248 (m : Nat) : Nat → List mV → mS → Option (Int × mS) := fun j as s => (bsel (Nat.beq j 214) (F_214 m as s) (bsel (Nat.beq j 249) (F_249 m as s) none))
def F_248 (m : Nat) (as : List mV) (s : mS) : Option (Int × mS) := runS TT Mi_248 scr0 (env_248 m) (m + 1) 0 (ent 0 as) [] s (0, 0)
def l_R_soon_L31 (m : Nat) (n : Nat) (x1 : Int) (x2 : Int) (s : mS) : Option (Int × mS) := runS TT Mi_248 scr0 (env_248 m) n 31 [(0, rv (some 249)), (1, iv x1), (2, iv x2)] [] s (0, 0)
def f_R_soon (m : Nat) (a1 : Int) (s : mS) : Option (Int × mS) := F_248 m [rv (some 249), iv a1] s
def Mi_250 : mM := (false, false, 10, 1, (0, 0), 1, rs_12, cd_250, [])
abbrev env_250 (m : Nat) : Nat → List mV → mS → Option (Int × mS) := fun j as s => none
def F_250 (m : Nat) (as : List mV) (s : mS) : Option (Int × mS) := runS TT Mi_250 scr0 (env_250 m) (m + 1) 0 (ent 0 as) [] s (0, 0)
def f_R_soonIn (m : Nat) (s : mS) : Option (Int × mS) := F_250 m [rv (some 249)] s
def Mi_251 : mM := (false, false, 10, 4, (0, 0), 1, rs_12, cd_251, [(21, [0, 1, 2, 3])])
abbrev env_251 (m : Nat) : Nat → List mV → mS → Option (Int × mS) := fun j as s => (bsel (Nat.beq j 195) (F_195 m as s) none)
def F_251 (m : Nat) (as : List mV) (s : mS) : Option (Int × mS) := runS TT Mi_251 scr0 (env_251 m) (m + 1) 0 (ent 0 as) [] s (0, 0)
def l_R_crowd_L21 (m : Nat) (n : Nat) (x1 : Int) (x2 : Int) (x3 : Int) (s : mS) : Option (Int × mS) := runS TT Mi_251 scr0 (env_251 m) n 21 [(0, rv (some 249)), (1, iv x1), (2, iv x2), (3, iv x3)] [] s (0, 0)
def f_R_crowd (m : Nat) (a1 : Int) (s : mS) : Option (Int × mS) := F_251 m [rv (some 249), iv a1] s
def Mi_253 : mM := (false, false, 10, 5, (0, 0), 4, rs_12, cd_253, [])
abbrev env_253 (m : Nat) : Nat → List mV → mS → Option (Int × mS) := fun j as s => (bsel (Nat.beq j 195) (F_195 m as s) none)
def F_253 (m : Nat) (as : List mV) (s : mS) : Option (Int × mS) := runS TT Mi_253 scr0 (env_253 m) (m + 1) 0 (ent 0 as) [] s (0, 0)
def f_R_isOut (m : Nat) (a1 : Int) (a2 : Int) (a3 : Int) (s : mS) : Option (Int × mS) := F_253 m [rv (some 249), iv a1, iv a2, iv a3] s
def Mi_252 : mM := (false, false, 10, 7, (0, 0), 1, rs_12, cd_252, [(32, [0, 1, 2, 3, 4]), (44, [0, 1, 2, 3, 4, 5, 6])])
abbrev env_252 (m : Nat) : Nat → List mV → mS → Option (Int × mS) := fun j as s => (bsel (Nat.beq j 195) (F_195 m as s) (bsel (Nat.beq j 253) (F_253 m as s) none))
def F_252 (m : Nat) (as : List mV) (s : mS) : Option (Int × mS) := runS TT Mi_252 scr0 (env_252 m) (m + 1) 0 (ent 0 as) [] s (0, 0)
def l_R_need_L32 (m : Nat) (n : Nat) (x1 : Int) (x2 : Int) (x3 : Int) (x4 : Int) (s : mS) : Option (Int × mS) := runS TT Mi_252 scr0 (env_252 m) n 32 [(0, rv (some 249)), (1, iv x1), (2, iv x2), (3, iv x3), (4, iv x4)] [] s (0, 0)
def l_R_need_L44 (m : Nat) (n : Nat) (x1 : Int) (x2 : Int) (x3 : Int) (x4 : Int) (x5 : Int) (x6 : Int) (s : mS) : Option (Int × mS) := runS TT Mi_252 scr0 (env_252 m) n 44 [(0, rv (some 249)), (1, iv x1), (2, iv x2), (3, iv x3), (4, iv x4), (5, iv x5), (6, iv x6)] [] s (0, 0)
def f_R_need (m : Nat) (a1 : Int) (a2 : Int) (s : mS) : Option (Int × mS) := F_252 m [rv (some 249), iv a1, iv a2] s
def Mi_255 : mM := (false, false, 10, 3, (0, 0), 1, rs_12, cd_255, [])
abbrev env_255 (m : Nat) : Nat → List mV → mS → Option (Int × mS) := fun j as s => (bsel (Nat.beq j 224) (F_224 m as s) none)
def F_255 (m : Nat) (as : List mV) (s : mS) : Option (Int × mS) := runS TT Mi_255 scr0 (env_255 m) (m + 1) 0 (ent 0 as) [] s (0, 0)
def f_R_nextIn (m : Nat) (a1 : Int) (s : mS) : Option (Int × mS) := F_255 m [rv (some 249), iv a1] s
def Mi_254 : mM := (false, false, 10, 5, (0, 0), 1, rs_12, cd_254, [(33, [0, 1, 2, 3]), (75, [0, 2, 4])])
abbrev env_254 (m : Nat) : Nat → List mV → mS → Option (Int × mS) := fun j as s => (bsel (Nat.beq j 214) (F_214 m as s) (bsel (Nat.beq j 255) (F_255 m as s) none))
def F_254 (m : Nat) (as : List mV) (s : mS) : Option (Int × mS) := runS TT Mi_254 scr0 (env_254 m) (m + 1) 0 (ent 0 as) [] s (0, 0)
def l_R_ring_L33 (m : Nat) (n : Nat) (x1 : Int) (x2 : Int) (x3 : Int) (s : mS) : Option (Int × mS) := runS TT Mi_254 scr0 (env_254 m) n 33 [(0, rv (some 249)), (1, iv x1), (2, iv x2), (3, iv x3)] [] s (0, 0)
def l_R_ring_L75 (m : Nat) (n : Nat) (x2 : Int) (x4 : Int) (s : mS) : Option (Int × mS) := runS TT Mi_254 scr0 (env_254 m) n 75 [(0, rv (some 249)), (2, iv x2), (4, iv x4)] [] s (0, 0)
def f_R_ring (m : Nat) (a1 : Int) (s : mS) : Option (Int × mS) := F_254 m [rv (some 249), iv a1] s
def Mi_256 : mM := (false, false, 10, 2, (0, 0), 1, rs_12, cd_256, [])
abbrev env_256 (m : Nat) : Nat → List mV → mS → Option (Int × mS) := fun j as s => (bsel (Nat.beq j 195) (F_195 m as s) none)
def F_256 (m : Nat) (as : List mV) (s : mS) : Option (Int × mS) := runS TT Mi_256 scr0 (env_256 m) (m + 1) 0 (ent 0 as) [] s (0, 0)
def f_R_ringAt (m : Nat) (a1 : Int) (s : mS) : Option (Int × mS) := F_256 m [rv (some 249), iv a1] s
def Mi_259 : mM := (false, false, 10, 3, (0, 0), 1, rs_12, cd_259, [])
abbrev env_259 (m : Nat) : Nat → List mV → mS → Option (Int × mS) := fun j as s => none
def F_259 (m : Nat) (as : List mV) (s : mS) : Option (Int × mS) := runS TT Mi_259 scr0 (env_259 m) (m + 1) 0 (ent 0 as) [] s (0, 0)
def f_R_partOf (m : Nat) (a1 : Int) (a2 : Int) (s : mS) : Option (Int × mS) := F_259 m [rv (some 249), iv a1, iv a2] s
def Mi_258 : mM := (false, false, 10, 4, (0, 0), 4, rs_12, cd_258, [(2, [0, 1, 2, 3])])
abbrev env_258 (m : Nat) : Nat → List mV → mS → Option (Int × mS) := fun j as s => (bsel (Nat.beq j 259) (F_259 m as s) none)
def F_258 (m : Nat) (as : List mV) (s : mS) : Option (Int × mS) := runS TT Mi_258 scr0 (env_258 m) (m + 1) 0 (ent 0 as) [] s (0, 0)
def l_R_isTold_L2 (m : Nat) (n : Nat) (x1 : Int) (x2 : Int) (x3 : Int) (s : mS) : Option (Int × mS) := runS TT Mi_258 scr0 (env_258 m) n 2 [(0, rv (some 249)), (1, iv x1), (2, iv x2), (3, iv x3)] [] s (0, 0)
def f_R_isTold (m : Nat) (a1 : Int) (a2 : Int) (s : mS) : Option (Int × mS) := F_258 m [rv (some 249), iv a1, iv a2] s
def Mi_260 : mM := (false, false, 10, 7, (0, 0), 1, rs_12, cd_260, [(5, [0, 1, 2, 3, 4]), (34, [0, 1, 2, 3, 4, 5, 6])])
abbrev env_260 (m : Nat) : Nat → List mV → mS → Option (Int × mS) := fun j as s => (bsel (Nat.beq j 201) (F_201 m as s) (bsel (Nat.beq j 259) (F_259 m as s) none))
def F_260 (m : Nat) (as : List mV) (s : mS) : Option (Int × mS) := runS TT Mi_260 scr0 (env_260 m) (m + 1) 0 (ent 0 as) [] s (0, 0)
def l_R_leftBy_L5 (m : Nat) (n : Nat) (x1 : Int) (x2 : Int) (x3 : Int) (x4 : Int) (s : mS) : Option (Int × mS) := runS TT Mi_260 scr0 (env_260 m) n 5 [(0, rv (some 249)), (1, iv x1), (2, iv x2), (3, iv x3), (4, iv x4)] [] s (0, 0)
def l_R_leftBy_L34 (m : Nat) (n : Nat) (x1 : Int) (x2 : Int) (x3 : Int) (x4 : Int) (x5 : Int) (x6 : Int) (s : mS) : Option (Int × mS) := runS TT Mi_260 scr0 (env_260 m) n 34 [(0, rv (some 249)), (1, iv x1), (2, iv x2), (3, iv x3), (4, iv x4), (5, iv x5), (6, iv x6)] [] s (0, 0)
def f_R_leftBy (m : Nat) (a1 : Int) (a2 : Int) (s : mS) : Option (Int × mS) := F_260 m [rv (some 249), iv a1, iv a2] s
def Mi_257 : mM := (false, false, 10, 4, (0, 0), 1, rs_12, cd_257, [(32, [0, 1, 2]), (59, [0, 1, 2, 3]), (103, [0, 2, 3])])
abbrev env_257 (m : Nat) : Nat → List mV → mS → Option (Int × mS) := fun j as s => (bsel (Nat.beq j 179) (F_179 m as s) (bsel (Nat.beq j 195) (F_195 m as s) (bsel (Nat.beq j 258) (F_258 m as s) (bsel (Nat.beq j 260) (F_260 m as s) none))))
def F_257 (m : Nat) (as : List mV) (s : mS) : Option (Int × mS) := runS TT Mi_257 scr0 (env_257 m) (m + 1) 0 (ent 0 as) [] s (0, 0)
def l_R_who_L32 (m : Nat) (n : Nat) (x1 : Int) (x2 : Int) (s : mS) : Option (Int × mS) := runS TT Mi_257 scr0 (env_257 m) n 32 [(0, rv (some 249)), (1, iv x1), (2, iv x2)] [] s (0, 0)
def l_R_who_L59 (m : Nat) (n : Nat) (x1 : Int) (x2 : Int) (x3 : Int) (s : mS) : Option (Int × mS) := runS TT Mi_257 scr0 (env_257 m) n 59 [(0, rv (some 249)), (1, iv x1), (2, iv x2), (3, iv x3)] [] s (0, 0)
def l_R_who_L103 (m : Nat) (n : Nat) (x2 : Int) (x3 : Int) (s : mS) : Option (Int × mS) := runS TT Mi_257 scr0 (env_257 m) n 103 [(0, rv (some 249)), (2, iv x2), (3, iv x3)] [] s (0, 0)
def f_R_who (m : Nat) (s : mS) : Option (Int × mS) := F_257 m [rv (some 249)] s
def Mi_261 : mM := (false, false, 10, 1, (0, 0), 1, rs_12, cd_261, [])
abbrev env_261 (m : Nat) : Nat → List mV → mS → Option (Int × mS) := fun j as s => none
def F_261 (m : Nat) (as : List mV) (s : mS) : Option (Int × mS) := runS TT Mi_261 scr0 (env_261 m) (m + 1) 0 (ent 0 as) [] s (0, 0)
def f_R_ask (m : Nat) (s : mS) : Option (Int × mS) := F_261 m [rv (some 249)] s
def Mi_262 : mM := (false, false, 10, 7, (0, 0), 1, rs_12, cd_262, [(30, [0, 2, 3, 4]), (54, [0, 2, 3, 4, 5, 6])])
abbrev env_262 (m : Nat) : Nat → List mV → mS → Option (Int × mS) := fun j as s => (bsel (Nat.beq j 201) (F_201 m as s) (bsel (Nat.beq j 214) (F_214 m as s) none))
def F_262 (m : Nat) (as : List mV) (s : mS) : Option (Int × mS) := runS TT Mi_262 scr0 (env_262 m) (m + 1) 0 (ent 0 as) [] s (0, 0)
def l_R_near_L30 (m : Nat) (n : Nat) (x2 : Int) (x3 : Int) (x4 : Int) (s : mS) : Option (Int × mS) := runS TT Mi_262 scr0 (env_262 m) n 30 [(0, rv (some 249)), (2, iv x2), (3, iv x3), (4, iv x4)] [] s (0, 0)
def l_R_near_L54 (m : Nat) (n : Nat) (x2 : Int) (x3 : Int) (x4 : Int) (x5 : Int) (x6 : Int) (s : mS) : Option (Int × mS) := runS TT Mi_262 scr0 (env_262 m) n 54 [(0, rv (some 249)), (2, iv x2), (3, iv x3), (4, iv x4), (5, iv x5), (6, iv x6)] [] s (0, 0)
def f_R_near (m : Nat) (a1 : Int) (a2 : Int) (s : mS) : Option (Int × mS) := F_262 m [rv (some 249), iv a1, iv a2] s
def Mi_265 : mM := (false, false, 10, 5, (0, 0), 1, rs_12, cd_265, [(4, [2, 3])])
abbrev env_265 (m : Nat) : Nat → List mV → mS → Option (Int × mS) := fun j as s => none
def F_265 (m : Nat) (as : List mV) (s : mS) : Option (Int × mS) := runS TT Mi_265 scr0 (env_265 m) (m + 1) 0 (ent 0 as) [] s (0, 0)
def l_R_common_L4 (m : Nat) (n : Nat) (x2 : Int) (x3 : Int) (s : mS) : Option (Int × mS) := runS TT Mi_265 scr0 (env_265 m) n 4 [(2, iv x2), (3, iv x3)] [] s (0, 0)
def f_R_common (m : Nat) (a0 : Int) (a1 : Int) (s : mS) : Option (Int × mS) := F_265 m [iv a0, iv a1] s
def Mi_264 : mM := (false, false, 10, 4, (0, 0), 1, rs_12, cd_264, [])
abbrev env_264 (m : Nat) : Nat → List mV → mS → Option (Int × mS) := fun j as s => (bsel (Nat.beq j 265) (F_265 m as s) none)
def F_264 (m : Nat) (as : List mV) (s : mS) : Option (Int × mS) := runS TT Mi_264 scr0 (env_264 m) (m + 1) 0 (ent 0 as) [] s (0, 0)
def f_R_fraction (m : Nat) (a1 : Int) (a2 : Int) (a3 : Int) (s : mS) : Option (Int × mS) := F_264 m [rv (some 249), iv a1, iv a2, iv a3] s
def Mi_263 : mM := (false, false, 10, 3, (0, 0), 1, rs_12, cd_263, [])
abbrev env_263 (m : Nat) : Nat → List mV → mS → Option (Int × mS) := fun j as s => (bsel (Nat.beq j 195) (F_195 m as s) (bsel (Nat.beq j 209) (F_209 m as s) (bsel (Nat.beq j 215) (F_215 m as s) (bsel (Nat.beq j 264) (F_264 m as s) none))))
def F_263 (m : Nat) (as : List mV) (s : mS) : Option (Int × mS) := runS TT Mi_263 scr0 (env_263 m) (m + 1) 0 (ent 0 as) [] s (0, 0)
def f_R_wear (m : Nat) (a1 : Int) (a2 : Int) (s : mS) : Option (Int × mS) := F_263 m [rv (some 249), iv a1, iv a2] s
def Mi_266 : mM := (false, false, 10, 5, (0, 0), 1, rs_12, cd_266, [(35, [0, 1, 2, 3, 4])])
abbrev env_266 (m : Nat) : Nat → List mV → mS → Option (Int × mS) := fun j as s => (bsel (Nat.beq j 195) (F_195 m as s) (bsel (Nat.beq j 215) (F_215 m as s) (bsel (Nat.beq j 264) (F_264 m as s) none)))
def F_266 (m : Nat) (as : List mV) (s : mS) : Option (Int × mS) := runS TT Mi_266 scr0 (env_266 m) (m + 1) 0 (ent 0 as) [] s (0, 0)
def l_R_mean_L35 (m : Nat) (n : Nat) (x1 : Int) (x2 : Int) (x3 : Int) (x4 : Int) (s : mS) : Option (Int × mS) := runS TT Mi_266 scr0 (env_266 m) n 35 [(0, rv (some 249)), (1, iv x1), (2, iv x2), (3, iv x3), (4, iv x4)] [] s (0, 0)
def f_R_mean (m : Nat) (a1 : Int) (s : mS) : Option (Int × mS) := F_266 m [rv (some 249), iv a1] s
def Mi_267 : mM := (false, false, 10, 3, (0, 0), 1, rs_12, cd_267, [(9, [0, 1, 2])])
abbrev env_267 (m : Nat) : Nat → List mV → mS → Option (Int × mS) := fun j as s => none
def F_267 (m : Nat) (as : List mV) (s : mS) : Option (Int × mS) := runS TT Mi_267 scr0 (env_267 m) (m + 1) 0 (ent 0 as) [] s (0, 0)
def l_R_longest_L9 (m : Nat) (n : Nat) (x1 : Int) (x2 : Int) (s : mS) : Option (Int × mS) := runS TT Mi_267 scr0 (env_267 m) n 9 [(0, rv (some 249)), (1, iv x1), (2, iv x2)] [] s (0, 0)
def f_R_longest (m : Nat) (s : mS) : Option (Int × mS) := F_267 m [rv (some 249)] s
def Mi_270 : mM := (false, false, 10, 2, (0, 0), 0, rs_12, cd_270, [])
abbrev env_270 (m : Nat) : Nat → List mV → mS → Option (Int × mS) := fun j as s => none
def F_270 (m : Nat) (as : List mV) (s : mS) : Option (Int × mS) := runS TT Mi_270 scr0 (env_270 m) (m + 1) 0 (ent 0 as) [] s (0, 0)
def f_R_write (m : Nat) (a1 : Int) (s : mS) : Option (Int × mS) := F_270 m [rv (some 249), iv a1] s
def Mi_269 : mM := (false, false, 10, 3, (0, 0), 0, rs_12, cd_269, [])
def Fg_269 (m : Nat) : Nat → Nat → List mV → mS → Option (Int × mS)
  | 0, _, _, _ => none
  | d + 1, j, as, s => bsel (Nat.beq j 269) (runS TT Mi_269 scr0 (fun j as s => (bsel (Nat.beq j 269) (Fg_269 m d 269 as s) (bsel (Nat.beq j 270) (F_270 m as s) none))) (m + 1) 0 (ent 0 as) [] s (0, 0)) (none)
abbrev env_269 (m d : Nat) : Nat → List mV → mS → Option (Int × mS) := fun j as s => (bsel (Nat.beq j 269) (Fg_269 m d 269 as s) (bsel (Nat.beq j 270) (F_270 m as s) none))
def f_R_writeWord (m : Nat) (d : Nat) (a1 : Int) (s : mS) : Option (Int × mS) := Fg_269 m d 269 [rv (some 249), jv a1] s
def Mi_271 : mM := (false, false, 10, 3, (0, 0), 0, rs_12, cd_271, [])
abbrev env_271 (m : Nat) : Nat → List mV → mS → Option (Int × mS) := fun j as s => (bsel (Nat.beq j 269) (Fg_269 m 64 269 as s) (bsel (Nat.beq j 270) (F_270 m as s) none))
def F_271 (m : Nat) (as : List mV) (s : mS) : Option (Int × mS) := runS TT Mi_271 scr0 (env_271 m) (m + 1) 0 (ent 0 as) [] s (0, 0)
def f_R_writeNext (m : Nat) (a1 : Int) (s : mS) : Option (Int × mS) := F_271 m [rv (some 249), jv a1] s
def Mi_268 : mM := (false, false, 10, 2, (0, 0), 1, rs_12, cd_268, [])
abbrev env_268 (m : Nat) : Nat → List mV → mS → Option (Int × mS) := fun j as s => (bsel (Nat.beq j 186) (F_186 m as s) (bsel (Nat.beq j 187) (F_187 m as s) (bsel (Nat.beq j 214) (F_214 m as s) (bsel (Nat.beq j 269) (Fg_269 m 64 269 as s) (bsel (Nat.beq j 271) (F_271 m as s) none)))))
def F_268 (m : Nat) (as : List mV) (s : mS) : Option (Int × mS) := runS TT Mi_268 scr0 (env_268 m) (m + 1) 0 (ent 0 as) [] s (0, 0)
def f_R_tag (m : Nat) (a1 : Int) (s : mS) : Option (Int × mS) := F_268 m [rv (some 249), iv a1] s
def Mi_272 : mM := (false, false, 10, 2, (0, 0), 1, rs_12, cd_272, [])
abbrev env_272 (m : Nat) : Nat → List mV → mS → Option (Int × mS) := fun j as s => (bsel (Nat.beq j 195) (F_195 m as s) none)
def F_272 (m : Nat) (as : List mV) (s : mS) : Option (Int × mS) := runS TT Mi_272 scr0 (env_272 m) (m + 1) 0 (ent 0 as) [] s (0, 0)
def f_R_byteAt (m : Nat) (a1 : Int) (s : mS) : Option (Int × mS) := F_272 m [rv (some 249), iv a1] s
def Mi_276 : mM := (false, false, 10, 2, (0, 0), 1, rs_12, cd_276, [])
abbrev env_276 (m : Nat) : Nat → List mV → mS → Option (Int × mS) := fun j as s => none
def F_276 (m : Nat) (as : List mV) (s : mS) : Option (Int × mS) := runS TT Mi_276 scr0 (env_276 m) (m + 1) 0 (ent 0 as) [] s (0, 0)
def f_R_draw (m : Nat) (a1 : Int) (s : mS) : Option (Int × mS) := F_276 m [rv (some 249), iv a1] s
def Mi_278 : mM := (false, false, 10, 4, (0, 0), 0, rs_12, cd_278, [])
abbrev env_278 (m : Nat) : Nat → List mV → mS → Option (Int × mS) := fun j as s => (bsel (Nat.beq j 222) (F_222 m as s) (bsel (Nat.beq j 230) (F_230 m as s) none))
def F_278 (m : Nat) (as : List mV) (s : mS) : Option (Int × mS) := runS TT Mi_278 scr0 (env_278 m) (m + 1) 0 (ent 0 as) [] s (0, 0)
def f_R_doIf (m : Nat) (a1 : Int) (a2 : Int) (a3 : Int) (s : mS) : Option (Int × mS) := F_278 m [rv (some 249), iv a1, iv a2, iv a3] s
def Mi_277 : mM := (false, false, 10, 5, (0, 0), 0, rs_12, cd_277, [])
abbrev env_277 (m : Nat) : Nat → List mV → mS → Option (Int × mS) := fun j as s => (bsel (Nat.beq j 276) (F_276 m as s) (bsel (Nat.beq j 278) (F_278 m as s) none))
def F_277 (m : Nat) (as : List mV) (s : mS) : Option (Int × mS) := runS TT Mi_277 scr0 (env_277 m) (m + 1) 0 (ent 0 as) [] s (0, 0)
def f_R_drawsTwo (m : Nat) (a1 : Int) (a2 : Int) (s : mS) : Option (Int × mS) := F_277 m [rv (some 249), iv a1, iv a2] s
def Mi_275 : mM := (false, false, 10, 2, (0, 0), 0, rs_12, cd_275, [(44, [0, 1])])
abbrev env_275 (m : Nat) : Nat → List mV → mS → Option (Int × mS) := fun j as s => (bsel (Nat.beq j 276) (F_276 m as s) (bsel (Nat.beq j 277) (F_277 m as s) (bsel (Nat.beq j 278) (F_278 m as s) none)))
def F_275 (m : Nat) (as : List mV) (s : mS) : Option (Int × mS) := runS TT Mi_275 scr0 (env_275 m) (m + 1) 0 (ent 0 as) [] s (0, 0)
def l_R_drawsFirst_L44 (m : Nat) (n : Nat) (x1 : Int) (s : mS) : Option (Int × mS) := runS TT Mi_275 scr0 (env_275 m) n 44 [(0, rv (some 249)), (1, iv x1)] [] s (0, 0)
def f_R_drawsFirst (m : Nat) (s : mS) : Option (Int × mS) := F_275 m [rv (some 249)] s
def Mi_274 : mM := (false, false, 10, 5, (0, 0), 1, rs_12, cd_274, [(24, [0, 3, 4])])
abbrev env_274 (m : Nat) : Nat → List mV → mS → Option (Int × mS) := fun j as s => (bsel (Nat.beq j 241) (F_241 m as s) (bsel (Nat.beq j 242) (F_242 m as s) (bsel (Nat.beq j 275) (F_275 m as s) none)))
def F_274 (m : Nat) (as : List mV) (s : mS) : Option (Int × mS) := runS TT Mi_274 scr0 (env_274 m) (m + 1) 0 (ent 0 as) [] s (0, 0)
def l_R_drawDays_L24 (m : Nat) (n : Nat) (x3 : Int) (x4 : Int) (s : mS) : Option (Int × mS) := runS TT Mi_274 scr0 (env_274 m) n 24 [(0, rv (some 249)), (3, iv x3), (4, iv x4)] [] s (0, 0)
def f_R_drawDays (m : Nat) (a1 : Int) (a2 : Int) (s : mS) : Option (Int × mS) := F_274 m [rv (some 249), iv a1, iv a2] s
def Mi_273 : mM := (false, false, 10, 3, (0, 0), 1, rs_12, cd_273, [])
abbrev env_273 (m : Nat) : Nat → List mV → mS → Option (Int × mS) := fun j as s => (bsel (Nat.beq j 195) (F_195 m as s) (bsel (Nat.beq j 228) (F_228 m as s) (bsel (Nat.beq j 274) (F_274 m as s) none)))
def F_273 (m : Nat) (as : List mV) (s : mS) : Option (Int × mS) := runS TT Mi_273 scr0 (env_273 m) (m + 1) 0 (ent 0 as) [] s (0, 0)
def f_R_drawn (m : Nat) (a1 : Int) (a2 : Int) (s : mS) : Option (Int × mS) := F_273 m [rv (some 249), iv a1, iv a2] s
def Mi_279 : mM := (false, false, 10, 6, (0, 0), 1, rs_12, cd_279, [(40, [0, 1, 2, 3, 4, 5])])
abbrev env_279 (m : Nat) : Nat → List mV → mS → Option (Int × mS) := fun j as s => (bsel (Nat.beq j 195) (F_195 m as s) (bsel (Nat.beq j 214) (F_214 m as s) (bsel (Nat.beq j 229) (F_229 m as s) (bsel (Nat.beq j 238) (F_238 m as s) (bsel (Nat.beq j 274) (F_274 m as s) none)))))
def F_279 (m : Nat) (as : List mV) (s : mS) : Option (Int × mS) := runS TT Mi_279 scr0 (env_279 m) (m + 1) 0 (ent 0 as) [] s (0, 0)
def l_R_odds_L40 (m : Nat) (n : Nat) (x1 : Int) (x2 : Int) (x3 : Int) (x4 : Int) (x5 : Int) (s : mS) : Option (Int × mS) := runS TT Mi_279 scr0 (env_279 m) n 40 [(0, rv (some 249)), (1, iv x1), (2, iv x2), (3, iv x3), (4, iv x4), (5, iv x5)] [] s (0, 0)
def f_R_odds (m : Nat) (a1 : Int) (a2 : Int) (a3 : Int) (s : mS) : Option (Int × mS) := F_279 m [rv (some 249), iv a1, iv a2, iv a3] s
def Mi_284 : mM := (false, false, 10, 3, (0, 0), 4, rs_12, cd_284, [])
abbrev env_284 (m : Nat) : Nat → List mV → mS → Option (Int × mS) := fun j as s => none
def F_284 (m : Nat) (as : List mV) (s : mS) : Option (Int × mS) := runS TT Mi_284 scr0 (env_284 m) (m + 1) 0 (ent 0 as) [] s (0, 0)
def f_R_keep (m : Nat) (a1 : Int) (a2 : Int) (s : mS) : Option (Int × mS) := F_284 m [rv (some 249), iv a1, iv a2] s
def Mi_283 : mM := (false, false, 10, 3, (0, 0), 4, rs_12, cd_283, [])
abbrev env_283 (m : Nat) : Nat → List mV → mS → Option (Int × mS) := fun j as s => (bsel (Nat.beq j 180) (F_180 m as s) (bsel (Nat.beq j 190) (F_190 m as s) (bsel (Nat.beq j 192) (F_192 m as s) (bsel (Nat.beq j 193) (F_193 m as s) none))))
def F_283 (m : Nat) (as : List mV) (s : mS) : Option (Int × mS) := runS TT Mi_283 scr0 (env_283 m) (m + 1) 0 (ent 0 as) [] s (0, 0)
def f_R_readNamed (m : Nat) (a1 : Int) (a2 : Int) (s : mS) : Option (Int × mS) := F_283 m [rv (some 249), iv a1, iv a2] s
def Mi_285 : mM := (false, false, 10, 1, (0, 0), 4, rs_12, cd_285, [])
abbrev env_285 (m : Nat) : Nat → List mV → mS → Option (Int × mS) := fun j as s => (bsel (Nat.beq j 283) (F_283 m as s) none)
def F_285 (m : Nat) (as : List mV) (s : mS) : Option (Int × mS) := runS TT Mi_285 scr0 (env_285 m) (m + 1) 0 (ent 0 as) [] s (0, 0)
def f_R_readBoxName (m : Nat) (s : mS) : Option (Int × mS) := F_285 m [rv (some 249)] s
def Mi_282 : mM := (false, false, 10, 1, (0, 0), 4, rs_12, cd_282, [])
abbrev env_282 (m : Nat) : Nat → List mV → mS → Option (Int × mS) := fun j as s => (bsel (Nat.beq j 283) (F_283 m as s) none)
def F_282 (m : Nat) (as : List mV) (s : mS) : Option (Int × mS) := runS TT Mi_282 scr0 (env_282 m) (m + 1) 0 (ent 0 as) [] s (0, 0)
def f_R_readDeadName (m : Nat) (s : mS) : Option (Int × mS) := F_282 m [rv (some 249)] s
def Mi_286 : mM := (false, false, 10, 2, (0, 0), 4, rs_12, cd_286, [])
abbrev env_286 (m : Nat) : Nat → List mV → mS → Option (Int × mS) := fun j as s => (bsel (Nat.beq j 180) (F_180 m as s) (bsel (Nat.beq j 190) (F_190 m as s) (bsel (Nat.beq j 192) (F_192 m as s) (bsel (Nat.beq j 193) (F_193 m as s) none))))
def F_286 (m : Nat) (as : List mV) (s : mS) : Option (Int × mS) := runS TT Mi_286 scr0 (env_286 m) (m + 1) 0 (ent 0 as) [] s (0, 0)
def f_R_readOther (m : Nat) (a1 : Int) (s : mS) : Option (Int × mS) := F_286 m [rv (some 249), iv a1] s
def Mi_281 : mM := (false, false, 10, 3, (0, 0), 4, rs_12, cd_281, [(17, [0, 1, 2])])
abbrev env_281 (m : Nat) : Nat → List mV → mS → Option (Int × mS) := fun j as s => (bsel (Nat.beq j 180) (F_180 m as s) (bsel (Nat.beq j 185) (F_185 m as s) (bsel (Nat.beq j 190) (F_190 m as s) (bsel (Nat.beq j 194) (F_194 m as s) (bsel (Nat.beq j 205) (F_205 m as s) (bsel (Nat.beq j 282) (F_282 m as s) (bsel (Nat.beq j 283) (F_283 m as s) (bsel (Nat.beq j 284) (F_284 m as s) (bsel (Nat.beq j 285) (F_285 m as s) (bsel (Nat.beq j 286) (F_286 m as s) none))))))))))
def F_281 (m : Nat) (as : List mV) (s : mS) : Option (Int × mS) := runS TT Mi_281 scr0 (env_281 m) (m + 1) 0 (ent 0 as) [] s (0, 0)
def l_R_readBookLine_L17 (m : Nat) (n : Nat) (x1 : Int) (x2 : Int) (s : mS) : Option (Int × mS) := runS TT Mi_281 scr0 (env_281 m) n 17 [(0, rv (some 249)), (1, iv x1), (2, iv x2)] [] s (0, 0)
def f_R_readBookLine (m : Nat) (s : mS) : Option (Int × mS) := F_281 m [rv (some 249)] s
def Mi_287 : mM := (false, false, 10, 5, (0, 0), 1, rs_12, cd_287, [])
abbrev env_287 (m : Nat) : Nat → List mV → mS → Option (Int × mS) := fun j as s => (bsel (Nat.beq j 222) (F_222 m as s) (bsel (Nat.beq j 230) (F_230 m as s) (bsel (Nat.beq j 240) (F_240 m as s) none)))
def F_287 (m : Nat) (as : List mV) (s : mS) : Option (Int × mS) := runS TT Mi_287 scr0 (env_287 m) (m + 1) 0 (ent 0 as) [] s (0, 0)
def f_R_goBy (m : Nat) (a1 : Int) (s : mS) : Option (Int × mS) := F_287 m [rv (some 249), iv a1] s
def Mi_288 : mM := (false, false, 10, 2, (0, 0), 0, rs_12, cd_288, [])
abbrev env_288 (m : Nat) : Nat → List mV → mS → Option (Int × mS) := fun j as s => (bsel (Nat.beq j 228) (F_228 m as s) (bsel (Nat.beq j 229) (F_229 m as s) (bsel (Nat.beq j 238) (F_238 m as s) none)))
def F_288 (m : Nat) (as : List mV) (s : mS) : Option (Int × mS) := runS TT Mi_288 scr0 (env_288 m) (m + 1) 0 (ent 0 as) [] s (0, 0)
def f_R_stay (m : Nat) (a1 : Int) (s : mS) : Option (Int × mS) := F_288 m [rv (some 249), iv a1] s
def Mi_280 : mM := (false, false, 10, 4, (0, 0), 1, rs_12, cd_280, [(30, [0, 1]), (78, [0, 1, 2, 3]), (108, [0, 1, 2, 3])])
abbrev env_280 (m : Nat) : Nat → List mV → mS → Option (Int × mS) := fun j as s => (bsel (Nat.beq j 178) (F_178 m as s) (bsel (Nat.beq j 195) (F_195 m as s) (bsel (Nat.beq j 217) (F_217 m as s) (bsel (Nat.beq j 229) (F_229 m as s) (bsel (Nat.beq j 281) (F_281 m as s) (bsel (Nat.beq j 287) (F_287 m as s) (bsel (Nat.beq j 288) (F_288 m as s) none)))))))
def F_280 (m : Nat) (as : List mV) (s : mS) : Option (Int × mS) := runS TT Mi_280 scr0 (env_280 m) (m + 1) 0 (ent 0 as) [] s (0, 0)
def l_R_book_L30 (m : Nat) (n : Nat) (x1 : Int) (s : mS) : Option (Int × mS) := runS TT Mi_280 scr0 (env_280 m) n 30 [(0, rv (some 249)), (1, iv x1)] [] s (0, 0)
def l_R_book_L78 (m : Nat) (n : Nat) (x1 : Int) (x2 : Int) (x3 : Int) (s : mS) : Option (Int × mS) := runS TT Mi_280 scr0 (env_280 m) n 78 [(0, rv (some 249)), (1, iv x1), (2, iv x2), (3, iv x3)] [] s (0, 0)
def l_R_book_L108 (m : Nat) (n : Nat) (x1 : Int) (x2 : Int) (x3 : Int) (s : mS) : Option (Int × mS) := runS TT Mi_280 scr0 (env_280 m) n 108 [(0, rv (some 249)), (1, iv x1), (2, iv x2), (3, iv x3)] [] s (0, 0)
def f_R_book (m : Nat) (a1 : Int) (s : mS) : Option (Int × mS) := F_280 m [rv (some 249), iv a1] s
def Mi_289 : mM := (false, false, 10, 2, (0, 0), 1, rs_12, cd_289, [])
abbrev env_289 (m : Nat) : Nat → List mV → mS → Option (Int × mS) := fun j as s => (bsel (Nat.beq j 195) (F_195 m as s) none)
def F_289 (m : Nat) (as : List mV) (s : mS) : Option (Int × mS) := runS TT Mi_289 scr0 (env_289 m) (m + 1) 0 (ent 0 as) [] s (0, 0)
def f_R_told (m : Nat) (a1 : Int) (s : mS) : Option (Int × mS) := F_289 m [rv (some 249), iv a1] s
def Mi_296 : mM := (false, false, 10, 6, (0, 0), 1, rs_12, cd_296, [])
abbrev env_296 (m : Nat) : Nat → List mV → mS → Option (Int × mS) := fun j as s => none
def F_296 (m : Nat) (as : List mV) (s : mS) : Option (Int × mS) := runS TT Mi_296 scr0 (env_296 m) (m + 1) 0 (ent 0 as) [] s (0, 0)
def f_R_saysOne (m : Nat) (a1 : Int) (a2 : Int) (a3 : Int) (a4 : Int) (s : mS) : Option (Int × mS) := F_296 m [rv (some 249), iv a1, iv a2, iv a3, iv a4] s
def Mi_298 : mM := (false, false, 10, 2, (0, 0), 4, rs_12, cd_298, [])
abbrev env_298 (m : Nat) : Nat → List mV → mS → Option (Int × mS) := fun j as s => (bsel (Nat.beq j 282) (F_282 m as s) (bsel (Nat.beq j 285) (F_285 m as s) none))
def F_298 (m : Nat) (as : List mV) (s : mS) : Option (Int × mS) := runS TT Mi_298 scr0 (env_298 m) (m + 1) 0 (ent 0 as) [] s (0, 0)
def f_R_readThat (m : Nat) (a1 : Int) (s : mS) : Option (Int × mS) := F_298 m [rv (some 249), iv a1] s
def Mi_297 : mM := (false, false, 10, 2, (0, 0), 4, rs_12, cd_297, [])
abbrev env_297 (m : Nat) : Nat → List mV → mS → Option (Int × mS) := fun j as s => (bsel (Nat.beq j 296) (F_296 m as s) (bsel (Nat.beq j 298) (F_298 m as s) none))
def F_297 (m : Nat) (as : List mV) (s : mS) : Option (Int × mS) := runS TT Mi_297 scr0 (env_297 m) (m + 1) 0 (ent 0 as) [] s (0, 0)
def f_R_readOf (m : Nat) (a1 : Int) (s : mS) : Option (Int × mS) := F_297 m [rv (some 249), iv a1] s
def Mi_299 : mM := (false, false, 10, 3, (0, 0), 4, rs_12, cd_299, [])
abbrev env_299 (m : Nat) : Nat → List mV → mS → Option (Int × mS) := fun j as s => (bsel (Nat.beq j 180) (F_180 m as s) (bsel (Nat.beq j 190) (F_190 m as s) (bsel (Nat.beq j 194) (F_194 m as s) (bsel (Nat.beq j 206) (F_206 m as s) (bsel (Nat.beq j 296) (F_296 m as s) none)))))
def F_299 (m : Nat) (as : List mV) (s : mS) : Option (Int × mS) := runS TT Mi_299 scr0 (env_299 m) (m + 1) 0 (ent 0 as) [] s (0, 0)
def f_R_readCompare (m : Nat) (a1 : Int) (s : mS) : Option (Int × mS) := F_299 m [rv (some 249), iv a1] s
def Mi_291 : mM := (false, false, 10, 2, (0, 0), 4, rs_12, cd_291, [(14, [0, 1])])
def Mi_292 : mM := (false, false, 10, 2, (0, 0), 4, rs_12, cd_292, [(14, [0, 1])])
def Mi_293 : mM := (false, false, 10, 4, (0, 0), 4, rs_12, cd_293, [(10, [0, 1, 2]), (46, [0, 1, 2])])
def Mi_294 : mM := (false, false, 10, 1, (0, 0), 4, rs_12, cd_294, [])
def Mi_295 : mM := (false, false, 10, 1, (0, 0), 4, rs_12, cd_295, [])
def Fg_291 (m : Nat) : Nat → Nat → List mV → mS → Option (Int × mS)
  | 0, _, _, _ => none
  | d + 1, j, as, s => bsel (Nat.beq j 291) (runS TT Mi_291 scr0 (fun j as s => (bsel (Nat.beq j 180) (F_180 m as s) (bsel (Nat.beq j 185) (F_185 m as s) (bsel (Nat.beq j 292) (Fg_291 m d 292 as s) (bsel (Nat.beq j 296) (F_296 m as s) none))))) (m + 1) 0 (ent 0 as) [] s (0, 0)) (bsel (Nat.beq j 292) (runS TT Mi_292 scr0 (fun j as s => (bsel (Nat.beq j 180) (F_180 m as s) (bsel (Nat.beq j 185) (F_185 m as s) (bsel (Nat.beq j 293) (Fg_291 m d 293 as s) (bsel (Nat.beq j 296) (F_296 m as s) none))))) (m + 1) 0 (ent 0 as) [] s (0, 0)) (bsel (Nat.beq j 293) (runS TT Mi_293 scr0 (fun j as s => (bsel (Nat.beq j 180) (F_180 m as s) (bsel (Nat.beq j 185) (F_185 m as s) (bsel (Nat.beq j 190) (F_190 m as s) (bsel (Nat.beq j 206) (F_206 m as s) (bsel (Nat.beq j 294) (Fg_291 m d 294 as s) (bsel (Nat.beq j 295) (Fg_291 m d 295 as s) (bsel (Nat.beq j 296) (F_296 m as s) (bsel (Nat.beq j 297) (F_297 m as s) (bsel (Nat.beq j 299) (F_299 m as s) none)))))))))) (m + 1) 0 (ent 0 as) [] s (0, 0)) (bsel (Nat.beq j 294) (runS TT Mi_294 scr0 (fun j as s => (bsel (Nat.beq j 180) (F_180 m as s) (bsel (Nat.beq j 190) (F_190 m as s) (bsel (Nat.beq j 206) (F_206 m as s) (bsel (Nat.beq j 291) (Fg_291 m d 291 as s) none))))) (m + 1) 0 (ent 0 as) [] s (0, 0)) (bsel (Nat.beq j 295) (runS TT Mi_295 scr0 (fun j as s => (bsel (Nat.beq j 293) (Fg_291 m d 293 as s) (bsel (Nat.beq j 296) (F_296 m as s) none))) (m + 1) 0 (ent 0 as) [] s (0, 0)) (none)))))
abbrev env_291 (m d : Nat) : Nat → List mV → mS → Option (Int × mS) := fun j as s => (bsel (Nat.beq j 180) (F_180 m as s) (bsel (Nat.beq j 185) (F_185 m as s) (bsel (Nat.beq j 292) (Fg_291 m d 292 as s) (bsel (Nat.beq j 296) (F_296 m as s) none))))
abbrev env_292 (m d : Nat) : Nat → List mV → mS → Option (Int × mS) := fun j as s => (bsel (Nat.beq j 180) (F_180 m as s) (bsel (Nat.beq j 185) (F_185 m as s) (bsel (Nat.beq j 293) (Fg_291 m d 293 as s) (bsel (Nat.beq j 296) (F_296 m as s) none))))
abbrev env_293 (m d : Nat) : Nat → List mV → mS → Option (Int × mS) := fun j as s => (bsel (Nat.beq j 180) (F_180 m as s) (bsel (Nat.beq j 185) (F_185 m as s) (bsel (Nat.beq j 190) (F_190 m as s) (bsel (Nat.beq j 206) (F_206 m as s) (bsel (Nat.beq j 294) (Fg_291 m d 294 as s) (bsel (Nat.beq j 295) (Fg_291 m d 295 as s) (bsel (Nat.beq j 296) (F_296 m as s) (bsel (Nat.beq j 297) (F_297 m as s) (bsel (Nat.beq j 299) (F_299 m as s) none)))))))))
abbrev env_294 (m d : Nat) : Nat → List mV → mS → Option (Int × mS) := fun j as s => (bsel (Nat.beq j 180) (F_180 m as s) (bsel (Nat.beq j 190) (F_190 m as s) (bsel (Nat.beq j 206) (F_206 m as s) (bsel (Nat.beq j 291) (Fg_291 m d 291 as s) none))))
abbrev env_295 (m d : Nat) : Nat → List mV → mS → Option (Int × mS) := fun j as s => (bsel (Nat.beq j 293) (Fg_291 m d 293 as s) (bsel (Nat.beq j 296) (F_296 m as s) none))
def l_R_readOr_L14 (m : Nat) (d : Nat) (n : Nat) (x1 : Int) (s : mS) : Option (Int × mS) := runS TT Mi_291 scr0 (env_291 m d) n 14 [(0, rv (some 249)), (1, iv x1)] [] s (0, 0)
def f_R_readOr (m : Nat) (d : Nat) (s : mS) : Option (Int × mS) := Fg_291 m d 291 [rv (some 249)] s
def l_R_readAnd_L14 (m : Nat) (d : Nat) (n : Nat) (x1 : Int) (s : mS) : Option (Int × mS) := runS TT Mi_292 scr0 (env_292 m d) n 14 [(0, rv (some 249)), (1, iv x1)] [] s (0, 0)
def f_R_readAnd (m : Nat) (d : Nat) (s : mS) : Option (Int × mS) := Fg_291 m d 292 [rv (some 249)] s
def l_R_readSaid_L10 (m : Nat) (d : Nat) (n : Nat) (x1 : Int) (x2 : Int) (s : mS) : Option (Int × mS) := runS TT Mi_293 scr0 (env_293 m d) n 10 [(0, rv (some 249)), (1, iv x1), (2, iv x2)] [] s (0, 0)
def l_R_readSaid_L46 (m : Nat) (d : Nat) (n : Nat) (x1 : Int) (x2 : Int) (s : mS) : Option (Int × mS) := runS TT Mi_293 scr0 (env_293 m d) n 46 [(0, rv (some 249)), (1, iv x1), (2, iv x2)] [] s (0, 0)
def f_R_readSaid (m : Nat) (d : Nat) (s : mS) : Option (Int × mS) := Fg_291 m d 293 [rv (some 249)] s
def f_R_readBracket (m : Nat) (d : Nat) (s : mS) : Option (Int × mS) := Fg_291 m d 294 [rv (some 249)] s
def f_R_readNot (m : Nat) (d : Nat) (s : mS) : Option (Int × mS) := Fg_291 m d 295 [rv (some 249)] s
def Mi_290 : mM := (false, false, 10, 2, (0, 0), 1, rs_12, cd_290, [(79, [0, 1])])
abbrev env_290 (m : Nat) : Nat → List mV → mS → Option (Int × mS) := fun j as s => (bsel (Nat.beq j 178) (F_178 m as s) (bsel (Nat.beq j 190) (F_190 m as s) (bsel (Nat.beq j 291) (Fg_291 m 64 291 as s) none)))
def F_290 (m : Nat) (as : List mV) (s : mS) : Option (Int × mS) := runS TT Mi_290 scr0 (env_290 m) (m + 1) 0 (ent 0 as) [] s (0, 0)
def l_R_sentence_L79 (m : Nat) (n : Nat) (x1 : Int) (s : mS) : Option (Int × mS) := runS TT Mi_290 scr0 (env_290 m) n 79 [(0, rv (some 249)), (1, iv x1)] [] s (0, 0)
def f_R_sentence (m : Nat) (s : mS) : Option (Int × mS) := F_290 m [rv (some 249)] s
def Mi_301 : mM := (false, false, 10, 8, (0, 0), 4, rs_12, cd_301, [(370, [0, 3, 5])])
def Fg_301 (m : Nat) : Nat → Nat → List mV → mS → Option (Int × mS)
  | 0, _, _, _ => none
  | d + 1, j, as, s => bsel (Nat.beq j 301) (runS TT Mi_301 scr0 (fun j as s => (bsel (Nat.beq j 201) (F_201 m as s) (bsel (Nat.beq j 301) (Fg_301 m d 301 as s) none))) (m + 1) 0 (ent 0 as) [] s (0, 0)) (none)
abbrev env_301 (m d : Nat) : Nat → List mV → mS → Option (Int × mS) := fun j as s => (bsel (Nat.beq j 201) (F_201 m as s) (bsel (Nat.beq j 301) (Fg_301 m d 301 as s) none))
def l_R_holds_L370 (m : Nat) (d : Nat) (n : Nat) (x3 : Int) (x5 : Int) (y0 : Int) (s : mS) : Option (Int × mS) := runS TT Mi_301 scr0 (env_301 m d) n 370 [(0, rv (some 249)), (3, iv x3), (5, iv x5)] [iv y0] s (0, 0)
def f_R_holds (m : Nat) (d : Nat) (a1 : Int) (a2 : Int) (s : mS) : Option (Int × mS) := Fg_301 m d 301 [rv (some 249), iv a1, iv a2] s
def Mi_300 : mM := (false, false, 10, 4, (0, 0), 1, rs_12, cd_300, [(22, [0, 1, 2, 3])])
abbrev env_300 (m : Nat) : Nat → List mV → mS → Option (Int × mS) := fun j as s => (bsel (Nat.beq j 301) (Fg_301 m 64 301 as s) none)
def F_300 (m : Nat) (as : List mV) (s : mS) : Option (Int × mS) := runS TT Mi_300 scr0 (env_300 m) (m + 1) 0 (ent 0 as) [] s (0, 0)
def l_R_said_L22 (m : Nat) (n : Nat) (x1 : Int) (x2 : Int) (x3 : Int) (s : mS) : Option (Int × mS) := runS TT Mi_300 scr0 (env_300 m) n 22 [(0, rv (some 249)), (1, iv x1), (2, iv x2), (3, iv x3)] [] s (0, 0)
def f_R_said (m : Nat) (a1 : Int) (s : mS) : Option (Int × mS) := F_300 m [rv (some 249), iv a1] s
def Mi_302 : mM := (false, false, 10, 3, (0, 0), 4, rs_12, cd_302, [(18, [0, 1, 2]), (51, [0, 1, 2])])
abbrev env_302 (m : Nat) : Nat → List mV → mS → Option (Int × mS) := fun j as s => (bsel (Nat.beq j 195) (F_195 m as s) none)
def F_302 (m : Nat) (as : List mV) (s : mS) : Option (Int × mS) := runS TT Mi_302 scr0 (env_302 m) (m + 1) 0 (ent 0 as) [] s (0, 0)
def l_R_image_L18 (m : Nat) (n : Nat) (x1 : Int) (x2 : Int) (s : mS) : Option (Int × mS) := runS TT Mi_302 scr0 (env_302 m) n 18 [(0, rv (some 249)), (1, iv x1), (2, iv x2)] [] s (0, 0)
def l_R_image_L51 (m : Nat) (n : Nat) (x1 : Int) (x2 : Int) (s : mS) : Option (Int × mS) := runS TT Mi_302 scr0 (env_302 m) n 51 [(0, rv (some 249)), (1, iv x1), (2, iv x2)] [] s (0, 0)
def f_R_image (m : Nat) (a1 : Int) (s : mS) : Option (Int × mS) := F_302 m [rv (some 249), iv a1] s
def Mi_303 : mM := (false, false, 10, 3, (0, 0), 4, rs_12, cd_303, [(27, [0, 1, 2]), (60, [0, 1, 2])])
abbrev env_303 (m : Nat) : Nat → List mV → mS → Option (Int × mS) := fun j as s => (bsel (Nat.beq j 195) (F_195 m as s) none)
def F_303 (m : Nat) (as : List mV) (s : mS) : Option (Int × mS) := runS TT Mi_303 scr0 (env_303 m) (m + 1) 0 (ent 0 as) [] s (0, 0)
def l_R_restore_L27 (m : Nat) (n : Nat) (x1 : Int) (x2 : Int) (s : mS) : Option (Int × mS) := runS TT Mi_303 scr0 (env_303 m) n 27 [(0, rv (some 249)), (1, iv x1), (2, iv x2)] [] s (0, 0)
def l_R_restore_L60 (m : Nat) (n : Nat) (x1 : Int) (x2 : Int) (s : mS) : Option (Int × mS) := runS TT Mi_303 scr0 (env_303 m) n 60 [(0, rv (some 249)), (1, iv x1), (2, iv x2)] [] s (0, 0)
def f_R_restore (m : Nat) (a1 : Int) (s : mS) : Option (Int × mS) := F_303 m [rv (some 249), iv a1] s
def Mi_304 : mM := (false, false, 10, 2, (0, 0), 1, rs_12, cd_304, [])
abbrev env_304 (m : Nat) : Nat → List mV → mS → Option (Int × mS) := fun j as s => none
def F_304 (m : Nat) (as : List mV) (s : mS) : Option (Int × mS) := runS TT Mi_304 scr0 (env_304 m) (m + 1) 0 (ent 0 as) [] s (0, 0)
def f_R_count (m : Nat) (a1 : Int) (s : mS) : Option (Int × mS) := F_304 m [rv (some 249), iv a1] s
