/-! ===== written by gen_fun.py: do not edit ===== -/
abbrev scr0 : Nat × (Nat → Int) := (0, fun _ => 0)
def Mi_15 : mM := (false, false, 1, 3, (0, 0), 0, rs_7, cd_15, [(3, [0, 1, 2])])
abbrev zenv_15 (Z : mZ) (m : Nat) : Nat → List mV → mS → Option (Int × mS) := fun j as s => none
def zF_15 (Z : mZ) (m : Nat) (as : List mV) (s : mS) : Option (Int × mS) := runS Z TT Mi_15 scr0 (zenv_15 Z m) (m + 1) 0 (ent 0 as) [] s (0, 0)
def zl_Tp_append_L3 (Z : mZ) (m : Nat) (n : Nat) (x1 : Int) (x2 : Int) (s : mS) : Option (Int × mS) := runS Z TT Mi_15 scr0 (zenv_15 Z m) n 3 [(0, rv (some 1)), (1, iv x1), (2, iv x2)] [] s (0, 0)
def zf_Tp_append (Z : mZ) (m : Nat) (a1 : Int) (s : mS) : Option (Int × mS) := zF_15 Z m [rv (some 1), iv a1] s
def Mi_14 : mM := (false, false, 0, 6, (0, 0), 1, rs_0, cd_14, [])
abbrev zenv_14 (Z : mZ) (m : Nat) : Nat → List mV → mS → Option (Int × mS) := fun j as s => (bsel (Nat.beq j 15) (zF_15 Z m as s) none)
def zF_14 (Z : mZ) (m : Nat) (as : List mV) (s : mS) : Option (Int × mS) := runS Z TT Mi_14 scr0 (zenv_14 Z m) (m + 1) 0 (ent 0 as) [] s (0, 0)
def zf_X_feed (Z : mZ) (m : Nat) (a1 : Int) (a2 : Int) (a3 : Int) (a4 : Int) (a5 : Int) (s : mS) : Option (Int × mS) := zF_14 Z m [rv (some 0), iv a1, iv a2, iv a3, iv a4, iv a5] s
def Mi_16 : mM := (false, false, 0, 2, (0, 0), 4, rs_0, cd_16, [])
abbrev zenv_16 (Z : mZ) (m : Nat) : Nat → List mV → mS → Option (Int × mS) := fun j as s => none
def zF_16 (Z : mZ) (m : Nat) (as : List mV) (s : mS) : Option (Int × mS) := runS Z TT Mi_16 scr0 (zenv_16 Z m) (m + 1) 0 (ent 0 as) [] s (0, 0)
def zf_X_end (Z : mZ) (m : Nat) (a1 : Int) (s : mS) : Option (Int × mS) := zF_16 Z m [rv (some 0), iv a1] s
def Mi_20 : mM := (false, false, 99, 2, (0, 0), 1, rs_0, cd_20, [])
abbrev zenv_20 (Z : mZ) (m : Nat) : Nat → List mV → mS → Option (Int × mS) := fun j as s => none
def zF_20 (Z : mZ) (m : Nat) (as : List mV) (s : mS) : Option (Int × mS) := runS Z TT Mi_20 scr0 (zenv_20 Z m) (m + 1) 0 (ent 0 as) [] s (0, 0)
def zf_Jm_min (Z : mZ) (m : Nat) (a0 : Int) (a1 : Int) (s : mS) : Option (Int × mS) := zF_20 Z m [iv a0, iv a1] s
def Mi_21 : mM := (false, false, 1, 2, (0, 0), 1, rs_7, cd_21, [])
abbrev zenv_21 (Z : mZ) (m : Nat) : Nat → List mV → mS → Option (Int × mS) := fun j as s => none
def zF_21 (Z : mZ) (m : Nat) (as : List mV) (s : mS) : Option (Int × mS) := runS Z TT Mi_21 scr0 (zenv_21 Z m) (m + 1) 0 (ent 0 as) [] s (0, 0)
def zf_Tp_signOf (Z : mZ) (m : Nat) (a0 : Int) (s : mS) : Option (Int × mS) := zF_21 Z m [iv a0] s
def Mi_22 : mM := (false, false, 99, 3, (0, 0), 3, rs_9, cd_22, [(2, [0, 2])])
abbrev zenv_22 (Z : mZ) (m : Nat) : Nat → List mV → mS → Option (Int × mS) := fun j as s => none
def zF_22 (Z : mZ) (m : Nat) (as : List mV) (s : mS) : Option (Int × mS) := runS Z TT Mi_22 scr0 (zenv_22 Z m) (m + 1) 0 (ent 0 as) [] s (0, 0)
def zl_Wo_of_L2 (Z : mZ) (m : Nat) (n : Nat) (x0 : Int) (x2 : Int) (s : mS) : Option (Int × mS) := runS Z TT Mi_22 scr0 (zenv_22 Z m) n 2 [(0, jv x0), (2, iv x2)] [] s (0, 0)
def zf_Wo_of (Z : mZ) (m : Nat) (a0 : Int) (s : mS) : Option (Int × mS) := zF_22 Z m [jv a0] s
def Mi_19 : mM := (false, false, 1, 5, (0, 0), 0, rs_7, cd_19, [(20, [0, 1]), (69, [0, 1]), (135, [0, 2, 3]), (192, [0, 2, 3, 4]), (239, [0, 2, 3])])
abbrev zenv_19 (Z : mZ) (m : Nat) : Nat → List mV → mS → Option (Int × mS) := fun j as s => (bsel (Nat.beq j 20) (zF_20 Z m as s) (bsel (Nat.beq j 21) (zF_21 Z m as s) (bsel (Nat.beq j 22) (zF_22 Z m as s) none)))
def zF_19 (Z : mZ) (m : Nat) (as : List mV) (s : mS) : Option (Int × mS) := runS Z TT Mi_19 scr0 (zenv_19 Z m) (m + 1) 0 (ent 0 as) [] s (0, 0)
def zl_Tp_advance_L20 (Z : mZ) (m : Nat) (n : Nat) (x1 : Int) (s : mS) : Option (Int × mS) := runS Z TT Mi_19 scr0 (zenv_19 Z m) n 20 [(0, rv (some 1)), (1, iv x1)] [] s (0, 0)
def zl_Tp_advance_L69 (Z : mZ) (m : Nat) (n : Nat) (x1 : Int) (s : mS) : Option (Int × mS) := runS Z TT Mi_19 scr0 (zenv_19 Z m) n 69 [(0, rv (some 1)), (1, iv x1)] [] s (0, 0)
def zl_Tp_advance_L135 (Z : mZ) (m : Nat) (n : Nat) (x2 : Int) (x3 : Int) (s : mS) : Option (Int × mS) := runS Z TT Mi_19 scr0 (zenv_19 Z m) n 135 [(0, rv (some 1)), (2, iv x2), (3, iv x3)] [] s (0, 0)
def zl_Tp_advance_L192 (Z : mZ) (m : Nat) (n : Nat) (x2 : Int) (x3 : Int) (x4 : Int) (s : mS) : Option (Int × mS) := runS Z TT Mi_19 scr0 (zenv_19 Z m) n 192 [(0, rv (some 1)), (2, iv x2), (3, iv x3), (4, iv x4)] [] s (0, 0)
def zl_Tp_advance_L239 (Z : mZ) (m : Nat) (n : Nat) (x2 : Int) (x3 : Int) (s : mS) : Option (Int × mS) := runS Z TT Mi_19 scr0 (zenv_19 Z m) n 239 [(0, rv (some 1)), (2, iv x2), (3, iv x3)] [] s (0, 0)
def zf_Tp_advance (Z : mZ) (m : Nat) (s : mS) : Option (Int × mS) := zF_19 Z m [rv (some 1)] s
def Mi_18 : mM := (false, false, 1, 2, (0, 0), 0, rs_7, cd_18, [])
abbrev zenv_18 (Z : mZ) (m : Nat) : Nat → List mV → mS → Option (Int × mS) := fun j as s => (bsel (Nat.beq j 19) (zF_19 Z m as s) none)
def zF_18 (Z : mZ) (m : Nat) (as : List mV) (s : mS) : Option (Int × mS) := runS Z TT Mi_18 scr0 (zenv_18 Z m) (m + 1) 0 (ent 0 as) [] s (0, 0)
def zf_Tp_open (Z : mZ) (m : Nat) (a1 : Int) (s : mS) : Option (Int × mS) := zF_18 Z m [rv (some 1), iv a1] s
def Mi_8 : mM := (false, false, 99, 4, (0, 0), 0, rs_0, cd_8, [(5, [0, 1, 2, 3])])
abbrev zenv_8 (Z : mZ) (m : Nat) : Nat → List mV → mS → Option (Int × mS) := fun j as s => none
def zF_8 (Z : mZ) (m : Nat) (as : List mV) (s : mS) : Option (Int × mS) := runS Z TT Mi_8 scr0 (zenv_8 Z m) (m + 1) 0 (ent 0 as) [] s (0, 0)
def zl_Ja_fill_228_L5 (Z : mZ) (m : Nat) (n : Nat) (x1 : Int) (x2 : Int) (x3 : Int) (s : mS) : Option (Int × mS) := runS Z TT Mi_8 scr0 (zenv_8 Z m) n 5 [(0, rv (some 228)), (1, iv x1), (2, iv x2), (3, iv x3)] [] s (0, 0)
def zf_Ja_fill_228 (Z : mZ) (m : Nat) (a1 : Int) (s : mS) : Option (Int × mS) := zF_8 Z m [rv (some 228), iv a1] s
def zl_Ja_fill_229_L5 (Z : mZ) (m : Nat) (n : Nat) (x1 : Int) (x2 : Int) (x3 : Int) (s : mS) : Option (Int × mS) := runS Z TT Mi_8 scr0 (zenv_8 Z m) n 5 [(0, rv (some 229)), (1, iv x1), (2, iv x2), (3, iv x3)] [] s (0, 0)
def zf_Ja_fill_229 (Z : mZ) (m : Nat) (a1 : Int) (s : mS) : Option (Int × mS) := zF_8 Z m [rv (some 229), iv a1] s
def zl_Ja_fill_18_L5 (Z : mZ) (m : Nat) (n : Nat) (x1 : Int) (x2 : Int) (x3 : Int) (s : mS) : Option (Int × mS) := runS Z TT Mi_8 scr0 (zenv_8 Z m) n 5 [(0, rv (some 18)), (1, iv x1), (2, iv x2), (3, iv x3)] [] s (0, 0)
def zf_Ja_fill_18 (Z : mZ) (m : Nat) (a1 : Int) (s : mS) : Option (Int × mS) := zF_8 Z m [rv (some 18), iv a1] s
def zl_Ja_fill_19_L5 (Z : mZ) (m : Nat) (n : Nat) (x1 : Int) (x2 : Int) (x3 : Int) (s : mS) : Option (Int × mS) := runS Z TT Mi_8 scr0 (zenv_8 Z m) n 5 [(0, rv (some 19)), (1, iv x1), (2, iv x2), (3, iv x3)] [] s (0, 0)
def zf_Ja_fill_19 (Z : mZ) (m : Nat) (a1 : Int) (s : mS) : Option (Int × mS) := zF_8 Z m [rv (some 19), iv a1] s
def zl_Ja_fill_20_L5 (Z : mZ) (m : Nat) (n : Nat) (x1 : Int) (x2 : Int) (x3 : Int) (s : mS) : Option (Int × mS) := runS Z TT Mi_8 scr0 (zenv_8 Z m) n 5 [(0, rv (some 20)), (1, iv x1), (2, iv x2), (3, iv x3)] [] s (0, 0)
def zf_Ja_fill_20 (Z : mZ) (m : Nat) (a1 : Int) (s : mS) : Option (Int × mS) := zF_8 Z m [rv (some 20), iv a1] s
def zl_Ja_fill_21_L5 (Z : mZ) (m : Nat) (n : Nat) (x1 : Int) (x2 : Int) (x3 : Int) (s : mS) : Option (Int × mS) := runS Z TT Mi_8 scr0 (zenv_8 Z m) n 5 [(0, rv (some 21)), (1, iv x1), (2, iv x2), (3, iv x3)] [] s (0, 0)
def zf_Ja_fill_21 (Z : mZ) (m : Nat) (a1 : Int) (s : mS) : Option (Int × mS) := zF_8 Z m [rv (some 21), iv a1] s
def zl_Ja_fill_22_L5 (Z : mZ) (m : Nat) (n : Nat) (x1 : Int) (x2 : Int) (x3 : Int) (s : mS) : Option (Int × mS) := runS Z TT Mi_8 scr0 (zenv_8 Z m) n 5 [(0, rv (some 22)), (1, iv x1), (2, iv x2), (3, iv x3)] [] s (0, 0)
def zf_Ja_fill_22 (Z : mZ) (m : Nat) (a1 : Int) (s : mS) : Option (Int × mS) := zF_8 Z m [rv (some 22), iv a1] s
def zl_Ja_fill_23_L5 (Z : mZ) (m : Nat) (n : Nat) (x1 : Int) (x2 : Int) (x3 : Int) (s : mS) : Option (Int × mS) := runS Z TT Mi_8 scr0 (zenv_8 Z m) n 5 [(0, rv (some 23)), (1, iv x1), (2, iv x2), (3, iv x3)] [] s (0, 0)
def zf_Ja_fill_23 (Z : mZ) (m : Nat) (a1 : Int) (s : mS) : Option (Int × mS) := zF_8 Z m [rv (some 23), iv a1] s
def zl_Ja_fill_24_L5 (Z : mZ) (m : Nat) (n : Nat) (x1 : Int) (x2 : Int) (x3 : Int) (s : mS) : Option (Int × mS) := runS Z TT Mi_8 scr0 (zenv_8 Z m) n 5 [(0, rv (some 24)), (1, iv x1), (2, iv x2), (3, iv x3)] [] s (0, 0)
def zf_Ja_fill_24 (Z : mZ) (m : Nat) (a1 : Int) (s : mS) : Option (Int × mS) := zF_8 Z m [rv (some 24), iv a1] s
def zl_Ja_fill_25_L5 (Z : mZ) (m : Nat) (n : Nat) (x1 : Int) (x2 : Int) (x3 : Int) (s : mS) : Option (Int × mS) := runS Z TT Mi_8 scr0 (zenv_8 Z m) n 5 [(0, rv (some 25)), (1, iv x1), (2, iv x2), (3, iv x3)] [] s (0, 0)
def zf_Ja_fill_25 (Z : mZ) (m : Nat) (a1 : Int) (s : mS) : Option (Int × mS) := zF_8 Z m [rv (some 25), iv a1] s
def zl_Ja_fill_26_L5 (Z : mZ) (m : Nat) (n : Nat) (x1 : Int) (x2 : Int) (x3 : Int) (s : mS) : Option (Int × mS) := runS Z TT Mi_8 scr0 (zenv_8 Z m) n 5 [(0, rv (some 26)), (1, iv x1), (2, iv x2), (3, iv x3)] [] s (0, 0)
def zf_Ja_fill_26 (Z : mZ) (m : Nat) (a1 : Int) (s : mS) : Option (Int × mS) := zF_8 Z m [rv (some 26), iv a1] s
def zl_Ja_fill_27_L5 (Z : mZ) (m : Nat) (n : Nat) (x1 : Int) (x2 : Int) (x3 : Int) (s : mS) : Option (Int × mS) := runS Z TT Mi_8 scr0 (zenv_8 Z m) n 5 [(0, rv (some 27)), (1, iv x1), (2, iv x2), (3, iv x3)] [] s (0, 0)
def zf_Ja_fill_27 (Z : mZ) (m : Nat) (a1 : Int) (s : mS) : Option (Int × mS) := zF_8 Z m [rv (some 27), iv a1] s
def zl_Ja_fill_28_L5 (Z : mZ) (m : Nat) (n : Nat) (x1 : Int) (x2 : Int) (x3 : Int) (s : mS) : Option (Int × mS) := runS Z TT Mi_8 scr0 (zenv_8 Z m) n 5 [(0, rv (some 28)), (1, iv x1), (2, iv x2), (3, iv x3)] [] s (0, 0)
def zf_Ja_fill_28 (Z : mZ) (m : Nat) (a1 : Int) (s : mS) : Option (Int × mS) := zF_8 Z m [rv (some 28), iv a1] s
def zl_Ja_fill_29_L5 (Z : mZ) (m : Nat) (n : Nat) (x1 : Int) (x2 : Int) (x3 : Int) (s : mS) : Option (Int × mS) := runS Z TT Mi_8 scr0 (zenv_8 Z m) n 5 [(0, rv (some 29)), (1, iv x1), (2, iv x2), (3, iv x3)] [] s (0, 0)
def zf_Ja_fill_29 (Z : mZ) (m : Nat) (a1 : Int) (s : mS) : Option (Int × mS) := zF_8 Z m [rv (some 29), iv a1] s
def zl_Ja_fill_244_L5 (Z : mZ) (m : Nat) (n : Nat) (x1 : Int) (x2 : Int) (x3 : Int) (s : mS) : Option (Int × mS) := runS Z TT Mi_8 scr0 (zenv_8 Z m) n 5 [(0, rv (some 244)), (1, iv x1), (2, iv x2), (3, iv x3)] [] s (0, 0)
def zf_Ja_fill_244 (Z : mZ) (m : Nat) (a1 : Int) (s : mS) : Option (Int × mS) := zF_8 Z m [rv (some 244), iv a1] s
def Mi_25 : mM := (false, false, 1, 2, (0, 0), 4, rs_7, cd_25, [])
abbrev zenv_25 (Z : mZ) (m : Nat) : Nat → List mV → mS → Option (Int × mS) := fun j as s => none
def zF_25 (Z : mZ) (m : Nat) (as : List mV) (s : mS) : Option (Int × mS) := runS Z TT Mi_25 scr0 (zenv_25 Z m) (m + 1) 0 (ent 0 as) [] s (0, 0)
def zf_Tp_fail (Z : mZ) (m : Nat) (a1 : Int) (s : mS) : Option (Int × mS) := zF_25 Z m [rv (some 1), iv a1] s
def Mi_26 : mM := (false, false, 99, 1, (0, 0), 1, rs_13, cd_26, [])
abbrev zenv_26 (Z : mZ) (m : Nat) : Nat → List mV → mS → Option (Int × mS) := fun j as s => none
def zF_26 (Z : mZ) (m : Nat) (as : List mV) (s : mS) : Option (Int × mS) := runS Z TT Mi_26 scr0 (zenv_26 Z m) (m + 1) 0 (ent 0 as) [] s (0, 0)
def zf_Je_ordinal (Z : mZ) (m : Nat) (t0 : Nat) (s : mS) : Option (Int × mS) := zF_26 Z m [rv (some t0)] s
def Mi_30 : mM := (false, false, 1, 4, (0, 0), 1, rs_7, cd_30, [])
abbrev zenv_30 (Z : mZ) (m : Nat) : Nat → List mV → mS → Option (Int × mS) := fun j as s => (bsel (Nat.beq j 19) (zF_19 Z m as s) (bsel (Nat.beq j 25) (zF_25 Z m as s) none))
def zF_30 (Z : mZ) (m : Nat) (as : List mV) (s : mS) : Option (Int × mS) := runS Z TT Mi_30 scr0 (zenv_30 Z m) (m + 1) 0 (ent 0 as) [] s (0, 0)
def zf_Tp_takeNumber (Z : mZ) (m : Nat) (a1 : Int) (a2 : Int) (s : mS) : Option (Int × mS) := zF_30 Z m [rv (some 1), iv a1, iv a2] s
def Mi_41 : mM := (false, false, 3, 2, (0, 0), 4, rs_8, cd_41, [])
abbrev zenv_41 (Z : mZ) (m : Nat) : Nat → List mV → mS → Option (Int × mS) := fun j as s => (bsel (Nat.beq j 19) (zF_19 Z m as s) (bsel (Nat.beq j 30) (zF_30 Z m as s) none))
def zF_41 (Z : mZ) (m : Nat) (as : List mV) (s : mS) : Option (Int × mS) := runS Z TT Mi_41 scr0 (zenv_41 Z m) (m + 1) 0 (ent 0 as) [] s (0, 0)
def zf_Vs_readAir (Z : mZ) (m : Nat) (s : mS) : Option (Int × mS) := zF_41 Z m [rv (some 219), rv (some 1)] s
def Mi_40 : mM := (false, false, 3, 2, (0, 0), 4, rs_8, cd_40, [])
abbrev zenv_40 (Z : mZ) (m : Nat) : Nat → List mV → mS → Option (Int × mS) := fun j as s => (bsel (Nat.beq j 19) (zF_19 Z m as s) (bsel (Nat.beq j 30) (zF_30 Z m as s) none))
def zF_40 (Z : mZ) (m : Nat) (as : List mV) (s : mS) : Option (Int × mS) := runS Z TT Mi_40 scr0 (zenv_40 Z m) (m + 1) 0 (ent 0 as) [] s (0, 0)
def zf_Vs_readFrost (Z : mZ) (m : Nat) (s : mS) : Option (Int × mS) := zF_40 Z m [rv (some 219), rv (some 1)] s
def Mi_29 : mM := (false, false, 3, 5, (0, 0), 1, rs_8, cd_29, [(3, [0, 2, 3, 4])])
abbrev zenv_29 (Z : mZ) (m : Nat) : Nat → List mV → mS → Option (Int × mS) := fun j as s => none
def zF_29 (Z : mZ) (m : Nat) (as : List mV) (s : mS) : Option (Int × mS) := runS Z TT Mi_29 scr0 (zenv_29 Z m) (m + 1) 0 (ent 0 as) [] s (0, 0)
def zl_Vs_placeOf_225_L3 (Z : mZ) (m : Nat) (n : Nat) (x0 : Int) (x3 : Int) (x4 : Int) (s : mS) : Option (Int × mS) := runS Z TT Mi_29 scr0 (zenv_29 Z m) n 3 [(0, jv x0), (2, rv (some 225)), (3, iv x3), (4, iv x4)] [] s (0, 0)
def zf_Vs_placeOf_225 (Z : mZ) (m : Nat) (a0 : Int) (a2 : Int) (s : mS) : Option (Int × mS) := zF_29 Z m [jv a0, rv (some 225), iv a2] s
def zl_Vs_placeOf_220_L3 (Z : mZ) (m : Nat) (n : Nat) (x0 : Int) (x3 : Int) (x4 : Int) (s : mS) : Option (Int × mS) := runS Z TT Mi_29 scr0 (zenv_29 Z m) n 3 [(0, jv x0), (2, rv (some 220)), (3, iv x3), (4, iv x4)] [] s (0, 0)
def zf_Vs_placeOf_220 (Z : mZ) (m : Nat) (a0 : Int) (a2 : Int) (s : mS) : Option (Int × mS) := zF_29 Z m [jv a0, rv (some 220), iv a2] s
def zl_Vs_placeOf_223_L3 (Z : mZ) (m : Nat) (n : Nat) (x0 : Int) (x3 : Int) (x4 : Int) (s : mS) : Option (Int × mS) := runS Z TT Mi_29 scr0 (zenv_29 Z m) n 3 [(0, jv x0), (2, rv (some 223)), (3, iv x3), (4, iv x4)] [] s (0, 0)
def zf_Vs_placeOf_223 (Z : mZ) (m : Nat) (a0 : Int) (a2 : Int) (s : mS) : Option (Int × mS) := zF_29 Z m [jv a0, rv (some 223), iv a2] s
def zl_Vs_placeOf_5_L3 (Z : mZ) (m : Nat) (n : Nat) (x0 : Int) (x3 : Int) (x4 : Int) (s : mS) : Option (Int × mS) := runS Z TT Mi_29 scr0 (zenv_29 Z m) n 3 [(0, jv x0), (2, rv (some 5)), (3, iv x3), (4, iv x4)] [] s (0, 0)
def zf_Vs_placeOf_5 (Z : mZ) (m : Nat) (a0 : Int) (a2 : Int) (s : mS) : Option (Int × mS) := zF_29 Z m [jv a0, rv (some 5), iv a2] s
def zl_Vs_placeOf_10_L3 (Z : mZ) (m : Nat) (n : Nat) (x0 : Int) (x3 : Int) (x4 : Int) (s : mS) : Option (Int × mS) := runS Z TT Mi_29 scr0 (zenv_29 Z m) n 3 [(0, jv x0), (2, rv (some 10)), (3, iv x3), (4, iv x4)] [] s (0, 0)
def zf_Vs_placeOf_10 (Z : mZ) (m : Nat) (a0 : Int) (a2 : Int) (s : mS) : Option (Int × mS) := zF_29 Z m [jv a0, rv (some 10), iv a2] s
def zl_Vs_placeOf_8_L3 (Z : mZ) (m : Nat) (n : Nat) (x0 : Int) (x3 : Int) (x4 : Int) (s : mS) : Option (Int × mS) := runS Z TT Mi_29 scr0 (zenv_29 Z m) n 3 [(0, jv x0), (2, rv (some 8)), (3, iv x3), (4, iv x4)] [] s (0, 0)
def zf_Vs_placeOf_8 (Z : mZ) (m : Nat) (a0 : Int) (a2 : Int) (s : mS) : Option (Int × mS) := zF_29 Z m [jv a0, rv (some 8), iv a2] s
def Mi_35 : mM := (false, false, 3, 4, (0, 0), 1, rs_8, cd_35, [])
abbrev zenv_35 (Z : mZ) (m : Nat) : Nat → List mV → mS → Option (Int × mS) := fun j as s => (bsel (Nat.beq j 25) (zF_25 Z m as s) (bsel (Nat.beq j 29) (zF_29 Z m as s) none))
def zF_35 (Z : mZ) (m : Nat) (as : List mV) (s : mS) : Option (Int × mS) := runS Z TT Mi_35 scr0 (zenv_35 Z m) (m + 1) 0 (ent 0 as) [] s (0, 0)
def zf_Vs_see_1_225 (Z : mZ) (m : Nat) (a2 : Int) (s : mS) : Option (Int × mS) := zF_35 Z m [rv (some 1), rv (some 225), iv a2] s
def zf_Vs_see_1_220 (Z : mZ) (m : Nat) (a2 : Int) (s : mS) : Option (Int × mS) := zF_35 Z m [rv (some 1), rv (some 220), iv a2] s
def zf_Vs_see_1_5 (Z : mZ) (m : Nat) (a2 : Int) (s : mS) : Option (Int × mS) := zF_35 Z m [rv (some 1), rv (some 5), iv a2] s
def zf_Vs_see_1_10 (Z : mZ) (m : Nat) (a2 : Int) (s : mS) : Option (Int × mS) := zF_35 Z m [rv (some 1), rv (some 10), iv a2] s
def zf_Vs_see_1_8 (Z : mZ) (m : Nat) (a2 : Int) (s : mS) : Option (Int × mS) := zF_35 Z m [rv (some 1), rv (some 8), iv a2] s
def Mi_36 : mM := (false, false, 3, 2, (0, 0), 1, rs_8, cd_36, [])
abbrev zenv_36 (Z : mZ) (m : Nat) : Nat → List mV → mS → Option (Int × mS) := fun j as s => (bsel (Nat.beq j 35) (zF_35 Z m as s) none)
def zF_36 (Z : mZ) (m : Nat) (as : List mV) (s : mS) : Option (Int × mS) := runS Z TT Mi_36 scr0 (zenv_36 Z m) (m + 1) 0 (ent 0 as) [] s (0, 0)
def zf_Vs_seeDead_219_1 (Z : mZ) (m : Nat) (s : mS) : Option (Int × mS) := zF_36 Z m [rv (some 219), rv (some 1)] s
def zf_Vs_seeDead_4_1 (Z : mZ) (m : Nat) (s : mS) : Option (Int × mS) := zF_36 Z m [rv (some 4), rv (some 1)] s
def Mi_39 : mM := (false, false, 3, 3, (0, 0), 1, rs_8, cd_39, [])
abbrev zenv_39 (Z : mZ) (m : Nat) : Nat → List mV → mS → Option (Int × mS) := fun j as s => (bsel (Nat.beq j 19) (zF_19 Z m as s) (bsel (Nat.beq j 35) (zF_35 Z m as s) none))
def zF_39 (Z : mZ) (m : Nat) (as : List mV) (s : mS) : Option (Int × mS) := runS Z TT Mi_39 scr0 (zenv_39 Z m) (m + 1) 0 (ent 0 as) [] s (0, 0)
def zf_Vs_takeBox_219_1 (Z : mZ) (m : Nat) (s : mS) : Option (Int × mS) := zF_39 Z m [rv (some 219), rv (some 1)] s
def zf_Vs_takeBox_4_1 (Z : mZ) (m : Nat) (s : mS) : Option (Int × mS) := zF_39 Z m [rv (some 4), rv (some 1)] s
def Mi_38 : mM := (false, false, 3, 3, (0, 0), 4, rs_8, cd_38, [])
abbrev zenv_38 (Z : mZ) (m : Nat) : Nat → List mV → mS → Option (Int × mS) := fun j as s => (bsel (Nat.beq j 19) (zF_19 Z m as s) (bsel (Nat.beq j 25) (zF_25 Z m as s) (bsel (Nat.beq j 36) (zF_36 Z m as s) (bsel (Nat.beq j 39) (zF_39 Z m as s) none))))
def zF_38 (Z : mZ) (m : Nat) (as : List mV) (s : mS) : Option (Int × mS) := runS Z TT Mi_38 scr0 (zenv_38 Z m) (m + 1) 0 (ent 0 as) [] s (0, 0)
def zf_Vs_readAsks (Z : mZ) (m : Nat) (s : mS) : Option (Int × mS) := zF_38 Z m [rv (some 219), rv (some 1)] s
def Mi_34 : mM := (false, false, 3, 3, (0, 0), 1, rs_8, cd_34, [])
abbrev zenv_34 (Z : mZ) (m : Nat) : Nat → List mV → mS → Option (Int × mS) := fun j as s => (bsel (Nat.beq j 19) (zF_19 Z m as s) (bsel (Nat.beq j 35) (zF_35 Z m as s) none))
def zF_34 (Z : mZ) (m : Nat) (as : List mV) (s : mS) : Option (Int × mS) := runS Z TT Mi_34 scr0 (zenv_34 Z m) (m + 1) 0 (ent 0 as) [] s (0, 0)
def zf_Vs_takeDead_219_1 (Z : mZ) (m : Nat) (s : mS) : Option (Int × mS) := zF_34 Z m [rv (some 219), rv (some 1)] s
def zf_Vs_takeDead_4_1 (Z : mZ) (m : Nat) (s : mS) : Option (Int × mS) := zF_34 Z m [rv (some 4), rv (some 1)] s
def Mi_37 : mM := (false, false, 3, 3, (0, 0), 4, rs_8, cd_37, [])
abbrev zenv_37 (Z : mZ) (m : Nat) : Nat → List mV → mS → Option (Int × mS) := fun j as s => none
def zF_37 (Z : mZ) (m : Nat) (as : List mV) (s : mS) : Option (Int × mS) := runS Z TT Mi_37 scr0 (zenv_37 Z m) (m + 1) 0 (ent 0 as) [] s (0, 0)
def zf_Vs_areKin_219 (Z : mZ) (m : Nat) (a1 : Int) (a2 : Int) (s : mS) : Option (Int × mS) := zF_37 Z m [rv (some 219), iv a1, iv a2] s
def zf_Vs_areKin_4 (Z : mZ) (m : Nat) (a1 : Int) (a2 : Int) (s : mS) : Option (Int × mS) := zF_37 Z m [rv (some 4), iv a1, iv a2] s
def Mi_33 : mM := (false, false, 3, 4, (0, 0), 4, rs_8, cd_33, [])
abbrev zenv_33 (Z : mZ) (m : Nat) : Nat → List mV → mS → Option (Int × mS) := fun j as s => (bsel (Nat.beq j 19) (zF_19 Z m as s) (bsel (Nat.beq j 25) (zF_25 Z m as s) (bsel (Nat.beq j 34) (zF_34 Z m as s) (bsel (Nat.beq j 36) (zF_36 Z m as s) (bsel (Nat.beq j 37) (zF_37 Z m as s) none)))))
def zF_33 (Z : mZ) (m : Nat) (as : List mV) (s : mS) : Option (Int × mS) := runS Z TT Mi_33 scr0 (zenv_33 Z m) (m + 1) 0 (ent 0 as) [] s (0, 0)
def zf_Vs_readKin (Z : mZ) (m : Nat) (s : mS) : Option (Int × mS) := zF_33 Z m [rv (some 219), rv (some 1)] s
def Mi_28 : mM := (false, false, 3, 2, (0, 0), 4, rs_8, cd_28, [])
abbrev zenv_28 (Z : mZ) (m : Nat) : Nat → List mV → mS → Option (Int × mS) := fun j as s => (bsel (Nat.beq j 19) (zF_19 Z m as s) (bsel (Nat.beq j 25) (zF_25 Z m as s) (bsel (Nat.beq j 29) (zF_29 Z m as s) none)))
def zF_28 (Z : mZ) (m : Nat) (as : List mV) (s : mS) : Option (Int × mS) := runS Z TT Mi_28 scr0 (zenv_28 Z m) (m + 1) 0 (ent 0 as) [] s (0, 0)
def zf_Vs_takeNewName (Z : mZ) (m : Nat) (s : mS) : Option (Int × mS) := zF_28 Z m [rv (some 219), rv (some 1)] s
def Mi_32 : mM := (false, false, 3, 2, (0, 0), 4, rs_8, cd_32, [])
abbrev zenv_32 (Z : mZ) (m : Nat) : Nat → List mV → mS → Option (Int × mS) := fun j as s => (bsel (Nat.beq j 19) (zF_19 Z m as s) (bsel (Nat.beq j 28) (zF_28 Z m as s) (bsel (Nat.beq j 30) (zF_30 Z m as s) none)))
def zF_32 (Z : mZ) (m : Nat) (as : List mV) (s : mS) : Option (Int × mS) := runS Z TT Mi_32 scr0 (zenv_32 Z m) (m + 1) 0 (ent 0 as) [] s (0, 0)
def zf_Vs_readOne (Z : mZ) (m : Nat) (s : mS) : Option (Int × mS) := zF_32 Z m [rv (some 219), rv (some 1)] s
def Mi_31 : mM := (false, false, 3, 2, (0, 0), 4, rs_8, cd_31, [])
abbrev zenv_31 (Z : mZ) (m : Nat) : Nat → List mV → mS → Option (Int × mS) := fun j as s => (bsel (Nat.beq j 19) (zF_19 Z m as s) (bsel (Nat.beq j 28) (zF_28 Z m as s) (bsel (Nat.beq j 30) (zF_30 Z m as s) none)))
def zF_31 (Z : mZ) (m : Nat) (as : List mV) (s : mS) : Option (Int × mS) := runS Z TT Mi_31 scr0 (zenv_31 Z m) (m + 1) 0 (ent 0 as) [] s (0, 0)
def zf_Vs_readPlot (Z : mZ) (m : Nat) (s : mS) : Option (Int × mS) := zF_31 Z m [rv (some 219), rv (some 1)] s
def Mi_27 : mM := (false, false, 3, 2, (0, 0), 4, rs_8, cd_27, [])
abbrev zenv_27 (Z : mZ) (m : Nat) : Nat → List mV → mS → Option (Int × mS) := fun j as s => (bsel (Nat.beq j 19) (zF_19 Z m as s) (bsel (Nat.beq j 28) (zF_28 Z m as s) (bsel (Nat.beq j 30) (zF_30 Z m as s) none)))
def zF_27 (Z : mZ) (m : Nat) (as : List mV) (s : mS) : Option (Int × mS) := runS Z TT Mi_27 scr0 (zenv_27 Z m) (m + 1) 0 (ent 0 as) [] s (0, 0)
def zf_Vs_readBox (Z : mZ) (m : Nat) (s : mS) : Option (Int × mS) := zF_27 Z m [rv (some 219), rv (some 1)] s
def Mi_24 : mM := (false, false, 3, 3, (0, 0), 4, rs_8, cd_24, [])
abbrev zenv_24 (Z : mZ) (m : Nat) : Nat → List mV → mS → Option (Int × mS) := fun j as s => (bsel (Nat.beq j 25) (zF_25 Z m as s) (bsel (Nat.beq j 26) (zF_26 Z m as s) (bsel (Nat.beq j 27) (zF_27 Z m as s) (bsel (Nat.beq j 31) (zF_31 Z m as s) (bsel (Nat.beq j 32) (zF_32 Z m as s) (bsel (Nat.beq j 33) (zF_33 Z m as s) (bsel (Nat.beq j 38) (zF_38 Z m as s) (bsel (Nat.beq j 40) (zF_40 Z m as s) (bsel (Nat.beq j 41) (zF_41 Z m as s) none)))))))))
def zF_24 (Z : mZ) (m : Nat) (as : List mV) (s : mS) : Option (Int × mS) := runS Z TT Mi_24 scr0 (zenv_24 Z m) (m + 1) 0 (ent 0 as) [] s (0, 0)
def zf_Vs_readLine (Z : mZ) (m : Nat) (s : mS) : Option (Int × mS) := zF_24 Z m [rv (some 219), rv (some 1)] s
def Mi_42 : mM := (false, false, 1, 2, (0, 0), 4, rs_7, cd_42, [])
abbrev zenv_42 (Z : mZ) (m : Nat) : Nat → List mV → mS → Option (Int × mS) := fun j as s => (bsel (Nat.beq j 19) (zF_19 Z m as s) (bsel (Nat.beq j 25) (zF_25 Z m as s) none))
def zF_42 (Z : mZ) (m : Nat) (as : List mV) (s : mS) : Option (Int × mS) := runS Z TT Mi_42 scr0 (zenv_42 Z m) (m + 1) 0 (ent 0 as) [] s (0, 0)
def zf_Tp_takeSign (Z : mZ) (m : Nat) (a1 : Int) (s : mS) : Option (Int × mS) := zF_42 Z m [rv (some 1), iv a1] s
def Mi_23 : mM := (false, false, 3, 3, (0, 0), 1, rs_8, cd_23, [(53, [0, 1, 2])])
abbrev zenv_23 (Z : mZ) (m : Nat) : Nat → List mV → mS → Option (Int × mS) := fun j as s => (bsel (Nat.beq j 8) (zF_8 Z m as s) (bsel (Nat.beq j 24) (zF_24 Z m as s) (bsel (Nat.beq j 42) (zF_42 Z m as s) none)))
def zF_23 (Z : mZ) (m : Nat) (as : List mV) (s : mS) : Option (Int × mS) := runS Z TT Mi_23 scr0 (zenv_23 Z m) (m + 1) 0 (ent 0 as) [] s (0, 0)
def zl_Vs_readFrom_L53 (Z : mZ) (m : Nat) (n : Nat) (x2 : Int) (s : mS) : Option (Int × mS) := runS Z TT Mi_23 scr0 (zenv_23 Z m) n 53 [(0, rv (some 219)), (1, rv (some 1)), (2, iv x2)] [] s (0, 0)
def zf_Vs_readFrom (Z : mZ) (m : Nat) (s : mS) : Option (Int × mS) := zF_23 Z m [rv (some 219), rv (some 1)] s
def Mi_43 : mM := (false, false, 3, 2, (0, 0), 0, rs_8, cd_43, [])
abbrev zenv_43 (Z : mZ) (m : Nat) : Nat → List mV → mS → Option (Int × mS) := fun j as s => none
def zF_43 (Z : mZ) (m : Nat) (as : List mV) (s : mS) : Option (Int × mS) := runS Z TT Mi_43 scr0 (zenv_43 Z m) (m + 1) 0 (ent 0 as) [] s (0, 0)
def zf_Vs_copyOf_4_219 (Z : mZ) (m : Nat) (s : mS) : Option (Int × mS) := zF_43 Z m [rv (some 4), rv (some 219)] s
def zf_Vs_copyOf_37_4 (Z : mZ) (m : Nat) (s : mS) : Option (Int × mS) := zF_43 Z m [rv (some 37), rv (some 4)] s
def zf_Vs_copyOf_69_4 (Z : mZ) (m : Nat) (s : mS) : Option (Int × mS) := zF_43 Z m [rv (some 69), rv (some 4)] s
def zf_Vs_copyOf_4_37 (Z : mZ) (m : Nat) (s : mS) : Option (Int × mS) := zF_43 Z m [rv (some 4), rv (some 37)] s
def zf_Vs_copyOf_4_69 (Z : mZ) (m : Nat) (s : mS) : Option (Int × mS) := zF_43 Z m [rv (some 4), rv (some 69)] s
def Mi_9 : mM := (false, false, 4, 3, (0, 0), 0, rs_6, cd_9, [(2, [0, 1, 2])])
abbrev zenv_9 (Z : mZ) (m : Nat) : Nat → List mV → mS → Option (Int × mS) := fun j as s => none
def zF_9 (Z : mZ) (m : Nat) (as : List mV) (s : mS) : Option (Int × mS) := runS Z TT Mi_9 scr0 (zenv_9 Z m) (m + 1) 0 (ent 0 as) [] s (0, 0)
def zl_St_arrive_17_4_L2 (Z : mZ) (m : Nat) (n : Nat) (x2 : Int) (s : mS) : Option (Int × mS) := runS Z TT Mi_9 scr0 (zenv_9 Z m) n 2 [(0, rv (some 17)), (1, rv (some 4)), (2, iv x2)] [] s (0, 0)
def zf_St_arrive_17_4 (Z : mZ) (m : Nat) (s : mS) : Option (Int × mS) := zF_9 Z m [rv (some 17), rv (some 4)] s
def zl_St_arrive_206_4_L2 (Z : mZ) (m : Nat) (n : Nat) (x2 : Int) (s : mS) : Option (Int × mS) := runS Z TT Mi_9 scr0 (zenv_9 Z m) n 2 [(0, rv (some 206)), (1, rv (some 4)), (2, iv x2)] [] s (0, 0)
def zf_St_arrive_206_4 (Z : mZ) (m : Nat) (s : mS) : Option (Int × mS) := zF_9 Z m [rv (some 206), rv (some 4)] s
def Mi_7 : mM := (false, false, 4, 2, (0, 0), 0, rs_6, cd_7, [])
abbrev zenv_7 (Z : mZ) (m : Nat) : Nat → List mV → mS → Option (Int × mS) := fun j as s => (bsel (Nat.beq j 8) (zF_8 Z m as s) (bsel (Nat.beq j 9) (zF_9 Z m as s) none))
def zF_7 (Z : mZ) (m : Nat) (as : List mV) (s : mS) : Option (Int × mS) := runS Z TT Mi_7 scr0 (zenv_7 Z m) (m + 1) 0 (ent 0 as) [] s (0, 0)
def zf_St_begin (Z : mZ) (m : Nat) (s : mS) : Option (Int × mS) := zF_7 Z m [rv (some 17), rv (some 4)] s
def Mi_44 : mM := (false, false, 5, 1, (0, 0), 0, rs_5, cd_44, [])
abbrev zenv_44 (Z : mZ) (m : Nat) : Nat → List mV → mS → Option (Int × mS) := fun j as s => none
def zF_44 (Z : mZ) (m : Nat) (as : List mV) (s : mS) : Option (Int × mS) := runS Z TT Mi_44 scr0 (zenv_44 Z m) (m + 1) 0 (ent 0 as) [] s (0, 0)
def zf_Sn_wipe_30 (Z : mZ) (m : Nat) (s : mS) : Option (Int × mS) := zF_44 Z m [rv (some 30)] s
def zf_Sn_wipe_232 (Z : mZ) (m : Nat) (s : mS) : Option (Int × mS) := zF_44 Z m [rv (some 232)] s
def Mi_45 : mM := (false, false, 6, 1, (0, 0), 0, rs_4, cd_45, [])
abbrev zenv_45 (Z : mZ) (m : Nat) : Nat → List mV → mS → Option (Int × mS) := fun j as s => none
def zF_45 (Z : mZ) (m : Nat) (as : List mV) (s : mS) : Option (Int × mS) := runS Z TT Mi_45 scr0 (zenv_45 Z m) (m + 1) 0 (ent 0 as) [] s (0, 0)
def zf_Ps_forget (Z : mZ) (m : Nat) (s : mS) : Option (Int × mS) := zF_45 Z m [rv (some 100)] s
def Mi_17 : mM := (false, false, 0, 2, (0, 0), 1, rs_0, cd_17, [])
abbrev zenv_17 (Z : mZ) (m : Nat) : Nat → List mV → mS → Option (Int × mS) := fun j as s => (bsel (Nat.beq j 7) (zF_7 Z m as s) (bsel (Nat.beq j 18) (zF_18 Z m as s) (bsel (Nat.beq j 23) (zF_23 Z m as s) (bsel (Nat.beq j 43) (zF_43 Z m as s) (bsel (Nat.beq j 44) (zF_44 Z m as s) (bsel (Nat.beq j 45) (zF_45 Z m as s) none))))))
def zF_17 (Z : mZ) (m : Nat) (as : List mV) (s : mS) : Option (Int × mS) := runS Z TT Mi_17 scr0 (zenv_17 Z m) (m + 1) 0 (ent 0 as) [] s (0, 0)
def zf_X_vestry (Z : mZ) (m : Nat) (s : mS) : Option (Int × mS) := zF_17 Z m [rv (some 0)] s
def Mi_46 : mM := (false, false, 0, 1, (0, 0), 1, rs_0, cd_46, [])
abbrev zenv_46 (Z : mZ) (m : Nat) : Nat → List mV → mS → Option (Int × mS) := fun j as s => none
def zF_46 (Z : mZ) (m : Nat) (as : List mV) (s : mS) : Option (Int × mS) := runS Z TT Mi_46 scr0 (zenv_46 Z m) (m + 1) 0 (ent 0 as) [] s (0, 0)
def zf_X_fault (Z : mZ) (m : Nat) (s : mS) : Option (Int × mS) := zF_46 Z m [rv (some 0)] s
def Mi_48 : mM := (false, false, 0, 2, (0, 0), 4, rs_0, cd_48, [])
abbrev zenv_48 (Z : mZ) (m : Nat) : Nat → List mV → mS → Option (Int × mS) := fun j as s => none
def zF_48 (Z : mZ) (m : Nat) (as : List mV) (s : mS) : Option (Int × mS) := runS Z TT Mi_48 scr0 (zenv_48 Z m) (m + 1) 0 (ent 0 as) [] s (0, 0)
def zf_X_isBox (Z : mZ) (m : Nat) (a1 : Int) (s : mS) : Option (Int × mS) := zF_48 Z m [rv (some 0), iv a1] s
def Mi_51 : mM := (false, false, 99, 2, (0, 0), 1, rs_0, cd_51, [])
abbrev zenv_51 (Z : mZ) (m : Nat) : Nat → List mV → mS → Option (Int × mS) := fun j as s => none
def zF_51 (Z : mZ) (m : Nat) (as : List mV) (s : mS) : Option (Int × mS) := runS Z TT Mi_51 scr0 (zenv_51 Z m) (m + 1) 0 (ent 0 as) [] s (0, 0)
def zf_Jm_max (Z : mZ) (m : Nat) (a0 : Int) (a1 : Int) (s : mS) : Option (Int × mS) := zF_51 Z m [iv a0, iv a1] s
def Mi_50 : mM := (false, false, 4, 2, (0, 0), 1, rs_6, cd_50, [])
abbrev zenv_50 (Z : mZ) (m : Nat) : Nat → List mV → mS → Option (Int × mS) := fun j as s => (bsel (Nat.beq j 51) (zF_51 Z m as s) none)
def zF_50 (Z : mZ) (m : Nat) (as : List mV) (s : mS) : Option (Int × mS) := runS Z TT Mi_50 scr0 (zenv_50 Z m) (m + 1) 0 (ent 0 as) [] s (0, 0)
def zf_St_daysTill (Z : mZ) (m : Nat) (a1 : Int) (s : mS) : Option (Int × mS) := zF_50 Z m [rv (some 17), iv a1] s
def Mi_49 : mM := (false, false, 4, 2, (0, 0), 4, rs_6, cd_49, [])
abbrev zenv_49 (Z : mZ) (m : Nat) : Nat → List mV → mS → Option (Int × mS) := fun j as s => none
def zF_49 (Z : mZ) (m : Nat) (as : List mV) (s : mS) : Option (Int × mS) := runS Z TT Mi_49 scr0 (zenv_49 Z m) (m + 1) 0 (ent 0 as) [] s (0, 0)
def zf_St_boxFree_17 (Z : mZ) (m : Nat) (a1 : Int) (s : mS) : Option (Int × mS) := zF_49 Z m [rv (some 17), iv a1] s
def zf_St_boxFree_206 (Z : mZ) (m : Nat) (a1 : Int) (s : mS) : Option (Int × mS) := zF_49 Z m [rv (some 206), iv a1] s
def Mi_47 : mM := (false, false, 0, 4, (0, 0), 1, rs_0, cd_47, [])
abbrev zenv_47 (Z : mZ) (m : Nat) : Nat → List mV → mS → Option (Int × mS) := fun j as s => (bsel (Nat.beq j 48) (zF_48 Z m as s) (bsel (Nat.beq j 49) (zF_49 Z m as s) (bsel (Nat.beq j 50) (zF_50 Z m as s) none)))
def zF_47 (Z : mZ) (m : Nat) (as : List mV) (s : mS) : Option (Int × mS) := runS Z TT Mi_47 scr0 (zenv_47 Z m) (m + 1) 0 (ent 0 as) [] s (0, 0)
def zf_X_box (Z : mZ) (m : Nat) (a1 : Int) (a2 : Int) (s : mS) : Option (Int × mS) := zF_47 Z m [rv (some 0), iv a1, iv a2] s
def Mi_53 : mM := (false, false, 0, 2, (0, 0), 4, rs_0, cd_53, [])
abbrev zenv_53 (Z : mZ) (m : Nat) : Nat → List mV → mS → Option (Int × mS) := fun j as s => none
def zF_53 (Z : mZ) (m : Nat) (as : List mV) (s : mS) : Option (Int × mS) := runS Z TT Mi_53 scr0 (zenv_53 Z m) (m + 1) 0 (ent 0 as) [] s (0, 0)
def zf_X_isPlot (Z : mZ) (m : Nat) (a1 : Int) (s : mS) : Option (Int × mS) := zF_53 Z m [rv (some 0), iv a1] s
def Mi_52 : mM := (false, false, 0, 4, (0, 0), 1, rs_0, cd_52, [])
abbrev zenv_52 (Z : mZ) (m : Nat) : Nat → List mV → mS → Option (Int × mS) := fun j as s => (bsel (Nat.beq j 50) (zF_50 Z m as s) (bsel (Nat.beq j 53) (zF_53 Z m as s) none))
def zF_52 (Z : mZ) (m : Nat) (as : List mV) (s : mS) : Option (Int × mS) := runS Z TT Mi_52 scr0 (zenv_52 Z m) (m + 1) 0 (ent 0 as) [] s (0, 0)
def zf_X_plot (Z : mZ) (m : Nat) (a1 : Int) (a2 : Int) (s : mS) : Option (Int × mS) := zF_52 Z m [rv (some 0), iv a1, iv a2] s
def Mi_59 : mM := (false, false, 3, 3, (0, 0), 4, rs_8, cd_59, [(2, [0, 1, 2])])
abbrev zenv_59 (Z : mZ) (m : Nat) : Nat → List mV → mS → Option (Int × mS) := fun j as s => none
def zF_59 (Z : mZ) (m : Nat) (as : List mV) (s : mS) : Option (Int × mS) := runS Z TT Mi_59 scr0 (zenv_59 Z m) (m + 1) 0 (ent 0 as) [] s (0, 0)
def zl_Vs_frostOn_L2 (Z : mZ) (m : Nat) (n : Nat) (x1 : Int) (x2 : Int) (s : mS) : Option (Int × mS) := runS Z TT Mi_59 scr0 (zenv_59 Z m) n 2 [(0, rv (some 4)), (1, iv x1), (2, iv x2)] [] s (0, 0)
def zf_Vs_frostOn (Z : mZ) (m : Nat) (a1 : Int) (s : mS) : Option (Int × mS) := zF_59 Z m [rv (some 4), iv a1] s
def Mi_58 : mM := (false, false, 4, 2, (0, 0), 4, rs_6, cd_58, [])
abbrev zenv_58 (Z : mZ) (m : Nat) : Nat → List mV → mS → Option (Int × mS) := fun j as s => none
def zF_58 (Z : mZ) (m : Nat) (as : List mV) (s : mS) : Option (Int × mS) := runS Z TT Mi_58 scr0 (zenv_58 Z m) (m + 1) 0 (ent 0 as) [] s (0, 0)
def zf_St_plotFree_17 (Z : mZ) (m : Nat) (a1 : Int) (s : mS) : Option (Int × mS) := zF_58 Z m [rv (some 17), iv a1] s
def zf_St_plotFree_206 (Z : mZ) (m : Nat) (a1 : Int) (s : mS) : Option (Int × mS) := zF_58 Z m [rv (some 206), iv a1] s
def Mi_57 : mM := (false, false, 4, 4, (0, 0), 1, rs_6, cd_57, [(4, [0, 1, 2, 3])])
abbrev zenv_57 (Z : mZ) (m : Nat) : Nat → List mV → mS → Option (Int × mS) := fun j as s => (bsel (Nat.beq j 58) (zF_58 Z m as s) none)
def zF_57 (Z : mZ) (m : Nat) (as : List mV) (s : mS) : Option (Int × mS) := runS Z TT Mi_57 scr0 (zenv_57 Z m) (m + 1) 0 (ent 0 as) [] s (0, 0)
def zl_St_freePlots_L4 (Z : mZ) (m : Nat) (n : Nat) (x2 : Int) (x3 : Int) (s : mS) : Option (Int × mS) := runS Z TT Mi_57 scr0 (zenv_57 Z m) n 4 [(0, rv (some 17)), (1, rv (some 4)), (2, iv x2), (3, iv x3)] [] s (0, 0)
def zf_St_freePlots (Z : mZ) (m : Nat) (s : mS) : Option (Int × mS) := zF_57 Z m [rv (some 17), rv (some 4)] s
def Mi_56 : mM := (false, false, 4, 4, (0, 0), 1, rs_6, cd_56, [(4, [0, 1, 2, 3])])
abbrev zenv_56 (Z : mZ) (m : Nat) : Nat → List mV → mS → Option (Int × mS) := fun j as s => (bsel (Nat.beq j 49) (zF_49 Z m as s) none)
def zF_56 (Z : mZ) (m : Nat) (as : List mV) (s : mS) : Option (Int × mS) := runS Z TT Mi_56 scr0 (zenv_56 Z m) (m + 1) 0 (ent 0 as) [] s (0, 0)
def zl_St_freeBoxes_L4 (Z : mZ) (m : Nat) (n : Nat) (x2 : Int) (x3 : Int) (s : mS) : Option (Int × mS) := runS Z TT Mi_56 scr0 (zenv_56 Z m) n 4 [(0, rv (some 17)), (1, rv (some 4)), (2, iv x2), (3, iv x3)] [] s (0, 0)
def zf_St_freeBoxes (Z : mZ) (m : Nat) (s : mS) : Option (Int × mS) := zF_56 Z m [rv (some 17), rv (some 4)] s
def Mi_55 : mM := (false, false, 4, 5, (0, 0), 1, rs_6, cd_55, [(5, [0, 1, 2, 3, 4])])
abbrev zenv_55 (Z : mZ) (m : Nat) : Nat → List mV → mS → Option (Int × mS) := fun j as s => none
def zF_55 (Z : mZ) (m : Nat) (as : List mV) (s : mS) : Option (Int × mS) := runS Z TT Mi_55 scr0 (zenv_55 Z m) (m + 1) 0 (ent 0 as) [] s (0, 0)
def zl_St_bitsOf_17_4_L5 (Z : mZ) (m : Nat) (n : Nat) (x1 : Int) (x3 : Int) (x4 : Int) (s : mS) : Option (Int × mS) := runS Z TT Mi_55 scr0 (zenv_55 Z m) n 5 [(0, rv (some 17)), (1, iv x1), (2, rv (some 4)), (3, iv x3), (4, iv x4)] [] s (0, 0)
def zf_St_bitsOf_17_4 (Z : mZ) (m : Nat) (a1 : Int) (s : mS) : Option (Int × mS) := zF_55 Z m [rv (some 17), iv a1, rv (some 4)] s
def zl_St_bitsOf_206_4_L5 (Z : mZ) (m : Nat) (n : Nat) (x1 : Int) (x3 : Int) (x4 : Int) (s : mS) : Option (Int × mS) := runS Z TT Mi_55 scr0 (zenv_55 Z m) n 5 [(0, rv (some 206)), (1, iv x1), (2, rv (some 4)), (3, iv x3), (4, iv x4)] [] s (0, 0)
def zf_St_bitsOf_206_4 (Z : mZ) (m : Nat) (a1 : Int) (s : mS) : Option (Int × mS) := zF_55 Z m [rv (some 206), iv a1, rv (some 4)] s
def Mi_54 : mM := (false, false, 0, 3, (0, 0), 1, rs_0, cd_54, [])
abbrev zenv_54 (Z : mZ) (m : Nat) : Nat → List mV → mS → Option (Int × mS) := fun j as s => (bsel (Nat.beq j 55) (zF_55 Z m as s) (bsel (Nat.beq j 56) (zF_56 Z m as s) (bsel (Nat.beq j 57) (zF_57 Z m as s) (bsel (Nat.beq j 59) (zF_59 Z m as s) none))))
def zF_54 (Z : mZ) (m : Nat) (as : List mV) (s : mS) : Option (Int × mS) := runS Z TT Mi_54 scr0 (zenv_54 Z m) (m + 1) 0 (ent 0 as) [] s (0, 0)
def zf_X_now (Z : mZ) (m : Nat) (a1 : Int) (s : mS) : Option (Int × mS) := zF_54 Z m [rv (some 0), iv a1] s
def Mi_61 : mM := (false, false, 0, 2, (0, 0), 4, rs_0, cd_61, [])
abbrev zenv_61 (Z : mZ) (m : Nat) : Nat → List mV → mS → Option (Int × mS) := fun j as s => none
def zF_61 (Z : mZ) (m : Nat) (as : List mV) (s : mS) : Option (Int × mS) := runS Z TT Mi_61 scr0 (zenv_61 Z m) (m + 1) 0 (ent 0 as) [] s (0, 0)
def zf_X_isDead (Z : mZ) (m : Nat) (a1 : Int) (s : mS) : Option (Int × mS) := zF_61 Z m [rv (some 0), iv a1] s
def Mi_62 : mM := (false, false, 4, 2, (0, 0), 0, rs_6, cd_62, [])
abbrev zenv_62 (Z : mZ) (m : Nat) : Nat → List mV → mS → Option (Int × mS) := fun j as s => none
def zF_62 (Z : mZ) (m : Nat) (as : List mV) (s : mS) : Option (Int × mS) := runS Z TT Mi_62 scr0 (zenv_62 Z m) (m + 1) 0 (ent 0 as) [] s (0, 0)
def zf_St_copyOf_206_17 (Z : mZ) (m : Nat) (s : mS) : Option (Int × mS) := zF_62 Z m [rv (some 206), rv (some 17)] s
def zf_St_copyOf_102_206 (Z : mZ) (m : Nat) (s : mS) : Option (Int × mS) := zF_62 Z m [rv (some 102), rv (some 206)] s
def zf_St_copyOf_115_206 (Z : mZ) (m : Nat) (s : mS) : Option (Int × mS) := zF_62 Z m [rv (some 115), rv (some 206)] s
def zf_St_copyOf_128_206 (Z : mZ) (m : Nat) (s : mS) : Option (Int × mS) := zF_62 Z m [rv (some 128), rv (some 206)] s
def zf_St_copyOf_141_206 (Z : mZ) (m : Nat) (s : mS) : Option (Int × mS) := zF_62 Z m [rv (some 141), rv (some 206)] s
def zf_St_copyOf_154_206 (Z : mZ) (m : Nat) (s : mS) : Option (Int × mS) := zF_62 Z m [rv (some 154), rv (some 206)] s
def zf_St_copyOf_167_206 (Z : mZ) (m : Nat) (s : mS) : Option (Int × mS) := zF_62 Z m [rv (some 167), rv (some 206)] s
def zf_St_copyOf_180_206 (Z : mZ) (m : Nat) (s : mS) : Option (Int × mS) := zF_62 Z m [rv (some 180), rv (some 206)] s
def zf_St_copyOf_193_206 (Z : mZ) (m : Nat) (s : mS) : Option (Int × mS) := zF_62 Z m [rv (some 193), rv (some 206)] s
def zf_St_copyOf_17_102 (Z : mZ) (m : Nat) (s : mS) : Option (Int × mS) := zF_62 Z m [rv (some 17), rv (some 102)] s
def zf_St_copyOf_17_115 (Z : mZ) (m : Nat) (s : mS) : Option (Int × mS) := zF_62 Z m [rv (some 17), rv (some 115)] s
def zf_St_copyOf_17_128 (Z : mZ) (m : Nat) (s : mS) : Option (Int × mS) := zF_62 Z m [rv (some 17), rv (some 128)] s
def zf_St_copyOf_17_141 (Z : mZ) (m : Nat) (s : mS) : Option (Int × mS) := zF_62 Z m [rv (some 17), rv (some 141)] s
def zf_St_copyOf_17_154 (Z : mZ) (m : Nat) (s : mS) : Option (Int × mS) := zF_62 Z m [rv (some 17), rv (some 154)] s
def zf_St_copyOf_17_167 (Z : mZ) (m : Nat) (s : mS) : Option (Int × mS) := zF_62 Z m [rv (some 17), rv (some 167)] s
def zf_St_copyOf_17_180 (Z : mZ) (m : Nat) (s : mS) : Option (Int × mS) := zF_62 Z m [rv (some 17), rv (some 180)] s
def zf_St_copyOf_17_193 (Z : mZ) (m : Nat) (s : mS) : Option (Int × mS) := zF_62 Z m [rv (some 17), rv (some 193)] s
def zf_St_copyOf_102_17 (Z : mZ) (m : Nat) (s : mS) : Option (Int × mS) := zF_62 Z m [rv (some 102), rv (some 17)] s
def zf_St_copyOf_115_17 (Z : mZ) (m : Nat) (s : mS) : Option (Int × mS) := zF_62 Z m [rv (some 115), rv (some 17)] s
def zf_St_copyOf_128_17 (Z : mZ) (m : Nat) (s : mS) : Option (Int × mS) := zF_62 Z m [rv (some 128), rv (some 17)] s
def zf_St_copyOf_141_17 (Z : mZ) (m : Nat) (s : mS) : Option (Int × mS) := zF_62 Z m [rv (some 141), rv (some 17)] s
def zf_St_copyOf_154_17 (Z : mZ) (m : Nat) (s : mS) : Option (Int × mS) := zF_62 Z m [rv (some 154), rv (some 17)] s
def zf_St_copyOf_167_17 (Z : mZ) (m : Nat) (s : mS) : Option (Int × mS) := zF_62 Z m [rv (some 167), rv (some 17)] s
def zf_St_copyOf_180_17 (Z : mZ) (m : Nat) (s : mS) : Option (Int × mS) := zF_62 Z m [rv (some 180), rv (some 17)] s
def zf_St_copyOf_193_17 (Z : mZ) (m : Nat) (s : mS) : Option (Int × mS) := zF_62 Z m [rv (some 193), rv (some 17)] s
def zf_St_copyOf_17_206 (Z : mZ) (m : Nat) (s : mS) : Option (Int × mS) := zF_62 Z m [rv (some 17), rv (some 206)] s
def zf_St_copyOf_50_17 (Z : mZ) (m : Nat) (s : mS) : Option (Int × mS) := zF_62 Z m [rv (some 50), rv (some 17)] s
def zf_St_copyOf_82_17 (Z : mZ) (m : Nat) (s : mS) : Option (Int × mS) := zF_62 Z m [rv (some 82), rv (some 17)] s
def zf_St_copyOf_17_50 (Z : mZ) (m : Nat) (s : mS) : Option (Int × mS) := zF_62 Z m [rv (some 17), rv (some 50)] s
def zf_St_copyOf_17_82 (Z : mZ) (m : Nat) (s : mS) : Option (Int × mS) := zF_62 Z m [rv (some 17), rv (some 82)] s
def Mi_64 : mM := (false, false, 4, 4, (0, 0), 1, rs_6, cd_64, [])
abbrev zenv_64 (Z : mZ) (m : Nat) : Nat → List mV → mS → Option (Int × mS) := fun j as s => (bsel (Nat.beq j 49) (zF_49 Z m as s) none)
def zF_64 (Z : mZ) (m : Nat) (as : List mV) (s : mS) : Option (Int × mS) := runS Z TT Mi_64 scr0 (zenv_64 Z m) (m + 1) 0 (ent 0 as) [] s (0, 0)
def zf_St_whyNotLent_17_4 (Z : mZ) (m : Nat) (a1 : Int) (a2 : Int) (s : mS) : Option (Int × mS) := zF_64 Z m [rv (some 17), iv a1, iv a2, rv (some 4)] s
def zf_St_whyNotLent_206_4 (Z : mZ) (m : Nat) (a1 : Int) (a2 : Int) (s : mS) : Option (Int × mS) := zF_64 Z m [rv (some 206), iv a1, iv a2, rv (some 4)] s
def Mi_63 : mM := (false, false, 4, 6, (0, 0), 1, rs_6, cd_63, [(51, [0, 1, 2, 5])])
abbrev zenv_63 (Z : mZ) (m : Nat) : Nat → List mV → mS → Option (Int × mS) := fun j as s => (bsel (Nat.beq j 64) (zF_64 Z m as s) none)
def zF_63 (Z : mZ) (m : Nat) (as : List mV) (s : mS) : Option (Int × mS) := runS Z TT Mi_63 scr0 (zenv_63 Z m) (m + 1) 0 (ent 0 as) [] s (0, 0)
def zl_St_lendHim_17_4_L51 (Z : mZ) (m : Nat) (n : Nat) (x1 : Int) (x2 : Int) (x5 : Int) (s : mS) : Option (Int × mS) := runS Z TT Mi_63 scr0 (zenv_63 Z m) n 51 [(0, rv (some 17)), (1, iv x1), (2, iv x2), (5, iv x5)] [] s (0, 0)
def zf_St_lendHim_17_4 (Z : mZ) (m : Nat) (a1 : Int) (a2 : Int) (s : mS) : Option (Int × mS) := zF_63 Z m [rv (some 17), iv a1, iv a2, rv (some 4)] s
def zl_St_lendHim_206_4_L51 (Z : mZ) (m : Nat) (n : Nat) (x1 : Int) (x2 : Int) (x5 : Int) (s : mS) : Option (Int × mS) := runS Z TT Mi_63 scr0 (zenv_63 Z m) n 51 [(0, rv (some 206)), (1, iv x1), (2, iv x2), (5, iv x5)] [] s (0, 0)
def zf_St_lendHim_206_4 (Z : mZ) (m : Nat) (a1 : Int) (a2 : Int) (s : mS) : Option (Int × mS) := zF_63 Z m [rv (some 206), iv a1, iv a2, rv (some 4)] s
def Mi_66 : mM := (false, false, 6, 2, (0, 0), 0, rs_4, cd_66, [(17, [0, 1])])
abbrev zenv_66 (Z : mZ) (m : Nat) : Nat → List mV → mS → Option (Int × mS) := fun j as s => (bsel (Nat.beq j 62) (zF_62 Z m as s) none)
def zF_66 (Z : mZ) (m : Nat) (as : List mV) (s : mS) : Option (Int × mS) := runS Z TT Mi_66 scr0 (zenv_66 Z m) (m + 1) 0 (ent 0 as) [] s (0, 0)
def zl_Ps_keep_100_206_L17 (Z : mZ) (m : Nat) (n : Nat) (v0 : Option Nat) (s : mS) : Option (Int × mS) := runS Z TT Mi_66 scr0 (zenv_66 Z m) n 17 [(0, rv (some 100)), (1, rv (some 206))] [rv v0] s (0, 0)
def zf_Ps_keep_100_206 (Z : mZ) (m : Nat) (s : mS) : Option (Int × mS) := zF_66 Z m [rv (some 100), rv (some 206)] s
def zl_Ps_keep_100_17_L17 (Z : mZ) (m : Nat) (n : Nat) (v0 : Option Nat) (s : mS) : Option (Int × mS) := runS Z TT Mi_66 scr0 (zenv_66 Z m) n 17 [(0, rv (some 100)), (1, rv (some 17))] [rv v0] s (0, 0)
def zf_Ps_keep_100_17 (Z : mZ) (m : Nat) (s : mS) : Option (Int × mS) := zF_66 Z m [rv (some 100), rv (some 17)] s
def Mi_65 : mM := (false, false, 0, 2, (0, 0), 1, rs_0, cd_65, [])
abbrev zenv_65 (Z : mZ) (m : Nat) : Nat → List mV → mS → Option (Int × mS) := fun j as s => (bsel (Nat.beq j 66) (zF_66 Z m as s) none)
def zF_65 (Z : mZ) (m : Nat) (as : List mV) (s : mS) : Option (Int × mS) := runS Z TT Mi_65 scr0 (zenv_65 Z m) (m + 1) 0 (ent 0 as) [] s (0, 0)
def zf_X_done (Z : mZ) (m : Nat) (a1 : Int) (s : mS) : Option (Int × mS) := zF_65 Z m [rv (some 0), iv a1] s
def Mi_60 : mM := (false, false, 0, 3, (0, 0), 1, rs_0, cd_60, [])
abbrev zenv_60 (Z : mZ) (m : Nat) : Nat → List mV → mS → Option (Int × mS) := fun j as s => (bsel (Nat.beq j 48) (zF_48 Z m as s) (bsel (Nat.beq j 61) (zF_61 Z m as s) (bsel (Nat.beq j 62) (zF_62 Z m as s) (bsel (Nat.beq j 63) (zF_63 Z m as s) (bsel (Nat.beq j 65) (zF_65 Z m as s) none)))))
def zF_60 (Z : mZ) (m : Nat) (as : List mV) (s : mS) : Option (Int × mS) := runS Z TT Mi_60 scr0 (zenv_60 Z m) (m + 1) 0 (ent 0 as) [] s (0, 0)
def zf_X_lend (Z : mZ) (m : Nat) (a1 : Int) (a2 : Int) (s : mS) : Option (Int × mS) := zF_60 Z m [rv (some 0), iv a1, iv a2] s
def Mi_68 : mM := (false, false, 4, 5, (0, 0), 1, rs_6, cd_68, [])
abbrev zenv_68 (Z : mZ) (m : Nat) : Nat → List mV → mS → Option (Int × mS) := fun j as s => (bsel (Nat.beq j 37) (zF_37 Z m as s) (bsel (Nat.beq j 58) (zF_58 Z m as s) (bsel (Nat.beq j 59) (zF_59 Z m as s) none)))
def zF_68 (Z : mZ) (m : Nat) (as : List mV) (s : mS) : Option (Int × mS) := runS Z TT Mi_68 scr0 (zenv_68 Z m) (m + 1) 0 (ent 0 as) [] s (0, 0)
def zf_St_layHim_17_4 (Z : mZ) (m : Nat) (a1 : Int) (a2 : Int) (s : mS) : Option (Int × mS) := zF_68 Z m [rv (some 17), iv a1, iv a2, rv (some 4)] s
def zf_St_layHim_206_4 (Z : mZ) (m : Nat) (a1 : Int) (a2 : Int) (s : mS) : Option (Int × mS) := zF_68 Z m [rv (some 206), iv a1, iv a2, rv (some 4)] s
def Mi_67 : mM := (false, false, 0, 3, (0, 0), 1, rs_0, cd_67, [])
abbrev zenv_67 (Z : mZ) (m : Nat) : Nat → List mV → mS → Option (Int × mS) := fun j as s => (bsel (Nat.beq j 53) (zF_53 Z m as s) (bsel (Nat.beq j 61) (zF_61 Z m as s) (bsel (Nat.beq j 62) (zF_62 Z m as s) (bsel (Nat.beq j 65) (zF_65 Z m as s) (bsel (Nat.beq j 68) (zF_68 Z m as s) none)))))
def zF_67 (Z : mZ) (m : Nat) (as : List mV) (s : mS) : Option (Int × mS) := runS Z TT Mi_67 scr0 (zenv_67 Z m) (m + 1) 0 (ent 0 as) [] s (0, 0)
def zf_X_lay (Z : mZ) (m : Nat) (a1 : Int) (a2 : Int) (s : mS) : Option (Int × mS) := zF_67 Z m [rv (some 0), iv a1, iv a2] s
def Mi_70 : mM := (false, false, 4, 6, (0, 0), 1, rs_6, cd_70, [])
abbrev zenv_70 (Z : mZ) (m : Nat) : Nat → List mV → mS → Option (Int × mS) := fun j as s => none
def zF_70 (Z : mZ) (m : Nat) (as : List mV) (s : mS) : Option (Int × mS) := runS Z TT Mi_70 scr0 (zenv_70 Z m) (m + 1) 0 (ent 0 as) [] s (0, 0)
def zf_St_swapThem_17_4 (Z : mZ) (m : Nat) (a1 : Int) (a2 : Int) (s : mS) : Option (Int × mS) := zF_70 Z m [rv (some 17), iv a1, iv a2, rv (some 4)] s
def zf_St_swapThem_206_4 (Z : mZ) (m : Nat) (a1 : Int) (a2 : Int) (s : mS) : Option (Int × mS) := zF_70 Z m [rv (some 206), iv a1, iv a2, rv (some 4)] s
def Mi_69 : mM := (false, false, 0, 3, (0, 0), 1, rs_0, cd_69, [])
abbrev zenv_69 (Z : mZ) (m : Nat) : Nat → List mV → mS → Option (Int × mS) := fun j as s => (bsel (Nat.beq j 61) (zF_61 Z m as s) (bsel (Nat.beq j 62) (zF_62 Z m as s) (bsel (Nat.beq j 65) (zF_65 Z m as s) (bsel (Nat.beq j 70) (zF_70 Z m as s) none))))
def zF_69 (Z : mZ) (m : Nat) (as : List mV) (s : mS) : Option (Int × mS) := runS Z TT Mi_69 scr0 (zenv_69 Z m) (m + 1) 0 (ent 0 as) [] s (0, 0)
def zf_X_swap (Z : mZ) (m : Nat) (a1 : Int) (a2 : Int) (s : mS) : Option (Int × mS) := zF_69 Z m [rv (some 0), iv a1, iv a2] s
def Mi_72 : mM := (false, false, 4, 2, (0, 0), 1, rs_6, cd_72, [])
abbrev zenv_72 (Z : mZ) (m : Nat) : Nat → List mV → mS → Option (Int × mS) := fun j as s => none
def zF_72 (Z : mZ) (m : Nat) (as : List mV) (s : mS) : Option (Int × mS) := runS Z TT Mi_72 scr0 (zenv_72 Z m) (m + 1) 0 (ent 0 as) [] s (0, 0)
def zf_St_mendIt_17 (Z : mZ) (m : Nat) (a1 : Int) (s : mS) : Option (Int × mS) := zF_72 Z m [rv (some 17), iv a1] s
def zf_St_mendIt_206 (Z : mZ) (m : Nat) (a1 : Int) (s : mS) : Option (Int × mS) := zF_72 Z m [rv (some 206), iv a1] s
def Mi_71 : mM := (false, false, 0, 2, (0, 0), 1, rs_0, cd_71, [])
abbrev zenv_71 (Z : mZ) (m : Nat) : Nat → List mV → mS → Option (Int × mS) := fun j as s => (bsel (Nat.beq j 48) (zF_48 Z m as s) (bsel (Nat.beq j 62) (zF_62 Z m as s) (bsel (Nat.beq j 65) (zF_65 Z m as s) (bsel (Nat.beq j 72) (zF_72 Z m as s) none))))
def zF_71 (Z : mZ) (m : Nat) (as : List mV) (s : mS) : Option (Int × mS) := runS Z TT Mi_71 scr0 (zenv_71 Z m) (m + 1) 0 (ent 0 as) [] s (0, 0)
def zf_X_mend (Z : mZ) (m : Nat) (a1 : Int) (s : mS) : Option (Int × mS) := zF_71 Z m [rv (some 0), iv a1] s
def Mi_74 : mM := (false, false, 4, 5, (0, 0), 1, rs_6, cd_74, [(2, [0, 1, 2, 3]), (20, [0, 1, 2, 3, 4])])
abbrev zenv_74 (Z : mZ) (m : Nat) : Nat → List mV → mS → Option (Int × mS) := fun j as s => (bsel (Nat.beq j 9) (zF_9 Z m as s) none)
def zF_74 (Z : mZ) (m : Nat) (as : List mV) (s : mS) : Option (Int × mS) := runS Z TT Mi_74 scr0 (zenv_74 Z m) (m + 1) 0 (ent 0 as) [] s (0, 0)
def zl_St_passDays_17_4_L2 (Z : mZ) (m : Nat) (n : Nat) (x1 : Int) (x3 : Int) (s : mS) : Option (Int × mS) := runS Z TT Mi_74 scr0 (zenv_74 Z m) n 2 [(0, rv (some 17)), (1, iv x1), (2, rv (some 4)), (3, iv x3)] [] s (0, 0)
def zl_St_passDays_17_4_L20 (Z : mZ) (m : Nat) (n : Nat) (x1 : Int) (x3 : Int) (x4 : Int) (s : mS) : Option (Int × mS) := runS Z TT Mi_74 scr0 (zenv_74 Z m) n 20 [(0, rv (some 17)), (1, iv x1), (2, rv (some 4)), (3, iv x3), (4, iv x4)] [] s (0, 0)
def zf_St_passDays_17_4 (Z : mZ) (m : Nat) (a1 : Int) (s : mS) : Option (Int × mS) := zF_74 Z m [rv (some 17), iv a1, rv (some 4)] s
def zl_St_passDays_206_4_L2 (Z : mZ) (m : Nat) (n : Nat) (x1 : Int) (x3 : Int) (s : mS) : Option (Int × mS) := runS Z TT Mi_74 scr0 (zenv_74 Z m) n 2 [(0, rv (some 206)), (1, iv x1), (2, rv (some 4)), (3, iv x3)] [] s (0, 0)
def zl_St_passDays_206_4_L20 (Z : mZ) (m : Nat) (n : Nat) (x1 : Int) (x3 : Int) (x4 : Int) (s : mS) : Option (Int × mS) := runS Z TT Mi_74 scr0 (zenv_74 Z m) n 20 [(0, rv (some 206)), (1, iv x1), (2, rv (some 4)), (3, iv x3), (4, iv x4)] [] s (0, 0)
def zf_St_passDays_206_4 (Z : mZ) (m : Nat) (a1 : Int) (s : mS) : Option (Int × mS) := zF_74 Z m [rv (some 206), iv a1, rv (some 4)] s
def Mi_75 : mM := (false, false, 0, 2, (0, 0), 1, rs_0, cd_75, [])
abbrev zenv_75 (Z : mZ) (m : Nat) : Nat → List mV → mS → Option (Int × mS) := fun j as s => (bsel (Nat.beq j 66) (zF_66 Z m as s) none)
def zF_75 (Z : mZ) (m : Nat) (as : List mV) (s : mS) : Option (Int × mS) := runS Z TT Mi_75 scr0 (zenv_75 Z m) (m + 1) 0 (ent 0 as) [] s (0, 0)
def zf_X_wentBy (Z : mZ) (m : Nat) (a1 : Int) (s : mS) : Option (Int × mS) := zF_75 Z m [rv (some 0), iv a1] s
def Mi_73 : mM := (false, false, 0, 2, (0, 0), 1, rs_0, cd_73, [])
abbrev zenv_73 (Z : mZ) (m : Nat) : Nat → List mV → mS → Option (Int × mS) := fun j as s => (bsel (Nat.beq j 62) (zF_62 Z m as s) (bsel (Nat.beq j 74) (zF_74 Z m as s) (bsel (Nat.beq j 75) (zF_75 Z m as s) none)))
def zF_73 (Z : mZ) (m : Nat) (as : List mV) (s : mS) : Option (Int × mS) := runS Z TT Mi_73 scr0 (zenv_73 Z m) (m + 1) 0 (ent 0 as) [] s (0, 0)
def zf_X_days (Z : mZ) (m : Nat) (a1 : Int) (s : mS) : Option (Int × mS) := zF_73 Z m [rv (some 0), iv a1] s
def Mi_77 : mM := (false, false, 6, 2, (0, 0), 1, rs_4, cd_77, [(37, [0])])
abbrev zenv_77 (Z : mZ) (m : Nat) : Nat → List mV → mS → Option (Int × mS) := fun j as s => (bsel (Nat.beq j 62) (zF_62 Z m as s) none)
def zF_77 (Z : mZ) (m : Nat) (as : List mV) (s : mS) : Option (Int × mS) := runS Z TT Mi_77 scr0 (zenv_77 Z m) (m + 1) 0 (ent 0 as) [] s (0, 0)
def zl_Ps_backTo_L37 (Z : mZ) (m : Nat) (n : Nat) (v1 : Option Nat) (s : mS) : Option (Int × mS) := runS Z TT Mi_77 scr0 (zenv_77 Z m) n 37 [(0, rv (some 100))] [rv v1, rv (some 17)] s (0, 0)
def zf_Ps_backTo (Z : mZ) (m : Nat) (s : mS) : Option (Int × mS) := zF_77 Z m [rv (some 100), rv (some 17)] s
def Mi_76 : mM := (false, false, 0, 1, (0, 0), 1, rs_0, cd_76, [])
abbrev zenv_76 (Z : mZ) (m : Nat) : Nat → List mV → mS → Option (Int × mS) := fun j as s => (bsel (Nat.beq j 77) (zF_77 Z m as s) none)
def zF_76 (Z : mZ) (m : Nat) (as : List mV) (s : mS) : Option (Int × mS) := runS Z TT Mi_76 scr0 (zenv_76 Z m) (m + 1) 0 (ent 0 as) [] s (0, 0)
def zf_X_undo (Z : mZ) (m : Nat) (s : mS) : Option (Int × mS) := zF_76 Z m [rv (some 0)] s
def Mi_81 : mM := (false, false, 8, 4, (0, 0), 4, rs_3, cd_81, [(20, [0, 1, 2, 3])])
def zFg_81 (Z : mZ) (m : Nat) : Nat → Nat → List mV → mS → Option (Int × mS)
  | 0, _, _, _ => none
  | d + 1, j, as, s => bsel (Nat.beq j 81) (runS Z TT Mi_81 scr0 (fun j as s => (bsel (Nat.beq j 81) (zFg_81 Z m d 81 as s) none)) (m + 1) 0 (ent 0 as) [] s (0, 0)) (none)
abbrev zenv_81 (Z : mZ) (m d : Nat) : Nat → List mV → mS → Option (Int × mS) := fun j as s => (bsel (Nat.beq j 81) (zFg_81 Z m d 81 as s) none)
def zl_Mt_finds_L20 (Z : mZ) (m : Nat) (d : Nat) (n : Nat) (x1 : Int) (x2 : Int) (x3 : Int) (s : mS) : Option (Int × mS) := runS Z TT Mi_81 scr0 (zenv_81 Z m d) n 20 [(0, rv (some 241)), (1, iv x1), (2, iv x2), (3, iv x3)] [] s (0, 0)
def zf_Mt_finds (Z : mZ) (m : Nat) (d : Nat) (a1 : Int) (a2 : Int) (s : mS) : Option (Int × mS) := zFg_81 Z m d 81 [rv (some 241), iv a1, iv a2] s
def Mi_80 : mM := (false, false, 8, 5, (0, 0), 1, rs_3, cd_80, [(13, [0, 2, 3, 4])])
abbrev zenv_80 (Z : mZ) (m : Nat) : Nat → List mV → mS → Option (Int × mS) := fun j as s => (bsel (Nat.beq j 8) (zF_8 Z m as s) (bsel (Nat.beq j 81) (zFg_81 Z m 64 81 as s) none))
def zF_80 (Z : mZ) (m : Nat) (as : List mV) (s : mS) : Option (Int × mS) := runS Z TT Mi_80 scr0 (zenv_80 Z m) (m + 1) 0 (ent 0 as) [] s (0, 0)
def zl_Mt_mostFrom_L13 (Z : mZ) (m : Nat) (n : Nat) (x2 : Int) (x3 : Int) (x4 : Int) (s : mS) : Option (Int × mS) := runS Z TT Mi_80 scr0 (zenv_80 Z m) n 13 [(0, rv (some 241)), (2, iv x2), (3, iv x3), (4, iv x4)] [] s (0, 0)
def zf_Mt_mostFrom (Z : mZ) (m : Nat) (a1 : Int) (a2 : Int) (s : mS) : Option (Int × mS) := zF_80 Z m [rv (some 241), iv a1, iv a2] s
def Mi_82 : mM := (false, false, 8, 7, (0, 0), 0, rs_3, cd_82, [(7, [0, 2, 3, 4]), (25, [0, 2, 3, 4, 5])])
abbrev zenv_82 (Z : mZ) (m : Nat) : Nat → List mV → mS → Option (Int × mS) := fun j as s => (bsel (Nat.beq j 80) (zF_80 Z m as s) none)
def zF_82 (Z : mZ) (m : Nat) (as : List mV) (s : mS) : Option (Int × mS) := runS Z TT Mi_82 scr0 (zenv_82 Z m) (m + 1) 0 (ent 0 as) [] s (0, 0)
def zl_Mt_chooseFirst_L7 (Z : mZ) (m : Nat) (n : Nat) (x2 : Int) (x3 : Int) (x4 : Int) (s : mS) : Option (Int × mS) := runS Z TT Mi_82 scr0 (zenv_82 Z m) n 7 [(0, rv (some 241)), (2, iv x2), (3, iv x3), (4, iv x4)] [] s (0, 0)
def zl_Mt_chooseFirst_L25 (Z : mZ) (m : Nat) (n : Nat) (x2 : Int) (x3 : Int) (x4 : Int) (x5 : Int) (s : mS) : Option (Int × mS) := runS Z TT Mi_82 scr0 (zenv_82 Z m) n 25 [(0, rv (some 241)), (2, iv x2), (3, iv x3), (4, iv x4), (5, iv x5)] [] s (0, 0)
def zf_Mt_chooseFirst (Z : mZ) (m : Nat) (a1 : Int) (s : mS) : Option (Int × mS) := zF_82 Z m [rv (some 241), iv a1] s
def Mi_79 : mM := (false, false, 8, 5, (0, 0), 1, rs_3, cd_79, [(2, [0, 1, 2, 3]), (18, [0, 1, 2, 3, 4])])
abbrev zenv_79 (Z : mZ) (m : Nat) : Nat → List mV → mS → Option (Int × mS) := fun j as s => (bsel (Nat.beq j 64) (zF_64 Z m as s) (bsel (Nat.beq j 80) (zF_80 Z m as s) (bsel (Nat.beq j 82) (zF_82 Z m as s) none)))
def zF_79 (Z : mZ) (m : Nat) (as : List mV) (s : mS) : Option (Int × mS) := runS Z TT Mi_79 scr0 (zenv_79 Z m) (m + 1) 0 (ent 0 as) [] s (0, 0)
def zl_Mt_find_L2 (Z : mZ) (m : Nat) (n : Nat) (x3 : Int) (s : mS) : Option (Int × mS) := runS Z TT Mi_79 scr0 (zenv_79 Z m) n 2 [(0, rv (some 241)), (1, rv (some 4)), (2, rv (some 17)), (3, iv x3)] [] s (0, 0)
def zl_Mt_find_L18 (Z : mZ) (m : Nat) (n : Nat) (x3 : Int) (x4 : Int) (s : mS) : Option (Int × mS) := runS Z TT Mi_79 scr0 (zenv_79 Z m) n 18 [(0, rv (some 241)), (1, rv (some 4)), (2, rv (some 17)), (3, iv x3), (4, iv x4)] [] s (0, 0)
def zf_Mt_find (Z : mZ) (m : Nat) (s : mS) : Option (Int × mS) := zF_79 Z m [rv (some 241), rv (some 4), rv (some 17)] s
def Mi_78 : mM := (false, false, 0, 1, (0, 0), 1, rs_0, cd_78, [])
abbrev zenv_78 (Z : mZ) (m : Nat) : Nat → List mV → mS → Option (Int × mS) := fun j as s => (bsel (Nat.beq j 79) (zF_79 Z m as s) none)
def zF_78 (Z : mZ) (m : Nat) (as : List mV) (s : mS) : Option (Int × mS) := runS Z TT Mi_78 scr0 (zenv_78 Z m) (m + 1) 0 (ent 0 as) [] s (0, 0)
def zf_X_match (Z : mZ) (m : Nat) (s : mS) : Option (Int × mS) := zF_78 Z m [rv (some 0)] s
def Mi_83 : mM := (false, false, 0, 2, (0, 0), 1, rs_0, cd_83, [])
abbrev zenv_83 (Z : mZ) (m : Nat) : Nat → List mV → mS → Option (Int × mS) := fun j as s => none
def zF_83 (Z : mZ) (m : Nat) (as : List mV) (s : mS) : Option (Int × mS) := runS Z TT Mi_83 scr0 (zenv_83 Z m) (m + 1) 0 (ent 0 as) [] s (0, 0)
def zf_X_matchOf (Z : mZ) (m : Nat) (a1 : Int) (s : mS) : Option (Int × mS) := zF_83 Z m [rv (some 0), iv a1] s
def Mi_85 : mM := (false, false, 0, 5, (0, 0), 1, rs_0, cd_85, [(32, [0, 1, 3, 4])])
abbrev zenv_85 (Z : mZ) (m : Nat) : Nat → List mV → mS → Option (Int × mS) := fun j as s => (bsel (Nat.beq j 37) (zF_37 Z m as s) (bsel (Nat.beq j 59) (zF_59 Z m as s) none))
def zF_85 (Z : mZ) (m : Nat) (as : List mV) (s : mS) : Option (Int × mS) := runS Z TT Mi_85 scr0 (zenv_85 Z m) (m + 1) 0 (ent 0 as) [] s (0, 0)
def zl_X_plotBehind_L32 (Z : mZ) (m : Nat) (n : Nat) (x1 : Int) (x3 : Int) (x4 : Int) (s : mS) : Option (Int × mS) := runS Z TT Mi_85 scr0 (zenv_85 Z m) n 32 [(0, rv (some 0)), (1, iv x1), (3, iv x3), (4, iv x4)] [] s (0, 0)
def zf_X_plotBehind (Z : mZ) (m : Nat) (a1 : Int) (a2 : Int) (s : mS) : Option (Int × mS) := zF_85 Z m [rv (some 0), iv a1, iv a2] s
def Mi_84 : mM := (false, false, 0, 4, (0, 0), 1, rs_0, cd_84, [(28, [0, 1, 2])])
abbrev zenv_84 (Z : mZ) (m : Nat) : Nat → List mV → mS → Option (Int × mS) := fun j as s => (bsel (Nat.beq j 61) (zF_61 Z m as s) (bsel (Nat.beq j 85) (zF_85 Z m as s) none))
def zF_84 (Z : mZ) (m : Nat) (as : List mV) (s : mS) : Option (Int × mS) := runS Z TT Mi_84 scr0 (zenv_84 Z m) (m + 1) 0 (ent 0 as) [] s (0, 0)
def zl_X_soon_L28 (Z : mZ) (m : Nat) (n : Nat) (x1 : Int) (x2 : Int) (s : mS) : Option (Int × mS) := runS Z TT Mi_84 scr0 (zenv_84 Z m) n 28 [(0, rv (some 0)), (1, iv x1), (2, iv x2)] [] s (0, 0)
def zf_X_soon (Z : mZ) (m : Nat) (a1 : Int) (s : mS) : Option (Int × mS) := zF_84 Z m [rv (some 0), iv a1] s
def Mi_86 : mM := (false, false, 0, 1, (0, 0), 1, rs_0, cd_86, [])
abbrev zenv_86 (Z : mZ) (m : Nat) : Nat → List mV → mS → Option (Int × mS) := fun j as s => none
def zF_86 (Z : mZ) (m : Nat) (as : List mV) (s : mS) : Option (Int × mS) := runS Z TT Mi_86 scr0 (zenv_86 Z m) (m + 1) 0 (ent 0 as) [] s (0, 0)
def zf_X_soonIn (Z : mZ) (m : Nat) (s : mS) : Option (Int × mS) := zF_86 Z m [rv (some 0)] s
def Mi_87 : mM := (false, false, 0, 5, (0, 0), 1, rs_0, cd_87, [(16, [0, 1, 2, 3])])
abbrev zenv_87 (Z : mZ) (m : Nat) : Nat → List mV → mS → Option (Int × mS) := fun j as s => none
def zF_87 (Z : mZ) (m : Nat) (as : List mV) (s : mS) : Option (Int × mS) := runS Z TT Mi_87 scr0 (zenv_87 Z m) (m + 1) 0 (ent 0 as) [] s (0, 0)
def zl_X_crowd_L16 (Z : mZ) (m : Nat) (n : Nat) (x1 : Int) (x2 : Int) (x3 : Int) (s : mS) : Option (Int × mS) := runS Z TT Mi_87 scr0 (zenv_87 Z m) n 16 [(0, rv (some 0)), (1, iv x1), (2, iv x2), (3, iv x3)] [] s (0, 0)
def zf_X_crowd (Z : mZ) (m : Nat) (a1 : Int) (s : mS) : Option (Int × mS) := zF_87 Z m [rv (some 0), iv a1] s
def Mi_89 : mM := (false, false, 0, 7, (0, 0), 1, rs_0, cd_89, [(5, [0, 1, 2, 3, 4])])
abbrev zenv_89 (Z : mZ) (m : Nat) : Nat → List mV → mS → Option (Int × mS) := fun j as s => none
def zF_89 (Z : mZ) (m : Nat) (as : List mV) (s : mS) : Option (Int × mS) := runS Z TT Mi_89 scr0 (zenv_89 Z m) (m + 1) 0 (ent 0 as) [] s (0, 0)
def zl_X_outOn_L5 (Z : mZ) (m : Nat) (n : Nat) (x1 : Int) (x2 : Int) (x3 : Int) (x4 : Int) (s : mS) : Option (Int × mS) := runS Z TT Mi_89 scr0 (zenv_89 Z m) n 5 [(0, rv (some 0)), (1, iv x1), (2, iv x2), (3, iv x3), (4, iv x4)] [] s (0, 0)
def zf_X_outOn (Z : mZ) (m : Nat) (a1 : Int) (a2 : Int) (s : mS) : Option (Int × mS) := zF_89 Z m [rv (some 0), iv a1, iv a2] s
def Mi_88 : mM := (false, false, 0, 5, (0, 0), 1, rs_0, cd_88, [(28, [0, 1, 2, 3, 4])])
abbrev zenv_88 (Z : mZ) (m : Nat) : Nat → List mV → mS → Option (Int × mS) := fun j as s => (bsel (Nat.beq j 51) (zF_51 Z m as s) (bsel (Nat.beq j 89) (zF_89 Z m as s) none))
def zF_88 (Z : mZ) (m : Nat) (as : List mV) (s : mS) : Option (Int × mS) := runS Z TT Mi_88 scr0 (zenv_88 Z m) (m + 1) 0 (ent 0 as) [] s (0, 0)
def zl_X_need_L28 (Z : mZ) (m : Nat) (n : Nat) (x1 : Int) (x2 : Int) (x3 : Int) (x4 : Int) (s : mS) : Option (Int × mS) := runS Z TT Mi_88 scr0 (zenv_88 Z m) n 28 [(0, rv (some 0)), (1, iv x1), (2, iv x2), (3, iv x3), (4, iv x4)] [] s (0, 0)
def zf_X_need (Z : mZ) (m : Nat) (a1 : Int) (a2 : Int) (s : mS) : Option (Int × mS) := zF_88 Z m [rv (some 0), iv a1, iv a2] s
def Mi_91 : mM := (false, false, 0, 7, (0, 0), 1, rs_0, cd_91, [(19, [0, 2, 3, 4, 5]), (39, [0, 2, 3, 4, 5])])
abbrev zenv_91 (Z : mZ) (m : Nat) : Nat → List mV → mS → Option (Int × mS) := fun j as s => (bsel (Nat.beq j 48) (zF_48 Z m as s) (bsel (Nat.beq j 61) (zF_61 Z m as s) none))
def zF_91 (Z : mZ) (m : Nat) (as : List mV) (s : mS) : Option (Int × mS) := runS Z TT Mi_91 scr0 (zenv_91 Z m) (m + 1) 0 (ent 0 as) [] s (0, 0)
def zl_X_ringFrom_L19 (Z : mZ) (m : Nat) (n : Nat) (x2 : Int) (x3 : Int) (x4 : Int) (x5 : Int) (s : mS) : Option (Int × mS) := runS Z TT Mi_91 scr0 (zenv_91 Z m) n 19 [(0, rv (some 0)), (2, iv x2), (3, iv x3), (4, iv x4), (5, iv x5)] [] s (0, 0)
def zl_X_ringFrom_L39 (Z : mZ) (m : Nat) (n : Nat) (x2 : Int) (x3 : Int) (x4 : Int) (x5 : Int) (s : mS) : Option (Int × mS) := runS Z TT Mi_91 scr0 (zenv_91 Z m) n 39 [(0, rv (some 0)), (2, iv x2), (3, iv x3), (4, iv x4), (5, iv x5)] [] s (0, 0)
def zf_X_ringFrom (Z : mZ) (m : Nat) (a1 : Int) (a2 : Int) (s : mS) : Option (Int × mS) := zF_91 Z m [rv (some 0), iv a1, iv a2] s
def Mi_90 : mM := (false, false, 0, 3, (0, 0), 1, rs_0, cd_90, [])
abbrev zenv_90 (Z : mZ) (m : Nat) : Nat → List mV → mS → Option (Int × mS) := fun j as s => (bsel (Nat.beq j 61) (zF_61 Z m as s) (bsel (Nat.beq j 91) (zF_91 Z m as s) none))
def zF_90 (Z : mZ) (m : Nat) (as : List mV) (s : mS) : Option (Int × mS) := runS Z TT Mi_90 scr0 (zenv_90 Z m) (m + 1) 0 (ent 0 as) [] s (0, 0)
def zf_X_ring (Z : mZ) (m : Nat) (a1 : Int) (s : mS) : Option (Int × mS) := zF_90 Z m [rv (some 0), iv a1] s
def Mi_92 : mM := (false, false, 0, 2, (0, 0), 1, rs_0, cd_92, [])
abbrev zenv_92 (Z : mZ) (m : Nat) : Nat → List mV → mS → Option (Int × mS) := fun j as s => none
def zF_92 (Z : mZ) (m : Nat) (as : List mV) (s : mS) : Option (Int × mS) := runS Z TT Mi_92 scr0 (zenv_92 Z m) (m + 1) 0 (ent 0 as) [] s (0, 0)
def zf_X_ringAt (Z : mZ) (m : Nat) (a1 : Int) (s : mS) : Option (Int × mS) := zF_92 Z m [rv (some 0), iv a1] s
def Mi_94 : mM := (false, false, 3, 1, (0, 0), 1, rs_8, cd_94, [])
abbrev zenv_94 (Z : mZ) (m : Nat) : Nat → List mV → mS → Option (Int × mS) := fun j as s => none
def zF_94 (Z : mZ) (m : Nat) (as : List mV) (s : mS) : Option (Int × mS) := runS Z TT Mi_94 scr0 (zenv_94 Z m) (m + 1) 0 (ent 0 as) [] s (0, 0)
def zf_Vs_allDead (Z : mZ) (m : Nat) (s : mS) : Option (Int × mS) := zF_94 Z m [rv (some 4)] s
def Mi_95 : mM := (false, false, 1, 2, (0, 0), 1, rs_7, cd_95, [])
abbrev zenv_95 (Z : mZ) (m : Nat) : Nat → List mV → mS → Option (Int × mS) := fun j as s => none
def zF_95 (Z : mZ) (m : Nat) (as : List mV) (s : mS) : Option (Int × mS) := runS Z TT Mi_95 scr0 (zenv_95 Z m) (m + 1) 0 (ent 0 as) [] s (0, 0)
def zf_Tp_byteOf (Z : mZ) (m : Nat) (a1 : Int) (s : mS) : Option (Int × mS) := zF_95 Z m [rv (some 1), iv a1] s
def Mi_97 : mM := (false, false, 0, 3, (0, 0), 1, rs_0, cd_97, [])
abbrev zenv_97 (Z : mZ) (m : Nat) : Nat → List mV → mS → Option (Int × mS) := fun j as s => none
def zF_97 (Z : mZ) (m : Nat) (as : List mV) (s : mS) : Option (Int × mS) := runS Z TT Mi_97 scr0 (zenv_97 Z m) (m + 1) 0 (ent 0 as) [] s (0, 0)
def zf_X_numberOf (Z : mZ) (m : Nat) (a1 : Int) (a2 : Int) (s : mS) : Option (Int × mS) := zF_97 Z m [rv (some 0), iv a1, iv a2] s
def Mi_96 : mM := (false, false, 0, 5, (0, 0), 1, rs_0, cd_96, [(5, [0, 1, 2, 3, 4])])
abbrev zenv_96 (Z : mZ) (m : Nat) : Nat → List mV → mS → Option (Int × mS) := fun j as s => (bsel (Nat.beq j 97) (zF_97 Z m as s) none)
def zF_96 (Z : mZ) (m : Nat) (as : List mV) (s : mS) : Option (Int × mS) := runS Z TT Mi_96 scr0 (zenv_96 Z m) (m + 1) 0 (ent 0 as) [] s (0, 0)
def zl_X_thoseWith_L5 (Z : mZ) (m : Nat) (n : Nat) (x1 : Int) (x2 : Int) (x3 : Int) (x4 : Int) (s : mS) : Option (Int × mS) := runS Z TT Mi_96 scr0 (zenv_96 Z m) n 5 [(0, rv (some 0)), (1, iv x1), (2, iv x2), (3, iv x3), (4, iv x4)] [] s (0, 0)
def zf_X_thoseWith (Z : mZ) (m : Nat) (a1 : Int) (a2 : Int) (s : mS) : Option (Int × mS) := zF_96 Z m [rv (some 0), iv a1, iv a2] s
def Mi_100 : mM := (false, false, 99, 1, (0, 0), 1, rs_15, cd_100, [])
abbrev zenv_100 (Z : mZ) (m : Nat) : Nat → List mV → mS → Option (Int × mS) := fun j as s => none
def zF_100 (Z : mZ) (m : Nat) (as : List mV) (s : mS) : Option (Int × mS) := runS Z TT Mi_100 scr0 (zenv_100 Z m) (m + 1) 0 (ent 0 as) [] s (0, 0)
def zf_Ji_bitCount (Z : mZ) (m : Nat) (a0 : Int) (s : mS) : Option (Int × mS) := zF_100 Z m [iv a0] s
def Mi_99 : mM := (false, false, 0, 6, (0, 0), 1, rs_0, cd_99, [(5, [0, 1, 2, 3, 4])])
abbrev zenv_99 (Z : mZ) (m : Nat) : Nat → List mV → mS → Option (Int × mS) := fun j as s => (bsel (Nat.beq j 51) (zF_51 Z m as s) (bsel (Nat.beq j 96) (zF_96 Z m as s) (bsel (Nat.beq j 97) (zF_97 Z m as s) (bsel (Nat.beq j 100) (zF_100 Z m as s) none))))
def zF_99 (Z : mZ) (m : Nat) (as : List mV) (s : mS) : Option (Int × mS) := runS Z TT Mi_99 scr0 (zenv_99 Z m) (m + 1) 0 (ent 0 as) [] s (0, 0)
def zl_X_greatestAlike_L5 (Z : mZ) (m : Nat) (n : Nat) (x1 : Int) (x2 : Int) (x3 : Int) (x4 : Int) (s : mS) : Option (Int × mS) := runS Z TT Mi_99 scr0 (zenv_99 Z m) n 5 [(0, rv (some 0)), (1, iv x1), (2, iv x2), (3, iv x3), (4, iv x4)] [] s (0, 0)
def zf_X_greatestAlike (Z : mZ) (m : Nat) (a1 : Int) (a2 : Int) (s : mS) : Option (Int × mS) := zF_99 Z m [rv (some 0), iv a1, iv a2] s
def Mi_98 : mM := (false, false, 0, 6, (0, 0), 1, rs_0, cd_98, [(8, [0, 1, 2, 3, 4])])
abbrev zenv_98 (Z : mZ) (m : Nat) : Nat → List mV → mS → Option (Int × mS) := fun j as s => (bsel (Nat.beq j 99) (zF_99 Z m as s) none)
def zF_98 (Z : mZ) (m : Nat) (as : List mV) (s : mS) : Option (Int × mS) := runS Z TT Mi_98 scr0 (zenv_98 Z m) (m + 1) 0 (ent 0 as) [] s (0, 0)
def zl_X_bestToAsk_L8 (Z : mZ) (m : Nat) (n : Nat) (x1 : Int) (x2 : Int) (x3 : Int) (x4 : Int) (s : mS) : Option (Int × mS) := runS Z TT Mi_98 scr0 (zenv_98 Z m) n 8 [(0, rv (some 0)), (1, iv x1), (2, iv x2), (3, iv x3), (4, iv x4)] [] s (0, 0)
def zf_X_bestToAsk (Z : mZ) (m : Nat) (a1 : Int) (s : mS) : Option (Int × mS) := zF_98 Z m [rv (some 0), iv a1] s
def Mi_93 : mM := (false, false, 0, 5, (0, 0), 1, rs_0, cd_93, [(48, [0, 1, 2, 3])])
abbrev zenv_93 (Z : mZ) (m : Nat) : Nat → List mV → mS → Option (Int × mS) := fun j as s => (bsel (Nat.beq j 94) (zF_94 Z m as s) (bsel (Nat.beq j 95) (zF_95 Z m as s) (bsel (Nat.beq j 96) (zF_96 Z m as s) (bsel (Nat.beq j 98) (zF_98 Z m as s) none))))
def zF_93 (Z : mZ) (m : Nat) (as : List mV) (s : mS) : Option (Int × mS) := runS Z TT Mi_93 scr0 (zenv_93 Z m) (m + 1) 0 (ent 0 as) [] s (0, 0)
def zl_X_who_L48 (Z : mZ) (m : Nat) (n : Nat) (x1 : Int) (x2 : Int) (x3 : Int) (s : mS) : Option (Int × mS) := runS Z TT Mi_93 scr0 (zenv_93 Z m) n 48 [(0, rv (some 0)), (1, iv x1), (2, iv x2), (3, iv x3)] [] s (0, 0)
def zf_X_who (Z : mZ) (m : Nat) (s : mS) : Option (Int × mS) := zF_93 Z m [rv (some 0)] s
def Mi_101 : mM := (false, false, 0, 1, (0, 0), 1, rs_0, cd_101, [])
abbrev zenv_101 (Z : mZ) (m : Nat) : Nat → List mV → mS → Option (Int × mS) := fun j as s => none
def zF_101 (Z : mZ) (m : Nat) (as : List mV) (s : mS) : Option (Int × mS) := runS Z TT Mi_101 scr0 (zenv_101 Z m) (m + 1) 0 (ent 0 as) [] s (0, 0)
def zf_X_ask (Z : mZ) (m : Nat) (s : mS) : Option (Int × mS) := zF_101 Z m [rv (some 0)] s
def Mi_103 : mM := (false, false, 3, 4, (0, 0), 1, rs_8, cd_103, [(4, [0, 1, 2, 3])])
abbrev zenv_103 (Z : mZ) (m : Nat) : Nat → List mV → mS → Option (Int × mS) := fun j as s => none
def zF_103 (Z : mZ) (m : Nat) (as : List mV) (s : mS) : Option (Int × mS) := runS Z TT Mi_103 scr0 (zenv_103 Z m) (m + 1) 0 (ent 0 as) [] s (0, 0)
def zl_Vs_kinOfAny_L4 (Z : mZ) (m : Nat) (n : Nat) (x1 : Int) (x2 : Int) (x3 : Int) (s : mS) : Option (Int × mS) := runS Z TT Mi_103 scr0 (zenv_103 Z m) n 4 [(0, rv (some 4)), (1, iv x1), (2, iv x2), (3, iv x3)] [] s (0, 0)
def zf_Vs_kinOfAny (Z : mZ) (m : Nat) (a1 : Int) (s : mS) : Option (Int × mS) := zF_103 Z m [rv (some 4), iv a1] s
def Mi_102 : mM := (false, false, 0, 5, (0, 0), 1, rs_0, cd_102, [(25, [0, 2, 3, 4])])
abbrev zenv_102 (Z : mZ) (m : Nat) : Nat → List mV → mS → Option (Int × mS) := fun j as s => (bsel (Nat.beq j 61) (zF_61 Z m as s) (bsel (Nat.beq j 103) (zF_103 Z m as s) none))
def zF_102 (Z : mZ) (m : Nat) (as : List mV) (s : mS) : Option (Int × mS) := runS Z TT Mi_102 scr0 (zenv_102 Z m) (m + 1) 0 (ent 0 as) [] s (0, 0)
def zl_X_near_L25 (Z : mZ) (m : Nat) (n : Nat) (x2 : Int) (x3 : Int) (x4 : Int) (s : mS) : Option (Int × mS) := runS Z TT Mi_102 scr0 (zenv_102 Z m) n 25 [(0, rv (some 0)), (2, iv x2), (3, iv x3), (4, iv x4)] [] s (0, 0)
def zf_X_near (Z : mZ) (m : Nat) (a1 : Int) (a2 : Int) (s : mS) : Option (Int × mS) := zF_102 Z m [rv (some 0), iv a1, iv a2] s
def Mi_104 : mM := (false, false, 0, 3, (0, 0), 1, rs_0, cd_104, [])
abbrev zenv_104 (Z : mZ) (m : Nat) : Nat → List mV → mS → Option (Int × mS) := fun j as s => (bsel (Nat.beq j 48) (zF_48 Z m as s) none)
def zF_104 (Z : mZ) (m : Nat) (as : List mV) (s : mS) : Option (Int × mS) := runS Z TT Mi_104 scr0 (zenv_104 Z m) (m + 1) 0 (ent 0 as) [] s (0, 0)
def zf_X_had (Z : mZ) (m : Nat) (a1 : Int) (a2 : Int) (s : mS) : Option (Int × mS) := zF_104 Z m [rv (some 0), iv a1, iv a2] s
def Mi_105 : mM := (false, false, 0, 4, (0, 0), 1, rs_0, cd_105, [(6, [0, 1, 2, 3])])
abbrev zenv_105 (Z : mZ) (m : Nat) : Nat → List mV → mS → Option (Int × mS) := fun j as s => none
def zF_105 (Z : mZ) (m : Nat) (as : List mV) (s : mS) : Option (Int × mS) := runS Z TT Mi_105 scr0 (zenv_105 Z m) (m + 1) 0 (ent 0 as) [] s (0, 0)
def zl_X_longest_L6 (Z : mZ) (m : Nat) (n : Nat) (x1 : Int) (x2 : Int) (x3 : Int) (s : mS) : Option (Int × mS) := runS Z TT Mi_105 scr0 (zenv_105 Z m) n 6 [(0, rv (some 0)), (1, iv x1), (2, iv x2), (3, iv x3)] [] s (0, 0)
def zf_X_longest (Z : mZ) (m : Nat) (s : mS) : Option (Int × mS) := zF_105 Z m [rv (some 0)] s
def Mi_108 : mM := (false, false, 0, 2, (0, 0), 0, rs_0, cd_108, [])
abbrev zenv_108 (Z : mZ) (m : Nat) : Nat → List mV → mS → Option (Int × mS) := fun j as s => none
def zF_108 (Z : mZ) (m : Nat) (as : List mV) (s : mS) : Option (Int × mS) := runS Z TT Mi_108 scr0 (zenv_108 Z m) (m + 1) 0 (ent 0 as) [] s (0, 0)
def zf_X_tagByte (Z : mZ) (m : Nat) (a1 : Int) (s : mS) : Option (Int × mS) := zF_108 Z m [rv (some 0), iv a1] s
def Mi_107 : mM := (false, false, 0, 5, (0, 0), 0, rs_0, cd_107, [(3, [0, 1, 3])])
abbrev zenv_107 (Z : mZ) (m : Nat) : Nat → List mV → mS → Option (Int × mS) := fun j as s => (bsel (Nat.beq j 108) (zF_108 Z m as s) none)
def zF_107 (Z : mZ) (m : Nat) (as : List mV) (s : mS) : Option (Int × mS) := runS Z TT Mi_107 scr0 (zenv_107 Z m) (m + 1) 0 (ent 0 as) [] s (0, 0)
def zl_X_tagName_L3 (Z : mZ) (m : Nat) (n : Nat) (x1 : Int) (x3 : Int) (s : mS) : Option (Int × mS) := runS Z TT Mi_107 scr0 (zenv_107 Z m) n 3 [(0, rv (some 0)), (1, jv x1), (3, iv x3)] [] s (0, 0)
def zf_X_tagName (Z : mZ) (m : Nat) (a1 : Int) (s : mS) : Option (Int × mS) := zF_107 Z m [rv (some 0), jv a1] s
def zF_110 (_ : mZ) (_ : Nat) (as : List mV) (s : mS) : Option (Int × mS) := match as with
  | [.inr (some t)] => some (((strB (t - 1200)).length : Int), s)
  | _ => none
def zf_Js_length_1200 (Z : mZ) (m : Nat) (s : mS) : Option (Int × mS) := zF_110 Z m [rv (some 1200)] s
def zf_Js_length_1201 (Z : mZ) (m : Nat) (s : mS) : Option (Int × mS) := zF_110 Z m [rv (some 1201)] s
def zf_Js_length_1202 (Z : mZ) (m : Nat) (s : mS) : Option (Int × mS) := zF_110 Z m [rv (some 1202)] s
def zf_Js_length_1203 (Z : mZ) (m : Nat) (s : mS) : Option (Int × mS) := zF_110 Z m [rv (some 1203)] s
def zF_112 (_ : mZ) (_ : Nat) (as : List mV) (s : mS) : Option (Int × mS) := match as with
  | [.inr (some t), .inl (.inl i)] => inR i (strB (t - 1200)).length (some ((strB (t - 1200)).getD i.toNat 0, s))
  | _ => none
def zf_Js_charAt_1200 (Z : mZ) (m : Nat) (a1 : Int) (s : mS) : Option (Int × mS) := zF_112 Z m [rv (some 1200), iv a1] s
def zf_Js_charAt_1201 (Z : mZ) (m : Nat) (a1 : Int) (s : mS) : Option (Int × mS) := zF_112 Z m [rv (some 1201), iv a1] s
def zf_Js_charAt_1202 (Z : mZ) (m : Nat) (a1 : Int) (s : mS) : Option (Int × mS) := zF_112 Z m [rv (some 1202), iv a1] s
def zf_Js_charAt_1203 (Z : mZ) (m : Nat) (a1 : Int) (s : mS) : Option (Int × mS) := zF_112 Z m [rv (some 1203), iv a1] s
def Mi_109 : mM := (false, false, 0, 3, (0, 0), 0, rs_0, cd_109, [(2, [0, 1, 2])])
abbrev zenv_109 (Z : mZ) (m : Nat) : Nat → List mV → mS → Option (Int × mS) := fun j as s => (bsel (Nat.beq j 108) (zF_108 Z m as s) (bsel (Nat.beq j 110) (zF_110 Z m as s) (bsel (Nat.beq j 112) (zF_112 Z m as s) none)))
def zF_109 (Z : mZ) (m : Nat) (as : List mV) (s : mS) : Option (Int × mS) := runS Z TT Mi_109 scr0 (zenv_109 Z m) (m + 1) 0 (ent 0 as) [] s (0, 0)
def zl_X_tagText_0_1200_L2 (Z : mZ) (m : Nat) (n : Nat) (x2 : Int) (s : mS) : Option (Int × mS) := runS Z TT Mi_109 scr0 (zenv_109 Z m) n 2 [(0, rv (some 0)), (1, rv (some 1200)), (2, iv x2)] [] s (0, 0)
def zf_X_tagText_0_1200 (Z : mZ) (m : Nat) (s : mS) : Option (Int × mS) := zF_109 Z m [rv (some 0), rv (some 1200)] s
def zl_X_tagText_0_1201_L2 (Z : mZ) (m : Nat) (n : Nat) (x2 : Int) (s : mS) : Option (Int × mS) := runS Z TT Mi_109 scr0 (zenv_109 Z m) n 2 [(0, rv (some 0)), (1, rv (some 1201)), (2, iv x2)] [] s (0, 0)
def zf_X_tagText_0_1201 (Z : mZ) (m : Nat) (s : mS) : Option (Int × mS) := zF_109 Z m [rv (some 0), rv (some 1201)] s
def zl_X_tagText_0_1202_L2 (Z : mZ) (m : Nat) (n : Nat) (x2 : Int) (s : mS) : Option (Int × mS) := runS Z TT Mi_109 scr0 (zenv_109 Z m) n 2 [(0, rv (some 0)), (1, rv (some 1202)), (2, iv x2)] [] s (0, 0)
def zf_X_tagText_0_1202 (Z : mZ) (m : Nat) (s : mS) : Option (Int × mS) := zF_109 Z m [rv (some 0), rv (some 1202)] s
def zl_X_tagText_0_1203_L2 (Z : mZ) (m : Nat) (n : Nat) (x2 : Int) (s : mS) : Option (Int × mS) := runS Z TT Mi_109 scr0 (zenv_109 Z m) n 2 [(0, rv (some 0)), (1, rv (some 1203)), (2, iv x2)] [] s (0, 0)
def zf_X_tagText_0_1203 (Z : mZ) (m : Nat) (s : mS) : Option (Int × mS) := zF_109 Z m [rv (some 0), rv (some 1203)] s
def Mi_106 : mM := (false, false, 0, 5, (0, 0), 1, rs_0, cd_106, [(139, [0, 2, 4])])
abbrev zenv_106 (Z : mZ) (m : Nat) : Nat → List mV → mS → Option (Int × mS) := fun j as s => (bsel (Nat.beq j 48) (zF_48 Z m as s) (bsel (Nat.beq j 53) (zF_53 Z m as s) (bsel (Nat.beq j 61) (zF_61 Z m as s) (bsel (Nat.beq j 107) (zF_107 Z m as s) (bsel (Nat.beq j 109) (zF_109 Z m as s) none)))))
def zF_106 (Z : mZ) (m : Nat) (as : List mV) (s : mS) : Option (Int × mS) := runS Z TT Mi_106 scr0 (zenv_106 Z m) (m + 1) 0 (ent 0 as) [] s (0, 0)
def zl_X_tag_L139 (Z : mZ) (m : Nat) (n : Nat) (x2 : Int) (x4 : Int) (s : mS) : Option (Int × mS) := runS Z TT Mi_106 scr0 (zenv_106 Z m) n 139 [(0, rv (some 0)), (2, iv x2), (4, iv x4)] [] s (0, 0)
def zf_X_tag (Z : mZ) (m : Nat) (a1 : Int) (s : mS) : Option (Int × mS) := zF_106 Z m [rv (some 0), iv a1] s
def Mi_121 : mM := (false, false, 0, 2, (0, 0), 1, rs_0, cd_121, [])
abbrev zenv_121 (Z : mZ) (m : Nat) : Nat → List mV → mS → Option (Int × mS) := fun j as s => none
def zF_121 (Z : mZ) (m : Nat) (as : List mV) (s : mS) : Option (Int × mS) := runS Z TT Mi_121 scr0 (zenv_121 Z m) (m + 1) 0 (ent 0 as) [] s (0, 0)
def zf_X_byteAt (Z : mZ) (m : Nat) (a1 : Int) (s : mS) : Option (Int × mS) := zF_121 Z m [rv (some 0), iv a1] s
def Mi_125 : mM := (false, false, 9, 2, (0, 0), 1, rs_2, cd_125, [])
abbrev zenv_125 (Z : mZ) (m : Nat) : Nat → List mV → mS → Option (Int × mS) := fun j as s => none
def zF_125 (Z : mZ) (m : Nat) (as : List mV) (s : mS) : Option (Int × mS) := runS Z TT Mi_125 scr0 (zenv_125 Z m) (m + 1) 0 (ent 0 as) [] s (0, 0)
def zf_Dr_draw (Z : mZ) (m : Nat) (a1 : Int) (s : mS) : Option (Int × mS) := zF_125 Z m [rv (some 245), iv a1] s
def Mi_124 : mM := (false, false, 9, 6, (0, 0), 0, rs_2, cd_124, [(65, [0, 1, 2, 3]), (136, [0, 1, 2, 3])])
abbrev zenv_124 (Z : mZ) (m : Nat) : Nat → List mV → mS → Option (Int × mS) := fun j as s => (bsel (Nat.beq j 63) (zF_63 Z m as s) (bsel (Nat.beq j 68) (zF_68 Z m as s) (bsel (Nat.beq j 70) (zF_70 Z m as s) (bsel (Nat.beq j 72) (zF_72 Z m as s) (bsel (Nat.beq j 125) (zF_125 Z m as s) none)))))
def zF_124 (Z : mZ) (m : Nat) (as : List mV) (s : mS) : Option (Int × mS) := runS Z TT Mi_124 scr0 (zenv_124 Z m) (m + 1) 0 (ent 0 as) [] s (0, 0)
def zl_Dr_actOnce_245_4_17_L65 (Z : mZ) (m : Nat) (n : Nat) (x3 : Int) (s : mS) : Option (Int × mS) := runS Z TT Mi_124 scr0 (zenv_124 Z m) n 65 [(0, rv (some 245)), (1, rv (some 4)), (2, rv (some 17)), (3, iv x3)] [] s (0, 0)
def zl_Dr_actOnce_245_4_17_L136 (Z : mZ) (m : Nat) (n : Nat) (x3 : Int) (s : mS) : Option (Int × mS) := runS Z TT Mi_124 scr0 (zenv_124 Z m) n 136 [(0, rv (some 245)), (1, rv (some 4)), (2, rv (some 17)), (3, iv x3)] [] s (0, 0)
def zf_Dr_actOnce_245_4_17 (Z : mZ) (m : Nat) (s : mS) : Option (Int × mS) := zF_124 Z m [rv (some 245), rv (some 4), rv (some 17)] s
def zl_Dr_actOnce_245_4_206_L65 (Z : mZ) (m : Nat) (n : Nat) (x3 : Int) (s : mS) : Option (Int × mS) := runS Z TT Mi_124 scr0 (zenv_124 Z m) n 65 [(0, rv (some 245)), (1, rv (some 4)), (2, rv (some 206)), (3, iv x3)] [] s (0, 0)
def zl_Dr_actOnce_245_4_206_L136 (Z : mZ) (m : Nat) (n : Nat) (x3 : Int) (s : mS) : Option (Int × mS) := runS Z TT Mi_124 scr0 (zenv_124 Z m) n 136 [(0, rv (some 245)), (1, rv (some 4)), (2, rv (some 206)), (3, iv x3)] [] s (0, 0)
def zf_Dr_actOnce_245_4_206 (Z : mZ) (m : Nat) (s : mS) : Option (Int × mS) := zF_124 Z m [rv (some 245), rv (some 4), rv (some 206)] s
def Mi_123 : mM := (false, false, 9, 6, (0, 0), 1, rs_2, cd_123, [(8, [0, 1, 3, 4, 5])])
abbrev zenv_123 (Z : mZ) (m : Nat) : Nat → List mV → mS → Option (Int × mS) := fun j as s => (bsel (Nat.beq j 74) (zF_74 Z m as s) (bsel (Nat.beq j 124) (zF_124 Z m as s) none))
def zF_123 (Z : mZ) (m : Nat) (as : List mV) (s : mS) : Option (Int × mS) := runS Z TT Mi_123 scr0 (zenv_123 Z m) (m + 1) 0 (ent 0 as) [] s (0, 0)
def zl_Dr_live_245_4_17_L8 (Z : mZ) (m : Nat) (n : Nat) (x1 : Int) (x5 : Int) (s : mS) : Option (Int × mS) := runS Z TT Mi_123 scr0 (zenv_123 Z m) n 8 [(0, rv (some 245)), (1, iv x1), (3, rv (some 4)), (4, rv (some 17)), (5, iv x5)] [] s (0, 0)
def zf_Dr_live_245_4_17 (Z : mZ) (m : Nat) (a1 : Int) (a2 : Int) (s : mS) : Option (Int × mS) := zF_123 Z m [rv (some 245), iv a1, iv a2, rv (some 4), rv (some 17)] s
def zl_Dr_live_245_4_206_L8 (Z : mZ) (m : Nat) (n : Nat) (x1 : Int) (x5 : Int) (s : mS) : Option (Int × mS) := runS Z TT Mi_123 scr0 (zenv_123 Z m) n 8 [(0, rv (some 245)), (1, iv x1), (3, rv (some 4)), (4, rv (some 206)), (5, iv x5)] [] s (0, 0)
def zf_Dr_live_245_4_206 (Z : mZ) (m : Nat) (a1 : Int) (a2 : Int) (s : mS) : Option (Int × mS) := zF_123 Z m [rv (some 245), iv a1, iv a2, rv (some 4), rv (some 206)] s
def Mi_122 : mM := (false, false, 0, 3, (0, 0), 1, rs_0, cd_122, [])
abbrev zenv_122 (Z : mZ) (m : Nat) : Nat → List mV → mS → Option (Int × mS) := fun j as s => (bsel (Nat.beq j 62) (zF_62 Z m as s) (bsel (Nat.beq j 75) (zF_75 Z m as s) (bsel (Nat.beq j 123) (zF_123 Z m as s) none)))
def zF_122 (Z : mZ) (m : Nat) (as : List mV) (s : mS) : Option (Int × mS) := runS Z TT Mi_122 scr0 (zenv_122 Z m) (m + 1) 0 (ent 0 as) [] s (0, 0)
def zf_X_drawn (Z : mZ) (m : Nat) (a1 : Int) (a2 : Int) (s : mS) : Option (Int × mS) := zF_122 Z m [rv (some 0), iv a1, iv a2] s
def Mi_126 : mM := (false, false, 0, 6, (0, 0), 1, rs_0, cd_126, [(27, [0, 1, 2, 3, 4, 5])])
abbrev zenv_126 (Z : mZ) (m : Nat) : Nat → List mV → mS → Option (Int × mS) := fun j as s => (bsel (Nat.beq j 61) (zF_61 Z m as s) (bsel (Nat.beq j 62) (zF_62 Z m as s) (bsel (Nat.beq j 123) (zF_123 Z m as s) none)))
def zF_126 (Z : mZ) (m : Nat) (as : List mV) (s : mS) : Option (Int × mS) := runS Z TT Mi_126 scr0 (zenv_126 Z m) (m + 1) 0 (ent 0 as) [] s (0, 0)
def zl_X_odds_L27 (Z : mZ) (m : Nat) (n : Nat) (x1 : Int) (x2 : Int) (x3 : Int) (x4 : Int) (x5 : Int) (s : mS) : Option (Int × mS) := runS Z TT Mi_126 scr0 (zenv_126 Z m) n 27 [(0, rv (some 0)), (1, iv x1), (2, iv x2), (3, iv x3), (4, iv x4), (5, iv x5)] [] s (0, 0)
def zf_X_odds (Z : mZ) (m : Nat) (a1 : Int) (a2 : Int) (a3 : Int) (s : mS) : Option (Int × mS) := zF_126 Z m [rv (some 0), iv a1, iv a2, iv a3] s
def Mi_130 : mM := (false, false, 7, 2, (0, 0), 1, rs_1, cd_130, [])
abbrev zenv_130 (Z : mZ) (m : Nat) : Nat → List mV → mS → Option (Int × mS) := fun j as s => (bsel (Nat.beq j 26) (zF_26 Z m as s) none)
def zF_130 (Z : mZ) (m : Nat) (as : List mV) (s : mS) : Option (Int × mS) := runS Z TT Mi_130 scr0 (zenv_130 Z m) (m + 1) 0 (ent 0 as) [] s (0, 0)
def zf_Bk_actOf (Z : mZ) (m : Nat) (s : mS) : Option (Int × mS) := zF_130 Z m [rv (some 1)] s
def Mi_131 : mM := (false, false, 7, 3, (0, 0), 4, rs_1, cd_131, [])
abbrev zenv_131 (Z : mZ) (m : Nat) : Nat → List mV → mS → Option (Int × mS) := fun j as s => (bsel (Nat.beq j 19) (zF_19 Z m as s) (bsel (Nat.beq j 25) (zF_25 Z m as s) (bsel (Nat.beq j 36) (zF_36 Z m as s) none)))
def zF_131 (Z : mZ) (m : Nat) (as : List mV) (s : mS) : Option (Int × mS) := runS Z TT Mi_131 scr0 (zenv_131 Z m) (m + 1) 0 (ent 0 as) [] s (0, 0)
def zf_Bk_readOther (Z : mZ) (m : Nat) (s : mS) : Option (Int × mS) := zF_131 Z m [rv (some 237), rv (some 1), rv (some 4)] s
def Mi_132 : mM := (false, false, 3, 3, (0, 0), 1, rs_8, cd_132, [])
abbrev zenv_132 (Z : mZ) (m : Nat) : Nat → List mV → mS → Option (Int × mS) := fun j as s => (bsel (Nat.beq j 19) (zF_19 Z m as s) (bsel (Nat.beq j 35) (zF_35 Z m as s) none))
def zF_132 (Z : mZ) (m : Nat) (as : List mV) (s : mS) : Option (Int × mS) := runS Z TT Mi_132 scr0 (zenv_132 Z m) (m + 1) 0 (ent 0 as) [] s (0, 0)
def zf_Vs_takePlot (Z : mZ) (m : Nat) (s : mS) : Option (Int × mS) := zF_132 Z m [rv (some 4), rv (some 1)] s
def Mi_129 : mM := (false, false, 7, 4, (0, 0), 4, rs_1, cd_129, [(111, [0, 1, 2, 3])])
abbrev zenv_129 (Z : mZ) (m : Nat) : Nat → List mV → mS → Option (Int × mS) := fun j as s => (bsel (Nat.beq j 19) (zF_19 Z m as s) (bsel (Nat.beq j 25) (zF_25 Z m as s) (bsel (Nat.beq j 30) (zF_30 Z m as s) (bsel (Nat.beq j 34) (zF_34 Z m as s) (bsel (Nat.beq j 39) (zF_39 Z m as s) (bsel (Nat.beq j 130) (zF_130 Z m as s) (bsel (Nat.beq j 131) (zF_131 Z m as s) (bsel (Nat.beq j 132) (zF_132 Z m as s) none))))))))
def zF_129 (Z : mZ) (m : Nat) (as : List mV) (s : mS) : Option (Int × mS) := runS Z TT Mi_129 scr0 (zenv_129 Z m) (m + 1) 0 (ent 0 as) [] s (0, 0)
def zl_Bk_readLine_L111 (Z : mZ) (m : Nat) (n : Nat) (x3 : Int) (y1 : Int) (y2 : Int) (s : mS) : Option (Int × mS) := runS Z TT Mi_129 scr0 (zenv_129 Z m) n 111 [(0, rv (some 237)), (1, rv (some 1)), (2, rv (some 4)), (3, iv x3)] [iv y2, iv y1, rv (some 239)] s (0, 0)
def zf_Bk_readLine (Z : mZ) (m : Nat) (s : mS) : Option (Int × mS) := zF_129 Z m [rv (some 237), rv (some 1), rv (some 4)] s
def Mi_128 : mM := (false, false, 7, 4, (0, 0), 0, rs_1, cd_128, [(7, [0, 1, 2, 3])])
abbrev zenv_128 (Z : mZ) (m : Nat) : Nat → List mV → mS → Option (Int × mS) := fun j as s => (bsel (Nat.beq j 42) (zF_42 Z m as s) (bsel (Nat.beq j 129) (zF_129 Z m as s) none))
def zF_128 (Z : mZ) (m : Nat) (as : List mV) (s : mS) : Option (Int × mS) := runS Z TT Mi_128 scr0 (zenv_128 Z m) (m + 1) 0 (ent 0 as) [] s (0, 0)
def zl_Bk_readFrom_L7 (Z : mZ) (m : Nat) (n : Nat) (x3 : Int) (s : mS) : Option (Int × mS) := runS Z TT Mi_128 scr0 (zenv_128 Z m) n 7 [(0, rv (some 237)), (1, rv (some 1)), (2, rv (some 4)), (3, iv x3)] [] s (0, 0)
def zf_Bk_readFrom (Z : mZ) (m : Nat) (s : mS) : Option (Int × mS) := zF_128 Z m [rv (some 237), rv (some 1), rv (some 4)] s
def Mi_135 : mM := (false, false, 7, 4, (0, 0), 1, rs_1, cd_135, [])
abbrev zenv_135 (Z : mZ) (m : Nat) : Nat → List mV → mS → Option (Int × mS) := fun j as s => (bsel (Nat.beq j 63) (zF_63 Z m as s) (bsel (Nat.beq j 68) (zF_68 Z m as s) (bsel (Nat.beq j 70) (zF_70 Z m as s) (bsel (Nat.beq j 72) (zF_72 Z m as s) (bsel (Nat.beq j 74) (zF_74 Z m as s) none)))))
def zF_135 (Z : mZ) (m : Nat) (as : List mV) (s : mS) : Option (Int × mS) := runS Z TT Mi_135 scr0 (zenv_135 Z m) (m + 1) 0 (ent 0 as) [] s (0, 0)
def zf_Bk_liveAct (Z : mZ) (m : Nat) (a1 : Int) (s : mS) : Option (Int × mS) := zF_135 Z m [rv (some 237), iv a1, rv (some 4), rv (some 206)] s
def Mi_134 : mM := (false, false, 7, 5, (0, 0), 1, rs_1, cd_134, [])
abbrev zenv_134 (Z : mZ) (m : Nat) : Nat → List mV → mS → Option (Int × mS) := fun j as s => (bsel (Nat.beq j 135) (zF_135 Z m as s) none)
def zF_134 (Z : mZ) (m : Nat) (as : List mV) (s : mS) : Option (Int × mS) := runS Z TT Mi_134 scr0 (zenv_134 Z m) (m + 1) 0 (ent 0 as) [] s (0, 0)
def zf_Bk_liveLine (Z : mZ) (m : Nat) (a1 : Int) (s : mS) : Option (Int × mS) := zF_134 Z m [rv (some 237), iv a1, rv (some 4), rv (some 206)] s
def Mi_133 : mM := (false, false, 0, 3, (0, 0), 1, rs_0, cd_133, [(4, [0, 1, 2]), (49, [0, 1, 2])])
abbrev zenv_133 (Z : mZ) (m : Nat) : Nat → List mV → mS → Option (Int × mS) := fun j as s => (bsel (Nat.beq j 55) (zF_55 Z m as s) (bsel (Nat.beq j 134) (zF_134 Z m as s) none))
def zF_133 (Z : mZ) (m : Nat) (as : List mV) (s : mS) : Option (Int × mS) := runS Z TT Mi_133 scr0 (zenv_133 Z m) (m + 1) 0 (ent 0 as) [] s (0, 0)
def zl_X_judge_L4 (Z : mZ) (m : Nat) (n : Nat) (x1 : Int) (x2 : Int) (s : mS) : Option (Int × mS) := runS Z TT Mi_133 scr0 (zenv_133 Z m) n 4 [(0, rv (some 0)), (1, iv x1), (2, iv x2)] [] s (0, 0)
def zl_X_judge_L49 (Z : mZ) (m : Nat) (n : Nat) (x1 : Int) (x2 : Int) (s : mS) : Option (Int × mS) := runS Z TT Mi_133 scr0 (zenv_133 Z m) n 49 [(0, rv (some 0)), (1, iv x1), (2, iv x2)] [] s (0, 0)
def zf_X_judge (Z : mZ) (m : Nat) (s : mS) : Option (Int × mS) := zF_133 Z m [rv (some 0)] s
def Mi_127 : mM := (false, false, 0, 3, (0, 0), 1, rs_0, cd_127, [])
abbrev zenv_127 (Z : mZ) (m : Nat) : Nat → List mV → mS → Option (Int × mS) := fun j as s => (bsel (Nat.beq j 18) (zF_18 Z m as s) (bsel (Nat.beq j 62) (zF_62 Z m as s) (bsel (Nat.beq j 66) (zF_66 Z m as s) (bsel (Nat.beq j 128) (zF_128 Z m as s) (bsel (Nat.beq j 133) (zF_133 Z m as s) none)))))
def zF_127 (Z : mZ) (m : Nat) (as : List mV) (s : mS) : Option (Int × mS) := runS Z TT Mi_127 scr0 (zenv_127 Z m) (m + 1) 0 (ent 0 as) [] s (0, 0)
def zf_X_book (Z : mZ) (m : Nat) (a1 : Int) (s : mS) : Option (Int × mS) := zF_127 Z m [rv (some 0), iv a1] s
def Mi_136 : mM := (false, false, 0, 2, (0, 0), 1, rs_0, cd_136, [])
abbrev zenv_136 (Z : mZ) (m : Nat) : Nat → List mV → mS → Option (Int × mS) := fun j as s => none
def zF_136 (Z : mZ) (m : Nat) (as : List mV) (s : mS) : Option (Int × mS) := runS Z TT Mi_136 scr0 (zenv_136 Z m) (m + 1) 0 (ent 0 as) [] s (0, 0)
def zf_X_told (Z : mZ) (m : Nat) (a1 : Int) (s : mS) : Option (Int × mS) := zF_136 Z m [rv (some 0), iv a1] s
def Mi_141 : mM := (false, false, 5, 1, (0, 0), 4, rs_5, cd_141, [])
abbrev zenv_141 (Z : mZ) (m : Nat) : Nat → List mV → mS → Option (Int × mS) := fun j as s => (bsel (Nat.beq j 26) (zF_26 Z m as s) none)
def zF_141 (Z : mZ) (m : Nat) (as : List mV) (s : mS) : Option (Int × mS) := runS Z TT Mi_141 scr0 (zenv_141 Z m) (m + 1) 0 (ent 0 as) [] s (0, 0)
def zf_Sn_beginsOne (Z : mZ) (m : Nat) (q0 : Option Nat) (s : mS) : Option (Int × mS) := zF_141 Z m [rv q0] s
def Mi_142 : mM := (false, false, 5, 4, (0, 0), 4, rs_5, cd_142, [])
abbrev zenv_142 (Z : mZ) (m : Nat) : Nat → List mV → mS → Option (Int × mS) := fun j as s => none
def zF_142 (Z : mZ) (m : Nat) (as : List mV) (s : mS) : Option (Int × mS) := runS Z TT Mi_142 scr0 (zenv_142 Z m) (m + 1) 0 (ent 0 as) [] s (0, 0)
def zf_Sn_put (Z : mZ) (m : Nat) (a1 : Int) (a2 : Int) (a3 : Int) (s : mS) : Option (Int × mS) := zF_142 Z m [rv (some 232), iv a1, iv a2, iv a3] s
def Mi_144 : mM := (false, false, 5, 1, (0, 0), 1, rs_5, cd_144, [])
abbrev zenv_144 (Z : mZ) (m : Nat) : Nat → List mV → mS → Option (Int × mS) := fun j as s => none
def zF_144 (Z : mZ) (m : Nat) (as : List mV) (s : mS) : Option (Int × mS) := runS Z TT Mi_144 scr0 (zenv_144 Z m) (m + 1) 0 (ent 0 as) [] s (0, 0)
def zf_Sn_partOf (Z : mZ) (m : Nat) (q0 : Option Nat) (s : mS) : Option (Int × mS) := zF_144 Z m [rv q0] s
def Mi_145 : mM := (false, false, 5, 1, (0, 0), 1, rs_5, cd_145, [])
abbrev zenv_145 (Z : mZ) (m : Nat) : Nat → List mV → mS → Option (Int × mS) := fun j as s => none
def zF_145 (Z : mZ) (m : Nat) (as : List mV) (s : mS) : Option (Int × mS) := runS Z TT Mi_145 scr0 (zenv_145 Z m) (m + 1) 0 (ent 0 as) [] s (0, 0)
def zf_Sn_howOf (Z : mZ) (m : Nat) (q0 : Option Nat) (s : mS) : Option (Int × mS) := zF_145 Z m [rv q0] s
def Mi_143 : mM := (false, false, 5, 7, (0, 0), 4, rs_5, cd_143, [(35, [0, 2, 3, 4])])
abbrev zenv_143 (Z : mZ) (m : Nat) : Nat → List mV → mS → Option (Int × mS) := fun j as s => (bsel (Nat.beq j 19) (zF_19 Z m as s) (bsel (Nat.beq j 25) (zF_25 Z m as s) (bsel (Nat.beq j 30) (zF_30 Z m as s) (bsel (Nat.beq j 34) (zF_34 Z m as s) (bsel (Nat.beq j 39) (zF_39 Z m as s) (bsel (Nat.beq j 142) (zF_142 Z m as s) (bsel (Nat.beq j 144) (zF_144 Z m as s) (bsel (Nat.beq j 145) (zF_145 Z m as s) none))))))))
def zF_143 (Z : mZ) (m : Nat) (as : List mV) (s : mS) : Option (Int × mS) := runS Z TT Mi_143 scr0 (zenv_143 Z m) (m + 1) 0 (ent 0 as) [] s (0, 0)
def zl_Sn_readPlain_L35 (Z : mZ) (m : Nat) (n : Nat) (x4 : Int) (s : mS) : Option (Int × mS) := runS Z TT Mi_143 scr0 (zenv_143 Z m) n 35 [(0, rv (some 232)), (2, rv (some 1)), (3, rv (some 4)), (4, iv x4)] [] s (0, 0)
def zf_Sn_readPlain (Z : mZ) (m : Nat) (q1 : Option Nat) (s : mS) : Option (Int × mS) := zF_143 Z m [rv (some 232), rv q1, rv (some 1), rv (some 4)] s
def Mi_146 : mM := (false, false, 1, 2, (0, 0), 4, rs_7, cd_146, [])
abbrev zenv_146 (Z : mZ) (m : Nat) : Nat → List mV → mS → Option (Int × mS) := fun j as s => none
def zF_146 (Z : mZ) (m : Nat) (as : List mV) (s : mS) : Option (Int × mS) := runS Z TT Mi_146 scr0 (zenv_146 Z m) (m + 1) 0 (ent 0 as) [] s (0, 0)
def zf_Tp_isWord_1_1013 (Z : mZ) (m : Nat) (s : mS) : Option (Int × mS) := zF_146 Z m [rv (some 1), rv (some 1013)] s
def zf_Tp_isWord_1_1012 (Z : mZ) (m : Nat) (s : mS) : Option (Int × mS) := zF_146 Z m [rv (some 1), rv (some 1012)] s
def Mi_138 : mM := (false, false, 5, 5, (0, 0), 4, rs_5, cd_138, [(15, [0, 1, 2, 3, 4])])
def Mi_139 : mM := (false, false, 5, 5, (0, 0), 4, rs_5, cd_139, [(15, [0, 1, 2, 3, 4])])
def Mi_140 : mM := (false, false, 5, 6, (0, 0), 4, rs_5, cd_140, [(41, [0, 1, 2, 3, 4, 5])])
def zFg_138 (Z : mZ) (m : Nat) : Nat → Nat → List mV → mS → Option (Int × mS)
  | 0, _, _, _ => none
  | d + 1, j, as, s => bsel (Nat.beq j 138) (runS Z TT Mi_138 scr0 (fun j as s => (bsel (Nat.beq j 19) (zF_19 Z m as s) (bsel (Nat.beq j 139) (zFg_138 Z m d 139 as s) (bsel (Nat.beq j 142) (zF_142 Z m as s) (bsel (Nat.beq j 146) (zF_146 Z m as s) none))))) (m + 1) 0 (ent 0 as) [] s (0, 0)) (bsel (Nat.beq j 139) (runS Z TT Mi_139 scr0 (fun j as s => (bsel (Nat.beq j 19) (zF_19 Z m as s) (bsel (Nat.beq j 140) (zFg_138 Z m d 140 as s) (bsel (Nat.beq j 142) (zF_142 Z m as s) (bsel (Nat.beq j 146) (zF_146 Z m as s) none))))) (m + 1) 0 (ent 0 as) [] s (0, 0)) (bsel (Nat.beq j 140) (runS Z TT Mi_140 scr0 (fun j as s => (bsel (Nat.beq j 19) (zF_19 Z m as s) (bsel (Nat.beq j 25) (zF_25 Z m as s) (bsel (Nat.beq j 42) (zF_42 Z m as s) (bsel (Nat.beq j 138) (zFg_138 Z m d 138 as s) (bsel (Nat.beq j 140) (zFg_138 Z m d 140 as s) (bsel (Nat.beq j 141) (zF_141 Z m as s) (bsel (Nat.beq j 142) (zF_142 Z m as s) (bsel (Nat.beq j 143) (zF_143 Z m as s) none))))))))) (m + 1) 0 (ent 0 as) [] s (0, 0)) (none)))
abbrev zenv_138 (Z : mZ) (m d : Nat) : Nat → List mV → mS → Option (Int × mS) := fun j as s => (bsel (Nat.beq j 19) (zF_19 Z m as s) (bsel (Nat.beq j 139) (zFg_138 Z m d 139 as s) (bsel (Nat.beq j 142) (zF_142 Z m as s) (bsel (Nat.beq j 146) (zF_146 Z m as s) none))))
abbrev zenv_139 (Z : mZ) (m d : Nat) : Nat → List mV → mS → Option (Int × mS) := fun j as s => (bsel (Nat.beq j 19) (zF_19 Z m as s) (bsel (Nat.beq j 140) (zFg_138 Z m d 140 as s) (bsel (Nat.beq j 142) (zF_142 Z m as s) (bsel (Nat.beq j 146) (zF_146 Z m as s) none))))
abbrev zenv_140 (Z : mZ) (m d : Nat) : Nat → List mV → mS → Option (Int × mS) := fun j as s => (bsel (Nat.beq j 19) (zF_19 Z m as s) (bsel (Nat.beq j 25) (zF_25 Z m as s) (bsel (Nat.beq j 42) (zF_42 Z m as s) (bsel (Nat.beq j 138) (zFg_138 Z m d 138 as s) (bsel (Nat.beq j 140) (zFg_138 Z m d 140 as s) (bsel (Nat.beq j 141) (zF_141 Z m as s) (bsel (Nat.beq j 142) (zF_142 Z m as s) (bsel (Nat.beq j 143) (zF_143 Z m as s) none))))))))
def zl_Sn_readCond_L15 (Z : mZ) (m : Nat) (d : Nat) (n : Nat) (x3 : Int) (x4 : Int) (s : mS) : Option (Int × mS) := runS Z TT Mi_138 scr0 (zenv_138 Z m d) n 15 [(0, rv (some 232)), (1, rv (some 1)), (2, rv (some 4)), (3, iv x3), (4, iv x4)] [] s (0, 0)
def zf_Sn_readCond (Z : mZ) (m : Nat) (d : Nat) (a3 : Int) (s : mS) : Option (Int × mS) := zFg_138 Z m d 138 [rv (some 232), rv (some 1), rv (some 4), iv a3] s
def zl_Sn_readEach_L15 (Z : mZ) (m : Nat) (d : Nat) (n : Nat) (x3 : Int) (x4 : Int) (s : mS) : Option (Int × mS) := runS Z TT Mi_139 scr0 (zenv_139 Z m d) n 15 [(0, rv (some 232)), (1, rv (some 1)), (2, rv (some 4)), (3, iv x3), (4, iv x4)] [] s (0, 0)
def zf_Sn_readEach (Z : mZ) (m : Nat) (d : Nat) (a3 : Int) (s : mS) : Option (Int × mS) := zFg_138 Z m d 139 [rv (some 232), rv (some 1), rv (some 4), iv a3] s
def zl_Sn_readOne_L41 (Z : mZ) (m : Nat) (d : Nat) (n : Nat) (x3 : Int) (q4 : Option Nat) (x5 : Int) (s : mS) : Option (Int × mS) := runS Z TT Mi_140 scr0 (zenv_140 Z m d) n 41 [(0, rv (some 232)), (1, rv (some 1)), (2, rv (some 4)), (3, iv x3), (4, rv q4), (5, iv x5)] [] s (0, 0)
def zf_Sn_readOne (Z : mZ) (m : Nat) (d : Nat) (a3 : Int) (s : mS) : Option (Int × mS) := zFg_138 Z m d 140 [rv (some 232), rv (some 1), rv (some 4), iv a3] s
def Mi_147 : mM := (false, false, 5, 2, (0, 0), 0, rs_5, cd_147, [])
abbrev zenv_147 (Z : mZ) (m : Nat) : Nat → List mV → mS → Option (Int × mS) := fun j as s => none
def zF_147 (Z : mZ) (m : Nat) (as : List mV) (s : mS) : Option (Int × mS) := runS Z TT Mi_147 scr0 (zenv_147 Z m) (m + 1) 0 (ent 0 as) [] s (0, 0)
def zf_Sn_copyOf_30_232 (Z : mZ) (m : Nat) (s : mS) : Option (Int × mS) := zF_147 Z m [rv (some 30), rv (some 232)] s
def zf_Sn_copyOf_63_30 (Z : mZ) (m : Nat) (s : mS) : Option (Int × mS) := zF_147 Z m [rv (some 63), rv (some 30)] s
def zf_Sn_copyOf_95_30 (Z : mZ) (m : Nat) (s : mS) : Option (Int × mS) := zF_147 Z m [rv (some 95), rv (some 30)] s
def zf_Sn_copyOf_30_63 (Z : mZ) (m : Nat) (s : mS) : Option (Int × mS) := zF_147 Z m [rv (some 30), rv (some 63)] s
def zf_Sn_copyOf_30_95 (Z : mZ) (m : Nat) (s : mS) : Option (Int × mS) := zF_147 Z m [rv (some 30), rv (some 95)] s
def Mi_137 : mM := (false, false, 0, 1, (0, 0), 1, rs_0, cd_137, [])
abbrev zenv_137 (Z : mZ) (m : Nat) : Nat → List mV → mS → Option (Int × mS) := fun j as s => (bsel (Nat.beq j 18) (zF_18 Z m as s) (bsel (Nat.beq j 25) (zF_25 Z m as s) (bsel (Nat.beq j 44) (zF_44 Z m as s) (bsel (Nat.beq j 138) (zFg_138 Z m 64 138 as s) (bsel (Nat.beq j 147) (zF_147 Z m as s) none)))))
def zF_137 (Z : mZ) (m : Nat) (as : List mV) (s : mS) : Option (Int × mS) := runS Z TT Mi_137 scr0 (zenv_137 Z m) (m + 1) 0 (ent 0 as) [] s (0, 0)
def zf_X_sentence (Z : mZ) (m : Nat) (s : mS) : Option (Int × mS) := zF_137 Z m [rv (some 0)] s
def Mi_152 : mM := (false, false, 5, 3, (0, 0), 4, rs_5, cd_152, [])
abbrev zenv_152 (Z : mZ) (m : Nat) : Nat → List mV → mS → Option (Int × mS) := fun j as s => none
def zF_152 (Z : mZ) (m : Nat) (as : List mV) (s : mS) : Option (Int × mS) := runS Z TT Mi_152 scr0 (zenv_152 Z m) (m + 1) 0 (ent 0 as) [] s (0, 0)
def zf_Sn_compares (Z : mZ) (m : Nat) (a1 : Int) (a2 : Int) (s : mS) : Option (Int × mS) := zF_152 Z m [rv (some 30), iv a1, iv a2] s
def Mi_151 : mM := (false, false, 5, 5, (0, 0), 4, rs_5, cd_151, [])
abbrev zenv_151 (Z : mZ) (m : Nat) : Nat → List mV → mS → Option (Int × mS) := fun j as s => (bsel (Nat.beq j 37) (zF_37 Z m as s) (bsel (Nat.beq j 152) (zF_152 Z m as s) none))
def zF_151 (Z : mZ) (m : Nat) (as : List mV) (s : mS) : Option (Int × mS) := runS Z TT Mi_151 scr0 (zenv_151 Z m) (m + 1) 0 (ent 0 as) [] s (0, 0)
def zf_Sn_isSo (Z : mZ) (m : Nat) (a1 : Int) (a2 : Int) (s : mS) : Option (Int × mS) := zF_151 Z m [rv (some 30), iv a1, iv a2, rv (some 4), rv (some 17)] s
def Mi_150 : mM := (false, false, 5, 6, (0, 0), 1, rs_5, cd_150, [(6, [0, 1, 2, 3, 4, 5])])
abbrev zenv_150 (Z : mZ) (m : Nat) : Nat → List mV → mS → Option (Int × mS) := fun j as s => (bsel (Nat.beq j 151) (zF_151 Z m as s) none)
def zF_150 (Z : mZ) (m : Nat) (as : List mV) (s : mS) : Option (Int × mS) := runS Z TT Mi_150 scr0 (zenv_150 Z m) (m + 1) 0 (ent 0 as) [] s (0, 0)
def zl_Sn_thoseBy_L6 (Z : mZ) (m : Nat) (n : Nat) (x1 : Int) (x4 : Int) (x5 : Int) (s : mS) : Option (Int × mS) := runS Z TT Mi_150 scr0 (zenv_150 Z m) n 6 [(0, rv (some 30)), (1, iv x1), (2, rv (some 4)), (3, rv (some 17)), (4, iv x4), (5, iv x5)] [] s (0, 0)
def zf_Sn_thoseBy (Z : mZ) (m : Nat) (a1 : Int) (s : mS) : Option (Int × mS) := zF_150 Z m [rv (some 30), iv a1, rv (some 4), rv (some 17)] s
def Mi_149 : mM := (false, false, 5, 5, (0, 0), 1, rs_5, cd_149, [(5, [0, 1, 2, 3, 4]), (46, [0, 1, 2, 3, 4]), (85, [0, 1, 2, 3, 4])])
abbrev zenv_149 (Z : mZ) (m : Nat) : Nat → List mV → mS → Option (Int × mS) := fun j as s => (bsel (Nat.beq j 94) (zF_94 Z m as s) (bsel (Nat.beq j 150) (zF_150 Z m as s) none))
def zF_149 (Z : mZ) (m : Nat) (as : List mV) (s : mS) : Option (Int × mS) := runS Z TT Mi_149 scr0 (zenv_149 Z m) (m + 1) 0 (ent 0 as) [] s (0, 0)
def zl_Sn_saidOf_L5 (Z : mZ) (m : Nat) (n : Nat) (x3 : Int) (x4 : Int) (s : mS) : Option (Int × mS) := runS Z TT Mi_149 scr0 (zenv_149 Z m) n 5 [(0, rv (some 30)), (1, rv (some 4)), (2, rv (some 17)), (3, iv x3), (4, iv x4)] [] s (0, 0)
def zl_Sn_saidOf_L46 (Z : mZ) (m : Nat) (n : Nat) (x3 : Int) (x4 : Int) (s : mS) : Option (Int × mS) := runS Z TT Mi_149 scr0 (zenv_149 Z m) n 46 [(0, rv (some 30)), (1, rv (some 4)), (2, rv (some 17)), (3, iv x3), (4, iv x4)] [] s (0, 0)
def zl_Sn_saidOf_L85 (Z : mZ) (m : Nat) (n : Nat) (x3 : Int) (x4 : Int) (s : mS) : Option (Int × mS) := runS Z TT Mi_149 scr0 (zenv_149 Z m) n 85 [(0, rv (some 30)), (1, rv (some 4)), (2, rv (some 17)), (3, iv x3), (4, iv x4)] [] s (0, 0)
def zf_Sn_saidOf (Z : mZ) (m : Nat) (s : mS) : Option (Int × mS) := zF_149 Z m [rv (some 30), rv (some 4), rv (some 17)] s
def Mi_148 : mM := (false, false, 0, 5, (0, 0), 1, rs_0, cd_148, [(60, [1, 2, 3, 4])])
abbrev zenv_148 (Z : mZ) (m : Nat) : Nat → List mV → mS → Option (Int × mS) := fun j as s => (bsel (Nat.beq j 100) (zF_100 Z m as s) (bsel (Nat.beq j 149) (zF_149 Z m as s) none))
def zF_148 (Z : mZ) (m : Nat) (as : List mV) (s : mS) : Option (Int × mS) := runS Z TT Mi_148 scr0 (zenv_148 Z m) (m + 1) 0 (ent 0 as) [] s (0, 0)
def zl_X_said_L60 (Z : mZ) (m : Nat) (n : Nat) (x1 : Int) (x2 : Int) (x3 : Int) (x4 : Int) (s : mS) : Option (Int × mS) := runS Z TT Mi_148 scr0 (zenv_148 Z m) n 60 [(1, iv x1), (2, iv x2), (3, iv x3), (4, iv x4)] [] s (0, 0)
def zf_X_said (Z : mZ) (m : Nat) (a1 : Int) (s : mS) : Option (Int × mS) := zF_148 Z m [rv (some 0), iv a1] s
def Mi_154 : mM := (false, false, 2, 2, (0, 0), 0, rs_10, cd_154, [])
abbrev zenv_154 (Z : mZ) (m : Nat) : Nat → List mV → mS → Option (Int × mS) := fun j as s => (bsel (Nat.beq j 43) (zF_43 Z m as s) (bsel (Nat.beq j 62) (zF_62 Z m as s) (bsel (Nat.beq j 147) (zF_147 Z m as s) none)))
def zF_154 (Z : mZ) (m : Nat) (as : List mV) (s : mS) : Option (Int × mS) := runS Z TT Mi_154 scr0 (zenv_154 Z m) (m + 1) 0 (ent 0 as) [] s (0, 0)
def zf_Wd_copyOf_36_3 (Z : mZ) (m : Nat) (s : mS) : Option (Int × mS) := zF_154 Z m [rv (some 36), rv (some 3)] s
def zf_Wd_copyOf_68_3 (Z : mZ) (m : Nat) (s : mS) : Option (Int × mS) := zF_154 Z m [rv (some 68), rv (some 3)] s
def zf_Wd_copyOf_3_36 (Z : mZ) (m : Nat) (s : mS) : Option (Int × mS) := zF_154 Z m [rv (some 3), rv (some 36)] s
def zf_Wd_copyOf_3_68 (Z : mZ) (m : Nat) (s : mS) : Option (Int × mS) := zF_154 Z m [rv (some 3), rv (some 68)] s
def Mi_153 : mM := (false, false, 0, 2, (0, 0), 4, rs_0, cd_153, [(17, [0, 1]), (30, [])])
abbrev zenv_153 (Z : mZ) (m : Nat) : Nat → List mV → mS → Option (Int × mS) := fun j as s => (bsel (Nat.beq j 154) (zF_154 Z m as s) none)
def zF_153 (Z : mZ) (m : Nat) (as : List mV) (s : mS) : Option (Int × mS) := runS Z TT Mi_153 scr0 (zenv_153 Z m) (m + 1) 0 (ent 0 as) [] s (0, 0)
def zl_X_image_L17 (Z : mZ) (m : Nat) (n : Nat) (x1 : Int) (v0 : Option Nat) (s : mS) : Option (Int × mS) := runS Z TT Mi_153 scr0 (zenv_153 Z m) n 17 [(0, rv (some 0)), (1, iv x1)] [rv v0] s (0, 0)
def zl_X_image_L30 (Z : mZ) (m : Nat) (n : Nat) (v0 : Option Nat) (s : mS) : Option (Int × mS) := runS Z TT Mi_153 scr0 (zenv_153 Z m) n 30 [] [rv v0] s (0, 0)
def zf_X_image (Z : mZ) (m : Nat) (a1 : Int) (s : mS) : Option (Int × mS) := zF_153 Z m [rv (some 0), iv a1] s
def Mi_155 : mM := (false, false, 0, 2, (0, 0), 4, rs_0, cd_155, [(15, [0, 1]), (33, [0])])
abbrev zenv_155 (Z : mZ) (m : Nat) : Nat → List mV → mS → Option (Int × mS) := fun j as s => (bsel (Nat.beq j 45) (zF_45 Z m as s) (bsel (Nat.beq j 154) (zF_154 Z m as s) none))
def zF_155 (Z : mZ) (m : Nat) (as : List mV) (s : mS) : Option (Int × mS) := runS Z TT Mi_155 scr0 (zenv_155 Z m) (m + 1) 0 (ent 0 as) [] s (0, 0)
def zl_X_restore_L15 (Z : mZ) (m : Nat) (n : Nat) (x1 : Int) (v0 : Option Nat) (s : mS) : Option (Int × mS) := runS Z TT Mi_155 scr0 (zenv_155 Z m) n 15 [(0, rv (some 0)), (1, iv x1)] [rv v0] s (0, 0)
def zl_X_restore_L33 (Z : mZ) (m : Nat) (n : Nat) (v1 : Option Nat) (s : mS) : Option (Int × mS) := runS Z TT Mi_155 scr0 (zenv_155 Z m) n 33 [(0, rv (some 0))] [rv v1, rv (some 3)] s (0, 0)
def zf_X_restore (Z : mZ) (m : Nat) (a1 : Int) (s : mS) : Option (Int × mS) := zF_155 Z m [rv (some 0), iv a1] s
def Mi_156 : mM := (false, false, 0, 2, (0, 0), 1, rs_0, cd_156, [])
abbrev zenv_156 (Z : mZ) (m : Nat) : Nat → List mV → mS → Option (Int × mS) := fun j as s => none
def zF_156 (Z : mZ) (m : Nat) (as : List mV) (s : mS) : Option (Int × mS) := runS Z TT Mi_156 scr0 (zenv_156 Z m) (m + 1) 0 (ent 0 as) [] s (0, 0)
def zf_X_count (Z : mZ) (m : Nat) (a1 : Int) (s : mS) : Option (Int × mS) := zF_156 Z m [rv (some 0), iv a1] s
def Mi_158 : mM := (false, false, 0, 4, (0, 0), 1, rs_0, cd_158, [(8, []), (146, [])])
abbrev zenv_158 (Z : mZ) (m : Nat) : Nat → List mV → mS → Option (Int × mS) := fun j as s => (bsel (Nat.beq j 61) (zF_61 Z m as s) none)
def zF_158 (Z : mZ) (m : Nat) (as : List mV) (s : mS) : Option (Int × mS) := runS Z TT Mi_158 scr0 (zenv_158 Z m) (m + 1) 0 (ent 0 as) [] s (0, 0)
def zl_X_dead_L8 (Z : mZ) (m : Nat) (n : Nat) (s : mS) : Option (Int × mS) := runS Z TT Mi_158 scr0 (zenv_158 Z m) n 8 [] [] s (0, 0)
def zl_X_dead_L146 (Z : mZ) (m : Nat) (n : Nat) (s : mS) : Option (Int × mS) := runS Z TT Mi_158 scr0 (zenv_158 Z m) n 146 [] [] s (0, 0)
def zf_X_dead (Z : mZ) (m : Nat) (a1 : Int) (a2 : Int) (s : mS) : Option (Int × mS) := zF_158 Z m [rv (some 0), iv a1, iv a2] s
def Mi_167 : mM := (false, false, 0, 7, (0, 0), 1, rs_0, cd_167, [(8, [0, 1, 2, 3, 4, 5])])
abbrev zenv_167 (Z : mZ) (m : Nat) : Nat → List mV → mS → Option (Int × mS) := fun j as s => none
def zF_167 (Z : mZ) (m : Nat) (as : List mV) (s : mS) : Option (Int × mS) := runS Z TT Mi_167 scr0 (zenv_167 Z m) (m + 1) 0 (ent 0 as) [] s (0, 0)
def zl_X_inLeastTerms_L8 (Z : mZ) (m : Nat) (n : Nat) (x0 : Int) (x1 : Int) (x2 : Int) (x3 : Int) (x4 : Int) (x5 : Int) (s : mS) : Option (Int × mS) := runS Z TT Mi_167 scr0 (zenv_167 Z m) n 8 [(0, iv x0), (1, iv x1), (2, iv x2), (3, iv x3), (4, iv x4), (5, iv x5)] [] s (0, 0)
def zf_X_inLeastTerms (Z : mZ) (m : Nat) (a0 : Int) (a1 : Int) (a2 : Int) (s : mS) : Option (Int × mS) := zF_167 Z m [iv a0, iv a1, iv a2] s
def Mi_166 : mM := (false, false, 0, 3, (0, 0), 1, rs_0, cd_166, [(17, [])])
abbrev zenv_166 (Z : mZ) (m : Nat) : Nat → List mV → mS → Option (Int × mS) := fun j as s => (bsel (Nat.beq j 48) (zF_48 Z m as s) (bsel (Nat.beq j 167) (zF_167 Z m as s) none))
def zF_166 (Z : mZ) (m : Nat) (as : List mV) (s : mS) : Option (Int × mS) := runS Z TT Mi_166 scr0 (zenv_166 Z m) (m + 1) 0 (ent 0 as) [] s (0, 0)
def zl_X_wear_L17 (Z : mZ) (m : Nat) (n : Nat) (s : mS) : Option (Int × mS) := runS Z TT Mi_166 scr0 (zenv_166 Z m) n 17 [] [] s (0, 0)
def zf_X_wear (Z : mZ) (m : Nat) (a1 : Int) (a2 : Int) (s : mS) : Option (Int × mS) := zF_166 Z m [rv (some 0), iv a1, iv a2] s
def Mi_169 : mM := (false, false, 0, 4, (0, 0), 1, rs_0, cd_169, [(22, []), (37, [0, 1, 2, 3])])
abbrev zenv_169 (Z : mZ) (m : Nat) : Nat → List mV → mS → Option (Int × mS) := fun j as s => (bsel (Nat.beq j 167) (zF_167 Z m as s) none)
def zF_169 (Z : mZ) (m : Nat) (as : List mV) (s : mS) : Option (Int × mS) := runS Z TT Mi_169 scr0 (zenv_169 Z m) (m + 1) 0 (ent 0 as) [] s (0, 0)
def zl_X_mean_L22 (Z : mZ) (m : Nat) (n : Nat) (s : mS) : Option (Int × mS) := runS Z TT Mi_169 scr0 (zenv_169 Z m) n 22 [] [] s (0, 0)
def zl_X_mean_L37 (Z : mZ) (m : Nat) (n : Nat) (x1 : Int) (x2 : Int) (x3 : Int) (s : mS) : Option (Int × mS) := runS Z TT Mi_169 scr0 (zenv_169 Z m) n 37 [(0, rv (some 0)), (1, iv x1), (2, iv x2), (3, iv x3)] [] s (0, 0)
def zf_X_mean (Z : mZ) (m : Nat) (a1 : Int) (s : mS) : Option (Int × mS) := zF_169 Z m [rv (some 0), iv a1] s
def Mi_170 : mM := (false, false, 10, 1, (0, 0), 1, rs_12, cd_170, [])
abbrev zenv_170 (Z : mZ) (m : Nat) : Nat → List mV → mS → Option (Int × mS) := fun j as s => none
def zF_170 (Z : mZ) (m : Nat) (as : List mV) (s : mS) : Option (Int × mS) := runS Z TT Mi_170 scr0 (zenv_170 Z m) (m + 1) 0 (ent 0 as) [] s (0, 0)
def zf_R_thrown (Z : mZ) (m : Nat) (s : mS) : Option (Int × mS) := zF_170 Z m [rv (some 249)] s
def Mi_172 : mM := (false, false, 10, 3, (0, 0), 0, rs_12, cd_172, [(3, [0, 1, 2])])
abbrev zenv_172 (Z : mZ) (m : Nat) : Nat → List mV → mS → Option (Int × mS) := fun j as s => none
def zF_172 (Z : mZ) (m : Nat) (as : List mV) (s : mS) : Option (Int × mS) := runS Z TT Mi_172 scr0 (zenv_172 Z m) (m + 1) 0 (ent 0 as) [] s (0, 0)
def zl_R_comea_L3 (Z : mZ) (m : Nat) (n : Nat) (x1 : Int) (x2 : Int) (s : mS) : Option (Int × mS) := runS Z TT Mi_172 scr0 (zenv_172 Z m) n 3 [(0, rv (some 249)), (1, iv x1), (2, iv x2)] [] s (0, 0)
def zf_R_comea (Z : mZ) (m : Nat) (a1 : Int) (s : mS) : Option (Int × mS) := zF_172 Z m [rv (some 249), iv a1] s
def Mi_171 : mM := (false, false, 10, 6, (0, 0), 1, rs_12, cd_171, [])
abbrev zenv_171 (Z : mZ) (m : Nat) : Nat → List mV → mS → Option (Int × mS) := fun j as s => (bsel (Nat.beq j 172) (zF_172 Z m as s) none)
def zF_171 (Z : mZ) (m : Nat) (as : List mV) (s : mS) : Option (Int × mS) := runS Z TT Mi_171 scr0 (zenv_171 Z m) (m + 1) 0 (ent 0 as) [] s (0, 0)
def zf_R_feed (Z : mZ) (m : Nat) (a1 : Int) (a2 : Int) (a3 : Int) (a4 : Int) (a5 : Int) (s : mS) : Option (Int × mS) := zF_171 Z m [rv (some 249), iv a1, iv a2, iv a3, iv a4, iv a5] s
def Mi_173 : mM := (false, false, 10, 2, (0, 0), 4, rs_12, cd_173, [])
abbrev zenv_173 (Z : mZ) (m : Nat) : Nat → List mV → mS → Option (Int × mS) := fun j as s => none
def zF_173 (Z : mZ) (m : Nat) (as : List mV) (s : mS) : Option (Int × mS) := runS Z TT Mi_173 scr0 (zenv_173 Z m) (m + 1) 0 (ent 0 as) [] s (0, 0)
def zf_R_end (Z : mZ) (m : Nat) (a1 : Int) (s : mS) : Option (Int × mS) := zF_173 Z m [rv (some 249), iv a1] s
def Mi_179 : mM := (false, false, 10, 2, (0, 0), 1, rs_12, cd_179, [])
abbrev zenv_179 (Z : mZ) (m : Nat) : Nat → List mV → mS → Option (Int × mS) := fun j as s => none
def zF_179 (Z : mZ) (m : Nat) (as : List mV) (s : mS) : Option (Int × mS) := runS Z TT Mi_179 scr0 (zenv_179 Z m) (m + 1) 0 (ent 0 as) [] s (0, 0)
def zf_R_take (Z : mZ) (m : Nat) (s : mS) : Option (Int × mS) := zF_179 Z m [rv (some 249)] s
def Mi_181 : mM := (false, false, 10, 1, (0, 0), 4, rs_12, cd_181, [])
abbrev zenv_181 (Z : mZ) (m : Nat) : Nat → List mV → mS → Option (Int × mS) := fun j as s => none
def zF_181 (Z : mZ) (m : Nat) (as : List mV) (s : mS) : Option (Int × mS) := runS Z TT Mi_181 scr0 (zenv_181 Z m) (m + 1) 0 (ent 0 as) [] s (0, 0)
def zf_R_isLetter (Z : mZ) (m : Nat) (a0 : Int) (s : mS) : Option (Int × mS) := zF_181 Z m [iv a0] s
def Mi_182 : mM := (false, false, 10, 1, (0, 0), 4, rs_12, cd_182, [])
abbrev zenv_182 (Z : mZ) (m : Nat) : Nat → List mV → mS → Option (Int × mS) := fun j as s => none
def zF_182 (Z : mZ) (m : Nat) (as : List mV) (s : mS) : Option (Int × mS) := runS Z TT Mi_182 scr0 (zenv_182 Z m) (m + 1) 0 (ent 0 as) [] s (0, 0)
def zf_R_isDigit (Z : mZ) (m : Nat) (a0 : Int) (s : mS) : Option (Int × mS) := zF_182 Z m [iv a0] s
def Mi_183 : mM := (false, false, 10, 2, (0, 0), 1, rs_12, cd_183, [])
abbrev zenv_183 (Z : mZ) (m : Nat) : Nat → List mV → mS → Option (Int × mS) := fun j as s => none
def zF_183 (Z : mZ) (m : Nat) (as : List mV) (s : mS) : Option (Int × mS) := runS Z TT Mi_183 scr0 (zenv_183 Z m) (m + 1) 0 (ent 0 as) [] s (0, 0)
def zf_R_tapeAt (Z : mZ) (m : Nat) (a1 : Int) (s : mS) : Option (Int × mS) := zF_183 Z m [rv (some 249), iv a1] s
def Mi_180 : mM := (false, false, 10, 5, (0, 0), 0, rs_12, cd_180, [(0, [0]), (96, [0]), (215, [0, 2, 3]), (243, [0, 2, 3]), (307, [0, 2, 3, 4])])
abbrev zenv_180 (Z : mZ) (m : Nat) : Nat → List mV → mS → Option (Int × mS) := fun j as s => (bsel (Nat.beq j 181) (zF_181 Z m as s) (bsel (Nat.beq j 182) (zF_182 Z m as s) (bsel (Nat.beq j 183) (zF_183 Z m as s) none)))
def zF_180 (Z : mZ) (m : Nat) (as : List mV) (s : mS) : Option (Int × mS) := runS Z TT Mi_180 scr0 (zenv_180 Z m) (m + 1) 0 (ent 0 as) [] s (0, 0)
def zl_R_go_L0 (Z : mZ) (m : Nat) (n : Nat) (s : mS) : Option (Int × mS) := runS Z TT Mi_180 scr0 (zenv_180 Z m) n 0 [(0, rv (some 249))] [] s (0, 0)
def zl_R_go_L96 (Z : mZ) (m : Nat) (n : Nat) (s : mS) : Option (Int × mS) := runS Z TT Mi_180 scr0 (zenv_180 Z m) n 96 [(0, rv (some 249))] [] s (0, 0)
def zl_R_go_L215 (Z : mZ) (m : Nat) (n : Nat) (x2 : Int) (x3 : Int) (s : mS) : Option (Int × mS) := runS Z TT Mi_180 scr0 (zenv_180 Z m) n 215 [(0, rv (some 249)), (2, iv x2), (3, iv x3)] [] s (0, 0)
def zl_R_go_L243 (Z : mZ) (m : Nat) (n : Nat) (x2 : Int) (x3 : Int) (s : mS) : Option (Int × mS) := runS Z TT Mi_180 scr0 (zenv_180 Z m) n 243 [(0, rv (some 249)), (2, iv x2), (3, iv x3)] [] s (0, 0)
def zl_R_go_L307 (Z : mZ) (m : Nat) (n : Nat) (x2 : Int) (x3 : Int) (x4 : Int) (s : mS) : Option (Int × mS) := runS Z TT Mi_180 scr0 (zenv_180 Z m) n 307 [(0, rv (some 249)), (2, iv x2), (3, iv x3), (4, iv x4)] [] s (0, 0)
def zf_R_go (Z : mZ) (m : Nat) (s : mS) : Option (Int × mS) := zF_180 Z m [rv (some 249)] s
def Mi_178 : mM := (false, false, 10, 2, (0, 0), 0, rs_12, cd_178, [])
abbrev zenv_178 (Z : mZ) (m : Nat) : Nat → List mV → mS → Option (Int × mS) := fun j as s => (bsel (Nat.beq j 179) (zF_179 Z m as s) (bsel (Nat.beq j 180) (zF_180 Z m as s) none))
def zF_178 (Z : mZ) (m : Nat) (as : List mV) (s : mS) : Option (Int × mS) := runS Z TT Mi_178 scr0 (zenv_178 Z m) (m + 1) 0 (ent 0 as) [] s (0, 0)
def zf_R_begin (Z : mZ) (m : Nat) (a1 : Int) (s : mS) : Option (Int × mS) := zF_178 Z m [rv (some 249), iv a1] s
def Mi_187 : mM := (false, false, 10, 9, (0, 0), 2, rs_12, cd_187, [(38, [3, 4, 5, 6, 7]), (78, [5, 6, 7])])
abbrev zenv_187 (Z : mZ) (m : Nat) : Nat → List mV → mS → Option (Int × mS) := fun j as s => none
def zF_187 (Z : mZ) (m : Nat) (as : List mV) (s : mS) : Option (Int × mS) := runS Z TT Mi_187 scr0 (zenv_187 Z m) (m + 1) 0 (ent 0 as) [] s (0, 0)
def zl_R_spelt_L38 (Z : mZ) (m : Nat) (n : Nat) (x3 : Int) (x4 : Int) (x5 : Int) (x6 : Int) (x7 : Int) (s : mS) : Option (Int × mS) := runS Z TT Mi_187 scr0 (zenv_187 Z m) n 38 [(3, iv x3), (4, iv x4), (5, iv x5), (6, iv x6), (7, jv x7)] [] s (0, 0)
def zl_R_spelt_L78 (Z : mZ) (m : Nat) (n : Nat) (x5 : Int) (x6 : Int) (x7 : Int) (s : mS) : Option (Int × mS) := runS Z TT Mi_187 scr0 (zenv_187 Z m) n 78 [(5, iv x5), (6, iv x6), (7, jv x7)] [] s (0, 0)
def zf_R_spelt (Z : mZ) (m : Nat) (a0 : Int) (a1 : Int) (a2 : Int) (a3 : Int) (a4 : Int) (a5 : Int) (a6 : Int) (s : mS) : Option (Int × mS) := zF_187 Z m [iv a0, iv a1, iv a2, iv a3, iv a4, iv a5, iv a6] s
def Mi_186 : mM := (false, false, 10, 1, (0, 0), 2, rs_12, cd_186, [])
abbrev zenv_186 (Z : mZ) (m : Nat) : Nat → List mV → mS → Option (Int × mS) := fun j as s => (bsel (Nat.beq j 187) (zF_187 Z m as s) none)
def zF_186 (Z : mZ) (m : Nat) (as : List mV) (s : mS) : Option (Int × mS) := runS Z TT Mi_186 scr0 (zenv_186 Z m) (m + 1) 0 (ent 0 as) [] s (0, 0)
def zf_R_wordOf (Z : mZ) (m : Nat) (a0 : Int) (s : mS) : Option (Int × mS) := zF_186 Z m [iv a0] s
def Mi_185 : mM := (false, false, 10, 2, (0, 0), 4, rs_12, cd_185, [])
abbrev zenv_185 (Z : mZ) (m : Nat) : Nat → List mV → mS → Option (Int × mS) := fun j as s => (bsel (Nat.beq j 186) (zF_186 Z m as s) none)
def zF_185 (Z : mZ) (m : Nat) (as : List mV) (s : mS) : Option (Int × mS) := runS Z TT Mi_185 scr0 (zenv_185 Z m) (m + 1) 0 (ent 0 as) [] s (0, 0)
def zf_R_isWord (Z : mZ) (m : Nat) (a1 : Int) (s : mS) : Option (Int × mS) := zF_185 Z m [rv (some 249), iv a1] s
def Mi_190 : mM := (false, false, 10, 2, (0, 0), 4, rs_12, cd_190, [])
abbrev zenv_190 (Z : mZ) (m : Nat) : Nat → List mV → mS → Option (Int × mS) := fun j as s => none
def zF_190 (Z : mZ) (m : Nat) (as : List mV) (s : mS) : Option (Int × mS) := runS Z TT Mi_190 scr0 (zenv_190 Z m) (m + 1) 0 (ent 0 as) [] s (0, 0)
def zf_R_bad (Z : mZ) (m : Nat) (a1 : Int) (s : mS) : Option (Int × mS) := zF_190 Z m [rv (some 249), iv a1] s
def Mi_195 : mM := (false, false, 10, 3, (0, 0), 4, rs_12, cd_195, [])
abbrev zenv_195 (Z : mZ) (m : Nat) : Nat → List mV → mS → Option (Int × mS) := fun j as s => none
def zF_195 (Z : mZ) (m : Nat) (as : List mV) (s : mS) : Option (Int × mS) := runS Z TT Mi_195 scr0 (zenv_195 Z m) (m + 1) 0 (ent 0 as) [] s (0, 0)
def zf_R_isIn (Z : mZ) (m : Nat) (a0 : Int) (a1 : Int) (a2 : Int) (s : mS) : Option (Int × mS) := zF_195 Z m [iv a0, iv a1, iv a2] s
def Mi_194 : mM := (false, false, 10, 3, (0, 0), 4, rs_12, cd_194, [])
abbrev zenv_194 (Z : mZ) (m : Nat) : Nat → List mV → mS → Option (Int × mS) := fun j as s => (bsel (Nat.beq j 180) (zF_180 Z m as s) (bsel (Nat.beq j 190) (zF_190 Z m as s) (bsel (Nat.beq j 195) (zF_195 Z m as s) none)))
def zF_194 (Z : mZ) (m : Nat) (as : List mV) (s : mS) : Option (Int × mS) := runS Z TT Mi_194 scr0 (zenv_194 Z m) (m + 1) 0 (ent 0 as) [] s (0, 0)
def zf_R_readNumber (Z : mZ) (m : Nat) (a1 : Int) (a2 : Int) (s : mS) : Option (Int × mS) := zF_194 Z m [rv (some 249), iv a1, iv a2] s
def Mi_196 : mM := (false, false, 10, 3, (0, 0), 4, rs_12, cd_196, [])
abbrev zenv_196 (Z : mZ) (m : Nat) : Nat → List mV → mS → Option (Int × mS) := fun j as s => none
def zF_196 (Z : mZ) (m : Nat) (as : List mV) (s : mS) : Option (Int × mS) := runS Z TT Mi_196 scr0 (zenv_196 Z m) (m + 1) 0 (ent 0 as) [] s (0, 0)
def zf_R_noted (Z : mZ) (m : Nat) (a1 : Int) (a2 : Int) (s : mS) : Option (Int × mS) := zF_196 Z m [rv (some 249), iv a1, iv a2] s
def Mi_204 : mM := (false, false, 10, 1, (0, 0), 4, rs_12, cd_204, [])
abbrev zenv_204 (Z : mZ) (m : Nat) : Nat → List mV → mS → Option (Int × mS) := fun j as s => (bsel (Nat.beq j 180) (zF_180 Z m as s) (bsel (Nat.beq j 190) (zF_190 Z m as s) (bsel (Nat.beq j 194) (zF_194 Z m as s) (bsel (Nat.beq j 196) (zF_196 Z m as s) none))))
def zF_204 (Z : mZ) (m : Nat) (as : List mV) (s : mS) : Option (Int × mS) := runS Z TT Mi_204 scr0 (zenv_204 Z m) (m + 1) 0 (ent 0 as) [] s (0, 0)
def zf_R_readAir (Z : mZ) (m : Nat) (s : mS) : Option (Int × mS) := zF_204 Z m [rv (some 249)] s
def Mi_189 : mM := (false, false, 10, 3, (0, 0), 4, rs_12, cd_189, [])
abbrev zenv_189 (Z : mZ) (m : Nat) : Nat → List mV → mS → Option (Int × mS) := fun j as s => (bsel (Nat.beq j 180) (zF_180 Z m as s) (bsel (Nat.beq j 190) (zF_190 Z m as s) none))
def zF_189 (Z : mZ) (m : Nat) (as : List mV) (s : mS) : Option (Int × mS) := runS Z TT Mi_189 scr0 (zenv_189 Z m) (m + 1) 0 (ent 0 as) [] s (0, 0)
def zf_R_readFirst (Z : mZ) (m : Nat) (a1 : Int) (a2 : Int) (s : mS) : Option (Int × mS) := zF_189 Z m [rv (some 249), iv a1, iv a2] s
def Mi_203 : mM := (false, false, 10, 2, (0, 0), 4, rs_12, cd_203, [])
abbrev zenv_203 (Z : mZ) (m : Nat) : Nat → List mV → mS → Option (Int × mS) := fun j as s => (bsel (Nat.beq j 189) (zF_189 Z m as s) (bsel (Nat.beq j 194) (zF_194 Z m as s) (bsel (Nat.beq j 196) (zF_196 Z m as s) none)))
def zF_203 (Z : mZ) (m : Nat) (as : List mV) (s : mS) : Option (Int × mS) := runS Z TT Mi_203 scr0 (zenv_203 Z m) (m + 1) 0 (ent 0 as) [] s (0, 0)
def zf_R_readFrost (Z : mZ) (m : Nat) (s : mS) : Option (Int × mS) := zF_203 Z m [rv (some 249)] s
def Mi_192 : mM := (false, false, 10, 2, (0, 0), 4, rs_12, cd_192, [(12, [0, 1])])
abbrev zenv_192 (Z : mZ) (m : Nat) : Nat → List mV → mS → Option (Int × mS) := fun j as s => (bsel (Nat.beq j 186) (zF_186 Z m as s) none)
def zF_192 (Z : mZ) (m : Nat) (as : List mV) (s : mS) : Option (Int × mS) := runS Z TT Mi_192 scr0 (zenv_192 Z m) (m + 1) 0 (ent 0 as) [] s (0, 0)
def zl_R_isName_L12 (Z : mZ) (m : Nat) (n : Nat) (x1 : Int) (s : mS) : Option (Int × mS) := runS Z TT Mi_192 scr0 (zenv_192 Z m) n 12 [(0, rv (some 249)), (1, iv x1)] [] s (0, 0)
def zf_R_isName (Z : mZ) (m : Nat) (s : mS) : Option (Int × mS) := zF_192 Z m [rv (some 249)] s
def Mi_193 : mM := (false, false, 10, 6, (0, 0), 1, rs_12, cd_193, [(3, [0, 1, 2, 3, 5])])
abbrev zenv_193 (Z : mZ) (m : Nat) : Nat → List mV → mS → Option (Int × mS) := fun j as s => none
def zF_193 (Z : mZ) (m : Nat) (as : List mV) (s : mS) : Option (Int × mS) := runS Z TT Mi_193 scr0 (zenv_193 Z m) (m + 1) 0 (ent 0 as) [] s (0, 0)
def zl_R_findIn_258_L3 (Z : mZ) (m : Nat) (n : Nat) (x1 : Int) (x2 : Int) (x3 : Int) (x5 : Int) (s : mS) : Option (Int × mS) := runS Z TT Mi_193 scr0 (zenv_193 Z m) n 3 [(0, rv (some 258)), (1, iv x1), (2, iv x2), (3, jv x3), (5, iv x5)] [] s (0, 0)
def zf_R_findIn_258 (Z : mZ) (m : Nat) (a1 : Int) (a2 : Int) (a3 : Int) (s : mS) : Option (Int × mS) := zF_193 Z m [rv (some 258), iv a1, iv a2, jv a3] s
def zl_R_findIn_257_L3 (Z : mZ) (m : Nat) (n : Nat) (x1 : Int) (x2 : Int) (x3 : Int) (x5 : Int) (s : mS) : Option (Int × mS) := runS Z TT Mi_193 scr0 (zenv_193 Z m) n 3 [(0, rv (some 257)), (1, iv x1), (2, iv x2), (3, jv x3), (5, iv x5)] [] s (0, 0)
def zf_R_findIn_257 (Z : mZ) (m : Nat) (a1 : Int) (a2 : Int) (a3 : Int) (s : mS) : Option (Int × mS) := zF_193 Z m [rv (some 257), iv a1, iv a2, jv a3] s
def Mi_200 : mM := (false, false, 10, 3, (0, 0), 4, rs_12, cd_200, [])
abbrev zenv_200 (Z : mZ) (m : Nat) : Nat → List mV → mS → Option (Int × mS) := fun j as s => (bsel (Nat.beq j 190) (zF_190 Z m as s) (bsel (Nat.beq j 192) (zF_192 Z m as s) (bsel (Nat.beq j 193) (zF_193 Z m as s) none)))
def zF_200 (Z : mZ) (m : Nat) (as : List mV) (s : mS) : Option (Int × mS) := runS Z TT Mi_200 scr0 (zenv_200 Z m) (m + 1) 0 (ent 0 as) [] s (0, 0)
def zf_R_isHere (Z : mZ) (m : Nat) (a1 : Int) (a2 : Int) (s : mS) : Option (Int × mS) := zF_200 Z m [rv (some 249), iv a1, iv a2] s
def Mi_202 : mM := (false, false, 10, 2, (0, 0), 4, rs_12, cd_202, [])
abbrev zenv_202 (Z : mZ) (m : Nat) : Nat → List mV → mS → Option (Int × mS) := fun j as s => (bsel (Nat.beq j 180) (zF_180 Z m as s) (bsel (Nat.beq j 190) (zF_190 Z m as s) (bsel (Nat.beq j 200) (zF_200 Z m as s) none)))
def zF_202 (Z : mZ) (m : Nat) (as : List mV) (s : mS) : Option (Int × mS) := runS Z TT Mi_202 scr0 (zenv_202 Z m) (m + 1) 0 (ent 0 as) [] s (0, 0)
def zf_R_readAsks (Z : mZ) (m : Nat) (s : mS) : Option (Int × mS) := zF_202 Z m [rv (some 249)] s
def Mi_201 : mM := (false, false, 10, 2, (0, 0), 4, rs_12, cd_201, [])
abbrev zenv_201 (Z : mZ) (m : Nat) : Nat → List mV → mS → Option (Int × mS) := fun j as s => none
def zF_201 (Z : mZ) (m : Nat) (as : List mV) (s : mS) : Option (Int × mS) := runS Z TT Mi_201 scr0 (zenv_201 Z m) (m + 1) 0 (ent 0 as) [] s (0, 0)
def zf_R_has (Z : mZ) (m : Nat) (a0 : Int) (a1 : Int) (s : mS) : Option (Int × mS) := zF_201 Z m [iv a0, iv a1] s
def Mi_199 : mM := (false, false, 10, 2, (0, 0), 4, rs_12, cd_199, [])
abbrev zenv_199 (Z : mZ) (m : Nat) : Nat → List mV → mS → Option (Int × mS) := fun j as s => (bsel (Nat.beq j 180) (zF_180 Z m as s) (bsel (Nat.beq j 189) (zF_189 Z m as s) (bsel (Nat.beq j 190) (zF_190 Z m as s) (bsel (Nat.beq j 200) (zF_200 Z m as s) (bsel (Nat.beq j 201) (zF_201 Z m as s) none)))))
def zF_199 (Z : mZ) (m : Nat) (as : List mV) (s : mS) : Option (Int × mS) := runS Z TT Mi_199 scr0 (zenv_199 Z m) (m + 1) 0 (ent 0 as) [] s (0, 0)
def zf_R_readKin (Z : mZ) (m : Nat) (s : mS) : Option (Int × mS) := zF_199 Z m [rv (some 249)] s
def Mi_191 : mM := (false, false, 10, 3, (0, 0), 4, rs_12, cd_191, [(63, [0, 1])])
abbrev zenv_191 (Z : mZ) (m : Nat) : Nat → List mV → mS → Option (Int × mS) := fun j as s => (bsel (Nat.beq j 180) (zF_180 Z m as s) (bsel (Nat.beq j 190) (zF_190 Z m as s) (bsel (Nat.beq j 192) (zF_192 Z m as s) (bsel (Nat.beq j 193) (zF_193 Z m as s) none))))
def zF_191 (Z : mZ) (m : Nat) (as : List mV) (s : mS) : Option (Int × mS) := runS Z TT Mi_191 scr0 (zenv_191 Z m) (m + 1) 0 (ent 0 as) [] s (0, 0)
def zl_R_readNew_L63 (Z : mZ) (m : Nat) (n : Nat) (x1 : Int) (y0 : Int) (s : mS) : Option (Int × mS) := runS Z TT Mi_191 scr0 (zenv_191 Z m) n 63 [(0, rv (some 249)), (1, iv x1)] [iv y0] s (0, 0)
def zf_R_readNew (Z : mZ) (m : Nat) (a1 : Int) (s : mS) : Option (Int × mS) := zF_191 Z m [rv (some 249), iv a1] s
def Mi_198 : mM := (false, false, 10, 2, (0, 0), 4, rs_12, cd_198, [])
abbrev zenv_198 (Z : mZ) (m : Nat) : Nat → List mV → mS → Option (Int × mS) := fun j as s => (bsel (Nat.beq j 189) (zF_189 Z m as s) (bsel (Nat.beq j 191) (zF_191 Z m as s) (bsel (Nat.beq j 194) (zF_194 Z m as s) (bsel (Nat.beq j 196) (zF_196 Z m as s) none))))
def zF_198 (Z : mZ) (m : Nat) (as : List mV) (s : mS) : Option (Int × mS) := runS Z TT Mi_198 scr0 (zenv_198 Z m) (m + 1) 0 (ent 0 as) [] s (0, 0)
def zf_R_readDead (Z : mZ) (m : Nat) (s : mS) : Option (Int × mS) := zF_198 Z m [rv (some 249)] s
def Mi_197 : mM := (false, false, 10, 2, (0, 0), 4, rs_12, cd_197, [])
abbrev zenv_197 (Z : mZ) (m : Nat) : Nat → List mV → mS → Option (Int × mS) := fun j as s => (bsel (Nat.beq j 189) (zF_189 Z m as s) (bsel (Nat.beq j 191) (zF_191 Z m as s) (bsel (Nat.beq j 194) (zF_194 Z m as s) (bsel (Nat.beq j 196) (zF_196 Z m as s) none))))
def zF_197 (Z : mZ) (m : Nat) (as : List mV) (s : mS) : Option (Int × mS) := runS Z TT Mi_197 scr0 (zenv_197 Z m) (m + 1) 0 (ent 0 as) [] s (0, 0)
def zf_R_readPlot (Z : mZ) (m : Nat) (s : mS) : Option (Int × mS) := zF_197 Z m [rv (some 249)] s
def Mi_188 : mM := (false, false, 10, 2, (0, 0), 4, rs_12, cd_188, [])
abbrev zenv_188 (Z : mZ) (m : Nat) : Nat → List mV → mS → Option (Int × mS) := fun j as s => (bsel (Nat.beq j 189) (zF_189 Z m as s) (bsel (Nat.beq j 191) (zF_191 Z m as s) (bsel (Nat.beq j 194) (zF_194 Z m as s) (bsel (Nat.beq j 196) (zF_196 Z m as s) none))))
def zF_188 (Z : mZ) (m : Nat) (as : List mV) (s : mS) : Option (Int × mS) := runS Z TT Mi_188 scr0 (zenv_188 Z m) (m + 1) 0 (ent 0 as) [] s (0, 0)
def zf_R_readBox (Z : mZ) (m : Nat) (s : mS) : Option (Int × mS) := zF_188 Z m [rv (some 249)] s
def Mi_184 : mM := (false, false, 10, 1, (0, 0), 4, rs_12, cd_184, [])
abbrev zenv_184 (Z : mZ) (m : Nat) : Nat → List mV → mS → Option (Int × mS) := fun j as s => (bsel (Nat.beq j 185) (zF_185 Z m as s) (bsel (Nat.beq j 188) (zF_188 Z m as s) (bsel (Nat.beq j 190) (zF_190 Z m as s) (bsel (Nat.beq j 197) (zF_197 Z m as s) (bsel (Nat.beq j 198) (zF_198 Z m as s) (bsel (Nat.beq j 199) (zF_199 Z m as s) (bsel (Nat.beq j 202) (zF_202 Z m as s) (bsel (Nat.beq j 203) (zF_203 Z m as s) (bsel (Nat.beq j 204) (zF_204 Z m as s) none)))))))))
def zF_184 (Z : mZ) (m : Nat) (as : List mV) (s : mS) : Option (Int × mS) := runS Z TT Mi_184 scr0 (zenv_184 Z m) (m + 1) 0 (ent 0 as) [] s (0, 0)
def zf_R_readLine (Z : mZ) (m : Nat) (s : mS) : Option (Int × mS) := zF_184 Z m [rv (some 249)] s
def Mi_206 : mM := (false, false, 10, 2, (0, 0), 4, rs_12, cd_206, [])
abbrev zenv_206 (Z : mZ) (m : Nat) : Nat → List mV → mS → Option (Int × mS) := fun j as s => none
def zF_206 (Z : mZ) (m : Nat) (as : List mV) (s : mS) : Option (Int × mS) := runS Z TT Mi_206 scr0 (zenv_206 Z m) (m + 1) 0 (ent 0 as) [] s (0, 0)
def zf_R_isSign (Z : mZ) (m : Nat) (a1 : Int) (s : mS) : Option (Int × mS) := zF_206 Z m [rv (some 249), iv a1] s
def Mi_205 : mM := (false, false, 10, 1, (0, 0), 4, rs_12, cd_205, [])
abbrev zenv_205 (Z : mZ) (m : Nat) : Nat → List mV → mS → Option (Int × mS) := fun j as s => (bsel (Nat.beq j 180) (zF_180 Z m as s) (bsel (Nat.beq j 190) (zF_190 Z m as s) (bsel (Nat.beq j 206) (zF_206 Z m as s) none)))
def zF_205 (Z : mZ) (m : Nat) (as : List mV) (s : mS) : Option (Int × mS) := runS Z TT Mi_205 scr0 (zenv_205 Z m) (m + 1) 0 (ent 0 as) [] s (0, 0)
def zf_R_readEnd (Z : mZ) (m : Nat) (s : mS) : Option (Int × mS) := zF_205 Z m [rv (some 249)] s
def Mi_176 : mM := (false, false, 10, 2, (0, 0), 0, rs_12, cd_176, [(2, [0, 1])])
abbrev zenv_176 (Z : mZ) (m : Nat) : Nat → List mV → mS → Option (Int × mS) := fun j as s => none
def zF_176 (Z : mZ) (m : Nat) (as : List mV) (s : mS) : Option (Int × mS) := runS Z TT Mi_176 scr0 (zenv_176 Z m) (m + 1) 0 (ent 0 as) [] s (0, 0)
def zl_R_comeb_L2 (Z : mZ) (m : Nat) (n : Nat) (x1 : Int) (s : mS) : Option (Int × mS) := runS Z TT Mi_176 scr0 (zenv_176 Z m) n 2 [(0, rv (some 249)), (1, iv x1)] [] s (0, 0)
def zf_R_comeb (Z : mZ) (m : Nat) (s : mS) : Option (Int × mS) := zF_176 Z m [rv (some 249)] s
def Mi_175 : mM := (false, false, 10, 2, (0, 0), 0, rs_12, cd_175, [(3, [0, 1]), (25, [0, 1]), (49, [0, 1]), (73, [0, 1]), (97, [0, 1])])
abbrev zenv_175 (Z : mZ) (m : Nat) : Nat → List mV → mS → Option (Int × mS) := fun j as s => (bsel (Nat.beq j 176) (zF_176 Z m as s) none)
def zF_175 (Z : mZ) (m : Nat) (as : List mV) (s : mS) : Option (Int × mS) := runS Z TT Mi_175 scr0 (zenv_175 Z m) (m + 1) 0 (ent 0 as) [] s (0, 0)
def zl_R_startSo_L3 (Z : mZ) (m : Nat) (n : Nat) (x1 : Int) (s : mS) : Option (Int × mS) := runS Z TT Mi_175 scr0 (zenv_175 Z m) n 3 [(0, rv (some 249)), (1, iv x1)] [] s (0, 0)
def zl_R_startSo_L25 (Z : mZ) (m : Nat) (n : Nat) (x1 : Int) (s : mS) : Option (Int × mS) := runS Z TT Mi_175 scr0 (zenv_175 Z m) n 25 [(0, rv (some 249)), (1, iv x1)] [] s (0, 0)
def zl_R_startSo_L49 (Z : mZ) (m : Nat) (n : Nat) (x1 : Int) (s : mS) : Option (Int × mS) := runS Z TT Mi_175 scr0 (zenv_175 Z m) n 49 [(0, rv (some 249)), (1, iv x1)] [] s (0, 0)
def zl_R_startSo_L73 (Z : mZ) (m : Nat) (n : Nat) (x1 : Int) (s : mS) : Option (Int × mS) := runS Z TT Mi_175 scr0 (zenv_175 Z m) n 73 [(0, rv (some 249)), (1, iv x1)] [] s (0, 0)
def zl_R_startSo_L97 (Z : mZ) (m : Nat) (n : Nat) (x1 : Int) (s : mS) : Option (Int × mS) := runS Z TT Mi_175 scr0 (zenv_175 Z m) n 97 [(0, rv (some 249)), (1, iv x1)] [] s (0, 0)
def zf_R_startSo (Z : mZ) (m : Nat) (s : mS) : Option (Int × mS) := zF_175 Z m [rv (some 249)] s
def Mi_177 : mM := (false, false, 10, 3, (0, 0), 1, rs_12, cd_177, [(9, [0, 1]), (42, [0, 1]), (78, [0, 1, 2]), (104, [0, 1, 2])])
abbrev zenv_177 (Z : mZ) (m : Nat) : Nat → List mV → mS → Option (Int × mS) := fun j as s => (bsel (Nat.beq j 175) (zF_175 Z m as s) (bsel (Nat.beq j 178) (zF_178 Z m as s) (bsel (Nat.beq j 184) (zF_184 Z m as s) (bsel (Nat.beq j 205) (zF_205 Z m as s) none))))
def zF_177 (Z : mZ) (m : Nat) (as : List mV) (s : mS) : Option (Int × mS) := runS Z TT Mi_177 scr0 (zenv_177 Z m) (m + 1) 0 (ent 0 as) [] s (0, 0)
def zl_R_vestry_L9 (Z : mZ) (m : Nat) (n : Nat) (x1 : Int) (s : mS) : Option (Int × mS) := runS Z TT Mi_177 scr0 (zenv_177 Z m) n 9 [(0, rv (some 249)), (1, iv x1)] [] s (0, 0)
def zl_R_vestry_L42 (Z : mZ) (m : Nat) (n : Nat) (x1 : Int) (s : mS) : Option (Int × mS) := runS Z TT Mi_177 scr0 (zenv_177 Z m) n 42 [(0, rv (some 249)), (1, iv x1)] [] s (0, 0)
def zl_R_vestry_L78 (Z : mZ) (m : Nat) (n : Nat) (x1 : Int) (x2 : Int) (s : mS) : Option (Int × mS) := runS Z TT Mi_177 scr0 (zenv_177 Z m) n 78 [(0, rv (some 249)), (1, iv x1), (2, iv x2)] [] s (0, 0)
def zl_R_vestry_L104 (Z : mZ) (m : Nat) (n : Nat) (x1 : Int) (x2 : Int) (s : mS) : Option (Int × mS) := runS Z TT Mi_177 scr0 (zenv_177 Z m) n 104 [(0, rv (some 249)), (1, iv x1), (2, iv x2)] [] s (0, 0)
def zf_R_vestry (Z : mZ) (m : Nat) (s : mS) : Option (Int × mS) := zF_177 Z m [rv (some 249)] s
def Mi_207 : mM := (false, false, 10, 1, (0, 0), 1, rs_12, cd_207, [])
abbrev zenv_207 (Z : mZ) (m : Nat) : Nat → List mV → mS → Option (Int × mS) := fun j as s => none
def zF_207 (Z : mZ) (m : Nat) (as : List mV) (s : mS) : Option (Int × mS) := runS Z TT Mi_207 scr0 (zenv_207 Z m) (m + 1) 0 (ent 0 as) [] s (0, 0)
def zf_R_fault (Z : mZ) (m : Nat) (s : mS) : Option (Int × mS) := zF_207 Z m [rv (some 249)] s
def Mi_209 : mM := (false, false, 10, 2, (0, 0), 4, rs_12, cd_209, [])
abbrev zenv_209 (Z : mZ) (m : Nat) : Nat → List mV → mS → Option (Int × mS) := fun j as s => (bsel (Nat.beq j 195) (zF_195 Z m as s) none)
def zF_209 (Z : mZ) (m : Nat) (as : List mV) (s : mS) : Option (Int × mS) := runS Z TT Mi_209 scr0 (zenv_209 Z m) (m + 1) 0 (ent 0 as) [] s (0, 0)
def zf_R_isBox (Z : mZ) (m : Nat) (a1 : Int) (s : mS) : Option (Int × mS) := zF_209 Z m [rv (some 249), iv a1] s
def Mi_210 : mM := (false, false, 10, 2, (0, 0), 4, rs_12, cd_210, [])
abbrev zenv_210 (Z : mZ) (m : Nat) : Nat → List mV → mS → Option (Int × mS) := fun j as s => none
def zF_210 (Z : mZ) (m : Nat) (as : List mV) (s : mS) : Option (Int × mS) := runS Z TT Mi_210 scr0 (zenv_210 Z m) (m + 1) 0 (ent 0 as) [] s (0, 0)
def zf_R_isFree (Z : mZ) (m : Nat) (a1 : Int) (s : mS) : Option (Int × mS) := zF_210 Z m [rv (some 249), iv a1] s
def Mi_208 : mM := (false, false, 10, 3, (0, 0), 1, rs_12, cd_208, [])
abbrev zenv_208 (Z : mZ) (m : Nat) : Nat → List mV → mS → Option (Int × mS) := fun j as s => (bsel (Nat.beq j 209) (zF_209 Z m as s) (bsel (Nat.beq j 210) (zF_210 Z m as s) none))
def zF_208 (Z : mZ) (m : Nat) (as : List mV) (s : mS) : Option (Int × mS) := runS Z TT Mi_208 scr0 (zenv_208 Z m) (m + 1) 0 (ent 0 as) [] s (0, 0)
def zf_R_box (Z : mZ) (m : Nat) (a1 : Int) (a2 : Int) (s : mS) : Option (Int × mS) := zF_208 Z m [rv (some 249), iv a1, iv a2] s
def Mi_212 : mM := (false, false, 10, 2, (0, 0), 4, rs_12, cd_212, [])
abbrev zenv_212 (Z : mZ) (m : Nat) : Nat → List mV → mS → Option (Int × mS) := fun j as s => (bsel (Nat.beq j 195) (zF_195 Z m as s) none)
def zF_212 (Z : mZ) (m : Nat) (as : List mV) (s : mS) : Option (Int × mS) := runS Z TT Mi_212 scr0 (zenv_212 Z m) (m + 1) 0 (ent 0 as) [] s (0, 0)
def zf_R_isPlot (Z : mZ) (m : Nat) (a1 : Int) (s : mS) : Option (Int × mS) := zF_212 Z m [rv (some 249), iv a1] s
def Mi_211 : mM := (false, false, 10, 3, (0, 0), 1, rs_12, cd_211, [])
abbrev zenv_211 (Z : mZ) (m : Nat) : Nat → List mV → mS → Option (Int × mS) := fun j as s => (bsel (Nat.beq j 212) (zF_212 Z m as s) none)
def zF_211 (Z : mZ) (m : Nat) (as : List mV) (s : mS) : Option (Int × mS) := runS Z TT Mi_211 scr0 (zenv_211 Z m) (m + 1) 0 (ent 0 as) [] s (0, 0)
def zf_R_plot (Z : mZ) (m : Nat) (a1 : Int) (a2 : Int) (s : mS) : Option (Int × mS) := zF_211 Z m [rv (some 249), iv a1, iv a2] s
def Mi_214 : mM := (false, false, 10, 2, (0, 0), 4, rs_12, cd_214, [])
abbrev zenv_214 (Z : mZ) (m : Nat) : Nat → List mV → mS → Option (Int × mS) := fun j as s => (bsel (Nat.beq j 195) (zF_195 Z m as s) none)
def zF_214 (Z : mZ) (m : Nat) (as : List mV) (s : mS) : Option (Int × mS) := runS Z TT Mi_214 scr0 (zenv_214 Z m) (m + 1) 0 (ent 0 as) [] s (0, 0)
def zf_R_isDead (Z : mZ) (m : Nat) (a1 : Int) (s : mS) : Option (Int × mS) := zF_214 Z m [rv (some 249), iv a1] s
def Mi_215 : mM := (false, false, 10, 1, (0, 0), 1, rs_12, cd_215, [])
abbrev zenv_215 (Z : mZ) (m : Nat) : Nat → List mV → mS → Option (Int × mS) := fun j as s => none
def zF_215 (Z : mZ) (m : Nat) (as : List mV) (s : mS) : Option (Int × mS) := runS Z TT Mi_215 scr0 (zenv_215 Z m) (m + 1) 0 (ent 0 as) [] s (0, 0)
def zf_R_refuse (Z : mZ) (m : Nat) (s : mS) : Option (Int × mS) := zF_215 Z m [rv (some 249)] s
def Mi_213 : mM := (false, false, 10, 3, (0, 0), 1, rs_12, cd_213, [])
abbrev zenv_213 (Z : mZ) (m : Nat) : Nat → List mV → mS → Option (Int × mS) := fun j as s => (bsel (Nat.beq j 214) (zF_214 Z m as s) (bsel (Nat.beq j 215) (zF_215 Z m as s) none))
def zF_213 (Z : mZ) (m : Nat) (as : List mV) (s : mS) : Option (Int × mS) := runS Z TT Mi_213 scr0 (zenv_213 Z m) (m + 1) 0 (ent 0 as) [] s (0, 0)
def zf_R_dead (Z : mZ) (m : Nat) (a1 : Int) (a2 : Int) (s : mS) : Option (Int × mS) := zF_213 Z m [rv (some 249), iv a1, iv a2] s
def Mi_218 : mM := (false, false, 10, 3, (0, 0), 4, rs_12, cd_218, [(2, [0, 1, 2])])
abbrev zenv_218 (Z : mZ) (m : Nat) : Nat → List mV → mS → Option (Int × mS) := fun j as s => (bsel (Nat.beq j 195) (zF_195 Z m as s) none)
def zF_218 (Z : mZ) (m : Nat) (as : List mV) (s : mS) : Option (Int × mS) := runS Z TT Mi_218 scr0 (zenv_218 Z m) (m + 1) 0 (ent 0 as) [] s (0, 0)
def zl_R_isFrost_L2 (Z : mZ) (m : Nat) (n : Nat) (x1 : Int) (x2 : Int) (s : mS) : Option (Int × mS) := runS Z TT Mi_218 scr0 (zenv_218 Z m) n 2 [(0, rv (some 249)), (1, iv x1), (2, iv x2)] [] s (0, 0)
def zf_R_isFrost (Z : mZ) (m : Nat) (a1 : Int) (s : mS) : Option (Int × mS) := zF_218 Z m [rv (some 249), iv a1] s
def Mi_217 : mM := (false, false, 10, 4, (0, 0), 1, rs_12, cd_217, [(4, [0, 1, 2, 3])])
abbrev zenv_217 (Z : mZ) (m : Nat) : Nat → List mV → mS → Option (Int × mS) := fun j as s => none
def zF_217 (Z : mZ) (m : Nat) (as : List mV) (s : mS) : Option (Int × mS) := runS Z TT Mi_217 scr0 (zenv_217 Z m) (m + 1) 0 (ent 0 as) [] s (0, 0)
def zl_R_those_L4 (Z : mZ) (m : Nat) (n : Nat) (x1 : Int) (x2 : Int) (x3 : Int) (s : mS) : Option (Int × mS) := runS Z TT Mi_217 scr0 (zenv_217 Z m) n 4 [(0, rv (some 249)), (1, iv x1), (2, iv x2), (3, iv x3)] [] s (0, 0)
def zf_R_those (Z : mZ) (m : Nat) (a1 : Int) (s : mS) : Option (Int × mS) := zF_217 Z m [rv (some 249), iv a1] s
def Mi_216 : mM := (false, false, 10, 4, (0, 0), 1, rs_12, cd_216, [(74, [0, 2, 3]), (108, [0, 2, 3])])
abbrev zenv_216 (Z : mZ) (m : Nat) : Nat → List mV → mS → Option (Int × mS) := fun j as s => (bsel (Nat.beq j 210) (zF_210 Z m as s) (bsel (Nat.beq j 217) (zF_217 Z m as s) (bsel (Nat.beq j 218) (zF_218 Z m as s) none)))
def zF_216 (Z : mZ) (m : Nat) (as : List mV) (s : mS) : Option (Int × mS) := runS Z TT Mi_216 scr0 (zenv_216 Z m) (m + 1) 0 (ent 0 as) [] s (0, 0)
def zl_R_now_L108 (Z : mZ) (m : Nat) (n : Nat) (x2 : Int) (x3 : Int) (s : mS) : Option (Int × mS) := runS Z TT Mi_216 scr0 (zenv_216 Z m) n 108 [(0, rv (some 249)), (2, iv x2), (3, iv x3)] [] s (0, 0)
def zl_R_now_L74 (Z : mZ) (m : Nat) (n : Nat) (x2 : Int) (x3 : Int) (s : mS) : Option (Int × mS) := runS Z TT Mi_216 scr0 (zenv_216 Z m) n 74 [(0, rv (some 249)), (2, iv x2), (3, iv x3)] [] s (0, 0)
def zf_R_now (Z : mZ) (m : Nat) (a1 : Int) (s : mS) : Option (Int × mS) := zF_216 Z m [rv (some 249), iv a1] s
def Mi_219 : mM := (false, false, 10, 3, (0, 0), 1, rs_12, cd_219, [])
abbrev zenv_219 (Z : mZ) (m : Nat) : Nat → List mV → mS → Option (Int × mS) := fun j as s => (bsel (Nat.beq j 195) (zF_195 Z m as s) (bsel (Nat.beq j 209) (zF_209 Z m as s) none))
def zF_219 (Z : mZ) (m : Nat) (as : List mV) (s : mS) : Option (Int × mS) := runS Z TT Mi_219 scr0 (zenv_219 Z m) (m + 1) 0 (ent 0 as) [] s (0, 0)
def zf_R_had (Z : mZ) (m : Nat) (a1 : Int) (a2 : Int) (s : mS) : Option (Int × mS) := zF_219 Z m [rv (some 249), iv a1, iv a2] s
def Mi_224 : mM := (false, false, 10, 3, (0, 0), 4, rs_12, cd_224, [])
abbrev zenv_224 (Z : mZ) (m : Nat) : Nat → List mV → mS → Option (Int × mS) := fun j as s => none
def zF_224 (Z : mZ) (m : Nat) (as : List mV) (s : mS) : Option (Int × mS) := runS Z TT Mi_224 scr0 (zenv_224 Z m) (m + 1) 0 (ent 0 as) [] s (0, 0)
def zf_R_fits (Z : mZ) (m : Nat) (a1 : Int) (a2 : Int) (s : mS) : Option (Int × mS) := zF_224 Z m [rv (some 249), iv a1, iv a2] s
def Mi_227 : mM := (false, false, 10, 3, (0, 0), 1, rs_12, cd_227, [])
abbrev zenv_227 (Z : mZ) (m : Nat) : Nat → List mV → mS → Option (Int × mS) := fun j as s => (bsel (Nat.beq j 224) (zF_224 Z m as s) none)
def zF_227 (Z : mZ) (m : Nat) (as : List mV) (s : mS) : Option (Int × mS) := runS Z TT Mi_227 scr0 (zenv_227 Z m) (m + 1) 0 (ent 0 as) [] s (0, 0)
def zf_R_whySwap (Z : mZ) (m : Nat) (a1 : Int) (a2 : Int) (s : mS) : Option (Int × mS) := zF_227 Z m [rv (some 249), iv a1, iv a2] s
def Mi_226 : mM := (false, false, 10, 3, (0, 0), 4, rs_12, cd_226, [])
abbrev zenv_226 (Z : mZ) (m : Nat) : Nat → List mV → mS → Option (Int × mS) := fun j as s => (bsel (Nat.beq j 201) (zF_201 Z m as s) none)
def zF_226 (Z : mZ) (m : Nat) (as : List mV) (s : mS) : Option (Int × mS) := runS Z TT Mi_226 scr0 (zenv_226 Z m) (m + 1) 0 (ent 0 as) [] s (0, 0)
def zf_R_isByKin (Z : mZ) (m : Nat) (a1 : Int) (a2 : Int) (s : mS) : Option (Int × mS) := zF_226 Z m [rv (some 249), iv a1, iv a2] s
def Mi_225 : mM := (false, false, 10, 3, (0, 0), 1, rs_12, cd_225, [])
abbrev zenv_225 (Z : mZ) (m : Nat) : Nat → List mV → mS → Option (Int × mS) := fun j as s => (bsel (Nat.beq j 218) (zF_218 Z m as s) (bsel (Nat.beq j 226) (zF_226 Z m as s) none))
def zF_225 (Z : mZ) (m : Nat) (as : List mV) (s : mS) : Option (Int × mS) := runS Z TT Mi_225 scr0 (zenv_225 Z m) (m + 1) 0 (ent 0 as) [] s (0, 0)
def zf_R_whyLay (Z : mZ) (m : Nat) (a1 : Int) (a2 : Int) (s : mS) : Option (Int × mS) := zF_225 Z m [rv (some 249), iv a1, iv a2] s
def Mi_223 : mM := (false, false, 10, 3, (0, 0), 1, rs_12, cd_223, [])
abbrev zenv_223 (Z : mZ) (m : Nat) : Nat → List mV → mS → Option (Int × mS) := fun j as s => (bsel (Nat.beq j 210) (zF_210 Z m as s) (bsel (Nat.beq j 224) (zF_224 Z m as s) none))
def zF_223 (Z : mZ) (m : Nat) (as : List mV) (s : mS) : Option (Int × mS) := runS Z TT Mi_223 scr0 (zenv_223 Z m) (m + 1) 0 (ent 0 as) [] s (0, 0)
def zf_R_whyLend (Z : mZ) (m : Nat) (a1 : Int) (a2 : Int) (s : mS) : Option (Int × mS) := zF_223 Z m [rv (some 249), iv a1, iv a2] s
def Mi_222 : mM := (false, false, 10, 4, (0, 0), 1, rs_12, cd_222, [])
abbrev zenv_222 (Z : mZ) (m : Nat) : Nat → List mV → mS → Option (Int × mS) := fun j as s => (bsel (Nat.beq j 223) (zF_223 Z m as s) (bsel (Nat.beq j 225) (zF_225 Z m as s) (bsel (Nat.beq j 227) (zF_227 Z m as s) none)))
def zF_222 (Z : mZ) (m : Nat) (as : List mV) (s : mS) : Option (Int × mS) := runS Z TT Mi_222 scr0 (zenv_222 Z m) (m + 1) 0 (ent 0 as) [] s (0, 0)
def zf_R_why (Z : mZ) (m : Nat) (a1 : Int) (a2 : Int) (a3 : Int) (s : mS) : Option (Int × mS) := zF_222 Z m [rv (some 249), iv a1, iv a2, iv a3] s
def Mi_229 : mM := (false, false, 10, 4, (0, 0), 0, rs_12, cd_229, [(2, [0, 1, 2, 3])])
abbrev zenv_229 (Z : mZ) (m : Nat) : Nat → List mV → mS → Option (Int × mS) := fun j as s => none
def zF_229 (Z : mZ) (m : Nat) (as : List mV) (s : mS) : Option (Int × mS) := runS Z TT Mi_229 scr0 (zenv_229 Z m) (m + 1) 0 (ent 0 as) [] s (0, 0)
def zl_R_save_249_254_L2 (Z : mZ) (m : Nat) (n : Nat) (x2 : Int) (x3 : Int) (s : mS) : Option (Int × mS) := runS Z TT Mi_229 scr0 (zenv_229 Z m) n 2 [(0, rv (some 249)), (1, rv (some 254)), (2, iv x2), (3, iv x3)] [] s (0, 0)
def zf_R_save_249_254 (Z : mZ) (m : Nat) (a2 : Int) (s : mS) : Option (Int × mS) := zF_229 Z m [rv (some 249), rv (some 254), iv a2] s
def zl_R_save_249_256_L2 (Z : mZ) (m : Nat) (n : Nat) (x2 : Int) (x3 : Int) (s : mS) : Option (Int × mS) := runS Z TT Mi_229 scr0 (zenv_229 Z m) n 2 [(0, rv (some 249)), (1, rv (some 256)), (2, iv x2), (3, iv x3)] [] s (0, 0)
def zf_R_save_249_256 (Z : mZ) (m : Nat) (a2 : Int) (s : mS) : Option (Int × mS) := zF_229 Z m [rv (some 249), rv (some 256), iv a2] s
def zl_R_save_249_255_L2 (Z : mZ) (m : Nat) (n : Nat) (x2 : Int) (x3 : Int) (s : mS) : Option (Int × mS) := runS Z TT Mi_229 scr0 (zenv_229 Z m) n 2 [(0, rv (some 249)), (1, rv (some 255)), (2, iv x2), (3, iv x3)] [] s (0, 0)
def zf_R_save_249_255 (Z : mZ) (m : Nat) (a2 : Int) (s : mS) : Option (Int × mS) := zF_229 Z m [rv (some 249), rv (some 255), iv a2] s
def Mi_228 : mM := (false, false, 10, 2, (0, 0), 0, rs_12, cd_228, [(11, [0, 1])])
abbrev zenv_228 (Z : mZ) (m : Nat) : Nat → List mV → mS → Option (Int × mS) := fun j as s => (bsel (Nat.beq j 229) (zF_229 Z m as s) none)
def zF_228 (Z : mZ) (m : Nat) (as : List mV) (s : mS) : Option (Int × mS) := runS Z TT Mi_228 scr0 (zenv_228 Z m) (m + 1) 0 (ent 0 as) [] s (0, 0)
def zl_R_snap_L11 (Z : mZ) (m : Nat) (n : Nat) (x1 : Int) (s : mS) : Option (Int × mS) := runS Z TT Mi_228 scr0 (zenv_228 Z m) n 11 [(0, rv (some 249)), (1, iv x1)] [] s (0, 0)
def zf_R_snap (Z : mZ) (m : Nat) (s : mS) : Option (Int × mS) := zF_228 Z m [rv (some 249)] s
def Mi_232 : mM := (false, false, 10, 3, (0, 0), 0, rs_12, cd_232, [])
abbrev zenv_232 (Z : mZ) (m : Nat) : Nat → List mV → mS → Option (Int × mS) := fun j as s => none
def zF_232 (Z : mZ) (m : Nat) (as : List mV) (s : mS) : Option (Int × mS) := runS Z TT Mi_232 scr0 (zenv_232 Z m) (m + 1) 0 (ent 0 as) [] s (0, 0)
def zf_R_lies (Z : mZ) (m : Nat) (a1 : Int) (a2 : Int) (s : mS) : Option (Int × mS) := zF_232 Z m [rv (some 249), iv a1, iv a2] s
def Mi_233 : mM := (false, false, 10, 4, (0, 0), 0, rs_12, cd_233, [])
abbrev zenv_233 (Z : mZ) (m : Nat) : Nat → List mV → mS → Option (Int × mS) := fun j as s => none
def zF_233 (Z : mZ) (m : Nat) (as : List mV) (s : mS) : Option (Int × mS) := runS Z TT Mi_233 scr0 (zenv_233 Z m) (m + 1) 0 (ent 0 as) [] s (0, 0)
def zf_R_lays (Z : mZ) (m : Nat) (a1 : Int) (a2 : Int) (s : mS) : Option (Int × mS) := zF_233 Z m [rv (some 249), iv a1, iv a2] s
def Mi_231 : mM := (false, false, 10, 4, (0, 0), 0, rs_12, cd_231, [(32, [0, 1, 2, 3])])
abbrev zenv_231 (Z : mZ) (m : Nat) : Nat → List mV → mS → Option (Int × mS) := fun j as s => (bsel (Nat.beq j 232) (zF_232 Z m as s) none)
def zF_231 (Z : mZ) (m : Nat) (as : List mV) (s : mS) : Option (Int × mS) := runS Z TT Mi_231 scr0 (zenv_231 Z m) (m + 1) 0 (ent 0 as) [] s (0, 0)
def zl_R_lends_L32 (Z : mZ) (m : Nat) (n : Nat) (x1 : Int) (x2 : Int) (x3 : Int) (s : mS) : Option (Int × mS) := runS Z TT Mi_231 scr0 (zenv_231 Z m) n 32 [(0, rv (some 249)), (1, iv x1), (2, iv x2), (3, iv x3)] [] s (0, 0)
def zf_R_lends (Z : mZ) (m : Nat) (a1 : Int) (a2 : Int) (s : mS) : Option (Int × mS) := zF_231 Z m [rv (some 249), iv a1, iv a2] s
def Mi_230 : mM := (false, false, 10, 5, (0, 0), 0, rs_12, cd_230, [])
abbrev zenv_230 (Z : mZ) (m : Nat) : Nat → List mV → mS → Option (Int × mS) := fun j as s => (bsel (Nat.beq j 231) (zF_231 Z m as s) (bsel (Nat.beq j 232) (zF_232 Z m as s) (bsel (Nat.beq j 233) (zF_233 Z m as s) none)))
def zF_230 (Z : mZ) (m : Nat) (as : List mV) (s : mS) : Option (Int × mS) := runS Z TT Mi_230 scr0 (zenv_230 Z m) (m + 1) 0 (ent 0 as) [] s (0, 0)
def zf_R_live (Z : mZ) (m : Nat) (a1 : Int) (a2 : Int) (a3 : Int) (s : mS) : Option (Int × mS) := zF_230 Z m [rv (some 249), iv a1, iv a2, iv a3] s
def Mi_221 : mM := (false, false, 10, 6, (0, 0), 1, rs_12, cd_221, [])
abbrev zenv_221 (Z : mZ) (m : Nat) : Nat → List mV → mS → Option (Int × mS) := fun j as s => (bsel (Nat.beq j 222) (zF_222 Z m as s) (bsel (Nat.beq j 228) (zF_228 Z m as s) (bsel (Nat.beq j 230) (zF_230 Z m as s) none)))
def zF_221 (Z : mZ) (m : Nat) (as : List mV) (s : mS) : Option (Int × mS) := runS Z TT Mi_221 scr0 (zenv_221 Z m) (m + 1) 0 (ent 0 as) [] s (0, 0)
def zf_R_act (Z : mZ) (m : Nat) (a1 : Int) (a2 : Int) (a3 : Int) (a4 : Int) (s : mS) : Option (Int × mS) := zF_221 Z m [rv (some 249), iv a1, iv a2, iv a3, iv a4] s
def Mi_220 : mM := (false, false, 10, 3, (0, 0), 1, rs_12, cd_220, [])
abbrev zenv_220 (Z : mZ) (m : Nat) : Nat → List mV → mS → Option (Int × mS) := fun j as s => (bsel (Nat.beq j 209) (zF_209 Z m as s) (bsel (Nat.beq j 214) (zF_214 Z m as s) (bsel (Nat.beq j 221) (zF_221 Z m as s) none)))
def zF_220 (Z : mZ) (m : Nat) (as : List mV) (s : mS) : Option (Int × mS) := runS Z TT Mi_220 scr0 (zenv_220 Z m) (m + 1) 0 (ent 0 as) [] s (0, 0)
def zf_R_lend (Z : mZ) (m : Nat) (a1 : Int) (a2 : Int) (s : mS) : Option (Int × mS) := zF_220 Z m [rv (some 249), iv a1, iv a2] s
def Mi_234 : mM := (false, false, 10, 3, (0, 0), 1, rs_12, cd_234, [])
abbrev zenv_234 (Z : mZ) (m : Nat) : Nat → List mV → mS → Option (Int × mS) := fun j as s => (bsel (Nat.beq j 212) (zF_212 Z m as s) (bsel (Nat.beq j 214) (zF_214 Z m as s) (bsel (Nat.beq j 221) (zF_221 Z m as s) none)))
def zF_234 (Z : mZ) (m : Nat) (as : List mV) (s : mS) : Option (Int × mS) := runS Z TT Mi_234 scr0 (zenv_234 Z m) (m + 1) 0 (ent 0 as) [] s (0, 0)
def zf_R_lay (Z : mZ) (m : Nat) (a1 : Int) (a2 : Int) (s : mS) : Option (Int × mS) := zF_234 Z m [rv (some 249), iv a1, iv a2] s
def Mi_235 : mM := (false, false, 10, 3, (0, 0), 1, rs_12, cd_235, [])
abbrev zenv_235 (Z : mZ) (m : Nat) : Nat → List mV → mS → Option (Int × mS) := fun j as s => (bsel (Nat.beq j 214) (zF_214 Z m as s) (bsel (Nat.beq j 221) (zF_221 Z m as s) none))
def zF_235 (Z : mZ) (m : Nat) (as : List mV) (s : mS) : Option (Int × mS) := runS Z TT Mi_235 scr0 (zenv_235 Z m) (m + 1) 0 (ent 0 as) [] s (0, 0)
def zf_R_swap (Z : mZ) (m : Nat) (a1 : Int) (a2 : Int) (s : mS) : Option (Int × mS) := zF_235 Z m [rv (some 249), iv a1, iv a2] s
def Mi_236 : mM := (false, false, 10, 2, (0, 0), 1, rs_12, cd_236, [])
abbrev zenv_236 (Z : mZ) (m : Nat) : Nat → List mV → mS → Option (Int × mS) := fun j as s => (bsel (Nat.beq j 209) (zF_209 Z m as s) (bsel (Nat.beq j 221) (zF_221 Z m as s) none))
def zF_236 (Z : mZ) (m : Nat) (as : List mV) (s : mS) : Option (Int × mS) := runS Z TT Mi_236 scr0 (zenv_236 Z m) (m + 1) 0 (ent 0 as) [] s (0, 0)
def zf_R_mend (Z : mZ) (m : Nat) (a1 : Int) (s : mS) : Option (Int × mS) := zF_236 Z m [rv (some 249), iv a1] s
def Mi_238 : mM := (false, false, 10, 4, (0, 0), 0, rs_12, cd_238, [(2, [0, 1, 2, 3])])
abbrev zenv_238 (Z : mZ) (m : Nat) : Nat → List mV → mS → Option (Int × mS) := fun j as s => none
def zF_238 (Z : mZ) (m : Nat) (as : List mV) (s : mS) : Option (Int × mS) := runS Z TT Mi_238 scr0 (zenv_238 Z m) (m + 1) 0 (ent 0 as) [] s (0, 0)
def zl_R_comeBack_249_254_L2 (Z : mZ) (m : Nat) (n : Nat) (x2 : Int) (x3 : Int) (s : mS) : Option (Int × mS) := runS Z TT Mi_238 scr0 (zenv_238 Z m) n 2 [(0, rv (some 249)), (1, rv (some 254)), (2, iv x2), (3, iv x3)] [] s (0, 0)
def zf_R_comeBack_249_254 (Z : mZ) (m : Nat) (a2 : Int) (s : mS) : Option (Int × mS) := zF_238 Z m [rv (some 249), rv (some 254), iv a2] s
def zl_R_comeBack_249_256_L2 (Z : mZ) (m : Nat) (n : Nat) (x2 : Int) (x3 : Int) (s : mS) : Option (Int × mS) := runS Z TT Mi_238 scr0 (zenv_238 Z m) n 2 [(0, rv (some 249)), (1, rv (some 256)), (2, iv x2), (3, iv x3)] [] s (0, 0)
def zf_R_comeBack_249_256 (Z : mZ) (m : Nat) (a2 : Int) (s : mS) : Option (Int × mS) := zF_238 Z m [rv (some 249), rv (some 256), iv a2] s
def zl_R_comeBack_249_255_L2 (Z : mZ) (m : Nat) (n : Nat) (x2 : Int) (x3 : Int) (s : mS) : Option (Int × mS) := runS Z TT Mi_238 scr0 (zenv_238 Z m) n 2 [(0, rv (some 249)), (1, rv (some 255)), (2, iv x2), (3, iv x3)] [] s (0, 0)
def zf_R_comeBack_249_255 (Z : mZ) (m : Nat) (a2 : Int) (s : mS) : Option (Int × mS) := zF_238 Z m [rv (some 249), rv (some 255), iv a2] s
def Mi_237 : mM := (false, false, 10, 1, (0, 0), 1, rs_12, cd_237, [])
abbrev zenv_237 (Z : mZ) (m : Nat) : Nat → List mV → mS → Option (Int × mS) := fun j as s => (bsel (Nat.beq j 238) (zF_238 Z m as s) none)
def zF_237 (Z : mZ) (m : Nat) (as : List mV) (s : mS) : Option (Int × mS) := runS Z TT Mi_237 scr0 (zenv_237 Z m) (m + 1) 0 (ent 0 as) [] s (0, 0)
def zf_R_undo (Z : mZ) (m : Nat) (s : mS) : Option (Int × mS) := zF_237 Z m [rv (some 249)] s
def Mi_241 : mM := (false, false, 10, 2, (0, 0), 1, rs_12, cd_241, [])
abbrev zenv_241 (Z : mZ) (m : Nat) : Nat → List mV → mS → Option (Int × mS) := fun j as s => none
def zF_241 (Z : mZ) (m : Nat) (as : List mV) (s : mS) : Option (Int × mS) := runS Z TT Mi_241 scr0 (zenv_241 Z m) (m + 1) 0 (ent 0 as) [] s (0, 0)
def zf_R_least (Z : mZ) (m : Nat) (a0 : Int) (a1 : Int) (s : mS) : Option (Int × mS) := zF_241 Z m [iv a0, iv a1] s
def Mi_242 : mM := (false, false, 10, 2, (0, 0), 0, rs_12, cd_242, [(2, [0, 1]), (76, [0, 1]), (115, [0, 1])])
abbrev zenv_242 (Z : mZ) (m : Nat) : Nat → List mV → mS → Option (Int × mS) := fun j as s => (bsel (Nat.beq j 176) (zF_176 Z m as s) none)
def zF_242 (Z : mZ) (m : Nat) (as : List mV) (s : mS) : Option (Int × mS) := runS Z TT Mi_242 scr0 (zenv_242 Z m) (m + 1) 0 (ent 0 as) [] s (0, 0)
def zl_R_oneDay_L2 (Z : mZ) (m : Nat) (n : Nat) (x1 : Int) (s : mS) : Option (Int × mS) := runS Z TT Mi_242 scr0 (zenv_242 Z m) n 2 [(0, rv (some 249)), (1, iv x1)] [] s (0, 0)
def zl_R_oneDay_L76 (Z : mZ) (m : Nat) (n : Nat) (x1 : Int) (s : mS) : Option (Int × mS) := runS Z TT Mi_242 scr0 (zenv_242 Z m) n 76 [(0, rv (some 249)), (1, iv x1)] [] s (0, 0)
def zl_R_oneDay_L115 (Z : mZ) (m : Nat) (n : Nat) (x1 : Int) (s : mS) : Option (Int × mS) := runS Z TT Mi_242 scr0 (zenv_242 Z m) n 115 [(0, rv (some 249)), (1, iv x1)] [] s (0, 0)
def zf_R_oneDay (Z : mZ) (m : Nat) (s : mS) : Option (Int × mS) := zF_242 Z m [rv (some 249)] s
def Mi_240 : mM := (false, false, 10, 4, (0, 0), 1, rs_12, cd_240, [(18, [0, 2, 3])])
abbrev zenv_240 (Z : mZ) (m : Nat) : Nat → List mV → mS → Option (Int × mS) := fun j as s => (bsel (Nat.beq j 241) (zF_241 Z m as s) (bsel (Nat.beq j 242) (zF_242 Z m as s) none))
def zF_240 (Z : mZ) (m : Nat) (as : List mV) (s : mS) : Option (Int × mS) := runS Z TT Mi_240 scr0 (zenv_240 Z m) (m + 1) 0 (ent 0 as) [] s (0, 0)
def zl_R_passDays_L18 (Z : mZ) (m : Nat) (n : Nat) (x2 : Int) (x3 : Int) (s : mS) : Option (Int × mS) := runS Z TT Mi_240 scr0 (zenv_240 Z m) n 18 [(0, rv (some 249)), (2, iv x2), (3, iv x3)] [] s (0, 0)
def zf_R_passDays (Z : mZ) (m : Nat) (a1 : Int) (s : mS) : Option (Int × mS) := zF_240 Z m [rv (some 249), iv a1] s
def Mi_239 : mM := (false, false, 10, 2, (0, 0), 1, rs_12, cd_239, [])
abbrev zenv_239 (Z : mZ) (m : Nat) : Nat → List mV → mS → Option (Int × mS) := fun j as s => (bsel (Nat.beq j 195) (zF_195 Z m as s) (bsel (Nat.beq j 228) (zF_228 Z m as s) (bsel (Nat.beq j 240) (zF_240 Z m as s) none)))
def zF_239 (Z : mZ) (m : Nat) (as : List mV) (s : mS) : Option (Int × mS) := runS Z TT Mi_239 scr0 (zenv_239 Z m) (m + 1) 0 (ent 0 as) [] s (0, 0)
def zf_R_days (Z : mZ) (m : Nat) (a1 : Int) (s : mS) : Option (Int × mS) := zF_239 Z m [rv (some 249), iv a1] s
def Mi_245 : mM := (false, false, 10, 3, (0, 0), 4, rs_12, cd_245, [])
abbrev zenv_245 (Z : mZ) (m : Nat) : Nat → List mV → mS → Option (Int × mS) := fun j as s => (bsel (Nat.beq j 210) (zF_210 Z m as s) (bsel (Nat.beq j 224) (zF_224 Z m as s) none))
def zF_245 (Z : mZ) (m : Nat) (as : List mV) (s : mS) : Option (Int × mS) := runS Z TT Mi_245 scr0 (zenv_245 Z m) (m + 1) 0 (ent 0 as) [] s (0, 0)
def zf_R_canLend (Z : mZ) (m : Nat) (a1 : Int) (a2 : Int) (s : mS) : Option (Int × mS) := zF_245 Z m [rv (some 249), iv a1, iv a2] s
def Mi_246 : mM := (false, false, 10, 4, (0, 0), 1, rs_12, cd_246, [(2, [0, 1, 2, 3])])
abbrev zenv_246 (Z : mZ) (m : Nat) : Nat → List mV → mS → Option (Int × mS) := fun j as s => (bsel (Nat.beq j 201) (zF_201 Z m as s) (bsel (Nat.beq j 245) (zF_245 Z m as s) none))
def zF_246 (Z : mZ) (m : Nat) (as : List mV) (s : mS) : Option (Int × mS) := runS Z TT Mi_246 scr0 (zenv_246 Z m) (m + 1) 0 (ent 0 as) [] s (0, 0)
def zl_R_boxFor_L2 (Z : mZ) (m : Nat) (n : Nat) (x1 : Int) (x2 : Int) (x3 : Int) (s : mS) : Option (Int × mS) := runS Z TT Mi_246 scr0 (zenv_246 Z m) n 2 [(0, rv (some 249)), (1, iv x1), (2, iv x2), (3, iv x3)] [] s (0, 0)
def zf_R_boxFor (Z : mZ) (m : Nat) (a1 : Int) (a2 : Int) (s : mS) : Option (Int × mS) := zF_246 Z m [rv (some 249), iv a1, iv a2] s
def Mi_244 : mM := (false, false, 10, 6, (0, 0), 1, rs_12, cd_244, [(18, [0, 1, 2, 3, 4])])
abbrev zenv_244 (Z : mZ) (m : Nat) : Nat → List mV → mS → Option (Int × mS) := fun j as s => (bsel (Nat.beq j 201) (zF_201 Z m as s) (bsel (Nat.beq j 245) (zF_245 Z m as s) none))
def zF_244 (Z : mZ) (m : Nat) (as : List mV) (s : mS) : Option (Int × mS) := runS Z TT Mi_244 scr0 (zenv_244 Z m) (m + 1) 0 (ent 0 as) [] s (0, 0)
def zl_R_mostOf_L18 (Z : mZ) (m : Nat) (n : Nat) (x1 : Int) (x2 : Int) (x3 : Int) (x4 : Int) (s : mS) : Option (Int × mS) := runS Z TT Mi_244 scr0 (zenv_244 Z m) n 18 [(0, rv (some 249)), (1, iv x1), (2, iv x2), (3, iv x3), (4, iv x4)] [] s (0, 0)
def zf_R_mostOf (Z : mZ) (m : Nat) (a1 : Int) (a2 : Int) (s : mS) : Option (Int × mS) := zF_244 Z m [rv (some 249), iv a1, iv a2] s
def Mi_243 : mM := (false, false, 10, 4, (0, 0), 1, rs_12, cd_243, [(14, [0, 1, 2]), (44, [0, 1, 2]), (50, [0, 1, 2, 3]), (91, [0, 1, 2, 3])])
abbrev zenv_243 (Z : mZ) (m : Nat) : Nat → List mV → mS → Option (Int × mS) := fun j as s => (bsel (Nat.beq j 244) (zF_244 Z m as s) (bsel (Nat.beq j 246) (zF_246 Z m as s) none))
def zF_243 (Z : mZ) (m : Nat) (as : List mV) (s : mS) : Option (Int × mS) := runS Z TT Mi_243 scr0 (zenv_243 Z m) (m + 1) 0 (ent 0 as) [] s (0, 0)
def zl_R_match_L14 (Z : mZ) (m : Nat) (n : Nat) (x1 : Int) (x2 : Int) (s : mS) : Option (Int × mS) := runS Z TT Mi_243 scr0 (zenv_243 Z m) n 14 [(0, rv (some 249)), (1, iv x1), (2, iv x2)] [] s (0, 0)
def zl_R_match_L44 (Z : mZ) (m : Nat) (n : Nat) (x1 : Int) (x2 : Int) (s : mS) : Option (Int × mS) := runS Z TT Mi_243 scr0 (zenv_243 Z m) n 44 [(0, rv (some 249)), (1, iv x1), (2, iv x2)] [] s (0, 0)
def zl_R_match_L91 (Z : mZ) (m : Nat) (n : Nat) (x1 : Int) (x2 : Int) (x3 : Int) (s : mS) : Option (Int × mS) := runS Z TT Mi_243 scr0 (zenv_243 Z m) n 91 [(0, rv (some 249)), (1, iv x1), (2, iv x2), (3, iv x3)] [] s (0, 0)
def zl_R_match_L50 (Z : mZ) (m : Nat) (n : Nat) (x1 : Int) (x2 : Int) (x3 : Int) (s : mS) : Option (Int × mS) := runS Z TT Mi_243 scr0 (zenv_243 Z m) n 50 [(0, rv (some 249)), (1, iv x1), (2, iv x2), (3, iv x3)] [] s (0, 0)
def zf_R_match (Z : mZ) (m : Nat) (s : mS) : Option (Int × mS) := zF_243 Z m [rv (some 249)] s
def Mi_247 : mM := (false, false, 10, 2, (0, 0), 1, rs_12, cd_247, [])
abbrev zenv_247 (Z : mZ) (m : Nat) : Nat → List mV → mS → Option (Int × mS) := fun j as s => (bsel (Nat.beq j 195) (zF_195 Z m as s) none)
def zF_247 (Z : mZ) (m : Nat) (as : List mV) (s : mS) : Option (Int × mS) := runS Z TT Mi_247 scr0 (zenv_247 Z m) (m + 1) 0 (ent 0 as) [] s (0, 0)
def zf_R_matchOf (Z : mZ) (m : Nat) (a1 : Int) (s : mS) : Option (Int × mS) := zF_247 Z m [rv (some 249), iv a1] s
def Mi_249 : mM := (false, false, 10, 4, (0, 0), 1, rs_12, cd_249, [(20, [0, 1, 2, 3])])
abbrev zenv_249 (Z : mZ) (m : Nat) : Nat → List mV → mS → Option (Int × mS) := fun j as s => (bsel (Nat.beq j 218) (zF_218 Z m as s) (bsel (Nat.beq j 226) (zF_226 Z m as s) none))
def zF_249 (Z : mZ) (m : Nat) (as : List mV) (s : mS) : Option (Int × mS) := runS Z TT Mi_249 scr0 (zenv_249 Z m) (m + 1) 0 (ent 0 as) [] s (0, 0)
def zl_R_plotIn_L20 (Z : mZ) (m : Nat) (n : Nat) (x1 : Int) (x2 : Int) (x3 : Int) (s : mS) : Option (Int × mS) := runS Z TT Mi_249 scr0 (zenv_249 Z m) n 20 [(0, rv (some 249)), (1, iv x1), (2, iv x2), (3, iv x3)] [] s (0, 0)
def zf_R_plotIn (Z : mZ) (m : Nat) (a1 : Int) (a2 : Int) (s : mS) : Option (Int × mS) := zF_249 Z m [rv (some 249), iv a1, iv a2] s
def Mi_248 : mM := (false, false, 10, 4, (0, 0), 1, rs_12, cd_248, [(31, [0, 1, 2])])
abbrev zenv_248 (Z : mZ) (m : Nat) : Nat → List mV → mS → Option (Int × mS) := fun j as s => (bsel (Nat.beq j 214) (zF_214 Z m as s) (bsel (Nat.beq j 249) (zF_249 Z m as s) none))
def zF_248 (Z : mZ) (m : Nat) (as : List mV) (s : mS) : Option (Int × mS) := runS Z TT Mi_248 scr0 (zenv_248 Z m) (m + 1) 0 (ent 0 as) [] s (0, 0)
def zl_R_soon_L31 (Z : mZ) (m : Nat) (n : Nat) (x1 : Int) (x2 : Int) (s : mS) : Option (Int × mS) := runS Z TT Mi_248 scr0 (zenv_248 Z m) n 31 [(0, rv (some 249)), (1, iv x1), (2, iv x2)] [] s (0, 0)
def zf_R_soon (Z : mZ) (m : Nat) (a1 : Int) (s : mS) : Option (Int × mS) := zF_248 Z m [rv (some 249), iv a1] s
def Mi_250 : mM := (false, false, 10, 1, (0, 0), 1, rs_12, cd_250, [])
abbrev zenv_250 (Z : mZ) (m : Nat) : Nat → List mV → mS → Option (Int × mS) := fun j as s => none
def zF_250 (Z : mZ) (m : Nat) (as : List mV) (s : mS) : Option (Int × mS) := runS Z TT Mi_250 scr0 (zenv_250 Z m) (m + 1) 0 (ent 0 as) [] s (0, 0)
def zf_R_soonIn (Z : mZ) (m : Nat) (s : mS) : Option (Int × mS) := zF_250 Z m [rv (some 249)] s
def Mi_251 : mM := (false, false, 10, 4, (0, 0), 1, rs_12, cd_251, [(21, [0, 1, 2, 3])])
abbrev zenv_251 (Z : mZ) (m : Nat) : Nat → List mV → mS → Option (Int × mS) := fun j as s => (bsel (Nat.beq j 195) (zF_195 Z m as s) none)
def zF_251 (Z : mZ) (m : Nat) (as : List mV) (s : mS) : Option (Int × mS) := runS Z TT Mi_251 scr0 (zenv_251 Z m) (m + 1) 0 (ent 0 as) [] s (0, 0)
def zl_R_crowd_L21 (Z : mZ) (m : Nat) (n : Nat) (x1 : Int) (x2 : Int) (x3 : Int) (s : mS) : Option (Int × mS) := runS Z TT Mi_251 scr0 (zenv_251 Z m) n 21 [(0, rv (some 249)), (1, iv x1), (2, iv x2), (3, iv x3)] [] s (0, 0)
def zf_R_crowd (Z : mZ) (m : Nat) (a1 : Int) (s : mS) : Option (Int × mS) := zF_251 Z m [rv (some 249), iv a1] s
def Mi_253 : mM := (false, false, 10, 5, (0, 0), 4, rs_12, cd_253, [])
abbrev zenv_253 (Z : mZ) (m : Nat) : Nat → List mV → mS → Option (Int × mS) := fun j as s => (bsel (Nat.beq j 195) (zF_195 Z m as s) none)
def zF_253 (Z : mZ) (m : Nat) (as : List mV) (s : mS) : Option (Int × mS) := runS Z TT Mi_253 scr0 (zenv_253 Z m) (m + 1) 0 (ent 0 as) [] s (0, 0)
def zf_R_isOut (Z : mZ) (m : Nat) (a1 : Int) (a2 : Int) (a3 : Int) (s : mS) : Option (Int × mS) := zF_253 Z m [rv (some 249), iv a1, iv a2, iv a3] s
def Mi_252 : mM := (false, false, 10, 7, (0, 0), 1, rs_12, cd_252, [(32, [0, 1, 2, 3, 4]), (44, [0, 1, 2, 3, 4, 5, 6])])
abbrev zenv_252 (Z : mZ) (m : Nat) : Nat → List mV → mS → Option (Int × mS) := fun j as s => (bsel (Nat.beq j 195) (zF_195 Z m as s) (bsel (Nat.beq j 253) (zF_253 Z m as s) none))
def zF_252 (Z : mZ) (m : Nat) (as : List mV) (s : mS) : Option (Int × mS) := runS Z TT Mi_252 scr0 (zenv_252 Z m) (m + 1) 0 (ent 0 as) [] s (0, 0)
def zl_R_need_L32 (Z : mZ) (m : Nat) (n : Nat) (x1 : Int) (x2 : Int) (x3 : Int) (x4 : Int) (s : mS) : Option (Int × mS) := runS Z TT Mi_252 scr0 (zenv_252 Z m) n 32 [(0, rv (some 249)), (1, iv x1), (2, iv x2), (3, iv x3), (4, iv x4)] [] s (0, 0)
def zl_R_need_L44 (Z : mZ) (m : Nat) (n : Nat) (x1 : Int) (x2 : Int) (x3 : Int) (x4 : Int) (x5 : Int) (x6 : Int) (s : mS) : Option (Int × mS) := runS Z TT Mi_252 scr0 (zenv_252 Z m) n 44 [(0, rv (some 249)), (1, iv x1), (2, iv x2), (3, iv x3), (4, iv x4), (5, iv x5), (6, iv x6)] [] s (0, 0)
def zf_R_need (Z : mZ) (m : Nat) (a1 : Int) (a2 : Int) (s : mS) : Option (Int × mS) := zF_252 Z m [rv (some 249), iv a1, iv a2] s
def Mi_255 : mM := (false, false, 10, 3, (0, 0), 1, rs_12, cd_255, [])
abbrev zenv_255 (Z : mZ) (m : Nat) : Nat → List mV → mS → Option (Int × mS) := fun j as s => (bsel (Nat.beq j 224) (zF_224 Z m as s) none)
def zF_255 (Z : mZ) (m : Nat) (as : List mV) (s : mS) : Option (Int × mS) := runS Z TT Mi_255 scr0 (zenv_255 Z m) (m + 1) 0 (ent 0 as) [] s (0, 0)
def zf_R_nextIn (Z : mZ) (m : Nat) (a1 : Int) (s : mS) : Option (Int × mS) := zF_255 Z m [rv (some 249), iv a1] s
def Mi_254 : mM := (false, false, 10, 5, (0, 0), 1, rs_12, cd_254, [(33, [0, 1, 2, 3]), (75, [0, 2, 4])])
abbrev zenv_254 (Z : mZ) (m : Nat) : Nat → List mV → mS → Option (Int × mS) := fun j as s => (bsel (Nat.beq j 214) (zF_214 Z m as s) (bsel (Nat.beq j 255) (zF_255 Z m as s) none))
def zF_254 (Z : mZ) (m : Nat) (as : List mV) (s : mS) : Option (Int × mS) := runS Z TT Mi_254 scr0 (zenv_254 Z m) (m + 1) 0 (ent 0 as) [] s (0, 0)
def zl_R_ring_L33 (Z : mZ) (m : Nat) (n : Nat) (x1 : Int) (x2 : Int) (x3 : Int) (s : mS) : Option (Int × mS) := runS Z TT Mi_254 scr0 (zenv_254 Z m) n 33 [(0, rv (some 249)), (1, iv x1), (2, iv x2), (3, iv x3)] [] s (0, 0)
def zl_R_ring_L75 (Z : mZ) (m : Nat) (n : Nat) (x2 : Int) (x4 : Int) (s : mS) : Option (Int × mS) := runS Z TT Mi_254 scr0 (zenv_254 Z m) n 75 [(0, rv (some 249)), (2, iv x2), (4, iv x4)] [] s (0, 0)
def zf_R_ring (Z : mZ) (m : Nat) (a1 : Int) (s : mS) : Option (Int × mS) := zF_254 Z m [rv (some 249), iv a1] s
def Mi_256 : mM := (false, false, 10, 2, (0, 0), 1, rs_12, cd_256, [])
abbrev zenv_256 (Z : mZ) (m : Nat) : Nat → List mV → mS → Option (Int × mS) := fun j as s => (bsel (Nat.beq j 195) (zF_195 Z m as s) none)
def zF_256 (Z : mZ) (m : Nat) (as : List mV) (s : mS) : Option (Int × mS) := runS Z TT Mi_256 scr0 (zenv_256 Z m) (m + 1) 0 (ent 0 as) [] s (0, 0)
def zf_R_ringAt (Z : mZ) (m : Nat) (a1 : Int) (s : mS) : Option (Int × mS) := zF_256 Z m [rv (some 249), iv a1] s
def Mi_259 : mM := (false, false, 10, 3, (0, 0), 1, rs_12, cd_259, [])
abbrev zenv_259 (Z : mZ) (m : Nat) : Nat → List mV → mS → Option (Int × mS) := fun j as s => none
def zF_259 (Z : mZ) (m : Nat) (as : List mV) (s : mS) : Option (Int × mS) := runS Z TT Mi_259 scr0 (zenv_259 Z m) (m + 1) 0 (ent 0 as) [] s (0, 0)
def zf_R_partOf (Z : mZ) (m : Nat) (a1 : Int) (a2 : Int) (s : mS) : Option (Int × mS) := zF_259 Z m [rv (some 249), iv a1, iv a2] s
def Mi_258 : mM := (false, false, 10, 4, (0, 0), 4, rs_12, cd_258, [(2, [0, 1, 2, 3])])
abbrev zenv_258 (Z : mZ) (m : Nat) : Nat → List mV → mS → Option (Int × mS) := fun j as s => (bsel (Nat.beq j 259) (zF_259 Z m as s) none)
def zF_258 (Z : mZ) (m : Nat) (as : List mV) (s : mS) : Option (Int × mS) := runS Z TT Mi_258 scr0 (zenv_258 Z m) (m + 1) 0 (ent 0 as) [] s (0, 0)
def zl_R_isTold_L2 (Z : mZ) (m : Nat) (n : Nat) (x1 : Int) (x2 : Int) (x3 : Int) (s : mS) : Option (Int × mS) := runS Z TT Mi_258 scr0 (zenv_258 Z m) n 2 [(0, rv (some 249)), (1, iv x1), (2, iv x2), (3, iv x3)] [] s (0, 0)
def zf_R_isTold (Z : mZ) (m : Nat) (a1 : Int) (a2 : Int) (s : mS) : Option (Int × mS) := zF_258 Z m [rv (some 249), iv a1, iv a2] s
def Mi_260 : mM := (false, false, 10, 7, (0, 0), 1, rs_12, cd_260, [(5, [0, 1, 2, 3, 4]), (34, [0, 1, 2, 3, 4, 5, 6])])
abbrev zenv_260 (Z : mZ) (m : Nat) : Nat → List mV → mS → Option (Int × mS) := fun j as s => (bsel (Nat.beq j 201) (zF_201 Z m as s) (bsel (Nat.beq j 259) (zF_259 Z m as s) none))
def zF_260 (Z : mZ) (m : Nat) (as : List mV) (s : mS) : Option (Int × mS) := runS Z TT Mi_260 scr0 (zenv_260 Z m) (m + 1) 0 (ent 0 as) [] s (0, 0)
def zl_R_leftBy_L5 (Z : mZ) (m : Nat) (n : Nat) (x1 : Int) (x2 : Int) (x3 : Int) (x4 : Int) (s : mS) : Option (Int × mS) := runS Z TT Mi_260 scr0 (zenv_260 Z m) n 5 [(0, rv (some 249)), (1, iv x1), (2, iv x2), (3, iv x3), (4, iv x4)] [] s (0, 0)
def zl_R_leftBy_L34 (Z : mZ) (m : Nat) (n : Nat) (x1 : Int) (x2 : Int) (x3 : Int) (x4 : Int) (x5 : Int) (x6 : Int) (s : mS) : Option (Int × mS) := runS Z TT Mi_260 scr0 (zenv_260 Z m) n 34 [(0, rv (some 249)), (1, iv x1), (2, iv x2), (3, iv x3), (4, iv x4), (5, iv x5), (6, iv x6)] [] s (0, 0)
def zf_R_leftBy (Z : mZ) (m : Nat) (a1 : Int) (a2 : Int) (s : mS) : Option (Int × mS) := zF_260 Z m [rv (some 249), iv a1, iv a2] s
def Mi_257 : mM := (false, false, 10, 4, (0, 0), 1, rs_12, cd_257, [(32, [0, 1, 2]), (59, [0, 1, 2, 3]), (103, [0, 2, 3])])
abbrev zenv_257 (Z : mZ) (m : Nat) : Nat → List mV → mS → Option (Int × mS) := fun j as s => (bsel (Nat.beq j 179) (zF_179 Z m as s) (bsel (Nat.beq j 195) (zF_195 Z m as s) (bsel (Nat.beq j 258) (zF_258 Z m as s) (bsel (Nat.beq j 260) (zF_260 Z m as s) none))))
def zF_257 (Z : mZ) (m : Nat) (as : List mV) (s : mS) : Option (Int × mS) := runS Z TT Mi_257 scr0 (zenv_257 Z m) (m + 1) 0 (ent 0 as) [] s (0, 0)
def zl_R_who_L32 (Z : mZ) (m : Nat) (n : Nat) (x1 : Int) (x2 : Int) (s : mS) : Option (Int × mS) := runS Z TT Mi_257 scr0 (zenv_257 Z m) n 32 [(0, rv (some 249)), (1, iv x1), (2, iv x2)] [] s (0, 0)
def zl_R_who_L59 (Z : mZ) (m : Nat) (n : Nat) (x1 : Int) (x2 : Int) (x3 : Int) (s : mS) : Option (Int × mS) := runS Z TT Mi_257 scr0 (zenv_257 Z m) n 59 [(0, rv (some 249)), (1, iv x1), (2, iv x2), (3, iv x3)] [] s (0, 0)
def zl_R_who_L103 (Z : mZ) (m : Nat) (n : Nat) (x2 : Int) (x3 : Int) (s : mS) : Option (Int × mS) := runS Z TT Mi_257 scr0 (zenv_257 Z m) n 103 [(0, rv (some 249)), (2, iv x2), (3, iv x3)] [] s (0, 0)
def zf_R_who (Z : mZ) (m : Nat) (s : mS) : Option (Int × mS) := zF_257 Z m [rv (some 249)] s
def Mi_261 : mM := (false, false, 10, 1, (0, 0), 1, rs_12, cd_261, [])
abbrev zenv_261 (Z : mZ) (m : Nat) : Nat → List mV → mS → Option (Int × mS) := fun j as s => none
def zF_261 (Z : mZ) (m : Nat) (as : List mV) (s : mS) : Option (Int × mS) := runS Z TT Mi_261 scr0 (zenv_261 Z m) (m + 1) 0 (ent 0 as) [] s (0, 0)
def zf_R_ask (Z : mZ) (m : Nat) (s : mS) : Option (Int × mS) := zF_261 Z m [rv (some 249)] s
def Mi_262 : mM := (false, false, 10, 7, (0, 0), 1, rs_12, cd_262, [(30, [0, 2, 3, 4]), (54, [0, 2, 3, 4, 5, 6])])
abbrev zenv_262 (Z : mZ) (m : Nat) : Nat → List mV → mS → Option (Int × mS) := fun j as s => (bsel (Nat.beq j 201) (zF_201 Z m as s) (bsel (Nat.beq j 214) (zF_214 Z m as s) none))
def zF_262 (Z : mZ) (m : Nat) (as : List mV) (s : mS) : Option (Int × mS) := runS Z TT Mi_262 scr0 (zenv_262 Z m) (m + 1) 0 (ent 0 as) [] s (0, 0)
def zl_R_near_L30 (Z : mZ) (m : Nat) (n : Nat) (x2 : Int) (x3 : Int) (x4 : Int) (s : mS) : Option (Int × mS) := runS Z TT Mi_262 scr0 (zenv_262 Z m) n 30 [(0, rv (some 249)), (2, iv x2), (3, iv x3), (4, iv x4)] [] s (0, 0)
def zl_R_near_L54 (Z : mZ) (m : Nat) (n : Nat) (x2 : Int) (x3 : Int) (x4 : Int) (x5 : Int) (x6 : Int) (s : mS) : Option (Int × mS) := runS Z TT Mi_262 scr0 (zenv_262 Z m) n 54 [(0, rv (some 249)), (2, iv x2), (3, iv x3), (4, iv x4), (5, iv x5), (6, iv x6)] [] s (0, 0)
def zf_R_near (Z : mZ) (m : Nat) (a1 : Int) (a2 : Int) (s : mS) : Option (Int × mS) := zF_262 Z m [rv (some 249), iv a1, iv a2] s
def Mi_265 : mM := (false, false, 10, 5, (0, 0), 1, rs_12, cd_265, [(4, [2, 3])])
abbrev zenv_265 (Z : mZ) (m : Nat) : Nat → List mV → mS → Option (Int × mS) := fun j as s => none
def zF_265 (Z : mZ) (m : Nat) (as : List mV) (s : mS) : Option (Int × mS) := runS Z TT Mi_265 scr0 (zenv_265 Z m) (m + 1) 0 (ent 0 as) [] s (0, 0)
def zl_R_common_L4 (Z : mZ) (m : Nat) (n : Nat) (x2 : Int) (x3 : Int) (s : mS) : Option (Int × mS) := runS Z TT Mi_265 scr0 (zenv_265 Z m) n 4 [(2, iv x2), (3, iv x3)] [] s (0, 0)
def zf_R_common (Z : mZ) (m : Nat) (a0 : Int) (a1 : Int) (s : mS) : Option (Int × mS) := zF_265 Z m [iv a0, iv a1] s
def Mi_264 : mM := (false, false, 10, 4, (0, 0), 1, rs_12, cd_264, [])
abbrev zenv_264 (Z : mZ) (m : Nat) : Nat → List mV → mS → Option (Int × mS) := fun j as s => (bsel (Nat.beq j 265) (zF_265 Z m as s) none)
def zF_264 (Z : mZ) (m : Nat) (as : List mV) (s : mS) : Option (Int × mS) := runS Z TT Mi_264 scr0 (zenv_264 Z m) (m + 1) 0 (ent 0 as) [] s (0, 0)
def zf_R_fraction (Z : mZ) (m : Nat) (a1 : Int) (a2 : Int) (a3 : Int) (s : mS) : Option (Int × mS) := zF_264 Z m [rv (some 249), iv a1, iv a2, iv a3] s
def Mi_263 : mM := (false, false, 10, 3, (0, 0), 1, rs_12, cd_263, [])
abbrev zenv_263 (Z : mZ) (m : Nat) : Nat → List mV → mS → Option (Int × mS) := fun j as s => (bsel (Nat.beq j 195) (zF_195 Z m as s) (bsel (Nat.beq j 209) (zF_209 Z m as s) (bsel (Nat.beq j 215) (zF_215 Z m as s) (bsel (Nat.beq j 264) (zF_264 Z m as s) none))))
def zF_263 (Z : mZ) (m : Nat) (as : List mV) (s : mS) : Option (Int × mS) := runS Z TT Mi_263 scr0 (zenv_263 Z m) (m + 1) 0 (ent 0 as) [] s (0, 0)
def zf_R_wear (Z : mZ) (m : Nat) (a1 : Int) (a2 : Int) (s : mS) : Option (Int × mS) := zF_263 Z m [rv (some 249), iv a1, iv a2] s
def Mi_266 : mM := (false, false, 10, 5, (0, 0), 1, rs_12, cd_266, [(35, [0, 1, 2, 3, 4])])
abbrev zenv_266 (Z : mZ) (m : Nat) : Nat → List mV → mS → Option (Int × mS) := fun j as s => (bsel (Nat.beq j 195) (zF_195 Z m as s) (bsel (Nat.beq j 215) (zF_215 Z m as s) (bsel (Nat.beq j 264) (zF_264 Z m as s) none)))
def zF_266 (Z : mZ) (m : Nat) (as : List mV) (s : mS) : Option (Int × mS) := runS Z TT Mi_266 scr0 (zenv_266 Z m) (m + 1) 0 (ent 0 as) [] s (0, 0)
def zl_R_mean_L35 (Z : mZ) (m : Nat) (n : Nat) (x1 : Int) (x2 : Int) (x3 : Int) (x4 : Int) (s : mS) : Option (Int × mS) := runS Z TT Mi_266 scr0 (zenv_266 Z m) n 35 [(0, rv (some 249)), (1, iv x1), (2, iv x2), (3, iv x3), (4, iv x4)] [] s (0, 0)
def zf_R_mean (Z : mZ) (m : Nat) (a1 : Int) (s : mS) : Option (Int × mS) := zF_266 Z m [rv (some 249), iv a1] s
def Mi_267 : mM := (false, false, 10, 3, (0, 0), 1, rs_12, cd_267, [(9, [0, 1, 2])])
abbrev zenv_267 (Z : mZ) (m : Nat) : Nat → List mV → mS → Option (Int × mS) := fun j as s => none
def zF_267 (Z : mZ) (m : Nat) (as : List mV) (s : mS) : Option (Int × mS) := runS Z TT Mi_267 scr0 (zenv_267 Z m) (m + 1) 0 (ent 0 as) [] s (0, 0)
def zl_R_longest_L9 (Z : mZ) (m : Nat) (n : Nat) (x1 : Int) (x2 : Int) (s : mS) : Option (Int × mS) := runS Z TT Mi_267 scr0 (zenv_267 Z m) n 9 [(0, rv (some 249)), (1, iv x1), (2, iv x2)] [] s (0, 0)
def zf_R_longest (Z : mZ) (m : Nat) (s : mS) : Option (Int × mS) := zF_267 Z m [rv (some 249)] s
def Mi_270 : mM := (false, false, 10, 2, (0, 0), 0, rs_12, cd_270, [])
abbrev zenv_270 (Z : mZ) (m : Nat) : Nat → List mV → mS → Option (Int × mS) := fun j as s => none
def zF_270 (Z : mZ) (m : Nat) (as : List mV) (s : mS) : Option (Int × mS) := runS Z TT Mi_270 scr0 (zenv_270 Z m) (m + 1) 0 (ent 0 as) [] s (0, 0)
def zf_R_write (Z : mZ) (m : Nat) (a1 : Int) (s : mS) : Option (Int × mS) := zF_270 Z m [rv (some 249), iv a1] s
def Mi_269 : mM := (false, false, 10, 3, (0, 0), 0, rs_12, cd_269, [])
def zFg_269 (Z : mZ) (m : Nat) : Nat → Nat → List mV → mS → Option (Int × mS)
  | 0, _, _, _ => none
  | d + 1, j, as, s => bsel (Nat.beq j 269) (runS Z TT Mi_269 scr0 (fun j as s => (bsel (Nat.beq j 269) (zFg_269 Z m d 269 as s) (bsel (Nat.beq j 270) (zF_270 Z m as s) none))) (m + 1) 0 (ent 0 as) [] s (0, 0)) (none)
abbrev zenv_269 (Z : mZ) (m d : Nat) : Nat → List mV → mS → Option (Int × mS) := fun j as s => (bsel (Nat.beq j 269) (zFg_269 Z m d 269 as s) (bsel (Nat.beq j 270) (zF_270 Z m as s) none))
def zf_R_writeWord (Z : mZ) (m : Nat) (d : Nat) (a1 : Int) (s : mS) : Option (Int × mS) := zFg_269 Z m d 269 [rv (some 249), jv a1] s
def Mi_271 : mM := (false, false, 10, 3, (0, 0), 0, rs_12, cd_271, [])
abbrev zenv_271 (Z : mZ) (m : Nat) : Nat → List mV → mS → Option (Int × mS) := fun j as s => (bsel (Nat.beq j 269) (zFg_269 Z m 64 269 as s) (bsel (Nat.beq j 270) (zF_270 Z m as s) none))
def zF_271 (Z : mZ) (m : Nat) (as : List mV) (s : mS) : Option (Int × mS) := runS Z TT Mi_271 scr0 (zenv_271 Z m) (m + 1) 0 (ent 0 as) [] s (0, 0)
def zf_R_writeNext (Z : mZ) (m : Nat) (a1 : Int) (s : mS) : Option (Int × mS) := zF_271 Z m [rv (some 249), jv a1] s
def Mi_268 : mM := (false, false, 10, 2, (0, 0), 1, rs_12, cd_268, [])
abbrev zenv_268 (Z : mZ) (m : Nat) : Nat → List mV → mS → Option (Int × mS) := fun j as s => (bsel (Nat.beq j 186) (zF_186 Z m as s) (bsel (Nat.beq j 187) (zF_187 Z m as s) (bsel (Nat.beq j 214) (zF_214 Z m as s) (bsel (Nat.beq j 269) (zFg_269 Z m 64 269 as s) (bsel (Nat.beq j 271) (zF_271 Z m as s) none)))))
def zF_268 (Z : mZ) (m : Nat) (as : List mV) (s : mS) : Option (Int × mS) := runS Z TT Mi_268 scr0 (zenv_268 Z m) (m + 1) 0 (ent 0 as) [] s (0, 0)
def zf_R_tag (Z : mZ) (m : Nat) (a1 : Int) (s : mS) : Option (Int × mS) := zF_268 Z m [rv (some 249), iv a1] s
def Mi_272 : mM := (false, false, 10, 2, (0, 0), 1, rs_12, cd_272, [])
abbrev zenv_272 (Z : mZ) (m : Nat) : Nat → List mV → mS → Option (Int × mS) := fun j as s => (bsel (Nat.beq j 195) (zF_195 Z m as s) none)
def zF_272 (Z : mZ) (m : Nat) (as : List mV) (s : mS) : Option (Int × mS) := runS Z TT Mi_272 scr0 (zenv_272 Z m) (m + 1) 0 (ent 0 as) [] s (0, 0)
def zf_R_byteAt (Z : mZ) (m : Nat) (a1 : Int) (s : mS) : Option (Int × mS) := zF_272 Z m [rv (some 249), iv a1] s
def Mi_276 : mM := (false, false, 10, 2, (0, 0), 1, rs_12, cd_276, [])
abbrev zenv_276 (Z : mZ) (m : Nat) : Nat → List mV → mS → Option (Int × mS) := fun j as s => none
def zF_276 (Z : mZ) (m : Nat) (as : List mV) (s : mS) : Option (Int × mS) := runS Z TT Mi_276 scr0 (zenv_276 Z m) (m + 1) 0 (ent 0 as) [] s (0, 0)
def zf_R_draw (Z : mZ) (m : Nat) (a1 : Int) (s : mS) : Option (Int × mS) := zF_276 Z m [rv (some 249), iv a1] s
def Mi_278 : mM := (false, false, 10, 4, (0, 0), 0, rs_12, cd_278, [])
abbrev zenv_278 (Z : mZ) (m : Nat) : Nat → List mV → mS → Option (Int × mS) := fun j as s => (bsel (Nat.beq j 222) (zF_222 Z m as s) (bsel (Nat.beq j 230) (zF_230 Z m as s) none))
def zF_278 (Z : mZ) (m : Nat) (as : List mV) (s : mS) : Option (Int × mS) := runS Z TT Mi_278 scr0 (zenv_278 Z m) (m + 1) 0 (ent 0 as) [] s (0, 0)
def zf_R_doIf (Z : mZ) (m : Nat) (a1 : Int) (a2 : Int) (a3 : Int) (s : mS) : Option (Int × mS) := zF_278 Z m [rv (some 249), iv a1, iv a2, iv a3] s
def Mi_277 : mM := (false, false, 10, 5, (0, 0), 0, rs_12, cd_277, [])
abbrev zenv_277 (Z : mZ) (m : Nat) : Nat → List mV → mS → Option (Int × mS) := fun j as s => (bsel (Nat.beq j 276) (zF_276 Z m as s) (bsel (Nat.beq j 278) (zF_278 Z m as s) none))
def zF_277 (Z : mZ) (m : Nat) (as : List mV) (s : mS) : Option (Int × mS) := runS Z TT Mi_277 scr0 (zenv_277 Z m) (m + 1) 0 (ent 0 as) [] s (0, 0)
def zf_R_drawsTwo (Z : mZ) (m : Nat) (a1 : Int) (a2 : Int) (s : mS) : Option (Int × mS) := zF_277 Z m [rv (some 249), iv a1, iv a2] s
def Mi_275 : mM := (false, false, 10, 2, (0, 0), 0, rs_12, cd_275, [(44, [0, 1])])
abbrev zenv_275 (Z : mZ) (m : Nat) : Nat → List mV → mS → Option (Int × mS) := fun j as s => (bsel (Nat.beq j 276) (zF_276 Z m as s) (bsel (Nat.beq j 277) (zF_277 Z m as s) (bsel (Nat.beq j 278) (zF_278 Z m as s) none)))
def zF_275 (Z : mZ) (m : Nat) (as : List mV) (s : mS) : Option (Int × mS) := runS Z TT Mi_275 scr0 (zenv_275 Z m) (m + 1) 0 (ent 0 as) [] s (0, 0)
def zl_R_drawsFirst_L44 (Z : mZ) (m : Nat) (n : Nat) (x1 : Int) (s : mS) : Option (Int × mS) := runS Z TT Mi_275 scr0 (zenv_275 Z m) n 44 [(0, rv (some 249)), (1, iv x1)] [] s (0, 0)
def zf_R_drawsFirst (Z : mZ) (m : Nat) (s : mS) : Option (Int × mS) := zF_275 Z m [rv (some 249)] s
def Mi_274 : mM := (false, false, 10, 5, (0, 0), 1, rs_12, cd_274, [(24, [0, 3, 4])])
abbrev zenv_274 (Z : mZ) (m : Nat) : Nat → List mV → mS → Option (Int × mS) := fun j as s => (bsel (Nat.beq j 241) (zF_241 Z m as s) (bsel (Nat.beq j 242) (zF_242 Z m as s) (bsel (Nat.beq j 275) (zF_275 Z m as s) none)))
def zF_274 (Z : mZ) (m : Nat) (as : List mV) (s : mS) : Option (Int × mS) := runS Z TT Mi_274 scr0 (zenv_274 Z m) (m + 1) 0 (ent 0 as) [] s (0, 0)
def zl_R_drawDays_L24 (Z : mZ) (m : Nat) (n : Nat) (x3 : Int) (x4 : Int) (s : mS) : Option (Int × mS) := runS Z TT Mi_274 scr0 (zenv_274 Z m) n 24 [(0, rv (some 249)), (3, iv x3), (4, iv x4)] [] s (0, 0)
def zf_R_drawDays (Z : mZ) (m : Nat) (a1 : Int) (a2 : Int) (s : mS) : Option (Int × mS) := zF_274 Z m [rv (some 249), iv a1, iv a2] s
def Mi_273 : mM := (false, false, 10, 3, (0, 0), 1, rs_12, cd_273, [])
abbrev zenv_273 (Z : mZ) (m : Nat) : Nat → List mV → mS → Option (Int × mS) := fun j as s => (bsel (Nat.beq j 195) (zF_195 Z m as s) (bsel (Nat.beq j 228) (zF_228 Z m as s) (bsel (Nat.beq j 274) (zF_274 Z m as s) none)))
def zF_273 (Z : mZ) (m : Nat) (as : List mV) (s : mS) : Option (Int × mS) := runS Z TT Mi_273 scr0 (zenv_273 Z m) (m + 1) 0 (ent 0 as) [] s (0, 0)
def zf_R_drawn (Z : mZ) (m : Nat) (a1 : Int) (a2 : Int) (s : mS) : Option (Int × mS) := zF_273 Z m [rv (some 249), iv a1, iv a2] s
def Mi_279 : mM := (false, false, 10, 6, (0, 0), 1, rs_12, cd_279, [(40, [0, 1, 2, 3, 4, 5])])
abbrev zenv_279 (Z : mZ) (m : Nat) : Nat → List mV → mS → Option (Int × mS) := fun j as s => (bsel (Nat.beq j 195) (zF_195 Z m as s) (bsel (Nat.beq j 214) (zF_214 Z m as s) (bsel (Nat.beq j 229) (zF_229 Z m as s) (bsel (Nat.beq j 238) (zF_238 Z m as s) (bsel (Nat.beq j 274) (zF_274 Z m as s) none)))))
def zF_279 (Z : mZ) (m : Nat) (as : List mV) (s : mS) : Option (Int × mS) := runS Z TT Mi_279 scr0 (zenv_279 Z m) (m + 1) 0 (ent 0 as) [] s (0, 0)
def zl_R_odds_L40 (Z : mZ) (m : Nat) (n : Nat) (x1 : Int) (x2 : Int) (x3 : Int) (x4 : Int) (x5 : Int) (s : mS) : Option (Int × mS) := runS Z TT Mi_279 scr0 (zenv_279 Z m) n 40 [(0, rv (some 249)), (1, iv x1), (2, iv x2), (3, iv x3), (4, iv x4), (5, iv x5)] [] s (0, 0)
def zf_R_odds (Z : mZ) (m : Nat) (a1 : Int) (a2 : Int) (a3 : Int) (s : mS) : Option (Int × mS) := zF_279 Z m [rv (some 249), iv a1, iv a2, iv a3] s
def Mi_284 : mM := (false, false, 10, 3, (0, 0), 4, rs_12, cd_284, [])
abbrev zenv_284 (Z : mZ) (m : Nat) : Nat → List mV → mS → Option (Int × mS) := fun j as s => none
def zF_284 (Z : mZ) (m : Nat) (as : List mV) (s : mS) : Option (Int × mS) := runS Z TT Mi_284 scr0 (zenv_284 Z m) (m + 1) 0 (ent 0 as) [] s (0, 0)
def zf_R_keep (Z : mZ) (m : Nat) (a1 : Int) (a2 : Int) (s : mS) : Option (Int × mS) := zF_284 Z m [rv (some 249), iv a1, iv a2] s
def Mi_283 : mM := (false, false, 10, 3, (0, 0), 4, rs_12, cd_283, [])
abbrev zenv_283 (Z : mZ) (m : Nat) : Nat → List mV → mS → Option (Int × mS) := fun j as s => (bsel (Nat.beq j 180) (zF_180 Z m as s) (bsel (Nat.beq j 190) (zF_190 Z m as s) (bsel (Nat.beq j 192) (zF_192 Z m as s) (bsel (Nat.beq j 193) (zF_193 Z m as s) none))))
def zF_283 (Z : mZ) (m : Nat) (as : List mV) (s : mS) : Option (Int × mS) := runS Z TT Mi_283 scr0 (zenv_283 Z m) (m + 1) 0 (ent 0 as) [] s (0, 0)
def zf_R_readNamed (Z : mZ) (m : Nat) (a1 : Int) (a2 : Int) (s : mS) : Option (Int × mS) := zF_283 Z m [rv (some 249), iv a1, iv a2] s
def Mi_285 : mM := (false, false, 10, 1, (0, 0), 4, rs_12, cd_285, [])
abbrev zenv_285 (Z : mZ) (m : Nat) : Nat → List mV → mS → Option (Int × mS) := fun j as s => (bsel (Nat.beq j 283) (zF_283 Z m as s) none)
def zF_285 (Z : mZ) (m : Nat) (as : List mV) (s : mS) : Option (Int × mS) := runS Z TT Mi_285 scr0 (zenv_285 Z m) (m + 1) 0 (ent 0 as) [] s (0, 0)
def zf_R_readBoxName (Z : mZ) (m : Nat) (s : mS) : Option (Int × mS) := zF_285 Z m [rv (some 249)] s
def Mi_282 : mM := (false, false, 10, 1, (0, 0), 4, rs_12, cd_282, [])
abbrev zenv_282 (Z : mZ) (m : Nat) : Nat → List mV → mS → Option (Int × mS) := fun j as s => (bsel (Nat.beq j 283) (zF_283 Z m as s) none)
def zF_282 (Z : mZ) (m : Nat) (as : List mV) (s : mS) : Option (Int × mS) := runS Z TT Mi_282 scr0 (zenv_282 Z m) (m + 1) 0 (ent 0 as) [] s (0, 0)
def zf_R_readDeadName (Z : mZ) (m : Nat) (s : mS) : Option (Int × mS) := zF_282 Z m [rv (some 249)] s
def Mi_286 : mM := (false, false, 10, 2, (0, 0), 4, rs_12, cd_286, [])
abbrev zenv_286 (Z : mZ) (m : Nat) : Nat → List mV → mS → Option (Int × mS) := fun j as s => (bsel (Nat.beq j 180) (zF_180 Z m as s) (bsel (Nat.beq j 190) (zF_190 Z m as s) (bsel (Nat.beq j 192) (zF_192 Z m as s) (bsel (Nat.beq j 193) (zF_193 Z m as s) none))))
def zF_286 (Z : mZ) (m : Nat) (as : List mV) (s : mS) : Option (Int × mS) := runS Z TT Mi_286 scr0 (zenv_286 Z m) (m + 1) 0 (ent 0 as) [] s (0, 0)
def zf_R_readOther (Z : mZ) (m : Nat) (a1 : Int) (s : mS) : Option (Int × mS) := zF_286 Z m [rv (some 249), iv a1] s
def Mi_281 : mM := (false, false, 10, 3, (0, 0), 4, rs_12, cd_281, [(17, [0, 1, 2])])
abbrev zenv_281 (Z : mZ) (m : Nat) : Nat → List mV → mS → Option (Int × mS) := fun j as s => (bsel (Nat.beq j 180) (zF_180 Z m as s) (bsel (Nat.beq j 185) (zF_185 Z m as s) (bsel (Nat.beq j 190) (zF_190 Z m as s) (bsel (Nat.beq j 194) (zF_194 Z m as s) (bsel (Nat.beq j 205) (zF_205 Z m as s) (bsel (Nat.beq j 282) (zF_282 Z m as s) (bsel (Nat.beq j 283) (zF_283 Z m as s) (bsel (Nat.beq j 284) (zF_284 Z m as s) (bsel (Nat.beq j 285) (zF_285 Z m as s) (bsel (Nat.beq j 286) (zF_286 Z m as s) none))))))))))
def zF_281 (Z : mZ) (m : Nat) (as : List mV) (s : mS) : Option (Int × mS) := runS Z TT Mi_281 scr0 (zenv_281 Z m) (m + 1) 0 (ent 0 as) [] s (0, 0)
def zl_R_readBookLine_L17 (Z : mZ) (m : Nat) (n : Nat) (x1 : Int) (x2 : Int) (s : mS) : Option (Int × mS) := runS Z TT Mi_281 scr0 (zenv_281 Z m) n 17 [(0, rv (some 249)), (1, iv x1), (2, iv x2)] [] s (0, 0)
def zf_R_readBookLine (Z : mZ) (m : Nat) (s : mS) : Option (Int × mS) := zF_281 Z m [rv (some 249)] s
def Mi_287 : mM := (false, false, 10, 5, (0, 0), 1, rs_12, cd_287, [])
abbrev zenv_287 (Z : mZ) (m : Nat) : Nat → List mV → mS → Option (Int × mS) := fun j as s => (bsel (Nat.beq j 222) (zF_222 Z m as s) (bsel (Nat.beq j 230) (zF_230 Z m as s) (bsel (Nat.beq j 240) (zF_240 Z m as s) none)))
def zF_287 (Z : mZ) (m : Nat) (as : List mV) (s : mS) : Option (Int × mS) := runS Z TT Mi_287 scr0 (zenv_287 Z m) (m + 1) 0 (ent 0 as) [] s (0, 0)
def zf_R_goBy (Z : mZ) (m : Nat) (a1 : Int) (s : mS) : Option (Int × mS) := zF_287 Z m [rv (some 249), iv a1] s
def Mi_288 : mM := (false, false, 10, 2, (0, 0), 0, rs_12, cd_288, [])
abbrev zenv_288 (Z : mZ) (m : Nat) : Nat → List mV → mS → Option (Int × mS) := fun j as s => (bsel (Nat.beq j 228) (zF_228 Z m as s) (bsel (Nat.beq j 229) (zF_229 Z m as s) (bsel (Nat.beq j 238) (zF_238 Z m as s) none)))
def zF_288 (Z : mZ) (m : Nat) (as : List mV) (s : mS) : Option (Int × mS) := runS Z TT Mi_288 scr0 (zenv_288 Z m) (m + 1) 0 (ent 0 as) [] s (0, 0)
def zf_R_stay (Z : mZ) (m : Nat) (a1 : Int) (s : mS) : Option (Int × mS) := zF_288 Z m [rv (some 249), iv a1] s
def Mi_280 : mM := (false, false, 10, 4, (0, 0), 1, rs_12, cd_280, [(30, [0, 1]), (78, [0, 1, 2, 3]), (108, [0, 1, 2, 3])])
abbrev zenv_280 (Z : mZ) (m : Nat) : Nat → List mV → mS → Option (Int × mS) := fun j as s => (bsel (Nat.beq j 178) (zF_178 Z m as s) (bsel (Nat.beq j 195) (zF_195 Z m as s) (bsel (Nat.beq j 217) (zF_217 Z m as s) (bsel (Nat.beq j 229) (zF_229 Z m as s) (bsel (Nat.beq j 281) (zF_281 Z m as s) (bsel (Nat.beq j 287) (zF_287 Z m as s) (bsel (Nat.beq j 288) (zF_288 Z m as s) none)))))))
def zF_280 (Z : mZ) (m : Nat) (as : List mV) (s : mS) : Option (Int × mS) := runS Z TT Mi_280 scr0 (zenv_280 Z m) (m + 1) 0 (ent 0 as) [] s (0, 0)
def zl_R_book_L30 (Z : mZ) (m : Nat) (n : Nat) (x1 : Int) (s : mS) : Option (Int × mS) := runS Z TT Mi_280 scr0 (zenv_280 Z m) n 30 [(0, rv (some 249)), (1, iv x1)] [] s (0, 0)
def zl_R_book_L78 (Z : mZ) (m : Nat) (n : Nat) (x1 : Int) (x2 : Int) (x3 : Int) (s : mS) : Option (Int × mS) := runS Z TT Mi_280 scr0 (zenv_280 Z m) n 78 [(0, rv (some 249)), (1, iv x1), (2, iv x2), (3, iv x3)] [] s (0, 0)
def zl_R_book_L108 (Z : mZ) (m : Nat) (n : Nat) (x1 : Int) (x2 : Int) (x3 : Int) (s : mS) : Option (Int × mS) := runS Z TT Mi_280 scr0 (zenv_280 Z m) n 108 [(0, rv (some 249)), (1, iv x1), (2, iv x2), (3, iv x3)] [] s (0, 0)
def zf_R_book (Z : mZ) (m : Nat) (a1 : Int) (s : mS) : Option (Int × mS) := zF_280 Z m [rv (some 249), iv a1] s
def Mi_289 : mM := (false, false, 10, 2, (0, 0), 1, rs_12, cd_289, [])
abbrev zenv_289 (Z : mZ) (m : Nat) : Nat → List mV → mS → Option (Int × mS) := fun j as s => (bsel (Nat.beq j 195) (zF_195 Z m as s) none)
def zF_289 (Z : mZ) (m : Nat) (as : List mV) (s : mS) : Option (Int × mS) := runS Z TT Mi_289 scr0 (zenv_289 Z m) (m + 1) 0 (ent 0 as) [] s (0, 0)
def zf_R_told (Z : mZ) (m : Nat) (a1 : Int) (s : mS) : Option (Int × mS) := zF_289 Z m [rv (some 249), iv a1] s
def Mi_296 : mM := (false, false, 10, 6, (0, 0), 1, rs_12, cd_296, [])
abbrev zenv_296 (Z : mZ) (m : Nat) : Nat → List mV → mS → Option (Int × mS) := fun j as s => none
def zF_296 (Z : mZ) (m : Nat) (as : List mV) (s : mS) : Option (Int × mS) := runS Z TT Mi_296 scr0 (zenv_296 Z m) (m + 1) 0 (ent 0 as) [] s (0, 0)
def zf_R_saysOne (Z : mZ) (m : Nat) (a1 : Int) (a2 : Int) (a3 : Int) (a4 : Int) (s : mS) : Option (Int × mS) := zF_296 Z m [rv (some 249), iv a1, iv a2, iv a3, iv a4] s
def Mi_298 : mM := (false, false, 10, 2, (0, 0), 4, rs_12, cd_298, [])
abbrev zenv_298 (Z : mZ) (m : Nat) : Nat → List mV → mS → Option (Int × mS) := fun j as s => (bsel (Nat.beq j 282) (zF_282 Z m as s) (bsel (Nat.beq j 285) (zF_285 Z m as s) none))
def zF_298 (Z : mZ) (m : Nat) (as : List mV) (s : mS) : Option (Int × mS) := runS Z TT Mi_298 scr0 (zenv_298 Z m) (m + 1) 0 (ent 0 as) [] s (0, 0)
def zf_R_readThat (Z : mZ) (m : Nat) (a1 : Int) (s : mS) : Option (Int × mS) := zF_298 Z m [rv (some 249), iv a1] s
def Mi_297 : mM := (false, false, 10, 2, (0, 0), 4, rs_12, cd_297, [])
abbrev zenv_297 (Z : mZ) (m : Nat) : Nat → List mV → mS → Option (Int × mS) := fun j as s => (bsel (Nat.beq j 296) (zF_296 Z m as s) (bsel (Nat.beq j 298) (zF_298 Z m as s) none))
def zF_297 (Z : mZ) (m : Nat) (as : List mV) (s : mS) : Option (Int × mS) := runS Z TT Mi_297 scr0 (zenv_297 Z m) (m + 1) 0 (ent 0 as) [] s (0, 0)
def zf_R_readOf (Z : mZ) (m : Nat) (a1 : Int) (s : mS) : Option (Int × mS) := zF_297 Z m [rv (some 249), iv a1] s
def Mi_299 : mM := (false, false, 10, 3, (0, 0), 4, rs_12, cd_299, [])
abbrev zenv_299 (Z : mZ) (m : Nat) : Nat → List mV → mS → Option (Int × mS) := fun j as s => (bsel (Nat.beq j 180) (zF_180 Z m as s) (bsel (Nat.beq j 190) (zF_190 Z m as s) (bsel (Nat.beq j 194) (zF_194 Z m as s) (bsel (Nat.beq j 206) (zF_206 Z m as s) (bsel (Nat.beq j 296) (zF_296 Z m as s) none)))))
def zF_299 (Z : mZ) (m : Nat) (as : List mV) (s : mS) : Option (Int × mS) := runS Z TT Mi_299 scr0 (zenv_299 Z m) (m + 1) 0 (ent 0 as) [] s (0, 0)
def zf_R_readCompare (Z : mZ) (m : Nat) (a1 : Int) (s : mS) : Option (Int × mS) := zF_299 Z m [rv (some 249), iv a1] s
def Mi_291 : mM := (false, false, 10, 2, (0, 0), 4, rs_12, cd_291, [(14, [0, 1])])
def Mi_292 : mM := (false, false, 10, 2, (0, 0), 4, rs_12, cd_292, [(14, [0, 1])])
def Mi_293 : mM := (false, false, 10, 4, (0, 0), 4, rs_12, cd_293, [(10, [0, 1, 2]), (46, [0, 1, 2])])
def Mi_294 : mM := (false, false, 10, 1, (0, 0), 4, rs_12, cd_294, [])
def Mi_295 : mM := (false, false, 10, 1, (0, 0), 4, rs_12, cd_295, [])
def zFg_291 (Z : mZ) (m : Nat) : Nat → Nat → List mV → mS → Option (Int × mS)
  | 0, _, _, _ => none
  | d + 1, j, as, s => bsel (Nat.beq j 291) (runS Z TT Mi_291 scr0 (fun j as s => (bsel (Nat.beq j 180) (zF_180 Z m as s) (bsel (Nat.beq j 185) (zF_185 Z m as s) (bsel (Nat.beq j 292) (zFg_291 Z m d 292 as s) (bsel (Nat.beq j 296) (zF_296 Z m as s) none))))) (m + 1) 0 (ent 0 as) [] s (0, 0)) (bsel (Nat.beq j 292) (runS Z TT Mi_292 scr0 (fun j as s => (bsel (Nat.beq j 180) (zF_180 Z m as s) (bsel (Nat.beq j 185) (zF_185 Z m as s) (bsel (Nat.beq j 293) (zFg_291 Z m d 293 as s) (bsel (Nat.beq j 296) (zF_296 Z m as s) none))))) (m + 1) 0 (ent 0 as) [] s (0, 0)) (bsel (Nat.beq j 293) (runS Z TT Mi_293 scr0 (fun j as s => (bsel (Nat.beq j 180) (zF_180 Z m as s) (bsel (Nat.beq j 185) (zF_185 Z m as s) (bsel (Nat.beq j 190) (zF_190 Z m as s) (bsel (Nat.beq j 206) (zF_206 Z m as s) (bsel (Nat.beq j 294) (zFg_291 Z m d 294 as s) (bsel (Nat.beq j 295) (zFg_291 Z m d 295 as s) (bsel (Nat.beq j 296) (zF_296 Z m as s) (bsel (Nat.beq j 297) (zF_297 Z m as s) (bsel (Nat.beq j 299) (zF_299 Z m as s) none)))))))))) (m + 1) 0 (ent 0 as) [] s (0, 0)) (bsel (Nat.beq j 294) (runS Z TT Mi_294 scr0 (fun j as s => (bsel (Nat.beq j 180) (zF_180 Z m as s) (bsel (Nat.beq j 190) (zF_190 Z m as s) (bsel (Nat.beq j 206) (zF_206 Z m as s) (bsel (Nat.beq j 291) (zFg_291 Z m d 291 as s) none))))) (m + 1) 0 (ent 0 as) [] s (0, 0)) (bsel (Nat.beq j 295) (runS Z TT Mi_295 scr0 (fun j as s => (bsel (Nat.beq j 293) (zFg_291 Z m d 293 as s) (bsel (Nat.beq j 296) (zF_296 Z m as s) none))) (m + 1) 0 (ent 0 as) [] s (0, 0)) (none)))))
abbrev zenv_291 (Z : mZ) (m d : Nat) : Nat → List mV → mS → Option (Int × mS) := fun j as s => (bsel (Nat.beq j 180) (zF_180 Z m as s) (bsel (Nat.beq j 185) (zF_185 Z m as s) (bsel (Nat.beq j 292) (zFg_291 Z m d 292 as s) (bsel (Nat.beq j 296) (zF_296 Z m as s) none))))
abbrev zenv_292 (Z : mZ) (m d : Nat) : Nat → List mV → mS → Option (Int × mS) := fun j as s => (bsel (Nat.beq j 180) (zF_180 Z m as s) (bsel (Nat.beq j 185) (zF_185 Z m as s) (bsel (Nat.beq j 293) (zFg_291 Z m d 293 as s) (bsel (Nat.beq j 296) (zF_296 Z m as s) none))))
abbrev zenv_293 (Z : mZ) (m d : Nat) : Nat → List mV → mS → Option (Int × mS) := fun j as s => (bsel (Nat.beq j 180) (zF_180 Z m as s) (bsel (Nat.beq j 185) (zF_185 Z m as s) (bsel (Nat.beq j 190) (zF_190 Z m as s) (bsel (Nat.beq j 206) (zF_206 Z m as s) (bsel (Nat.beq j 294) (zFg_291 Z m d 294 as s) (bsel (Nat.beq j 295) (zFg_291 Z m d 295 as s) (bsel (Nat.beq j 296) (zF_296 Z m as s) (bsel (Nat.beq j 297) (zF_297 Z m as s) (bsel (Nat.beq j 299) (zF_299 Z m as s) none)))))))))
abbrev zenv_294 (Z : mZ) (m d : Nat) : Nat → List mV → mS → Option (Int × mS) := fun j as s => (bsel (Nat.beq j 180) (zF_180 Z m as s) (bsel (Nat.beq j 190) (zF_190 Z m as s) (bsel (Nat.beq j 206) (zF_206 Z m as s) (bsel (Nat.beq j 291) (zFg_291 Z m d 291 as s) none))))
abbrev zenv_295 (Z : mZ) (m d : Nat) : Nat → List mV → mS → Option (Int × mS) := fun j as s => (bsel (Nat.beq j 293) (zFg_291 Z m d 293 as s) (bsel (Nat.beq j 296) (zF_296 Z m as s) none))
def zl_R_readOr_L14 (Z : mZ) (m : Nat) (d : Nat) (n : Nat) (x1 : Int) (s : mS) : Option (Int × mS) := runS Z TT Mi_291 scr0 (zenv_291 Z m d) n 14 [(0, rv (some 249)), (1, iv x1)] [] s (0, 0)
def zf_R_readOr (Z : mZ) (m : Nat) (d : Nat) (s : mS) : Option (Int × mS) := zFg_291 Z m d 291 [rv (some 249)] s
def zl_R_readAnd_L14 (Z : mZ) (m : Nat) (d : Nat) (n : Nat) (x1 : Int) (s : mS) : Option (Int × mS) := runS Z TT Mi_292 scr0 (zenv_292 Z m d) n 14 [(0, rv (some 249)), (1, iv x1)] [] s (0, 0)
def zf_R_readAnd (Z : mZ) (m : Nat) (d : Nat) (s : mS) : Option (Int × mS) := zFg_291 Z m d 292 [rv (some 249)] s
def zl_R_readSaid_L10 (Z : mZ) (m : Nat) (d : Nat) (n : Nat) (x1 : Int) (x2 : Int) (s : mS) : Option (Int × mS) := runS Z TT Mi_293 scr0 (zenv_293 Z m d) n 10 [(0, rv (some 249)), (1, iv x1), (2, iv x2)] [] s (0, 0)
def zl_R_readSaid_L46 (Z : mZ) (m : Nat) (d : Nat) (n : Nat) (x1 : Int) (x2 : Int) (s : mS) : Option (Int × mS) := runS Z TT Mi_293 scr0 (zenv_293 Z m d) n 46 [(0, rv (some 249)), (1, iv x1), (2, iv x2)] [] s (0, 0)
def zf_R_readSaid (Z : mZ) (m : Nat) (d : Nat) (s : mS) : Option (Int × mS) := zFg_291 Z m d 293 [rv (some 249)] s
def zf_R_readBracket (Z : mZ) (m : Nat) (d : Nat) (s : mS) : Option (Int × mS) := zFg_291 Z m d 294 [rv (some 249)] s
def zf_R_readNot (Z : mZ) (m : Nat) (d : Nat) (s : mS) : Option (Int × mS) := zFg_291 Z m d 295 [rv (some 249)] s
def Mi_290 : mM := (false, false, 10, 2, (0, 0), 1, rs_12, cd_290, [(79, [0, 1])])
abbrev zenv_290 (Z : mZ) (m : Nat) : Nat → List mV → mS → Option (Int × mS) := fun j as s => (bsel (Nat.beq j 178) (zF_178 Z m as s) (bsel (Nat.beq j 190) (zF_190 Z m as s) (bsel (Nat.beq j 291) (zFg_291 Z m 64 291 as s) none)))
def zF_290 (Z : mZ) (m : Nat) (as : List mV) (s : mS) : Option (Int × mS) := runS Z TT Mi_290 scr0 (zenv_290 Z m) (m + 1) 0 (ent 0 as) [] s (0, 0)
def zl_R_sentence_L79 (Z : mZ) (m : Nat) (n : Nat) (x1 : Int) (s : mS) : Option (Int × mS) := runS Z TT Mi_290 scr0 (zenv_290 Z m) n 79 [(0, rv (some 249)), (1, iv x1)] [] s (0, 0)
def zf_R_sentence (Z : mZ) (m : Nat) (s : mS) : Option (Int × mS) := zF_290 Z m [rv (some 249)] s
def Mi_301 : mM := (false, false, 10, 8, (0, 0), 4, rs_12, cd_301, [(370, [0, 3, 5])])
def zFg_301 (Z : mZ) (m : Nat) : Nat → Nat → List mV → mS → Option (Int × mS)
  | 0, _, _, _ => none
  | d + 1, j, as, s => bsel (Nat.beq j 301) (runS Z TT Mi_301 scr0 (fun j as s => (bsel (Nat.beq j 201) (zF_201 Z m as s) (bsel (Nat.beq j 301) (zFg_301 Z m d 301 as s) none))) (m + 1) 0 (ent 0 as) [] s (0, 0)) (none)
abbrev zenv_301 (Z : mZ) (m d : Nat) : Nat → List mV → mS → Option (Int × mS) := fun j as s => (bsel (Nat.beq j 201) (zF_201 Z m as s) (bsel (Nat.beq j 301) (zFg_301 Z m d 301 as s) none))
def zl_R_holds_L370 (Z : mZ) (m : Nat) (d : Nat) (n : Nat) (x3 : Int) (x5 : Int) (y0 : Int) (s : mS) : Option (Int × mS) := runS Z TT Mi_301 scr0 (zenv_301 Z m d) n 370 [(0, rv (some 249)), (3, iv x3), (5, iv x5)] [iv y0] s (0, 0)
def zf_R_holds (Z : mZ) (m : Nat) (d : Nat) (a1 : Int) (a2 : Int) (s : mS) : Option (Int × mS) := zFg_301 Z m d 301 [rv (some 249), iv a1, iv a2] s
def Mi_300 : mM := (false, false, 10, 4, (0, 0), 1, rs_12, cd_300, [(22, [0, 1, 2, 3])])
abbrev zenv_300 (Z : mZ) (m : Nat) : Nat → List mV → mS → Option (Int × mS) := fun j as s => (bsel (Nat.beq j 301) (zFg_301 Z m 64 301 as s) none)
def zF_300 (Z : mZ) (m : Nat) (as : List mV) (s : mS) : Option (Int × mS) := runS Z TT Mi_300 scr0 (zenv_300 Z m) (m + 1) 0 (ent 0 as) [] s (0, 0)
def zl_R_said_L22 (Z : mZ) (m : Nat) (n : Nat) (x1 : Int) (x2 : Int) (x3 : Int) (s : mS) : Option (Int × mS) := runS Z TT Mi_300 scr0 (zenv_300 Z m) n 22 [(0, rv (some 249)), (1, iv x1), (2, iv x2), (3, iv x3)] [] s (0, 0)
def zf_R_said (Z : mZ) (m : Nat) (a1 : Int) (s : mS) : Option (Int × mS) := zF_300 Z m [rv (some 249), iv a1] s
def Mi_302 : mM := (false, false, 10, 3, (0, 0), 4, rs_12, cd_302, [(18, [0, 1, 2]), (51, [0, 1, 2])])
abbrev zenv_302 (Z : mZ) (m : Nat) : Nat → List mV → mS → Option (Int × mS) := fun j as s => (bsel (Nat.beq j 195) (zF_195 Z m as s) none)
def zF_302 (Z : mZ) (m : Nat) (as : List mV) (s : mS) : Option (Int × mS) := runS Z TT Mi_302 scr0 (zenv_302 Z m) (m + 1) 0 (ent 0 as) [] s (0, 0)
def zl_R_image_L18 (Z : mZ) (m : Nat) (n : Nat) (x1 : Int) (x2 : Int) (s : mS) : Option (Int × mS) := runS Z TT Mi_302 scr0 (zenv_302 Z m) n 18 [(0, rv (some 249)), (1, iv x1), (2, iv x2)] [] s (0, 0)
def zl_R_image_L51 (Z : mZ) (m : Nat) (n : Nat) (x1 : Int) (x2 : Int) (s : mS) : Option (Int × mS) := runS Z TT Mi_302 scr0 (zenv_302 Z m) n 51 [(0, rv (some 249)), (1, iv x1), (2, iv x2)] [] s (0, 0)
def zf_R_image (Z : mZ) (m : Nat) (a1 : Int) (s : mS) : Option (Int × mS) := zF_302 Z m [rv (some 249), iv a1] s
def Mi_303 : mM := (false, false, 10, 3, (0, 0), 4, rs_12, cd_303, [(27, [0, 1, 2]), (60, [0, 1, 2])])
abbrev zenv_303 (Z : mZ) (m : Nat) : Nat → List mV → mS → Option (Int × mS) := fun j as s => (bsel (Nat.beq j 195) (zF_195 Z m as s) none)
def zF_303 (Z : mZ) (m : Nat) (as : List mV) (s : mS) : Option (Int × mS) := runS Z TT Mi_303 scr0 (zenv_303 Z m) (m + 1) 0 (ent 0 as) [] s (0, 0)
def zl_R_restore_L27 (Z : mZ) (m : Nat) (n : Nat) (x1 : Int) (x2 : Int) (s : mS) : Option (Int × mS) := runS Z TT Mi_303 scr0 (zenv_303 Z m) n 27 [(0, rv (some 249)), (1, iv x1), (2, iv x2)] [] s (0, 0)
def zl_R_restore_L60 (Z : mZ) (m : Nat) (n : Nat) (x1 : Int) (x2 : Int) (s : mS) : Option (Int × mS) := runS Z TT Mi_303 scr0 (zenv_303 Z m) n 60 [(0, rv (some 249)), (1, iv x1), (2, iv x2)] [] s (0, 0)
def zf_R_restore (Z : mZ) (m : Nat) (a1 : Int) (s : mS) : Option (Int × mS) := zF_303 Z m [rv (some 249), iv a1] s
def Mi_304 : mM := (false, false, 10, 2, (0, 0), 1, rs_12, cd_304, [])
abbrev zenv_304 (Z : mZ) (m : Nat) : Nat → List mV → mS → Option (Int × mS) := fun j as s => none
def zF_304 (Z : mZ) (m : Nat) (as : List mV) (s : mS) : Option (Int × mS) := runS Z TT Mi_304 scr0 (zenv_304 Z m) (m + 1) 0 (ent 0 as) [] s (0, 0)
def zf_R_count (Z : mZ) (m : Nat) (a1 : Int) (s : mS) : Option (Int × mS) := zF_304 Z m [rv (some 249), iv a1] s
