/-! ===== written by gen_fun.py: do not edit ===== -/
set_option maxRecDepth 100000 in
set_option maxHeartbeats 1000000 in
theorem f_Tp_append_eq (m : Nat) (a1 : Int) (s : mS) : f_Tp_append m a1 s = (l_Tp_append_L3 m m a1 24 s) := rfl
set_option maxRecDepth 100000 in
set_option maxHeartbeats 1000000 in
theorem l_Tp_append_L3_eq (m : Nat) (n : Nat) (x1 : Int) (x2 : Int) (s : mS) : l_Tp_append_L3 m (n + 1) x1 x2 s = (if x2 < 0 then some (0, s) else (if s.1 1 1 < 940 then (inR (s.1 1 1) 940 (l_Tp_append_L3 m n x1 (w32 (x2 + (-8))) (wI (wI s 2 (s.1 1 1).toNat (b8 (b8 (bushr x1 x2)))) 1 1 (w32 (((wI s 2 (s.1 1 1).toNat (b8 (b8 (bushr x1 x2)))).1 1 1) + 1))))) else some (0, s))) := rfl
set_option maxRecDepth 100000 in
set_option maxHeartbeats 1000000 in
theorem f_X_feed_eq (m : Nat) (a1 : Int) (a2 : Int) (a3 : Int) (a4 : Int) (a5 : Int) (s : mS) : f_X_feed m a1 a2 a3 a4 a5 s = (if 940 < w32 ((s.1 1 1) + 20) then some ((-1), s) else ((f_Tp_append m a1 s).bind fun p0 => ((f_Tp_append m a2 p0.2).bind fun p1 => ((f_Tp_append m a3 p1.2).bind fun p2 => ((f_Tp_append m a4 p2.2).bind fun p3 => ((f_Tp_append m a5 p3.2).bind fun p4 => some (p4.2.1 1 1, p4.2))))))) := rfl
set_option maxRecDepth 100000 in
set_option maxHeartbeats 1000000 in
theorem f_X_end_eq (m : Nat) (a1 : Int) (s : mS) : f_X_end m a1 s = (if a1 < 0 then some (0, s) else (if s.1 1 1 < a1 then some (0, s) else some (1, wI s 1 1 a1))) := rfl
set_option maxRecDepth 100000 in
set_option maxHeartbeats 1000000 in
theorem f_Jm_min_eq (m : Nat) (a0 : Int) (a1 : Int) (s : mS) : f_Jm_min m a0 a1 s = (if a1 < a0 then some (a1, s) else some (a0, s)) := rfl
set_option maxRecDepth 100000 in
set_option maxHeartbeats 1000000 in
theorem f_Tp_signOf_eq (m : Nat) (a0 : Int) (s : mS) : f_Tp_signOf m a0 s = (if a0 = 59 then some (a0, s) else (if a0 = 60 then some (a0, s) else (if a0 = 61 then some (a0, s) else (if a0 = 62 then some (a0, s) else (if a0 = 40 then some (a0, s) else (if a0 = 41 then some (a0, s) else some (1, s))))))) := rfl
set_option maxRecDepth 100000 in
set_option maxHeartbeats 1000000 in
theorem f_Wo_of_eq (m : Nat) (a0 : Int) (s : mS) : f_Wo_of m a0 s = (l_Wo_of_L2 m m a0 0 s) := rfl
set_option maxRecDepth 100000 in
set_option maxHeartbeats 1000000 in
theorem l_Wo_of_L2_eq (m : Nat) (n : Nat) (x0 : Int) (x2 : Int) (s : mS) : l_Wo_of_L2 m (n + 1) x0 x2 s = (if x2 < 24 then (inR x2 24 (if gIn 0 (1000 + x2.toNat) = true then (if cmpL (wL (1000 + x2.toNat - 1000)) x0 = 0 then (inR x2 24 (bsel (wOk (some (1000 + x2.toNat))) (some (decW (some (1000 + x2.toNat)), s)) none)) else (l_Wo_of_L2 m n x0 (w32 (x2 + 1)) s)) else none)) else some (-1, s)) := rfl
set_option maxRecDepth 100000 in
set_option maxHeartbeats 1000000 in
theorem f_Tp_advance_eq (m : Nat) (s : mS) : f_Tp_advance m s = ((f_Jm_min m (s.1 1 8) (s.1 1 9) s).bind fun p0 => (l_Tp_advance_L20 m m p0.1 (wI p0.2 1 10 (p0.2.1 1 11)))) := rfl
set_option maxRecDepth 100000 in
set_option maxHeartbeats 1000000 in
theorem l_Tp_advance_L20_eq (m : Nat) (n : Nat) (x1 : Int) (s : mS) : l_Tp_advance_L20 m (n + 1) x1 s = (if s.1 1 10 < x1 then (inR (s.1 1 10) 940 (if s.1 2 (s.1 1 10).toNat = 32 then (l_Tp_advance_L20 m n x1 (wI s 1 10 (w32 ((s.1 1 10) + 1)))) else (inR (s.1 1 10) 940 (if s.1 2 (s.1 1 10).toNat = 10 then (l_Tp_advance_L20 m n x1 (wI s 1 10 (w32 ((s.1 1 10) + 1)))) else (l_Tp_advance_L69 m n x1 s))))) else (l_Tp_advance_L69 m n x1 s)) := rfl
set_option maxRecDepth 100000 in
set_option maxHeartbeats 1000000 in
theorem l_Tp_advance_L69_eq (m : Nat) (n : Nat) (x1 : Int) (s : mS) : l_Tp_advance_L69 m (n + 1) x1 s = (if (wI s 1 3 (-1)).1 1 10 < x1 then (l_Tp_advance_L135 m n 0 0 (wI (wI (wJ (wI s 1 3 (-1)) 1 4 0) 1 5 0) 1 11 ((wI (wJ (wI s 1 3 (-1)) 1 4 0) 1 5 0).1 1 10))) else (if (wI (wI (wI s 1 3 (-1)) 1 10 x1) 1 11 x1).1 1 9 < (wI (wI (wI s 1 3 (-1)) 1 10 x1) 1 11 x1).1 1 8 then some (0, wI (wI (wI (wI s 1 3 (-1)) 1 10 x1) 1 11 x1) 1 2 1) else some (0, wI (wI (wI (wI s 1 3 (-1)) 1 10 x1) 1 11 x1) 1 2 0))) := rfl
set_option maxRecDepth 100000 in
set_option maxHeartbeats 1000000 in
theorem l_Tp_advance_L135_eq (m : Nat) (n : Nat) (x2 : Int) (x3 : Int) (s : mS) : l_Tp_advance_L135 m (n + 1) x2 x3 s = (if s.1 1 11 < s.1 1 8 then (inR (s.1 1 11) 940 (if s.1 2 (s.1 1 11).toNat < 97 then (l_Tp_advance_L192 m n x2 x3 (s.1 2 (s.1 1 11).toNat) s) else (if 122 < s.1 2 (s.1 1 11).toNat then (l_Tp_advance_L192 m n x2 x3 (s.1 2 (s.1 1 11).toNat) s) else (l_Tp_advance_L135 m n (w32 (x2 + 1)) x3 (wI (wJ s 1 4 (lbor (lbshl (s.2 1 4) 8) (s.1 2 (s.1 1 11).toNat))) 1 11 (w32 (((wJ s 1 4 (lbor (lbshl (s.2 1 4) 8) (s.1 2 (s.1 1 11).toNat))).1 1 11) + 1))))))) else (l_Tp_advance_L239 m n x2 x3 s)) := rfl
set_option maxRecDepth 100000 in
set_option maxHeartbeats 1000000 in
theorem l_Tp_advance_L192_eq (m : Nat) (n : Nat) (x2 : Int) (x3 : Int) (x4 : Int) (s : mS) : l_Tp_advance_L192 m (n + 1) x2 x3 x4 s = (if x4 < 48 then (l_Tp_advance_L239 m n x2 x3 s) else (if 57 < x4 then (l_Tp_advance_L239 m n x2 x3 s) else (l_Tp_advance_L135 m n x2 (w32 (x3 + 1)) (wI (wI s 1 5 (w32 ((w32 ((w32 ((s.1 1 5) * 10)) + x4)) - 48))) 1 11 (w32 (((wI s 1 5 (w32 ((w32 ((w32 ((s.1 1 5) * 10)) + x4)) - 48))).1 1 11) + 1)))))) := rfl
set_option maxRecDepth 100000 in
set_option maxHeartbeats 1000000 in
theorem l_Tp_advance_L239_eq (m : Nat) (n : Nat) (x2 : Int) (x3 : Int) (s : mS) : l_Tp_advance_L239 m (n + 1) x2 x3 s = (if s.1 1 11 = s.1 1 10 then (inR (s.1 1 10) 940 ((f_Tp_signOf m (s.1 2 (s.1 1 10).toNat) s).bind fun p0 => some (0, wI (wI p0.2 1 2 p0.1) 1 11 (w32 (((wI p0.2 1 2 p0.1).1 1 11) + 1))))) else (if x3 = 0 then (if 7 < x2 then (if x2 = 0 then (if 3 < x3 then some (0, wI s 1 2 1) else some (0, wI s 1 2 4)) else some (0, wI s 1 2 1)) else ((f_Wo_of m (s.2 1 4) s).bind fun p0 => (bsel (wOk (encW p0.1)) (if encW ((wI p0.2 1 3 (decW (encW p0.1))).1 1 3) = none then some (0, wI (wI p0.2 1 3 (decW (encW p0.1))) 1 2 3) else some (0, wI (wI p0.2 1 3 (decW (encW p0.1))) 1 2 2)) none))) else (if x2 = 0 then (if 3 < x3 then some (0, wI s 1 2 1) else some (0, wI s 1 2 4)) else some (0, wI s 1 2 1)))) := rfl
set_option maxRecDepth 100000 in
set_option maxHeartbeats 1000000 in
theorem f_Tp_open_eq (m : Nat) (a1 : Int) (s : mS) : f_Tp_open m a1 s = ((f_Tp_advance m (wI (wI (wI (wI (wI (wI s 1 8 (s.1 1 1)) 1 1 0) 1 9 a1) 1 11 0) 1 6 0) 1 7 0)).bind fun p0 => some (0, p0.2)) := rfl
set_option maxRecDepth 100000 in
set_option maxHeartbeats 1000000 in
theorem f_Ja_fill_228_eq (m : Nat) (a1 : Int) (s : mS) : f_Ja_fill_228 m a1 s = (l_Ja_fill_228_L5 m m a1 0 12 s) := rfl
set_option maxRecDepth 100000 in
set_option maxHeartbeats 1000000 in
theorem l_Ja_fill_228_L5_eq (m : Nat) (n : Nat) (x1 : Int) (x2 : Int) (x3 : Int) (s : mS) : l_Ja_fill_228_L5 m (n + 1) x1 x2 x3 s = (if x2 < x3 then (inR x2 12 (l_Ja_fill_228_L5 m n x1 (w32 (x2 + 1)) x3 (wI s 228 x2.toNat x1))) else some (0, s)) := rfl
set_option maxRecDepth 100000 in
set_option maxHeartbeats 1000000 in
theorem f_Ja_fill_229_eq (m : Nat) (a1 : Int) (s : mS) : f_Ja_fill_229 m a1 s = (l_Ja_fill_229_L5 m m a1 0 12 s) := rfl
set_option maxRecDepth 100000 in
set_option maxHeartbeats 1000000 in
theorem l_Ja_fill_229_L5_eq (m : Nat) (n : Nat) (x1 : Int) (x2 : Int) (x3 : Int) (s : mS) : l_Ja_fill_229_L5 m (n + 1) x1 x2 x3 s = (if x2 < x3 then (inR x2 12 (l_Ja_fill_229_L5 m n x1 (w32 (x2 + 1)) x3 (wI s 229 x2.toNat x1))) else some (0, s)) := rfl
set_option maxRecDepth 100000 in
set_option maxHeartbeats 1000000 in
theorem f_Ja_fill_18_eq (m : Nat) (a1 : Int) (s : mS) : f_Ja_fill_18 m a1 s = (l_Ja_fill_18_L5 m m a1 0 9 s) := rfl
set_option maxRecDepth 100000 in
set_option maxHeartbeats 1000000 in
theorem l_Ja_fill_18_L5_eq (m : Nat) (n : Nat) (x1 : Int) (x2 : Int) (x3 : Int) (s : mS) : l_Ja_fill_18_L5 m (n + 1) x1 x2 x3 s = (if x2 < x3 then (inR x2 9 (l_Ja_fill_18_L5 m n x1 (w32 (x2 + 1)) x3 (wI s 18 x2.toNat x1))) else some (0, s)) := rfl
set_option maxRecDepth 100000 in
set_option maxHeartbeats 1000000 in
theorem f_Ja_fill_19_eq (m : Nat) (a1 : Int) (s : mS) : f_Ja_fill_19 m a1 s = (l_Ja_fill_19_L5 m m a1 0 9 s) := rfl
set_option maxRecDepth 100000 in
set_option maxHeartbeats 1000000 in
theorem l_Ja_fill_19_L5_eq (m : Nat) (n : Nat) (x1 : Int) (x2 : Int) (x3 : Int) (s : mS) : l_Ja_fill_19_L5 m (n + 1) x1 x2 x3 s = (if x2 < x3 then (inR x2 9 (l_Ja_fill_19_L5 m n x1 (w32 (x2 + 1)) x3 (wI s 19 x2.toNat x1))) else some (0, s)) := rfl
set_option maxRecDepth 100000 in
set_option maxHeartbeats 1000000 in
theorem f_Ja_fill_20_eq (m : Nat) (a1 : Int) (s : mS) : f_Ja_fill_20 m a1 s = (l_Ja_fill_20_L5 m m a1 0 9 s) := rfl
set_option maxRecDepth 100000 in
set_option maxHeartbeats 1000000 in
theorem l_Ja_fill_20_L5_eq (m : Nat) (n : Nat) (x1 : Int) (x2 : Int) (x3 : Int) (s : mS) : l_Ja_fill_20_L5 m (n + 1) x1 x2 x3 s = (if x2 < x3 then (inR x2 9 (l_Ja_fill_20_L5 m n x1 (w32 (x2 + 1)) x3 (wI s 20 x2.toNat x1))) else some (0, s)) := rfl
set_option maxRecDepth 100000 in
set_option maxHeartbeats 1000000 in
theorem f_Ja_fill_21_eq (m : Nat) (a1 : Int) (s : mS) : f_Ja_fill_21 m a1 s = (l_Ja_fill_21_L5 m m a1 0 36 s) := rfl
set_option maxRecDepth 100000 in
set_option maxHeartbeats 1000000 in
theorem l_Ja_fill_21_L5_eq (m : Nat) (n : Nat) (x1 : Int) (x2 : Int) (x3 : Int) (s : mS) : l_Ja_fill_21_L5 m (n + 1) x1 x2 x3 s = (if x2 < x3 then (inR x2 36 (l_Ja_fill_21_L5 m n x1 (w32 (x2 + 1)) x3 (wI s 21 x2.toNat x1))) else some (0, s)) := rfl
set_option maxRecDepth 100000 in
set_option maxHeartbeats 1000000 in
theorem f_Ja_fill_22_eq (m : Nat) (a1 : Int) (s : mS) : f_Ja_fill_22 m a1 s = (l_Ja_fill_22_L5 m m a1 0 5 s) := rfl
set_option maxRecDepth 100000 in
set_option maxHeartbeats 1000000 in
theorem l_Ja_fill_22_L5_eq (m : Nat) (n : Nat) (x1 : Int) (x2 : Int) (x3 : Int) (s : mS) : l_Ja_fill_22_L5 m (n + 1) x1 x2 x3 s = (if x2 < x3 then (inR x2 5 (l_Ja_fill_22_L5 m n x1 (w32 (x2 + 1)) x3 (wI s 22 x2.toNat x1))) else some (0, s)) := rfl
set_option maxRecDepth 100000 in
set_option maxHeartbeats 1000000 in
theorem f_Ja_fill_23_eq (m : Nat) (a1 : Int) (s : mS) : f_Ja_fill_23 m a1 s = (l_Ja_fill_23_L5 m m a1 0 5 s) := rfl
set_option maxRecDepth 100000 in
set_option maxHeartbeats 1000000 in
theorem l_Ja_fill_23_L5_eq (m : Nat) (n : Nat) (x1 : Int) (x2 : Int) (x3 : Int) (s : mS) : l_Ja_fill_23_L5 m (n + 1) x1 x2 x3 s = (if x2 < x3 then (inR x2 5 (l_Ja_fill_23_L5 m n x1 (w32 (x2 + 1)) x3 (wI s 23 x2.toNat x1))) else some (0, s)) := rfl
set_option maxRecDepth 100000 in
set_option maxHeartbeats 1000000 in
theorem f_Ja_fill_24_eq (m : Nat) (a1 : Int) (s : mS) : f_Ja_fill_24 m a1 s = (l_Ja_fill_24_L5 m m a1 0 5 s) := rfl
set_option maxRecDepth 100000 in
set_option maxHeartbeats 1000000 in
theorem l_Ja_fill_24_L5_eq (m : Nat) (n : Nat) (x1 : Int) (x2 : Int) (x3 : Int) (s : mS) : l_Ja_fill_24_L5 m (n + 1) x1 x2 x3 s = (if x2 < x3 then (inR x2 5 (l_Ja_fill_24_L5 m n x1 (w32 (x2 + 1)) x3 (wI s 24 x2.toNat x1))) else some (0, s)) := rfl
set_option maxRecDepth 100000 in
set_option maxHeartbeats 1000000 in
theorem f_Ja_fill_25_eq (m : Nat) (a1 : Int) (s : mS) : f_Ja_fill_25 m a1 s = (l_Ja_fill_25_L5 m m a1 0 12 s) := rfl
set_option maxRecDepth 100000 in
set_option maxHeartbeats 1000000 in
theorem l_Ja_fill_25_L5_eq (m : Nat) (n : Nat) (x1 : Int) (x2 : Int) (x3 : Int) (s : mS) : l_Ja_fill_25_L5 m (n + 1) x1 x2 x3 s = (if x2 < x3 then (inR x2 12 (l_Ja_fill_25_L5 m n x1 (w32 (x2 + 1)) x3 (wI s 25 x2.toNat x1))) else some (0, s)) := rfl
set_option maxRecDepth 100000 in
set_option maxHeartbeats 1000000 in
theorem f_Ja_fill_26_eq (m : Nat) (a1 : Int) (s : mS) : f_Ja_fill_26 m a1 s = (l_Ja_fill_26_L5 m m a1 0 12 s) := rfl
set_option maxRecDepth 100000 in
set_option maxHeartbeats 1000000 in
theorem l_Ja_fill_26_L5_eq (m : Nat) (n : Nat) (x1 : Int) (x2 : Int) (x3 : Int) (s : mS) : l_Ja_fill_26_L5 m (n + 1) x1 x2 x3 s = (if x2 < x3 then (inR x2 12 (l_Ja_fill_26_L5 m n x1 (w32 (x2 + 1)) x3 (wI s 26 x2.toNat x1))) else some (0, s)) := rfl
set_option maxRecDepth 100000 in
set_option maxHeartbeats 1000000 in
theorem f_Ja_fill_27_eq (m : Nat) (a1 : Int) (s : mS) : f_Ja_fill_27 m a1 s = (l_Ja_fill_27_L5 m m a1 0 12 s) := rfl
set_option maxRecDepth 100000 in
set_option maxHeartbeats 1000000 in
theorem l_Ja_fill_27_L5_eq (m : Nat) (n : Nat) (x1 : Int) (x2 : Int) (x3 : Int) (s : mS) : l_Ja_fill_27_L5 m (n + 1) x1 x2 x3 s = (if x2 < x3 then (inR x2 12 (l_Ja_fill_27_L5 m n x1 (w32 (x2 + 1)) x3 (wI s 27 x2.toNat x1))) else some (0, s)) := rfl
set_option maxRecDepth 100000 in
set_option maxHeartbeats 1000000 in
theorem f_Ja_fill_28_eq (m : Nat) (a1 : Int) (s : mS) : f_Ja_fill_28 m a1 s = (l_Ja_fill_28_L5 m m a1 0 12 s) := rfl
set_option maxRecDepth 100000 in
set_option maxHeartbeats 1000000 in
theorem l_Ja_fill_28_L5_eq (m : Nat) (n : Nat) (x1 : Int) (x2 : Int) (x3 : Int) (s : mS) : l_Ja_fill_28_L5 m (n + 1) x1 x2 x3 s = (if x2 < x3 then (inR x2 12 (l_Ja_fill_28_L5 m n x1 (w32 (x2 + 1)) x3 (wI s 28 x2.toNat x1))) else some (0, s)) := rfl
set_option maxRecDepth 100000 in
set_option maxHeartbeats 1000000 in
theorem f_Ja_fill_29_eq (m : Nat) (a1 : Int) (s : mS) : f_Ja_fill_29 m a1 s = (l_Ja_fill_29_L5 m m a1 0 12 s) := rfl
set_option maxRecDepth 100000 in
set_option maxHeartbeats 1000000 in
theorem l_Ja_fill_29_L5_eq (m : Nat) (n : Nat) (x1 : Int) (x2 : Int) (x3 : Int) (s : mS) : l_Ja_fill_29_L5 m (n + 1) x1 x2 x3 s = (if x2 < x3 then (inR x2 12 (l_Ja_fill_29_L5 m n x1 (w32 (x2 + 1)) x3 (wI s 29 x2.toNat x1))) else some (0, s)) := rfl
set_option maxRecDepth 100000 in
set_option maxHeartbeats 1000000 in
theorem f_Ja_fill_244_eq (m : Nat) (a1 : Int) (s : mS) : f_Ja_fill_244 m a1 s = (l_Ja_fill_244_L5 m m a1 0 9 s) := rfl
set_option maxRecDepth 100000 in
set_option maxHeartbeats 1000000 in
theorem l_Ja_fill_244_L5_eq (m : Nat) (n : Nat) (x1 : Int) (x2 : Int) (x3 : Int) (s : mS) : l_Ja_fill_244_L5 m (n + 1) x1 x2 x3 s = (if x2 < x3 then (inR x2 9 (l_Ja_fill_244_L5 m n x1 (w32 (x2 + 1)) x3 (wI s 244 x2.toNat x1))) else some (0, s)) := rfl
set_option maxRecDepth 100000 in
set_option maxHeartbeats 1000000 in
theorem f_Tp_fail_eq (m : Nat) (a1 : Int) (s : mS) : f_Tp_fail m a1 s = some (0, wI (wI s 1 6 a1) 1 7 ((wI s 1 6 a1).1 1 10)) := rfl
set_option maxRecDepth 100000 in
set_option maxHeartbeats 1000000 in
theorem f_Je_ordinal_eq (m : Nat) (t0 : Nat) (s : mS) : f_Je_ordinal m t0 s = (if gIn 1 t0 = true then some ((t0 : Int) - 1000, s) else none) := rfl
set_option maxRecDepth 100000 in
set_option maxHeartbeats 1000000 in
theorem f_Tp_takeNumber_eq (m : Nat) (a1 : Int) (a2 : Int) (s : mS) : f_Tp_takeNumber m a1 a2 s = (if s.1 1 2 = 4 then (if s.1 1 5 < a1 then (if s.1 1 2 = 4 then ((f_Tp_fail m 2 s).bind fun p0 => some ((-1), p0.2)) else ((f_Tp_fail m 1 s).bind fun p0 => some ((-1), p0.2))) else (if a2 < s.1 1 5 then (if s.1 1 2 = 4 then ((f_Tp_fail m 2 s).bind fun p0 => some ((-1), p0.2)) else ((f_Tp_fail m 1 s).bind fun p0 => some ((-1), p0.2))) else ((f_Tp_advance m s).bind fun p0 => some (s.1 1 5, p0.2)))) else (if s.1 1 2 = 4 then ((f_Tp_fail m 2 s).bind fun p0 => some ((-1), p0.2)) else ((f_Tp_fail m 1 s).bind fun p0 => some ((-1), p0.2)))) := rfl
set_option maxRecDepth 100000 in
set_option maxHeartbeats 1000000 in
theorem f_Vs_readAir_eq (m : Nat) (s : mS) : f_Vs_readAir m s = ((f_Tp_advance m s).bind fun p0 => ((f_Tp_takeNumber m 0 9 (wI p0.2 219 6 1)).bind fun p1 => (if (wI p1.2 219 5 p1.1).1 219 5 = (-1) then some (0, wI p1.2 219 5 p1.1) else some (1, wI p1.2 219 5 p1.1)))) := rfl
set_option maxRecDepth 100000 in
set_option maxHeartbeats 1000000 in
theorem f_Vs_readFrost_eq (m : Nat) (s : mS) : f_Vs_readFrost m s = ((f_Tp_advance m s).bind fun p0 => ((f_Tp_takeNumber m 0 199 p0.2).bind fun p1 => (inR (p0.2.1 219 4) 4 (inR ((wI p1.2 230 (p0.2.1 219 4).toNat p1.1).1 219 4) 4 (if (wI p1.2 230 (p0.2.1 219 4).toNat p1.1).1 230 ((wI p1.2 230 (p0.2.1 219 4).toNat p1.1).1 219 4).toNat = (-1) then some (0, wI p1.2 230 (p0.2.1 219 4).toNat p1.1) else ((f_Tp_takeNumber m 1 60 (wI p1.2 230 (p0.2.1 219 4).toNat p1.1)).bind fun p2 => (inR ((wI p1.2 230 (p0.2.1 219 4).toNat p1.1).1 219 4) 4 (inR ((wI p2.2 231 ((wI p1.2 230 (p0.2.1 219 4).toNat p1.1).1 219 4).toNat p2.1).1 219 4) 4 (if (wI p2.2 231 ((wI p1.2 230 (p0.2.1 219 4).toNat p1.1).1 219 4).toNat p2.1).1 231 ((wI p2.2 231 ((wI p1.2 230 (p0.2.1 219 4).toNat p1.1).1 219 4).toNat p2.1).1 219 4).toNat = (-1) then some (0, wI p2.2 231 ((wI p1.2 230 (p0.2.1 219 4).toNat p1.1).1 219 4).toNat p2.1) else some (1, wI (wI p2.2 231 ((wI p1.2 230 (p0.2.1 219 4).toNat p1.1).1 219 4).toNat p2.1) 219 4 (w32 (((wI p2.2 231 ((wI p1.2 230 (p0.2.1 219 4).toNat p1.1).1 219 4).toNat p2.1).1 219 4) + 1)))))))))))) := rfl
set_option maxRecDepth 100000 in
set_option maxHeartbeats 1000000 in
theorem f_Vs_placeOf_225_eq (m : Nat) (a0 : Int) (a2 : Int) (s : mS) : f_Vs_placeOf_225 m a0 a2 s = (l_Vs_placeOf_225_L3 m m a0 a2 0 s) := rfl
set_option maxRecDepth 100000 in
set_option maxHeartbeats 1000000 in
theorem l_Vs_placeOf_225_L3_eq (m : Nat) (n : Nat) (x0 : Int) (x3 : Int) (x4 : Int) (s : mS) : l_Vs_placeOf_225_L3 m (n + 1) x0 x3 x4 s = (if x4 < x3 then (if x4 < 12 then (inR x4 12 (if cmpL (s.2 225 x4.toNat) x0 = 0 then some (x4, s) else (l_Vs_placeOf_225_L3 m n x0 x3 (w32 (x4 + 1)) s))) else some ((-1), s)) else some ((-1), s)) := rfl
set_option maxRecDepth 100000 in
set_option maxHeartbeats 1000000 in
theorem f_Vs_placeOf_220_eq (m : Nat) (a0 : Int) (a2 : Int) (s : mS) : f_Vs_placeOf_220 m a0 a2 s = (l_Vs_placeOf_220_L3 m m a0 a2 0 s) := rfl
set_option maxRecDepth 100000 in
set_option maxHeartbeats 1000000 in
theorem l_Vs_placeOf_220_L3_eq (m : Nat) (n : Nat) (x0 : Int) (x3 : Int) (x4 : Int) (s : mS) : l_Vs_placeOf_220_L3 m (n + 1) x0 x3 x4 s = (if x4 < x3 then (if x4 < 9 then (inR x4 9 (if cmpL (s.2 220 x4.toNat) x0 = 0 then some (x4, s) else (l_Vs_placeOf_220_L3 m n x0 x3 (w32 (x4 + 1)) s))) else some ((-1), s)) else some ((-1), s)) := rfl
set_option maxRecDepth 100000 in
set_option maxHeartbeats 1000000 in
theorem f_Vs_placeOf_223_eq (m : Nat) (a0 : Int) (a2 : Int) (s : mS) : f_Vs_placeOf_223 m a0 a2 s = (l_Vs_placeOf_223_L3 m m a0 a2 0 s) := rfl
set_option maxRecDepth 100000 in
set_option maxHeartbeats 1000000 in
theorem l_Vs_placeOf_223_L3_eq (m : Nat) (n : Nat) (x0 : Int) (x3 : Int) (x4 : Int) (s : mS) : l_Vs_placeOf_223_L3 m (n + 1) x0 x3 x4 s = (if x4 < x3 then (if x4 < 5 then (inR x4 5 (if cmpL (s.2 223 x4.toNat) x0 = 0 then some (x4, s) else (l_Vs_placeOf_223_L3 m n x0 x3 (w32 (x4 + 1)) s))) else some ((-1), s)) else some ((-1), s)) := rfl
set_option maxRecDepth 100000 in
set_option maxHeartbeats 1000000 in
theorem f_Vs_placeOf_5_eq (m : Nat) (a0 : Int) (a2 : Int) (s : mS) : f_Vs_placeOf_5 m a0 a2 s = (l_Vs_placeOf_5_L3 m m a0 a2 0 s) := rfl
set_option maxRecDepth 100000 in
set_option maxHeartbeats 1000000 in
theorem l_Vs_placeOf_5_L3_eq (m : Nat) (n : Nat) (x0 : Int) (x3 : Int) (x4 : Int) (s : mS) : l_Vs_placeOf_5_L3 m (n + 1) x0 x3 x4 s = (if x4 < x3 then (if x4 < 9 then (inR x4 9 (if cmpL (s.2 5 x4.toNat) x0 = 0 then some (x4, s) else (l_Vs_placeOf_5_L3 m n x0 x3 (w32 (x4 + 1)) s))) else some ((-1), s)) else some ((-1), s)) := rfl
set_option maxRecDepth 100000 in
set_option maxHeartbeats 1000000 in
theorem f_Vs_placeOf_10_eq (m : Nat) (a0 : Int) (a2 : Int) (s : mS) : f_Vs_placeOf_10 m a0 a2 s = (l_Vs_placeOf_10_L3 m m a0 a2 0 s) := rfl
set_option maxRecDepth 100000 in
set_option maxHeartbeats 1000000 in
theorem l_Vs_placeOf_10_L3_eq (m : Nat) (n : Nat) (x0 : Int) (x3 : Int) (x4 : Int) (s : mS) : l_Vs_placeOf_10_L3 m (n + 1) x0 x3 x4 s = (if x4 < x3 then (if x4 < 12 then (inR x4 12 (if cmpL (s.2 10 x4.toNat) x0 = 0 then some (x4, s) else (l_Vs_placeOf_10_L3 m n x0 x3 (w32 (x4 + 1)) s))) else some ((-1), s)) else some ((-1), s)) := rfl
set_option maxRecDepth 100000 in
set_option maxHeartbeats 1000000 in
theorem f_Vs_placeOf_8_eq (m : Nat) (a0 : Int) (a2 : Int) (s : mS) : f_Vs_placeOf_8 m a0 a2 s = (l_Vs_placeOf_8_L3 m m a0 a2 0 s) := rfl
set_option maxRecDepth 100000 in
set_option maxHeartbeats 1000000 in
theorem l_Vs_placeOf_8_L3_eq (m : Nat) (n : Nat) (x0 : Int) (x3 : Int) (x4 : Int) (s : mS) : l_Vs_placeOf_8_L3 m (n + 1) x0 x3 x4 s = (if x4 < x3 then (if x4 < 5 then (inR x4 5 (if cmpL (s.2 8 x4.toNat) x0 = 0 then some (x4, s) else (l_Vs_placeOf_8_L3 m n x0 x3 (w32 (x4 + 1)) s))) else some ((-1), s)) else some ((-1), s)) := rfl
set_option maxRecDepth 100000 in
set_option maxHeartbeats 1000000 in
theorem f_Vs_see_1_225_eq (m : Nat) (a2 : Int) (s : mS) : f_Vs_see_1_225 m a2 s = (if s.1 1 2 = 3 then ((f_Vs_placeOf_225 m (s.2 1 4) a2 s).bind fun p0 => (if p0.1 = (-1) then ((f_Tp_fail m 3 p0.2).bind fun p1 => some (p0.1, p1.2)) else some (p0.1, p0.2))) else ((f_Tp_fail m 1 s).bind fun p0 => some ((-1), p0.2))) := rfl
set_option maxRecDepth 100000 in
set_option maxHeartbeats 1000000 in
theorem f_Vs_see_1_220_eq (m : Nat) (a2 : Int) (s : mS) : f_Vs_see_1_220 m a2 s = (if s.1 1 2 = 3 then ((f_Vs_placeOf_220 m (s.2 1 4) a2 s).bind fun p0 => (if p0.1 = (-1) then ((f_Tp_fail m 3 p0.2).bind fun p1 => some (p0.1, p1.2)) else some (p0.1, p0.2))) else ((f_Tp_fail m 1 s).bind fun p0 => some ((-1), p0.2))) := rfl
set_option maxRecDepth 100000 in
set_option maxHeartbeats 1000000 in
theorem f_Vs_see_1_5_eq (m : Nat) (a2 : Int) (s : mS) : f_Vs_see_1_5 m a2 s = (if s.1 1 2 = 3 then ((f_Vs_placeOf_5 m (s.2 1 4) a2 s).bind fun p0 => (if p0.1 = (-1) then ((f_Tp_fail m 3 p0.2).bind fun p1 => some (p0.1, p1.2)) else some (p0.1, p0.2))) else ((f_Tp_fail m 1 s).bind fun p0 => some ((-1), p0.2))) := rfl
set_option maxRecDepth 100000 in
set_option maxHeartbeats 1000000 in
theorem f_Vs_see_1_10_eq (m : Nat) (a2 : Int) (s : mS) : f_Vs_see_1_10 m a2 s = (if s.1 1 2 = 3 then ((f_Vs_placeOf_10 m (s.2 1 4) a2 s).bind fun p0 => (if p0.1 = (-1) then ((f_Tp_fail m 3 p0.2).bind fun p1 => some (p0.1, p1.2)) else some (p0.1, p0.2))) else ((f_Tp_fail m 1 s).bind fun p0 => some ((-1), p0.2))) := rfl
set_option maxRecDepth 100000 in
set_option maxHeartbeats 1000000 in
theorem f_Vs_see_1_8_eq (m : Nat) (a2 : Int) (s : mS) : f_Vs_see_1_8 m a2 s = (if s.1 1 2 = 3 then ((f_Vs_placeOf_8 m (s.2 1 4) a2 s).bind fun p0 => (if p0.1 = (-1) then ((f_Tp_fail m 3 p0.2).bind fun p1 => some (p0.1, p1.2)) else some (p0.1, p0.2))) else ((f_Tp_fail m 1 s).bind fun p0 => some ((-1), p0.2))) := rfl
set_option maxRecDepth 100000 in
set_option maxHeartbeats 1000000 in
theorem f_Vs_seeDead_219_1_eq (m : Nat) (s : mS) : f_Vs_seeDead_219_1 m s = ((f_Vs_see_1_225 m (s.1 219 2) s).bind fun p0 => some (p0.1, p0.2)) := rfl
set_option maxRecDepth 100000 in
set_option maxHeartbeats 1000000 in
theorem f_Vs_seeDead_4_1_eq (m : Nat) (s : mS) : f_Vs_seeDead_4_1 m s = ((f_Vs_see_1_10 m (s.1 4 2) s).bind fun p0 => some (p0.1, p0.2)) := rfl
set_option maxRecDepth 100000 in
set_option maxHeartbeats 1000000 in
theorem f_Vs_takeBox_219_1_eq (m : Nat) (s : mS) : f_Vs_takeBox_219_1 m s = ((f_Vs_see_1_220 m (s.1 219 0) s).bind fun p0 => (if p0.1 = (-1) then some (p0.1, p0.2) else ((f_Tp_advance m p0.2).bind fun p1 => some (p0.1, p1.2)))) := rfl
set_option maxRecDepth 100000 in
set_option maxHeartbeats 1000000 in
theorem f_Vs_takeBox_4_1_eq (m : Nat) (s : mS) : f_Vs_takeBox_4_1 m s = ((f_Vs_see_1_5 m (s.1 4 0) s).bind fun p0 => (if p0.1 = (-1) then some (p0.1, p0.2) else ((f_Tp_advance m p0.2).bind fun p1 => some (p0.1, p1.2)))) := rfl
set_option maxRecDepth 100000 in
set_option maxHeartbeats 1000000 in
theorem f_Vs_readAsks_eq (m : Nat) (s : mS) : f_Vs_readAsks m s = ((f_Tp_advance m s).bind fun p0 => ((f_Vs_seeDead_219_1 m p0.2).bind fun p1 => (if p1.1 = (-1) then some (0, p1.2) else (inR p1.1 12 (if p1.2.1 229 p1.1.toNat = (-1) then ((f_Tp_advance m p1.2).bind fun p2 => ((f_Vs_takeBox_219_1 m p2.2).bind fun p3 => (inR p1.1 12 (inR p1.1 12 (if (wI p3.2 229 p1.1.toNat p3.1).1 229 p1.1.toNat = (-1) then some (0, wI p3.2 229 p1.1.toNat p3.1) else some (1, wI p3.2 229 p1.1.toNat p3.1)))))) else ((f_Tp_fail m 3 p1.2).bind fun p2 => (if p2.1 = 0 ∨ p2.1 = 1 then some (p2.1, p2.2) else none))))))) := rfl
set_option maxRecDepth 100000 in
set_option maxHeartbeats 1000000 in
theorem f_Vs_takeDead_219_1_eq (m : Nat) (s : mS) : f_Vs_takeDead_219_1 m s = ((f_Vs_see_1_225 m (s.1 219 2) s).bind fun p0 => (if p0.1 = (-1) then some (p0.1, p0.2) else ((f_Tp_advance m p0.2).bind fun p1 => some (p0.1, p1.2)))) := rfl
set_option maxRecDepth 100000 in
set_option maxHeartbeats 1000000 in
theorem f_Vs_takeDead_4_1_eq (m : Nat) (s : mS) : f_Vs_takeDead_4_1 m s = ((f_Vs_see_1_10 m (s.1 4 2) s).bind fun p0 => (if p0.1 = (-1) then some (p0.1, p0.2) else ((f_Tp_advance m p0.2).bind fun p1 => some (p0.1, p1.2)))) := rfl
set_option maxRecDepth 100000 in
set_option maxHeartbeats 1000000 in
theorem f_Vs_areKin_219_eq (m : Nat) (a1 : Int) (a2 : Int) (s : mS) : f_Vs_areKin_219 m a1 a2 s = (if a2 = (-1) then some (0, s) else (inR a1 12 (if band (bshr (s.1 228 a1.toNat) a2) 1 = 0 then some (0, s) else some (1, s)))) := rfl
set_option maxRecDepth 100000 in
set_option maxHeartbeats 1000000 in
theorem f_Vs_areKin_4_eq (m : Nat) (a1 : Int) (a2 : Int) (s : mS) : f_Vs_areKin_4 m a1 a2 s = (if a2 = (-1) then some (0, s) else (inR a1 12 (if band (bshr (s.1 13 a1.toNat) a2) 1 = 0 then some (0, s) else some (1, s)))) := rfl
set_option maxRecDepth 100000 in
set_option maxHeartbeats 1000000 in
theorem f_Vs_readKin_eq (m : Nat) (s : mS) : f_Vs_readKin m s = ((f_Tp_advance m s).bind fun p0 => ((f_Vs_takeDead_219_1 m p0.2).bind fun p1 => (if p1.1 = (-1) then some (0, p1.2) else ((f_Vs_seeDead_219_1 m p1.2).bind fun p2 => (if p2.1 = (-1) then some (0, p2.2) else (if p1.1 = p2.1 then ((f_Tp_fail m 3 p2.2).bind fun p3 => (if p3.1 = 0 ∨ p3.1 = 1 then some (p3.1, p3.2) else none)) else ((f_Vs_areKin_219 m p1.1 p2.1 p2.2).bind fun p3 => (if p3.1 = 0 then ((f_Tp_advance m p3.2).bind fun p4 => (inR p1.1 12 (inR p1.1 12 (inR p2.1 12 (inR p2.1 12 some (1, wI (wI (wI p4.2 228 p1.1.toNat (bor (p4.2.1 228 p1.1.toNat) (bshl 1 p2.1))) 228 p2.1.toNat (bor ((wI p4.2 228 p1.1.toNat (bor (p4.2.1 228 p1.1.toNat) (bshl 1 p2.1))).1 228 p2.1.toNat) (bshl 1 p1.1))) 219 3 (w32 (((wI (wI p4.2 228 p1.1.toNat (bor (p4.2.1 228 p1.1.toNat) (bshl 1 p2.1))) 228 p2.1.toNat (bor ((wI p4.2 228 p1.1.toNat (bor (p4.2.1 228 p1.1.toNat) (bshl 1 p2.1))).1 228 p2.1.toNat) (bshl 1 p1.1))).1 219 3) + 1)))))))) else ((f_Tp_fail m 3 p3.2).bind fun p4 => (if p4.1 = 0 ∨ p4.1 = 1 then some (p4.1, p4.2) else none)))))))))) := rfl
set_option maxRecDepth 100000 in
set_option maxHeartbeats 1000000 in
theorem f_Vs_takeNewName_eq (m : Nat) (s : mS) : f_Vs_takeNewName m s = (if s.1 1 2 = 3 then ((f_Vs_placeOf_220 m (s.2 1 4) (s.1 219 0) s).bind fun p0 => (if p0.1 = (-1) then ((f_Vs_placeOf_223 m (p0.2.2 1 4) (p0.2.1 219 1) p0.2).bind fun p1 => (if p1.1 = (-1) then ((f_Vs_placeOf_225 m (p1.2.2 1 4) (p1.2.1 219 2) p1.2).bind fun p2 => (if p2.1 = (-1) then ((f_Tp_advance m p2.2).bind fun p3 => some (1, p3.2)) else ((f_Tp_fail m 3 p2.2).bind fun p3 => (if p3.1 = 0 ∨ p3.1 = 1 then some (p3.1, p3.2) else none)))) else ((f_Tp_fail m 3 p1.2).bind fun p2 => (if p2.1 = 0 ∨ p2.1 = 1 then some (p2.1, p2.2) else none)))) else ((f_Tp_fail m 3 p0.2).bind fun p1 => (if p1.1 = 0 ∨ p1.1 = 1 then some (p1.1, p1.2) else none)))) else ((f_Tp_fail m 1 s).bind fun p0 => (if p0.1 = 0 ∨ p0.1 = 1 then some (p0.1, p0.2) else none))) := rfl
set_option maxRecDepth 100000 in
set_option maxHeartbeats 1000000 in
theorem f_Vs_readOne_eq (m : Nat) (s : mS) : f_Vs_readOne m s = ((f_Tp_advance m s).bind fun p0 => (inR (p0.2.1 219 2) 12 ((f_Vs_takeNewName m (wJ p0.2 225 (p0.2.1 219 2).toNat (p0.2.2 1 4))).bind fun p1 => (if p1.1 = 0 then some (0, p1.2) else ((f_Tp_takeNumber m 10 99 p1.2).bind fun p2 => (inR (p1.2.1 219 2) 12 (inR ((wI p2.2 226 (p1.2.1 219 2).toNat p2.1).1 219 2) 12 (if (wI p2.2 226 (p1.2.1 219 2).toNat p2.1).1 226 ((wI p2.2 226 (p1.2.1 219 2).toNat p2.1).1 219 2).toNat = (-1) then some (0, wI p2.2 226 (p1.2.1 219 2).toNat p2.1) else ((f_Tp_takeNumber m 0 99 (wI p2.2 226 (p1.2.1 219 2).toNat p2.1)).bind fun p3 => (inR ((wI p2.2 226 (p1.2.1 219 2).toNat p2.1).1 219 2) 12 (inR ((wI p3.2 227 ((wI p2.2 226 (p1.2.1 219 2).toNat p2.1).1 219 2).toNat p3.1).1 219 2) 12 (if (wI p3.2 227 ((wI p2.2 226 (p1.2.1 219 2).toNat p2.1).1 219 2).toNat p3.1).1 227 ((wI p3.2 227 ((wI p2.2 226 (p1.2.1 219 2).toNat p2.1).1 219 2).toNat p3.1).1 219 2).toNat = (-1) then some (0, wI p3.2 227 ((wI p2.2 226 (p1.2.1 219 2).toNat p2.1).1 219 2).toNat p3.1) else some (1, wI (wI p3.2 227 ((wI p2.2 226 (p1.2.1 219 2).toNat p2.1).1 219 2).toNat p3.1) 219 2 (w32 (((wI p3.2 227 ((wI p2.2 226 (p1.2.1 219 2).toNat p2.1).1 219 2).toNat p3.1).1 219 2) + 1))))))))))))))) := rfl
set_option maxRecDepth 100000 in
set_option maxHeartbeats 1000000 in
theorem f_Vs_readPlot_eq (m : Nat) (s : mS) : f_Vs_readPlot m s = ((f_Tp_advance m s).bind fun p0 => (inR (p0.2.1 219 1) 5 ((f_Vs_takeNewName m (wJ p0.2 223 (p0.2.1 219 1).toNat (p0.2.2 1 4))).bind fun p1 => (if p1.1 = 0 then some (0, p1.2) else ((f_Tp_takeNumber m 0 60 p1.2).bind fun p2 => (inR (p1.2.1 219 1) 5 (inR ((wI p2.2 224 (p1.2.1 219 1).toNat p2.1).1 219 1) 5 (if (wI p2.2 224 (p1.2.1 219 1).toNat p2.1).1 224 ((wI p2.2 224 (p1.2.1 219 1).toNat p2.1).1 219 1).toNat = (-1) then some (0, wI p2.2 224 (p1.2.1 219 1).toNat p2.1) else some (1, wI (wI p2.2 224 (p1.2.1 219 1).toNat p2.1) 219 1 (w32 (((wI p2.2 224 (p1.2.1 219 1).toNat p2.1).1 219 1) + 1))))))))))) := rfl
set_option maxRecDepth 100000 in
set_option maxHeartbeats 1000000 in
theorem f_Vs_readBox_eq (m : Nat) (s : mS) : f_Vs_readBox m s = ((f_Tp_advance m s).bind fun p0 => (inR (p0.2.1 219 0) 9 ((f_Vs_takeNewName m (wJ p0.2 220 (p0.2.1 219 0).toNat (p0.2.2 1 4))).bind fun p1 => (if p1.1 = 0 then some (0, p1.2) else ((f_Tp_takeNumber m 10 99 p1.2).bind fun p2 => (inR (p1.2.1 219 0) 9 (inR ((wI p2.2 221 (p1.2.1 219 0).toNat p2.1).1 219 0) 9 (if (wI p2.2 221 (p1.2.1 219 0).toNat p2.1).1 221 ((wI p2.2 221 (p1.2.1 219 0).toNat p2.1).1 219 0).toNat = (-1) then some (0, wI p2.2 221 (p1.2.1 219 0).toNat p2.1) else ((f_Tp_takeNumber m 1 99 (wI p2.2 221 (p1.2.1 219 0).toNat p2.1)).bind fun p3 => (inR ((wI p2.2 221 (p1.2.1 219 0).toNat p2.1).1 219 0) 9 (inR ((wI p3.2 222 ((wI p2.2 221 (p1.2.1 219 0).toNat p2.1).1 219 0).toNat p3.1).1 219 0) 9 (if (wI p3.2 222 ((wI p2.2 221 (p1.2.1 219 0).toNat p2.1).1 219 0).toNat p3.1).1 222 ((wI p3.2 222 ((wI p2.2 221 (p1.2.1 219 0).toNat p2.1).1 219 0).toNat p3.1).1 219 0).toNat = (-1) then some (0, wI p3.2 222 ((wI p2.2 221 (p1.2.1 219 0).toNat p2.1).1 219 0).toNat p3.1) else some (1, wI (wI p3.2 222 ((wI p2.2 221 (p1.2.1 219 0).toNat p2.1).1 219 0).toNat p3.1) 219 0 (w32 (((wI p3.2 222 ((wI p2.2 221 (p1.2.1 219 0).toNat p2.1).1 219 0).toNat p3.1).1 219 0) + 1))))))))))))))) := rfl
set_option maxRecDepth 100000 in
set_option maxHeartbeats 1000000 in
theorem f_Vs_readLine_eq (m : Nat) (s : mS) : f_Vs_readLine m s = (if encW (s.1 1 3) = none then ((f_Tp_fail m 1 s).bind fun p0 => (if p0.1 = 0 ∨ p0.1 = 1 then some (p0.1, p0.2) else none)) else (onS (encW (s.1 1 3)) fun t0 => (if gIn 1 t0 = true then ((f_Je_ordinal m t0 s).bind fun p1 => (inR p1.1 24 (if swM p1.1.toNat = 1 then (if p1.2.1 219 0 < 9 then ((f_Vs_readBox m p1.2).bind fun p2 => (if p2.1 = 0 ∨ p2.1 = 1 then some (p2.1, p2.2) else none)) else ((f_Tp_fail m 4 p1.2).bind fun p2 => (if p2.1 = 0 ∨ p2.1 = 1 then some (p2.1, p2.2) else none))) else (if swM p1.1.toNat = 2 then (if p1.2.1 219 1 < 5 then ((f_Vs_readPlot m p1.2).bind fun p2 => (if p2.1 = 0 ∨ p2.1 = 1 then some (p2.1, p2.2) else none)) else ((f_Tp_fail m 4 p1.2).bind fun p2 => (if p2.1 = 0 ∨ p2.1 = 1 then some (p2.1, p2.2) else none))) else (if swM p1.1.toNat = 3 then (if p1.2.1 219 2 < 12 then ((f_Vs_readOne m p1.2).bind fun p2 => (if p2.1 = 0 ∨ p2.1 = 1 then some (p2.1, p2.2) else none)) else ((f_Tp_fail m 4 p1.2).bind fun p2 => (if p2.1 = 0 ∨ p2.1 = 1 then some (p2.1, p2.2) else none))) else (if swM p1.1.toNat = 4 then (if p1.2.1 219 3 < 12 then ((f_Vs_readKin m p1.2).bind fun p2 => (if p2.1 = 0 ∨ p2.1 = 1 then some (p2.1, p2.2) else none)) else ((f_Tp_fail m 4 p1.2).bind fun p2 => (if p2.1 = 0 ∨ p2.1 = 1 then some (p2.1, p2.2) else none))) else (if swM p1.1.toNat = 5 then ((f_Vs_readAsks m p1.2).bind fun p2 => (if p2.1 = 0 ∨ p2.1 = 1 then some (p2.1, p2.2) else none)) else (if swM p1.1.toNat = 6 then (if p1.2.1 219 4 < 4 then ((f_Vs_readFrost m p1.2).bind fun p2 => (if p2.1 = 0 ∨ p2.1 = 1 then some (p2.1, p2.2) else none)) else ((f_Tp_fail m 4 p1.2).bind fun p2 => (if p2.1 = 0 ∨ p2.1 = 1 then some (p2.1, p2.2) else none))) else (if swM p1.1.toNat = 7 then (if p1.2.1 219 6 = 0 then ((f_Vs_readAir m p1.2).bind fun p2 => (if p2.1 = 0 ∨ p2.1 = 1 then some (p2.1, p2.2) else none)) else ((f_Tp_fail m 3 p1.2).bind fun p2 => (if p2.1 = 0 ∨ p2.1 = 1 then some (p2.1, p2.2) else none))) else ((f_Tp_fail m 1 p1.2).bind fun p2 => (if p2.1 = 0 ∨ p2.1 = 1 then some (p2.1, p2.2) else none))))))))))) else none))) := rfl
set_option maxRecDepth 100000 in
set_option maxHeartbeats 1000000 in
theorem f_Tp_takeSign_eq (m : Nat) (a1 : Int) (s : mS) : f_Tp_takeSign m a1 s = (if s.1 1 2 = a1 then ((f_Tp_advance m s).bind fun p0 => some (1, p0.2)) else ((f_Tp_fail m 1 s).bind fun p0 => (if p0.1 = 0 ∨ p0.1 = 1 then some (p0.1, p0.2) else none))) := rfl
set_option maxRecDepth 100000 in
set_option maxHeartbeats 1000000 in
theorem f_Vs_readFrom_eq (m : Nat) (s : mS) : f_Vs_readFrom m s = ((f_Ja_fill_228 m 0 (wI (wI (wI (wI (wI (wI (wI s 219 0 0) 219 1 0) 219 2 0) 219 3 0) 219 4 0) 219 5 1) 219 6 0)).bind fun p0 => ((f_Ja_fill_229 m (-1) p0.2).bind fun p1 => (l_Vs_readFrom_L53 m m 0 p1.2))) := rfl
set_option maxRecDepth 100000 in
set_option maxHeartbeats 1000000 in
theorem l_Vs_readFrom_L53_eq (m : Nat) (n : Nat) (x2 : Int) (s : mS) : l_Vs_readFrom_L53 m (n + 1) x2 s = (if x2 < 940 then (if s.1 1 2 = 0 then some (x2, s) else ((f_Vs_readLine m s).bind fun p0 => (if p0.1 = 0 then some ((-1), p0.2) else ((f_Tp_takeSign m 59 p0.2).bind fun p1 => (if p1.1 = 0 then some ((-1), p1.2) else (l_Vs_readFrom_L53 m n (w32 (x2 + 1)) p1.2)))))) else some ((-1), s)) := rfl
set_option maxRecDepth 100000 in
set_option maxHeartbeats 1000000 in
theorem f_Vs_copyOf_4_219_eq (m : Nat) (s : mS) : f_Vs_copyOf_4_219 m s = (if (wI (wI (wI (wI (wI (wI s 4 0 (s.1 219 0)) 4 1 ((wI s 4 0 (s.1 219 0)).1 219 1)) 4 2 ((wI (wI s 4 0 (s.1 219 0)) 4 1 ((wI s 4 0 (s.1 219 0)).1 219 1)).1 219 2)) 4 3 ((wI (wI (wI s 4 0 (s.1 219 0)) 4 1 ((wI s 4 0 (s.1 219 0)).1 219 1)) 4 2 ((wI (wI s 4 0 (s.1 219 0)) 4 1 ((wI s 4 0 (s.1 219 0)).1 219 1)).1 219 2)).1 219 3)) 4 4 ((wI (wI (wI (wI s 4 0 (s.1 219 0)) 4 1 ((wI s 4 0 (s.1 219 0)).1 219 1)) 4 2 ((wI (wI s 4 0 (s.1 219 0)) 4 1 ((wI s 4 0 (s.1 219 0)).1 219 1)).1 219 2)) 4 3 ((wI (wI (wI s 4 0 (s.1 219 0)) 4 1 ((wI s 4 0 (s.1 219 0)).1 219 1)) 4 2 ((wI (wI s 4 0 (s.1 219 0)) 4 1 ((wI s 4 0 (s.1 219 0)).1 219 1)).1 219 2)).1 219 3)).1 219 4)) 4 5 ((wI (wI (wI (wI (wI s 4 0 (s.1 219 0)) 4 1 ((wI s 4 0 (s.1 219 0)).1 219 1)) 4 2 ((wI (wI s 4 0 (s.1 219 0)) 4 1 ((wI s 4 0 (s.1 219 0)).1 219 1)).1 219 2)) 4 3 ((wI (wI (wI s 4 0 (s.1 219 0)) 4 1 ((wI s 4 0 (s.1 219 0)).1 219 1)) 4 2 ((wI (wI s 4 0 (s.1 219 0)) 4 1 ((wI s 4 0 (s.1 219 0)).1 219 1)).1 219 2)).1 219 3)) 4 4 ((wI (wI (wI (wI s 4 0 (s.1 219 0)) 4 1 ((wI s 4 0 (s.1 219 0)).1 219 1)) 4 2 ((wI (wI s 4 0 (s.1 219 0)) 4 1 ((wI s 4 0 (s.1 219 0)).1 219 1)).1 219 2)) 4 3 ((wI (wI (wI s 4 0 (s.1 219 0)) 4 1 ((wI s 4 0 (s.1 219 0)).1 219 1)) 4 2 ((wI (wI s 4 0 (s.1 219 0)) 4 1 ((wI s 4 0 (s.1 219 0)).1 219 1)).1 219 2)).1 219 3)).1 219 4)).1 219 5)).1 219 6 = 0 ∨ (wI (wI (wI (wI (wI (wI s 4 0 (s.1 219 0)) 4 1 ((wI s 4 0 (s.1 219 0)).1 219 1)) 4 2 ((wI (wI s 4 0 (s.1 219 0)) 4 1 ((wI s 4 0 (s.1 219 0)).1 219 1)).1 219 2)) 4 3 ((wI (wI (wI s 4 0 (s.1 219 0)) 4 1 ((wI s 4 0 (s.1 219 0)).1 219 1)) 4 2 ((wI (wI s 4 0 (s.1 219 0)) 4 1 ((wI s 4 0 (s.1 219 0)).1 219 1)).1 219 2)).1 219 3)) 4 4 ((wI (wI (wI (wI s 4 0 (s.1 219 0)) 4 1 ((wI s 4 0 (s.1 219 0)).1 219 1)) 4 2 ((wI (wI s 4 0 (s.1 219 0)) 4 1 ((wI s 4 0 (s.1 219 0)).1 219 1)).1 219 2)) 4 3 ((wI (wI (wI s 4 0 (s.1 219 0)) 4 1 ((wI s 4 0 (s.1 219 0)).1 219 1)) 4 2 ((wI (wI s 4 0 (s.1 219 0)) 4 1 ((wI s 4 0 (s.1 219 0)).1 219 1)).1 219 2)).1 219 3)).1 219 4)) 4 5 ((wI (wI (wI (wI (wI s 4 0 (s.1 219 0)) 4 1 ((wI s 4 0 (s.1 219 0)).1 219 1)) 4 2 ((wI (wI s 4 0 (s.1 219 0)) 4 1 ((wI s 4 0 (s.1 219 0)).1 219 1)).1 219 2)) 4 3 ((wI (wI (wI s 4 0 (s.1 219 0)) 4 1 ((wI s 4 0 (s.1 219 0)).1 219 1)) 4 2 ((wI (wI s 4 0 (s.1 219 0)) 4 1 ((wI s 4 0 (s.1 219 0)).1 219 1)).1 219 2)).1 219 3)) 4 4 ((wI (wI (wI (wI s 4 0 (s.1 219 0)) 4 1 ((wI s 4 0 (s.1 219 0)).1 219 1)) 4 2 ((wI (wI s 4 0 (s.1 219 0)) 4 1 ((wI s 4 0 (s.1 219 0)).1 219 1)).1 219 2)) 4 3 ((wI (wI (wI s 4 0 (s.1 219 0)) 4 1 ((wI s 4 0 (s.1 219 0)).1 219 1)) 4 2 ((wI (wI s 4 0 (s.1 219 0)) 4 1 ((wI s 4 0 (s.1 219 0)).1 219 1)).1 219 2)).1 219 3)).1 219 4)).1 219 5)).1 219 6 = 1 then some (0, cpyI (cpyI (cpyI (cpyI (cpyI (cpyI (cpyJ (cpyI (cpyJ (cpyI (cpyI (cpyJ (wI (wI (wI (wI (wI (wI (wI s 4 0 (s.1 219 0)) 4 1 ((wI s 4 0 (s.1 219 0)).1 219 1)) 4 2 ((wI (wI s 4 0 (s.1 219 0)) 4 1 ((wI s 4 0 (s.1 219 0)).1 219 1)).1 219 2)) 4 3 ((wI (wI (wI s 4 0 (s.1 219 0)) 4 1 ((wI s 4 0 (s.1 219 0)).1 219 1)) 4 2 ((wI (wI s 4 0 (s.1 219 0)) 4 1 ((wI s 4 0 (s.1 219 0)).1 219 1)).1 219 2)).1 219 3)) 4 4 ((wI (wI (wI (wI s 4 0 (s.1 219 0)) 4 1 ((wI s 4 0 (s.1 219 0)).1 219 1)) 4 2 ((wI (wI s 4 0 (s.1 219 0)) 4 1 ((wI s 4 0 (s.1 219 0)).1 219 1)).1 219 2)) 4 3 ((wI (wI (wI s 4 0 (s.1 219 0)) 4 1 ((wI s 4 0 (s.1 219 0)).1 219 1)) 4 2 ((wI (wI s 4 0 (s.1 219 0)) 4 1 ((wI s 4 0 (s.1 219 0)).1 219 1)).1 219 2)).1 219 3)).1 219 4)) 4 5 ((wI (wI (wI (wI (wI s 4 0 (s.1 219 0)) 4 1 ((wI s 4 0 (s.1 219 0)).1 219 1)) 4 2 ((wI (wI s 4 0 (s.1 219 0)) 4 1 ((wI s 4 0 (s.1 219 0)).1 219 1)).1 219 2)) 4 3 ((wI (wI (wI s 4 0 (s.1 219 0)) 4 1 ((wI s 4 0 (s.1 219 0)).1 219 1)) 4 2 ((wI (wI s 4 0 (s.1 219 0)) 4 1 ((wI s 4 0 (s.1 219 0)).1 219 1)).1 219 2)).1 219 3)) 4 4 ((wI (wI (wI (wI s 4 0 (s.1 219 0)) 4 1 ((wI s 4 0 (s.1 219 0)).1 219 1)) 4 2 ((wI (wI s 4 0 (s.1 219 0)) 4 1 ((wI s 4 0 (s.1 219 0)).1 219 1)).1 219 2)) 4 3 ((wI (wI (wI s 4 0 (s.1 219 0)) 4 1 ((wI s 4 0 (s.1 219 0)).1 219 1)) 4 2 ((wI (wI s 4 0 (s.1 219 0)) 4 1 ((wI s 4 0 (s.1 219 0)).1 219 1)).1 219 2)).1 219 3)).1 219 4)).1 219 5)) 4 6 ((wI (wI (wI (wI (wI (wI s 4 0 (s.1 219 0)) 4 1 ((wI s 4 0 (s.1 219 0)).1 219 1)) 4 2 ((wI (wI s 4 0 (s.1 219 0)) 4 1 ((wI s 4 0 (s.1 219 0)).1 219 1)).1 219 2)) 4 3 ((wI (wI (wI s 4 0 (s.1 219 0)) 4 1 ((wI s 4 0 (s.1 219 0)).1 219 1)) 4 2 ((wI (wI s 4 0 (s.1 219 0)) 4 1 ((wI s 4 0 (s.1 219 0)).1 219 1)).1 219 2)).1 219 3)) 4 4 ((wI (wI (wI (wI s 4 0 (s.1 219 0)) 4 1 ((wI s 4 0 (s.1 219 0)).1 219 1)) 4 2 ((wI (wI s 4 0 (s.1 219 0)) 4 1 ((wI s 4 0 (s.1 219 0)).1 219 1)).1 219 2)) 4 3 ((wI (wI (wI s 4 0 (s.1 219 0)) 4 1 ((wI s 4 0 (s.1 219 0)).1 219 1)) 4 2 ((wI (wI s 4 0 (s.1 219 0)) 4 1 ((wI s 4 0 (s.1 219 0)).1 219 1)).1 219 2)).1 219 3)).1 219 4)) 4 5 ((wI (wI (wI (wI (wI s 4 0 (s.1 219 0)) 4 1 ((wI s 4 0 (s.1 219 0)).1 219 1)) 4 2 ((wI (wI s 4 0 (s.1 219 0)) 4 1 ((wI s 4 0 (s.1 219 0)).1 219 1)).1 219 2)) 4 3 ((wI (wI (wI s 4 0 (s.1 219 0)) 4 1 ((wI s 4 0 (s.1 219 0)).1 219 1)) 4 2 ((wI (wI s 4 0 (s.1 219 0)) 4 1 ((wI s 4 0 (s.1 219 0)).1 219 1)).1 219 2)).1 219 3)) 4 4 ((wI (wI (wI (wI s 4 0 (s.1 219 0)) 4 1 ((wI s 4 0 (s.1 219 0)).1 219 1)) 4 2 ((wI (wI s 4 0 (s.1 219 0)) 4 1 ((wI s 4 0 (s.1 219 0)).1 219 1)).1 219 2)) 4 3 ((wI (wI (wI s 4 0 (s.1 219 0)) 4 1 ((wI s 4 0 (s.1 219 0)).1 219 1)) 4 2 ((wI (wI s 4 0 (s.1 219 0)) 4 1 ((wI s 4 0 (s.1 219 0)).1 219 1)).1 219 2)).1 219 3)).1 219 4)).1 219 5)).1 219 6)) 220 0 5 0 9) 221 0 6 0 9) 222 0 7 0 9) 223 0 8 0 5) 224 0 9 0 5) 225 0 10 0 12) 226 0 11 0 12) 227 0 12 0 12) 228 0 13 0 12) 229 0 14 0 12) 230 0 15 0 4) 231 0 16 0 4) else none) := rfl
set_option maxRecDepth 100000 in
set_option maxHeartbeats 1000000 in
theorem f_Vs_copyOf_37_4_eq (m : Nat) (s : mS) : f_Vs_copyOf_37_4 m s = (if (wI (wI (wI (wI (wI (wI s 37 0 (s.1 4 0)) 37 1 ((wI s 37 0 (s.1 4 0)).1 4 1)) 37 2 ((wI (wI s 37 0 (s.1 4 0)) 37 1 ((wI s 37 0 (s.1 4 0)).1 4 1)).1 4 2)) 37 3 ((wI (wI (wI s 37 0 (s.1 4 0)) 37 1 ((wI s 37 0 (s.1 4 0)).1 4 1)) 37 2 ((wI (wI s 37 0 (s.1 4 0)) 37 1 ((wI s 37 0 (s.1 4 0)).1 4 1)).1 4 2)).1 4 3)) 37 4 ((wI (wI (wI (wI s 37 0 (s.1 4 0)) 37 1 ((wI s 37 0 (s.1 4 0)).1 4 1)) 37 2 ((wI (wI s 37 0 (s.1 4 0)) 37 1 ((wI s 37 0 (s.1 4 0)).1 4 1)).1 4 2)) 37 3 ((wI (wI (wI s 37 0 (s.1 4 0)) 37 1 ((wI s 37 0 (s.1 4 0)).1 4 1)) 37 2 ((wI (wI s 37 0 (s.1 4 0)) 37 1 ((wI s 37 0 (s.1 4 0)).1 4 1)).1 4 2)).1 4 3)).1 4 4)) 37 5 ((wI (wI (wI (wI (wI s 37 0 (s.1 4 0)) 37 1 ((wI s 37 0 (s.1 4 0)).1 4 1)) 37 2 ((wI (wI s 37 0 (s.1 4 0)) 37 1 ((wI s 37 0 (s.1 4 0)).1 4 1)).1 4 2)) 37 3 ((wI (wI (wI s 37 0 (s.1 4 0)) 37 1 ((wI s 37 0 (s.1 4 0)).1 4 1)) 37 2 ((wI (wI s 37 0 (s.1 4 0)) 37 1 ((wI s 37 0 (s.1 4 0)).1 4 1)).1 4 2)).1 4 3)) 37 4 ((wI (wI (wI (wI s 37 0 (s.1 4 0)) 37 1 ((wI s 37 0 (s.1 4 0)).1 4 1)) 37 2 ((wI (wI s 37 0 (s.1 4 0)) 37 1 ((wI s 37 0 (s.1 4 0)).1 4 1)).1 4 2)) 37 3 ((wI (wI (wI s 37 0 (s.1 4 0)) 37 1 ((wI s 37 0 (s.1 4 0)).1 4 1)) 37 2 ((wI (wI s 37 0 (s.1 4 0)) 37 1 ((wI s 37 0 (s.1 4 0)).1 4 1)).1 4 2)).1 4 3)).1 4 4)).1 4 5)).1 4 6 = 0 ∨ (wI (wI (wI (wI (wI (wI s 37 0 (s.1 4 0)) 37 1 ((wI s 37 0 (s.1 4 0)).1 4 1)) 37 2 ((wI (wI s 37 0 (s.1 4 0)) 37 1 ((wI s 37 0 (s.1 4 0)).1 4 1)).1 4 2)) 37 3 ((wI (wI (wI s 37 0 (s.1 4 0)) 37 1 ((wI s 37 0 (s.1 4 0)).1 4 1)) 37 2 ((wI (wI s 37 0 (s.1 4 0)) 37 1 ((wI s 37 0 (s.1 4 0)).1 4 1)).1 4 2)).1 4 3)) 37 4 ((wI (wI (wI (wI s 37 0 (s.1 4 0)) 37 1 ((wI s 37 0 (s.1 4 0)).1 4 1)) 37 2 ((wI (wI s 37 0 (s.1 4 0)) 37 1 ((wI s 37 0 (s.1 4 0)).1 4 1)).1 4 2)) 37 3 ((wI (wI (wI s 37 0 (s.1 4 0)) 37 1 ((wI s 37 0 (s.1 4 0)).1 4 1)) 37 2 ((wI (wI s 37 0 (s.1 4 0)) 37 1 ((wI s 37 0 (s.1 4 0)).1 4 1)).1 4 2)).1 4 3)).1 4 4)) 37 5 ((wI (wI (wI (wI (wI s 37 0 (s.1 4 0)) 37 1 ((wI s 37 0 (s.1 4 0)).1 4 1)) 37 2 ((wI (wI s 37 0 (s.1 4 0)) 37 1 ((wI s 37 0 (s.1 4 0)).1 4 1)).1 4 2)) 37 3 ((wI (wI (wI s 37 0 (s.1 4 0)) 37 1 ((wI s 37 0 (s.1 4 0)).1 4 1)) 37 2 ((wI (wI s 37 0 (s.1 4 0)) 37 1 ((wI s 37 0 (s.1 4 0)).1 4 1)).1 4 2)).1 4 3)) 37 4 ((wI (wI (wI (wI s 37 0 (s.1 4 0)) 37 1 ((wI s 37 0 (s.1 4 0)).1 4 1)) 37 2 ((wI (wI s 37 0 (s.1 4 0)) 37 1 ((wI s 37 0 (s.1 4 0)).1 4 1)).1 4 2)) 37 3 ((wI (wI (wI s 37 0 (s.1 4 0)) 37 1 ((wI s 37 0 (s.1 4 0)).1 4 1)) 37 2 ((wI (wI s 37 0 (s.1 4 0)) 37 1 ((wI s 37 0 (s.1 4 0)).1 4 1)).1 4 2)).1 4 3)).1 4 4)).1 4 5)).1 4 6 = 1 then some (0, cpyI (cpyI (cpyI (cpyI (cpyI (cpyI (cpyJ (cpyI (cpyJ (cpyI (cpyI (cpyJ (wI (wI (wI (wI (wI (wI (wI s 37 0 (s.1 4 0)) 37 1 ((wI s 37 0 (s.1 4 0)).1 4 1)) 37 2 ((wI (wI s 37 0 (s.1 4 0)) 37 1 ((wI s 37 0 (s.1 4 0)).1 4 1)).1 4 2)) 37 3 ((wI (wI (wI s 37 0 (s.1 4 0)) 37 1 ((wI s 37 0 (s.1 4 0)).1 4 1)) 37 2 ((wI (wI s 37 0 (s.1 4 0)) 37 1 ((wI s 37 0 (s.1 4 0)).1 4 1)).1 4 2)).1 4 3)) 37 4 ((wI (wI (wI (wI s 37 0 (s.1 4 0)) 37 1 ((wI s 37 0 (s.1 4 0)).1 4 1)) 37 2 ((wI (wI s 37 0 (s.1 4 0)) 37 1 ((wI s 37 0 (s.1 4 0)).1 4 1)).1 4 2)) 37 3 ((wI (wI (wI s 37 0 (s.1 4 0)) 37 1 ((wI s 37 0 (s.1 4 0)).1 4 1)) 37 2 ((wI (wI s 37 0 (s.1 4 0)) 37 1 ((wI s 37 0 (s.1 4 0)).1 4 1)).1 4 2)).1 4 3)).1 4 4)) 37 5 ((wI (wI (wI (wI (wI s 37 0 (s.1 4 0)) 37 1 ((wI s 37 0 (s.1 4 0)).1 4 1)) 37 2 ((wI (wI s 37 0 (s.1 4 0)) 37 1 ((wI s 37 0 (s.1 4 0)).1 4 1)).1 4 2)) 37 3 ((wI (wI (wI s 37 0 (s.1 4 0)) 37 1 ((wI s 37 0 (s.1 4 0)).1 4 1)) 37 2 ((wI (wI s 37 0 (s.1 4 0)) 37 1 ((wI s 37 0 (s.1 4 0)).1 4 1)).1 4 2)).1 4 3)) 37 4 ((wI (wI (wI (wI s 37 0 (s.1 4 0)) 37 1 ((wI s 37 0 (s.1 4 0)).1 4 1)) 37 2 ((wI (wI s 37 0 (s.1 4 0)) 37 1 ((wI s 37 0 (s.1 4 0)).1 4 1)).1 4 2)) 37 3 ((wI (wI (wI s 37 0 (s.1 4 0)) 37 1 ((wI s 37 0 (s.1 4 0)).1 4 1)) 37 2 ((wI (wI s 37 0 (s.1 4 0)) 37 1 ((wI s 37 0 (s.1 4 0)).1 4 1)).1 4 2)).1 4 3)).1 4 4)).1 4 5)) 37 6 ((wI (wI (wI (wI (wI (wI s 37 0 (s.1 4 0)) 37 1 ((wI s 37 0 (s.1 4 0)).1 4 1)) 37 2 ((wI (wI s 37 0 (s.1 4 0)) 37 1 ((wI s 37 0 (s.1 4 0)).1 4 1)).1 4 2)) 37 3 ((wI (wI (wI s 37 0 (s.1 4 0)) 37 1 ((wI s 37 0 (s.1 4 0)).1 4 1)) 37 2 ((wI (wI s 37 0 (s.1 4 0)) 37 1 ((wI s 37 0 (s.1 4 0)).1 4 1)).1 4 2)).1 4 3)) 37 4 ((wI (wI (wI (wI s 37 0 (s.1 4 0)) 37 1 ((wI s 37 0 (s.1 4 0)).1 4 1)) 37 2 ((wI (wI s 37 0 (s.1 4 0)) 37 1 ((wI s 37 0 (s.1 4 0)).1 4 1)).1 4 2)) 37 3 ((wI (wI (wI s 37 0 (s.1 4 0)) 37 1 ((wI s 37 0 (s.1 4 0)).1 4 1)) 37 2 ((wI (wI s 37 0 (s.1 4 0)) 37 1 ((wI s 37 0 (s.1 4 0)).1 4 1)).1 4 2)).1 4 3)).1 4 4)) 37 5 ((wI (wI (wI (wI (wI s 37 0 (s.1 4 0)) 37 1 ((wI s 37 0 (s.1 4 0)).1 4 1)) 37 2 ((wI (wI s 37 0 (s.1 4 0)) 37 1 ((wI s 37 0 (s.1 4 0)).1 4 1)).1 4 2)) 37 3 ((wI (wI (wI s 37 0 (s.1 4 0)) 37 1 ((wI s 37 0 (s.1 4 0)).1 4 1)) 37 2 ((wI (wI s 37 0 (s.1 4 0)) 37 1 ((wI s 37 0 (s.1 4 0)).1 4 1)).1 4 2)).1 4 3)) 37 4 ((wI (wI (wI (wI s 37 0 (s.1 4 0)) 37 1 ((wI s 37 0 (s.1 4 0)).1 4 1)) 37 2 ((wI (wI s 37 0 (s.1 4 0)) 37 1 ((wI s 37 0 (s.1 4 0)).1 4 1)).1 4 2)) 37 3 ((wI (wI (wI s 37 0 (s.1 4 0)) 37 1 ((wI s 37 0 (s.1 4 0)).1 4 1)) 37 2 ((wI (wI s 37 0 (s.1 4 0)) 37 1 ((wI s 37 0 (s.1 4 0)).1 4 1)).1 4 2)).1 4 3)).1 4 4)).1 4 5)).1 4 6)) 5 0 38 0 9) 6 0 39 0 9) 7 0 40 0 9) 8 0 41 0 5) 9 0 42 0 5) 10 0 43 0 12) 11 0 44 0 12) 12 0 45 0 12) 13 0 46 0 12) 14 0 47 0 12) 15 0 48 0 4) 16 0 49 0 4) else none) := rfl
set_option maxRecDepth 100000 in
set_option maxHeartbeats 1000000 in
theorem f_Vs_copyOf_69_4_eq (m : Nat) (s : mS) : f_Vs_copyOf_69_4 m s = (if (wI (wI (wI (wI (wI (wI s 69 0 (s.1 4 0)) 69 1 ((wI s 69 0 (s.1 4 0)).1 4 1)) 69 2 ((wI (wI s 69 0 (s.1 4 0)) 69 1 ((wI s 69 0 (s.1 4 0)).1 4 1)).1 4 2)) 69 3 ((wI (wI (wI s 69 0 (s.1 4 0)) 69 1 ((wI s 69 0 (s.1 4 0)).1 4 1)) 69 2 ((wI (wI s 69 0 (s.1 4 0)) 69 1 ((wI s 69 0 (s.1 4 0)).1 4 1)).1 4 2)).1 4 3)) 69 4 ((wI (wI (wI (wI s 69 0 (s.1 4 0)) 69 1 ((wI s 69 0 (s.1 4 0)).1 4 1)) 69 2 ((wI (wI s 69 0 (s.1 4 0)) 69 1 ((wI s 69 0 (s.1 4 0)).1 4 1)).1 4 2)) 69 3 ((wI (wI (wI s 69 0 (s.1 4 0)) 69 1 ((wI s 69 0 (s.1 4 0)).1 4 1)) 69 2 ((wI (wI s 69 0 (s.1 4 0)) 69 1 ((wI s 69 0 (s.1 4 0)).1 4 1)).1 4 2)).1 4 3)).1 4 4)) 69 5 ((wI (wI (wI (wI (wI s 69 0 (s.1 4 0)) 69 1 ((wI s 69 0 (s.1 4 0)).1 4 1)) 69 2 ((wI (wI s 69 0 (s.1 4 0)) 69 1 ((wI s 69 0 (s.1 4 0)).1 4 1)).1 4 2)) 69 3 ((wI (wI (wI s 69 0 (s.1 4 0)) 69 1 ((wI s 69 0 (s.1 4 0)).1 4 1)) 69 2 ((wI (wI s 69 0 (s.1 4 0)) 69 1 ((wI s 69 0 (s.1 4 0)).1 4 1)).1 4 2)).1 4 3)) 69 4 ((wI (wI (wI (wI s 69 0 (s.1 4 0)) 69 1 ((wI s 69 0 (s.1 4 0)).1 4 1)) 69 2 ((wI (wI s 69 0 (s.1 4 0)) 69 1 ((wI s 69 0 (s.1 4 0)).1 4 1)).1 4 2)) 69 3 ((wI (wI (wI s 69 0 (s.1 4 0)) 69 1 ((wI s 69 0 (s.1 4 0)).1 4 1)) 69 2 ((wI (wI s 69 0 (s.1 4 0)) 69 1 ((wI s 69 0 (s.1 4 0)).1 4 1)).1 4 2)).1 4 3)).1 4 4)).1 4 5)).1 4 6 = 0 ∨ (wI (wI (wI (wI (wI (wI s 69 0 (s.1 4 0)) 69 1 ((wI s 69 0 (s.1 4 0)).1 4 1)) 69 2 ((wI (wI s 69 0 (s.1 4 0)) 69 1 ((wI s 69 0 (s.1 4 0)).1 4 1)).1 4 2)) 69 3 ((wI (wI (wI s 69 0 (s.1 4 0)) 69 1 ((wI s 69 0 (s.1 4 0)).1 4 1)) 69 2 ((wI (wI s 69 0 (s.1 4 0)) 69 1 ((wI s 69 0 (s.1 4 0)).1 4 1)).1 4 2)).1 4 3)) 69 4 ((wI (wI (wI (wI s 69 0 (s.1 4 0)) 69 1 ((wI s 69 0 (s.1 4 0)).1 4 1)) 69 2 ((wI (wI s 69 0 (s.1 4 0)) 69 1 ((wI s 69 0 (s.1 4 0)).1 4 1)).1 4 2)) 69 3 ((wI (wI (wI s 69 0 (s.1 4 0)) 69 1 ((wI s 69 0 (s.1 4 0)).1 4 1)) 69 2 ((wI (wI s 69 0 (s.1 4 0)) 69 1 ((wI s 69 0 (s.1 4 0)).1 4 1)).1 4 2)).1 4 3)).1 4 4)) 69 5 ((wI (wI (wI (wI (wI s 69 0 (s.1 4 0)) 69 1 ((wI s 69 0 (s.1 4 0)).1 4 1)) 69 2 ((wI (wI s 69 0 (s.1 4 0)) 69 1 ((wI s 69 0 (s.1 4 0)).1 4 1)).1 4 2)) 69 3 ((wI (wI (wI s 69 0 (s.1 4 0)) 69 1 ((wI s 69 0 (s.1 4 0)).1 4 1)) 69 2 ((wI (wI s 69 0 (s.1 4 0)) 69 1 ((wI s 69 0 (s.1 4 0)).1 4 1)).1 4 2)).1 4 3)) 69 4 ((wI (wI (wI (wI s 69 0 (s.1 4 0)) 69 1 ((wI s 69 0 (s.1 4 0)).1 4 1)) 69 2 ((wI (wI s 69 0 (s.1 4 0)) 69 1 ((wI s 69 0 (s.1 4 0)).1 4 1)).1 4 2)) 69 3 ((wI (wI (wI s 69 0 (s.1 4 0)) 69 1 ((wI s 69 0 (s.1 4 0)).1 4 1)) 69 2 ((wI (wI s 69 0 (s.1 4 0)) 69 1 ((wI s 69 0 (s.1 4 0)).1 4 1)).1 4 2)).1 4 3)).1 4 4)).1 4 5)).1 4 6 = 1 then some (0, cpyI (cpyI (cpyI (cpyI (cpyI (cpyI (cpyJ (cpyI (cpyJ (cpyI (cpyI (cpyJ (wI (wI (wI (wI (wI (wI (wI s 69 0 (s.1 4 0)) 69 1 ((wI s 69 0 (s.1 4 0)).1 4 1)) 69 2 ((wI (wI s 69 0 (s.1 4 0)) 69 1 ((wI s 69 0 (s.1 4 0)).1 4 1)).1 4 2)) 69 3 ((wI (wI (wI s 69 0 (s.1 4 0)) 69 1 ((wI s 69 0 (s.1 4 0)).1 4 1)) 69 2 ((wI (wI s 69 0 (s.1 4 0)) 69 1 ((wI s 69 0 (s.1 4 0)).1 4 1)).1 4 2)).1 4 3)) 69 4 ((wI (wI (wI (wI s 69 0 (s.1 4 0)) 69 1 ((wI s 69 0 (s.1 4 0)).1 4 1)) 69 2 ((wI (wI s 69 0 (s.1 4 0)) 69 1 ((wI s 69 0 (s.1 4 0)).1 4 1)).1 4 2)) 69 3 ((wI (wI (wI s 69 0 (s.1 4 0)) 69 1 ((wI s 69 0 (s.1 4 0)).1 4 1)) 69 2 ((wI (wI s 69 0 (s.1 4 0)) 69 1 ((wI s 69 0 (s.1 4 0)).1 4 1)).1 4 2)).1 4 3)).1 4 4)) 69 5 ((wI (wI (wI (wI (wI s 69 0 (s.1 4 0)) 69 1 ((wI s 69 0 (s.1 4 0)).1 4 1)) 69 2 ((wI (wI s 69 0 (s.1 4 0)) 69 1 ((wI s 69 0 (s.1 4 0)).1 4 1)).1 4 2)) 69 3 ((wI (wI (wI s 69 0 (s.1 4 0)) 69 1 ((wI s 69 0 (s.1 4 0)).1 4 1)) 69 2 ((wI (wI s 69 0 (s.1 4 0)) 69 1 ((wI s 69 0 (s.1 4 0)).1 4 1)).1 4 2)).1 4 3)) 69 4 ((wI (wI (wI (wI s 69 0 (s.1 4 0)) 69 1 ((wI s 69 0 (s.1 4 0)).1 4 1)) 69 2 ((wI (wI s 69 0 (s.1 4 0)) 69 1 ((wI s 69 0 (s.1 4 0)).1 4 1)).1 4 2)) 69 3 ((wI (wI (wI s 69 0 (s.1 4 0)) 69 1 ((wI s 69 0 (s.1 4 0)).1 4 1)) 69 2 ((wI (wI s 69 0 (s.1 4 0)) 69 1 ((wI s 69 0 (s.1 4 0)).1 4 1)).1 4 2)).1 4 3)).1 4 4)).1 4 5)) 69 6 ((wI (wI (wI (wI (wI (wI s 69 0 (s.1 4 0)) 69 1 ((wI s 69 0 (s.1 4 0)).1 4 1)) 69 2 ((wI (wI s 69 0 (s.1 4 0)) 69 1 ((wI s 69 0 (s.1 4 0)).1 4 1)).1 4 2)) 69 3 ((wI (wI (wI s 69 0 (s.1 4 0)) 69 1 ((wI s 69 0 (s.1 4 0)).1 4 1)) 69 2 ((wI (wI s 69 0 (s.1 4 0)) 69 1 ((wI s 69 0 (s.1 4 0)).1 4 1)).1 4 2)).1 4 3)) 69 4 ((wI (wI (wI (wI s 69 0 (s.1 4 0)) 69 1 ((wI s 69 0 (s.1 4 0)).1 4 1)) 69 2 ((wI (wI s 69 0 (s.1 4 0)) 69 1 ((wI s 69 0 (s.1 4 0)).1 4 1)).1 4 2)) 69 3 ((wI (wI (wI s 69 0 (s.1 4 0)) 69 1 ((wI s 69 0 (s.1 4 0)).1 4 1)) 69 2 ((wI (wI s 69 0 (s.1 4 0)) 69 1 ((wI s 69 0 (s.1 4 0)).1 4 1)).1 4 2)).1 4 3)).1 4 4)) 69 5 ((wI (wI (wI (wI (wI s 69 0 (s.1 4 0)) 69 1 ((wI s 69 0 (s.1 4 0)).1 4 1)) 69 2 ((wI (wI s 69 0 (s.1 4 0)) 69 1 ((wI s 69 0 (s.1 4 0)).1 4 1)).1 4 2)) 69 3 ((wI (wI (wI s 69 0 (s.1 4 0)) 69 1 ((wI s 69 0 (s.1 4 0)).1 4 1)) 69 2 ((wI (wI s 69 0 (s.1 4 0)) 69 1 ((wI s 69 0 (s.1 4 0)).1 4 1)).1 4 2)).1 4 3)) 69 4 ((wI (wI (wI (wI s 69 0 (s.1 4 0)) 69 1 ((wI s 69 0 (s.1 4 0)).1 4 1)) 69 2 ((wI (wI s 69 0 (s.1 4 0)) 69 1 ((wI s 69 0 (s.1 4 0)).1 4 1)).1 4 2)) 69 3 ((wI (wI (wI s 69 0 (s.1 4 0)) 69 1 ((wI s 69 0 (s.1 4 0)).1 4 1)) 69 2 ((wI (wI s 69 0 (s.1 4 0)) 69 1 ((wI s 69 0 (s.1 4 0)).1 4 1)).1 4 2)).1 4 3)).1 4 4)).1 4 5)).1 4 6)) 5 0 70 0 9) 6 0 71 0 9) 7 0 72 0 9) 8 0 73 0 5) 9 0 74 0 5) 10 0 75 0 12) 11 0 76 0 12) 12 0 77 0 12) 13 0 78 0 12) 14 0 79 0 12) 15 0 80 0 4) 16 0 81 0 4) else none) := rfl
set_option maxRecDepth 100000 in
set_option maxHeartbeats 1000000 in
theorem f_Vs_copyOf_4_37_eq (m : Nat) (s : mS) : f_Vs_copyOf_4_37 m s = (if (wI (wI (wI (wI (wI (wI s 4 0 (s.1 37 0)) 4 1 ((wI s 4 0 (s.1 37 0)).1 37 1)) 4 2 ((wI (wI s 4 0 (s.1 37 0)) 4 1 ((wI s 4 0 (s.1 37 0)).1 37 1)).1 37 2)) 4 3 ((wI (wI (wI s 4 0 (s.1 37 0)) 4 1 ((wI s 4 0 (s.1 37 0)).1 37 1)) 4 2 ((wI (wI s 4 0 (s.1 37 0)) 4 1 ((wI s 4 0 (s.1 37 0)).1 37 1)).1 37 2)).1 37 3)) 4 4 ((wI (wI (wI (wI s 4 0 (s.1 37 0)) 4 1 ((wI s 4 0 (s.1 37 0)).1 37 1)) 4 2 ((wI (wI s 4 0 (s.1 37 0)) 4 1 ((wI s 4 0 (s.1 37 0)).1 37 1)).1 37 2)) 4 3 ((wI (wI (wI s 4 0 (s.1 37 0)) 4 1 ((wI s 4 0 (s.1 37 0)).1 37 1)) 4 2 ((wI (wI s 4 0 (s.1 37 0)) 4 1 ((wI s 4 0 (s.1 37 0)).1 37 1)).1 37 2)).1 37 3)).1 37 4)) 4 5 ((wI (wI (wI (wI (wI s 4 0 (s.1 37 0)) 4 1 ((wI s 4 0 (s.1 37 0)).1 37 1)) 4 2 ((wI (wI s 4 0 (s.1 37 0)) 4 1 ((wI s 4 0 (s.1 37 0)).1 37 1)).1 37 2)) 4 3 ((wI (wI (wI s 4 0 (s.1 37 0)) 4 1 ((wI s 4 0 (s.1 37 0)).1 37 1)) 4 2 ((wI (wI s 4 0 (s.1 37 0)) 4 1 ((wI s 4 0 (s.1 37 0)).1 37 1)).1 37 2)).1 37 3)) 4 4 ((wI (wI (wI (wI s 4 0 (s.1 37 0)) 4 1 ((wI s 4 0 (s.1 37 0)).1 37 1)) 4 2 ((wI (wI s 4 0 (s.1 37 0)) 4 1 ((wI s 4 0 (s.1 37 0)).1 37 1)).1 37 2)) 4 3 ((wI (wI (wI s 4 0 (s.1 37 0)) 4 1 ((wI s 4 0 (s.1 37 0)).1 37 1)) 4 2 ((wI (wI s 4 0 (s.1 37 0)) 4 1 ((wI s 4 0 (s.1 37 0)).1 37 1)).1 37 2)).1 37 3)).1 37 4)).1 37 5)).1 37 6 = 0 ∨ (wI (wI (wI (wI (wI (wI s 4 0 (s.1 37 0)) 4 1 ((wI s 4 0 (s.1 37 0)).1 37 1)) 4 2 ((wI (wI s 4 0 (s.1 37 0)) 4 1 ((wI s 4 0 (s.1 37 0)).1 37 1)).1 37 2)) 4 3 ((wI (wI (wI s 4 0 (s.1 37 0)) 4 1 ((wI s 4 0 (s.1 37 0)).1 37 1)) 4 2 ((wI (wI s 4 0 (s.1 37 0)) 4 1 ((wI s 4 0 (s.1 37 0)).1 37 1)).1 37 2)).1 37 3)) 4 4 ((wI (wI (wI (wI s 4 0 (s.1 37 0)) 4 1 ((wI s 4 0 (s.1 37 0)).1 37 1)) 4 2 ((wI (wI s 4 0 (s.1 37 0)) 4 1 ((wI s 4 0 (s.1 37 0)).1 37 1)).1 37 2)) 4 3 ((wI (wI (wI s 4 0 (s.1 37 0)) 4 1 ((wI s 4 0 (s.1 37 0)).1 37 1)) 4 2 ((wI (wI s 4 0 (s.1 37 0)) 4 1 ((wI s 4 0 (s.1 37 0)).1 37 1)).1 37 2)).1 37 3)).1 37 4)) 4 5 ((wI (wI (wI (wI (wI s 4 0 (s.1 37 0)) 4 1 ((wI s 4 0 (s.1 37 0)).1 37 1)) 4 2 ((wI (wI s 4 0 (s.1 37 0)) 4 1 ((wI s 4 0 (s.1 37 0)).1 37 1)).1 37 2)) 4 3 ((wI (wI (wI s 4 0 (s.1 37 0)) 4 1 ((wI s 4 0 (s.1 37 0)).1 37 1)) 4 2 ((wI (wI s 4 0 (s.1 37 0)) 4 1 ((wI s 4 0 (s.1 37 0)).1 37 1)).1 37 2)).1 37 3)) 4 4 ((wI (wI (wI (wI s 4 0 (s.1 37 0)) 4 1 ((wI s 4 0 (s.1 37 0)).1 37 1)) 4 2 ((wI (wI s 4 0 (s.1 37 0)) 4 1 ((wI s 4 0 (s.1 37 0)).1 37 1)).1 37 2)) 4 3 ((wI (wI (wI s 4 0 (s.1 37 0)) 4 1 ((wI s 4 0 (s.1 37 0)).1 37 1)) 4 2 ((wI (wI s 4 0 (s.1 37 0)) 4 1 ((wI s 4 0 (s.1 37 0)).1 37 1)).1 37 2)).1 37 3)).1 37 4)).1 37 5)).1 37 6 = 1 then some (0, cpyI (cpyI (cpyI (cpyI (cpyI (cpyI (cpyJ (cpyI (cpyJ (cpyI (cpyI (cpyJ (wI (wI (wI (wI (wI (wI (wI s 4 0 (s.1 37 0)) 4 1 ((wI s 4 0 (s.1 37 0)).1 37 1)) 4 2 ((wI (wI s 4 0 (s.1 37 0)) 4 1 ((wI s 4 0 (s.1 37 0)).1 37 1)).1 37 2)) 4 3 ((wI (wI (wI s 4 0 (s.1 37 0)) 4 1 ((wI s 4 0 (s.1 37 0)).1 37 1)) 4 2 ((wI (wI s 4 0 (s.1 37 0)) 4 1 ((wI s 4 0 (s.1 37 0)).1 37 1)).1 37 2)).1 37 3)) 4 4 ((wI (wI (wI (wI s 4 0 (s.1 37 0)) 4 1 ((wI s 4 0 (s.1 37 0)).1 37 1)) 4 2 ((wI (wI s 4 0 (s.1 37 0)) 4 1 ((wI s 4 0 (s.1 37 0)).1 37 1)).1 37 2)) 4 3 ((wI (wI (wI s 4 0 (s.1 37 0)) 4 1 ((wI s 4 0 (s.1 37 0)).1 37 1)) 4 2 ((wI (wI s 4 0 (s.1 37 0)) 4 1 ((wI s 4 0 (s.1 37 0)).1 37 1)).1 37 2)).1 37 3)).1 37 4)) 4 5 ((wI (wI (wI (wI (wI s 4 0 (s.1 37 0)) 4 1 ((wI s 4 0 (s.1 37 0)).1 37 1)) 4 2 ((wI (wI s 4 0 (s.1 37 0)) 4 1 ((wI s 4 0 (s.1 37 0)).1 37 1)).1 37 2)) 4 3 ((wI (wI (wI s 4 0 (s.1 37 0)) 4 1 ((wI s 4 0 (s.1 37 0)).1 37 1)) 4 2 ((wI (wI s 4 0 (s.1 37 0)) 4 1 ((wI s 4 0 (s.1 37 0)).1 37 1)).1 37 2)).1 37 3)) 4 4 ((wI (wI (wI (wI s 4 0 (s.1 37 0)) 4 1 ((wI s 4 0 (s.1 37 0)).1 37 1)) 4 2 ((wI (wI s 4 0 (s.1 37 0)) 4 1 ((wI s 4 0 (s.1 37 0)).1 37 1)).1 37 2)) 4 3 ((wI (wI (wI s 4 0 (s.1 37 0)) 4 1 ((wI s 4 0 (s.1 37 0)).1 37 1)) 4 2 ((wI (wI s 4 0 (s.1 37 0)) 4 1 ((wI s 4 0 (s.1 37 0)).1 37 1)).1 37 2)).1 37 3)).1 37 4)).1 37 5)) 4 6 ((wI (wI (wI (wI (wI (wI s 4 0 (s.1 37 0)) 4 1 ((wI s 4 0 (s.1 37 0)).1 37 1)) 4 2 ((wI (wI s 4 0 (s.1 37 0)) 4 1 ((wI s 4 0 (s.1 37 0)).1 37 1)).1 37 2)) 4 3 ((wI (wI (wI s 4 0 (s.1 37 0)) 4 1 ((wI s 4 0 (s.1 37 0)).1 37 1)) 4 2 ((wI (wI s 4 0 (s.1 37 0)) 4 1 ((wI s 4 0 (s.1 37 0)).1 37 1)).1 37 2)).1 37 3)) 4 4 ((wI (wI (wI (wI s 4 0 (s.1 37 0)) 4 1 ((wI s 4 0 (s.1 37 0)).1 37 1)) 4 2 ((wI (wI s 4 0 (s.1 37 0)) 4 1 ((wI s 4 0 (s.1 37 0)).1 37 1)).1 37 2)) 4 3 ((wI (wI (wI s 4 0 (s.1 37 0)) 4 1 ((wI s 4 0 (s.1 37 0)).1 37 1)) 4 2 ((wI (wI s 4 0 (s.1 37 0)) 4 1 ((wI s 4 0 (s.1 37 0)).1 37 1)).1 37 2)).1 37 3)).1 37 4)) 4 5 ((wI (wI (wI (wI (wI s 4 0 (s.1 37 0)) 4 1 ((wI s 4 0 (s.1 37 0)).1 37 1)) 4 2 ((wI (wI s 4 0 (s.1 37 0)) 4 1 ((wI s 4 0 (s.1 37 0)).1 37 1)).1 37 2)) 4 3 ((wI (wI (wI s 4 0 (s.1 37 0)) 4 1 ((wI s 4 0 (s.1 37 0)).1 37 1)) 4 2 ((wI (wI s 4 0 (s.1 37 0)) 4 1 ((wI s 4 0 (s.1 37 0)).1 37 1)).1 37 2)).1 37 3)) 4 4 ((wI (wI (wI (wI s 4 0 (s.1 37 0)) 4 1 ((wI s 4 0 (s.1 37 0)).1 37 1)) 4 2 ((wI (wI s 4 0 (s.1 37 0)) 4 1 ((wI s 4 0 (s.1 37 0)).1 37 1)).1 37 2)) 4 3 ((wI (wI (wI s 4 0 (s.1 37 0)) 4 1 ((wI s 4 0 (s.1 37 0)).1 37 1)) 4 2 ((wI (wI s 4 0 (s.1 37 0)) 4 1 ((wI s 4 0 (s.1 37 0)).1 37 1)).1 37 2)).1 37 3)).1 37 4)).1 37 5)).1 37 6)) 38 0 5 0 9) 39 0 6 0 9) 40 0 7 0 9) 41 0 8 0 5) 42 0 9 0 5) 43 0 10 0 12) 44 0 11 0 12) 45 0 12 0 12) 46 0 13 0 12) 47 0 14 0 12) 48 0 15 0 4) 49 0 16 0 4) else none) := rfl
set_option maxRecDepth 100000 in
set_option maxHeartbeats 1000000 in
theorem f_Vs_copyOf_4_69_eq (m : Nat) (s : mS) : f_Vs_copyOf_4_69 m s = (if (wI (wI (wI (wI (wI (wI s 4 0 (s.1 69 0)) 4 1 ((wI s 4 0 (s.1 69 0)).1 69 1)) 4 2 ((wI (wI s 4 0 (s.1 69 0)) 4 1 ((wI s 4 0 (s.1 69 0)).1 69 1)).1 69 2)) 4 3 ((wI (wI (wI s 4 0 (s.1 69 0)) 4 1 ((wI s 4 0 (s.1 69 0)).1 69 1)) 4 2 ((wI (wI s 4 0 (s.1 69 0)) 4 1 ((wI s 4 0 (s.1 69 0)).1 69 1)).1 69 2)).1 69 3)) 4 4 ((wI (wI (wI (wI s 4 0 (s.1 69 0)) 4 1 ((wI s 4 0 (s.1 69 0)).1 69 1)) 4 2 ((wI (wI s 4 0 (s.1 69 0)) 4 1 ((wI s 4 0 (s.1 69 0)).1 69 1)).1 69 2)) 4 3 ((wI (wI (wI s 4 0 (s.1 69 0)) 4 1 ((wI s 4 0 (s.1 69 0)).1 69 1)) 4 2 ((wI (wI s 4 0 (s.1 69 0)) 4 1 ((wI s 4 0 (s.1 69 0)).1 69 1)).1 69 2)).1 69 3)).1 69 4)) 4 5 ((wI (wI (wI (wI (wI s 4 0 (s.1 69 0)) 4 1 ((wI s 4 0 (s.1 69 0)).1 69 1)) 4 2 ((wI (wI s 4 0 (s.1 69 0)) 4 1 ((wI s 4 0 (s.1 69 0)).1 69 1)).1 69 2)) 4 3 ((wI (wI (wI s 4 0 (s.1 69 0)) 4 1 ((wI s 4 0 (s.1 69 0)).1 69 1)) 4 2 ((wI (wI s 4 0 (s.1 69 0)) 4 1 ((wI s 4 0 (s.1 69 0)).1 69 1)).1 69 2)).1 69 3)) 4 4 ((wI (wI (wI (wI s 4 0 (s.1 69 0)) 4 1 ((wI s 4 0 (s.1 69 0)).1 69 1)) 4 2 ((wI (wI s 4 0 (s.1 69 0)) 4 1 ((wI s 4 0 (s.1 69 0)).1 69 1)).1 69 2)) 4 3 ((wI (wI (wI s 4 0 (s.1 69 0)) 4 1 ((wI s 4 0 (s.1 69 0)).1 69 1)) 4 2 ((wI (wI s 4 0 (s.1 69 0)) 4 1 ((wI s 4 0 (s.1 69 0)).1 69 1)).1 69 2)).1 69 3)).1 69 4)).1 69 5)).1 69 6 = 0 ∨ (wI (wI (wI (wI (wI (wI s 4 0 (s.1 69 0)) 4 1 ((wI s 4 0 (s.1 69 0)).1 69 1)) 4 2 ((wI (wI s 4 0 (s.1 69 0)) 4 1 ((wI s 4 0 (s.1 69 0)).1 69 1)).1 69 2)) 4 3 ((wI (wI (wI s 4 0 (s.1 69 0)) 4 1 ((wI s 4 0 (s.1 69 0)).1 69 1)) 4 2 ((wI (wI s 4 0 (s.1 69 0)) 4 1 ((wI s 4 0 (s.1 69 0)).1 69 1)).1 69 2)).1 69 3)) 4 4 ((wI (wI (wI (wI s 4 0 (s.1 69 0)) 4 1 ((wI s 4 0 (s.1 69 0)).1 69 1)) 4 2 ((wI (wI s 4 0 (s.1 69 0)) 4 1 ((wI s 4 0 (s.1 69 0)).1 69 1)).1 69 2)) 4 3 ((wI (wI (wI s 4 0 (s.1 69 0)) 4 1 ((wI s 4 0 (s.1 69 0)).1 69 1)) 4 2 ((wI (wI s 4 0 (s.1 69 0)) 4 1 ((wI s 4 0 (s.1 69 0)).1 69 1)).1 69 2)).1 69 3)).1 69 4)) 4 5 ((wI (wI (wI (wI (wI s 4 0 (s.1 69 0)) 4 1 ((wI s 4 0 (s.1 69 0)).1 69 1)) 4 2 ((wI (wI s 4 0 (s.1 69 0)) 4 1 ((wI s 4 0 (s.1 69 0)).1 69 1)).1 69 2)) 4 3 ((wI (wI (wI s 4 0 (s.1 69 0)) 4 1 ((wI s 4 0 (s.1 69 0)).1 69 1)) 4 2 ((wI (wI s 4 0 (s.1 69 0)) 4 1 ((wI s 4 0 (s.1 69 0)).1 69 1)).1 69 2)).1 69 3)) 4 4 ((wI (wI (wI (wI s 4 0 (s.1 69 0)) 4 1 ((wI s 4 0 (s.1 69 0)).1 69 1)) 4 2 ((wI (wI s 4 0 (s.1 69 0)) 4 1 ((wI s 4 0 (s.1 69 0)).1 69 1)).1 69 2)) 4 3 ((wI (wI (wI s 4 0 (s.1 69 0)) 4 1 ((wI s 4 0 (s.1 69 0)).1 69 1)) 4 2 ((wI (wI s 4 0 (s.1 69 0)) 4 1 ((wI s 4 0 (s.1 69 0)).1 69 1)).1 69 2)).1 69 3)).1 69 4)).1 69 5)).1 69 6 = 1 then some (0, cpyI (cpyI (cpyI (cpyI (cpyI (cpyI (cpyJ (cpyI (cpyJ (cpyI (cpyI (cpyJ (wI (wI (wI (wI (wI (wI (wI s 4 0 (s.1 69 0)) 4 1 ((wI s 4 0 (s.1 69 0)).1 69 1)) 4 2 ((wI (wI s 4 0 (s.1 69 0)) 4 1 ((wI s 4 0 (s.1 69 0)).1 69 1)).1 69 2)) 4 3 ((wI (wI (wI s 4 0 (s.1 69 0)) 4 1 ((wI s 4 0 (s.1 69 0)).1 69 1)) 4 2 ((wI (wI s 4 0 (s.1 69 0)) 4 1 ((wI s 4 0 (s.1 69 0)).1 69 1)).1 69 2)).1 69 3)) 4 4 ((wI (wI (wI (wI s 4 0 (s.1 69 0)) 4 1 ((wI s 4 0 (s.1 69 0)).1 69 1)) 4 2 ((wI (wI s 4 0 (s.1 69 0)) 4 1 ((wI s 4 0 (s.1 69 0)).1 69 1)).1 69 2)) 4 3 ((wI (wI (wI s 4 0 (s.1 69 0)) 4 1 ((wI s 4 0 (s.1 69 0)).1 69 1)) 4 2 ((wI (wI s 4 0 (s.1 69 0)) 4 1 ((wI s 4 0 (s.1 69 0)).1 69 1)).1 69 2)).1 69 3)).1 69 4)) 4 5 ((wI (wI (wI (wI (wI s 4 0 (s.1 69 0)) 4 1 ((wI s 4 0 (s.1 69 0)).1 69 1)) 4 2 ((wI (wI s 4 0 (s.1 69 0)) 4 1 ((wI s 4 0 (s.1 69 0)).1 69 1)).1 69 2)) 4 3 ((wI (wI (wI s 4 0 (s.1 69 0)) 4 1 ((wI s 4 0 (s.1 69 0)).1 69 1)) 4 2 ((wI (wI s 4 0 (s.1 69 0)) 4 1 ((wI s 4 0 (s.1 69 0)).1 69 1)).1 69 2)).1 69 3)) 4 4 ((wI (wI (wI (wI s 4 0 (s.1 69 0)) 4 1 ((wI s 4 0 (s.1 69 0)).1 69 1)) 4 2 ((wI (wI s 4 0 (s.1 69 0)) 4 1 ((wI s 4 0 (s.1 69 0)).1 69 1)).1 69 2)) 4 3 ((wI (wI (wI s 4 0 (s.1 69 0)) 4 1 ((wI s 4 0 (s.1 69 0)).1 69 1)) 4 2 ((wI (wI s 4 0 (s.1 69 0)) 4 1 ((wI s 4 0 (s.1 69 0)).1 69 1)).1 69 2)).1 69 3)).1 69 4)).1 69 5)) 4 6 ((wI (wI (wI (wI (wI (wI s 4 0 (s.1 69 0)) 4 1 ((wI s 4 0 (s.1 69 0)).1 69 1)) 4 2 ((wI (wI s 4 0 (s.1 69 0)) 4 1 ((wI s 4 0 (s.1 69 0)).1 69 1)).1 69 2)) 4 3 ((wI (wI (wI s 4 0 (s.1 69 0)) 4 1 ((wI s 4 0 (s.1 69 0)).1 69 1)) 4 2 ((wI (wI s 4 0 (s.1 69 0)) 4 1 ((wI s 4 0 (s.1 69 0)).1 69 1)).1 69 2)).1 69 3)) 4 4 ((wI (wI (wI (wI s 4 0 (s.1 69 0)) 4 1 ((wI s 4 0 (s.1 69 0)).1 69 1)) 4 2 ((wI (wI s 4 0 (s.1 69 0)) 4 1 ((wI s 4 0 (s.1 69 0)).1 69 1)).1 69 2)) 4 3 ((wI (wI (wI s 4 0 (s.1 69 0)) 4 1 ((wI s 4 0 (s.1 69 0)).1 69 1)) 4 2 ((wI (wI s 4 0 (s.1 69 0)) 4 1 ((wI s 4 0 (s.1 69 0)).1 69 1)).1 69 2)).1 69 3)).1 69 4)) 4 5 ((wI (wI (wI (wI (wI s 4 0 (s.1 69 0)) 4 1 ((wI s 4 0 (s.1 69 0)).1 69 1)) 4 2 ((wI (wI s 4 0 (s.1 69 0)) 4 1 ((wI s 4 0 (s.1 69 0)).1 69 1)).1 69 2)) 4 3 ((wI (wI (wI s 4 0 (s.1 69 0)) 4 1 ((wI s 4 0 (s.1 69 0)).1 69 1)) 4 2 ((wI (wI s 4 0 (s.1 69 0)) 4 1 ((wI s 4 0 (s.1 69 0)).1 69 1)).1 69 2)).1 69 3)) 4 4 ((wI (wI (wI (wI s 4 0 (s.1 69 0)) 4 1 ((wI s 4 0 (s.1 69 0)).1 69 1)) 4 2 ((wI (wI s 4 0 (s.1 69 0)) 4 1 ((wI s 4 0 (s.1 69 0)).1 69 1)).1 69 2)) 4 3 ((wI (wI (wI s 4 0 (s.1 69 0)) 4 1 ((wI s 4 0 (s.1 69 0)).1 69 1)) 4 2 ((wI (wI s 4 0 (s.1 69 0)) 4 1 ((wI s 4 0 (s.1 69 0)).1 69 1)).1 69 2)).1 69 3)).1 69 4)).1 69 5)).1 69 6)) 70 0 5 0 9) 71 0 6 0 9) 72 0 7 0 9) 73 0 8 0 5) 74 0 9 0 5) 75 0 10 0 12) 76 0 11 0 12) 77 0 12 0 12) 78 0 13 0 12) 79 0 14 0 12) 80 0 15 0 4) 81 0 16 0 4) else none) := rfl
set_option maxRecDepth 100000 in
set_option maxHeartbeats 1000000 in
theorem f_St_arrive_17_4_eq (m : Nat) (s : mS) : f_St_arrive_17_4 m s = (l_St_arrive_17_4_L2 m m 0 s) := rfl
set_option maxRecDepth 100000 in
set_option maxHeartbeats 1000000 in
theorem l_St_arrive_17_4_L2_eq (m : Nat) (n : Nat) (x2 : Int) (s : mS) : l_St_arrive_17_4_L2 m (n + 1) x2 s = (if x2 < s.1 4 2 then (inR x2 12 (if s.1 25 x2.toNat = 0 then (inR x2 12 (if s.1 17 0 < s.1 12 x2.toNat then (l_St_arrive_17_4_L2 m n (w32 (x2 + 1)) s) else (inR x2 12 (l_St_arrive_17_4_L2 m n (w32 (x2 + 1)) (wI s 25 x2.toNat 1))))) else (l_St_arrive_17_4_L2 m n (w32 (x2 + 1)) s))) else some (0, s)) := rfl
set_option maxRecDepth 100000 in
set_option maxHeartbeats 1000000 in
theorem f_St_arrive_206_4_eq (m : Nat) (s : mS) : f_St_arrive_206_4 m s = (l_St_arrive_206_4_L2 m m 0 s) := rfl
set_option maxRecDepth 100000 in
set_option maxHeartbeats 1000000 in
theorem l_St_arrive_206_4_L2_eq (m : Nat) (n : Nat) (x2 : Int) (s : mS) : l_St_arrive_206_4_L2 m (n + 1) x2 s = (if x2 < s.1 4 2 then (inR x2 12 (if s.1 214 x2.toNat = 0 then (inR x2 12 (if s.1 206 0 < s.1 12 x2.toNat then (l_St_arrive_206_4_L2 m n (w32 (x2 + 1)) s) else (inR x2 12 (l_St_arrive_206_4_L2 m n (w32 (x2 + 1)) (wI s 214 x2.toNat 1))))) else (l_St_arrive_206_4_L2 m n (w32 (x2 + 1)) s))) else some (0, s)) := rfl
set_option maxRecDepth 100000 in
set_option maxHeartbeats 1000000 in
theorem f_St_begin_eq (m : Nat) (s : mS) : f_St_begin m s = ((f_Ja_fill_18 m 0 (wI s 17 0 0)).bind fun p0 => ((f_Ja_fill_19 m (-1) p0.2).bind fun p1 => ((f_Ja_fill_20 m 0 p1.2).bind fun p2 => ((f_Ja_fill_21 m (-1) p2.2).bind fun p3 => ((f_Ja_fill_22 m (-1) p3.2).bind fun p4 => ((f_Ja_fill_23 m 0 p4.2).bind fun p5 => ((f_Ja_fill_24 m 0 p5.2).bind fun p6 => ((f_Ja_fill_25 m 0 p6.2).bind fun p7 => ((f_Ja_fill_26 m (-1) p7.2).bind fun p8 => ((f_Ja_fill_27 m (-1) p8.2).bind fun p9 => ((f_Ja_fill_28 m 0 p9.2).bind fun p10 => ((f_Ja_fill_29 m 0 p10.2).bind fun p11 => ((f_St_arrive_17_4 m p11.2).bind fun p12 => some (0, p12.2)))))))))))))) := rfl
set_option maxRecDepth 100000 in
set_option maxHeartbeats 1000000 in
theorem f_Sn_wipe_30_eq (m : Nat) (s : mS) : f_Sn_wipe_30 m s = some (0, wI (wI s 30 0 0) 30 1 0) := rfl
set_option maxRecDepth 100000 in
set_option maxHeartbeats 1000000 in
theorem f_Sn_wipe_232_eq (m : Nat) (s : mS) : f_Sn_wipe_232 m s = some (0, wI (wI s 232 0 0) 232 1 0) := rfl
set_option maxRecDepth 100000 in
set_option maxHeartbeats 1000000 in
theorem f_Ps_forget_eq (m : Nat) (s : mS) : f_Ps_forget m s = some (0, wI (wI s 100 1 0) 100 2 0) := rfl
set_option maxRecDepth 100000 in
set_option maxHeartbeats 1000000 in
theorem f_X_vestry_eq (m : Nat) (s : mS) : f_X_vestry m s = ((f_Tp_open m 900 s).bind fun p0 => ((f_Vs_readFrom m p0.2).bind fun p1 => (if (wI p1.2 0 13 (p1.2.1 1 6)).1 0 13 = 0 then ((f_Vs_copyOf_4_219 m (wI p1.2 0 13 (p1.2.1 1 6))).bind fun p2 => ((f_St_begin m p2.2).bind fun p3 => ((f_Sn_wipe_30 m p3.2).bind fun p4 => ((f_Ps_forget m p4.2).bind fun p5 => some (p1.1, p5.2))))) else some (w32 ((-1) - ((wI p1.2 0 13 (p1.2.1 1 6)).1 1 7)), wI p1.2 0 13 (p1.2.1 1 6))))) := rfl
set_option maxRecDepth 100000 in
set_option maxHeartbeats 1000000 in
theorem f_X_fault_eq (m : Nat) (s : mS) : f_X_fault m s = some (s.1 0 13, s) := rfl
set_option maxRecDepth 100000 in
set_option maxHeartbeats 1000000 in
theorem f_X_isBox_eq (m : Nat) (a1 : Int) (s : mS) : f_X_isBox m a1 s = (if a1 < 0 then some (0, s) else (if a1 < s.1 4 0 then some (1, s) else some (0, s))) := rfl
set_option maxRecDepth 100000 in
set_option maxHeartbeats 1000000 in
theorem f_Jm_max_eq (m : Nat) (a0 : Int) (a1 : Int) (s : mS) : f_Jm_max m a0 a1 s = (if a0 < a1 then some (a1, s) else some (a0, s)) := rfl
set_option maxRecDepth 100000 in
set_option maxHeartbeats 1000000 in
theorem f_St_daysTill_eq (m : Nat) (a1 : Int) (s : mS) : f_St_daysTill m a1 s = ((f_Jm_max m 0 (w32 (a1 - (s.1 17 0))) s).bind fun p0 => some (p0.1, p0.2)) := rfl
set_option maxRecDepth 100000 in
set_option maxHeartbeats 1000000 in
theorem f_St_boxFree_17_eq (m : Nat) (a1 : Int) (s : mS) : f_St_boxFree_17 m a1 s = (inR a1 9 (if s.1 19 a1.toNat = (-1) then (inR a1 9 (if s.1 17 0 < s.1 20 a1.toNat then some (0, s) else some (1, s))) else some (0, s))) := rfl
set_option maxRecDepth 100000 in
set_option maxHeartbeats 1000000 in
theorem f_St_boxFree_206_eq (m : Nat) (a1 : Int) (s : mS) : f_St_boxFree_206 m a1 s = (inR a1 9 (if s.1 208 a1.toNat = (-1) then (inR a1 9 (if s.1 206 0 < s.1 209 a1.toNat then some (0, s) else some (1, s))) else some (0, s))) := rfl
set_option maxRecDepth 100000 in
set_option maxHeartbeats 1000000 in
theorem f_X_box_eq (m : Nat) (a1 : Int) (a2 : Int) (s : mS) : f_X_box m a1 a2 s = ((f_X_isBox m a1 s).bind fun p0 => (if p0.1 = 0 then some ((-1), p0.2) else (if a2 = 0 then (inR a1 9 some (p0.2.1 6 a1.toNat, p0.2)) else (if a2 = 1 then (inR a1 9 some (p0.2.1 7 a1.toNat, p0.2)) else (if a2 = 2 then (inR a1 9 some (p0.2.1 18 a1.toNat, p0.2)) else (if a2 = 3 then (inR a1 9 some (p0.2.1 19 a1.toNat, p0.2)) else (if a2 = 4 then ((f_St_boxFree_17 m a1 p0.2).bind fun p1 => (if p1.1 = 0 then some (0, p1.2) else some (1, p1.2))) else (if a2 = 5 then (inR a1 9 ((f_St_daysTill m (p0.2.1 20 a1.toNat) p0.2).bind fun p1 => some (p1.1, p1.2))) else some ((-1), p0.2))))))))) := rfl
set_option maxRecDepth 100000 in
set_option maxHeartbeats 1000000 in
theorem f_X_isPlot_eq (m : Nat) (a1 : Int) (s : mS) : f_X_isPlot m a1 s = (if a1 < 0 then some (0, s) else (if a1 < s.1 4 1 then some (1, s) else some (0, s))) := rfl
set_option maxRecDepth 100000 in
set_option maxHeartbeats 1000000 in
theorem f_X_plot_eq (m : Nat) (a1 : Int) (a2 : Int) (s : mS) : f_X_plot m a1 a2 s = ((f_X_isPlot m a1 s).bind fun p0 => (if p0.1 = 0 then some ((-1), p0.2) else (if a2 = 0 then (inR a1 5 some (p0.2.1 9 a1.toNat, p0.2)) else (if a2 = 1 then (inR a1 5 some (p0.2.1 22 a1.toNat, p0.2)) else (if a2 = 2 then (inR a1 5 ((f_St_daysTill m (p0.2.1 23 a1.toNat) p0.2).bind fun p1 => some (p1.1, p1.2))) else (if a2 = 3 then (inR a1 5 some (p0.2.1 24 a1.toNat, p0.2)) else some ((-1), p0.2))))))) := rfl
set_option maxRecDepth 100000 in
set_option maxHeartbeats 1000000 in
theorem f_Vs_frostOn_eq (m : Nat) (a1 : Int) (s : mS) : f_Vs_frostOn m a1 s = (l_Vs_frostOn_L2 m m a1 0 s) := rfl
set_option maxRecDepth 100000 in
set_option maxHeartbeats 1000000 in
theorem l_Vs_frostOn_L2_eq (m : Nat) (n : Nat) (x1 : Int) (x2 : Int) (s : mS) : l_Vs_frostOn_L2 m (n + 1) x1 x2 s = (if x2 < s.1 4 4 then (inR x2 4 (if x1 < s.1 15 x2.toNat then (l_Vs_frostOn_L2 m n x1 (w32 (x2 + 1)) s) else (inR x2 4 (inR x2 4 (if x1 < w32 ((s.1 15 x2.toNat) + (s.1 16 x2.toNat)) then some (1, s) else (l_Vs_frostOn_L2 m n x1 (w32 (x2 + 1)) s)))))) else some (0, s)) := rfl
set_option maxRecDepth 100000 in
set_option maxHeartbeats 1000000 in
theorem f_St_plotFree_17_eq (m : Nat) (a1 : Int) (s : mS) : f_St_plotFree_17 m a1 s = (inR a1 5 (if s.1 17 0 < s.1 23 a1.toNat then some (0, s) else some (1, s))) := rfl
set_option maxRecDepth 100000 in
set_option maxHeartbeats 1000000 in
theorem f_St_plotFree_206_eq (m : Nat) (a1 : Int) (s : mS) : f_St_plotFree_206 m a1 s = (inR a1 5 (if s.1 206 0 < s.1 212 a1.toNat then some (0, s) else some (1, s))) := rfl
set_option maxRecDepth 100000 in
set_option maxHeartbeats 1000000 in
theorem f_St_freePlots_eq (m : Nat) (s : mS) : f_St_freePlots m s = (l_St_freePlots_L4 m m 0 0 s) := rfl
set_option maxRecDepth 100000 in
set_option maxHeartbeats 1000000 in
theorem l_St_freePlots_L4_eq (m : Nat) (n : Nat) (x2 : Int) (x3 : Int) (s : mS) : l_St_freePlots_L4 m (n + 1) x2 x3 s = (if x3 < s.1 4 1 then ((f_St_plotFree_17 m x3 s).bind fun p0 => (if p0.1 = 0 then (l_St_freePlots_L4 m n x2 (w32 (x3 + 1)) p0.2) else (l_St_freePlots_L4 m n (bor x2 (bshl 1 x3)) (w32 (x3 + 1)) p0.2))) else some (x2, s)) := rfl
set_option maxRecDepth 100000 in
set_option maxHeartbeats 1000000 in
theorem f_St_freeBoxes_eq (m : Nat) (s : mS) : f_St_freeBoxes m s = (l_St_freeBoxes_L4 m m 0 0 s) := rfl
set_option maxRecDepth 100000 in
set_option maxHeartbeats 1000000 in
theorem l_St_freeBoxes_L4_eq (m : Nat) (n : Nat) (x2 : Int) (x3 : Int) (s : mS) : l_St_freeBoxes_L4 m (n + 1) x2 x3 s = (if x3 < s.1 4 0 then ((f_St_boxFree_17 m x3 s).bind fun p0 => (if p0.1 = 0 then (l_St_freeBoxes_L4 m n x2 (w32 (x3 + 1)) p0.2) else (l_St_freeBoxes_L4 m n (bor x2 (bshl 1 x3)) (w32 (x3 + 1)) p0.2))) else some (x2, s)) := rfl
set_option maxRecDepth 100000 in
set_option maxHeartbeats 1000000 in
theorem f_St_bitsOf_17_4_eq (m : Nat) (a1 : Int) (s : mS) : f_St_bitsOf_17_4 m a1 s = (l_St_bitsOf_17_4_L5 m m a1 0 0 s) := rfl
set_option maxRecDepth 100000 in
set_option maxHeartbeats 1000000 in
theorem l_St_bitsOf_17_4_L5_eq (m : Nat) (n : Nat) (x1 : Int) (x3 : Int) (x4 : Int) (s : mS) : l_St_bitsOf_17_4_L5 m (n + 1) x1 x3 x4 s = (if x4 < s.1 4 2 then (inR x4 12 (if s.1 25 x4.toNat = x1 then (l_St_bitsOf_17_4_L5 m n x1 (bor x3 (bshl 1 x4)) (w32 (x4 + 1)) s) else (l_St_bitsOf_17_4_L5 m n x1 x3 (w32 (x4 + 1)) s))) else some (x3, s)) := rfl
set_option maxRecDepth 100000 in
set_option maxHeartbeats 1000000 in
theorem f_St_bitsOf_206_4_eq (m : Nat) (a1 : Int) (s : mS) : f_St_bitsOf_206_4 m a1 s = (l_St_bitsOf_206_4_L5 m m a1 0 0 s) := rfl
set_option maxRecDepth 100000 in
set_option maxHeartbeats 1000000 in
theorem l_St_bitsOf_206_4_L5_eq (m : Nat) (n : Nat) (x1 : Int) (x3 : Int) (x4 : Int) (s : mS) : l_St_bitsOf_206_4_L5 m (n + 1) x1 x3 x4 s = (if x4 < s.1 4 2 then (inR x4 12 (if s.1 214 x4.toNat = x1 then (l_St_bitsOf_206_4_L5 m n x1 (bor x3 (bshl 1 x4)) (w32 (x4 + 1)) s) else (l_St_bitsOf_206_4_L5 m n x1 x3 (w32 (x4 + 1)) s))) else some (x3, s)) := rfl
set_option maxRecDepth 100000 in
set_option maxHeartbeats 1000000 in
theorem f_X_now_eq (m : Nat) (a1 : Int) (s : mS) : f_X_now m a1 s = (if a1 = 0 then some (s.1 17 0, s) else (if a1 = 1 then ((f_St_bitsOf_17_4 m 0 s).bind fun p0 => some (p0.1, p0.2)) else (if a1 = 2 then ((f_St_bitsOf_17_4 m 1 s).bind fun p0 => some (p0.1, p0.2)) else (if a1 = 3 then ((f_St_bitsOf_17_4 m 2 s).bind fun p0 => some (p0.1, p0.2)) else (if a1 = 4 then ((f_St_bitsOf_17_4 m 3 s).bind fun p0 => some (p0.1, p0.2)) else (if a1 = 5 then ((f_St_freeBoxes m s).bind fun p0 => some (p0.1, p0.2)) else (if a1 = 6 then ((f_St_freePlots m s).bind fun p0 => some (p0.1, p0.2)) else (if a1 = 7 then ((f_Vs_frostOn m (s.1 17 0) s).bind fun p0 => (if p0.1 = 0 then some (0, p0.2) else some (1, p0.2))) else some ((-1), s))))))))) := rfl
set_option maxRecDepth 100000 in
set_option maxHeartbeats 1000000 in
theorem f_X_isDead_eq (m : Nat) (a1 : Int) (s : mS) : f_X_isDead m a1 s = (if a1 < 0 then some (0, s) else (if a1 < s.1 4 2 then some (1, s) else some (0, s))) := rfl
set_option maxRecDepth 100000 in
set_option maxHeartbeats 1000000 in
theorem f_St_copyOf_206_17_eq (m : Nat) (s : mS) : f_St_copyOf_206_17 m s = some (0, cpyI (cpyI (cpyI (cpyI (cpyI (cpyI (cpyI (cpyI (cpyI (cpyI (cpyI (cpyI (wI s 206 0 (s.1 17 0)) 18 0 207 0 9) 19 0 208 0 9) 20 0 209 0 9) 21 0 210 0 36) 22 0 211 0 5) 23 0 212 0 5) 24 0 213 0 5) 25 0 214 0 12) 26 0 215 0 12) 27 0 216 0 12) 28 0 217 0 12) 29 0 218 0 12) := rfl
set_option maxRecDepth 100000 in
set_option maxHeartbeats 1000000 in
theorem f_St_copyOf_102_206_eq (m : Nat) (s : mS) : f_St_copyOf_102_206 m s = some (0, cpyI (cpyI (cpyI (cpyI (cpyI (cpyI (cpyI (cpyI (cpyI (cpyI (cpyI (cpyI (wI s 102 0 (s.1 206 0)) 207 0 103 0 9) 208 0 104 0 9) 209 0 105 0 9) 210 0 106 0 36) 211 0 107 0 5) 212 0 108 0 5) 213 0 109 0 5) 214 0 110 0 12) 215 0 111 0 12) 216 0 112 0 12) 217 0 113 0 12) 218 0 114 0 12) := rfl
set_option maxRecDepth 100000 in
set_option maxHeartbeats 1000000 in
theorem f_St_copyOf_115_206_eq (m : Nat) (s : mS) : f_St_copyOf_115_206 m s = some (0, cpyI (cpyI (cpyI (cpyI (cpyI (cpyI (cpyI (cpyI (cpyI (cpyI (cpyI (cpyI (wI s 115 0 (s.1 206 0)) 207 0 116 0 9) 208 0 117 0 9) 209 0 118 0 9) 210 0 119 0 36) 211 0 120 0 5) 212 0 121 0 5) 213 0 122 0 5) 214 0 123 0 12) 215 0 124 0 12) 216 0 125 0 12) 217 0 126 0 12) 218 0 127 0 12) := rfl
set_option maxRecDepth 100000 in
set_option maxHeartbeats 1000000 in
theorem f_St_copyOf_128_206_eq (m : Nat) (s : mS) : f_St_copyOf_128_206 m s = some (0, cpyI (cpyI (cpyI (cpyI (cpyI (cpyI (cpyI (cpyI (cpyI (cpyI (cpyI (cpyI (wI s 128 0 (s.1 206 0)) 207 0 129 0 9) 208 0 130 0 9) 209 0 131 0 9) 210 0 132 0 36) 211 0 133 0 5) 212 0 134 0 5) 213 0 135 0 5) 214 0 136 0 12) 215 0 137 0 12) 216 0 138 0 12) 217 0 139 0 12) 218 0 140 0 12) := rfl
set_option maxRecDepth 100000 in
set_option maxHeartbeats 1000000 in
theorem f_St_copyOf_141_206_eq (m : Nat) (s : mS) : f_St_copyOf_141_206 m s = some (0, cpyI (cpyI (cpyI (cpyI (cpyI (cpyI (cpyI (cpyI (cpyI (cpyI (cpyI (cpyI (wI s 141 0 (s.1 206 0)) 207 0 142 0 9) 208 0 143 0 9) 209 0 144 0 9) 210 0 145 0 36) 211 0 146 0 5) 212 0 147 0 5) 213 0 148 0 5) 214 0 149 0 12) 215 0 150 0 12) 216 0 151 0 12) 217 0 152 0 12) 218 0 153 0 12) := rfl
set_option maxRecDepth 100000 in
set_option maxHeartbeats 1000000 in
theorem f_St_copyOf_154_206_eq (m : Nat) (s : mS) : f_St_copyOf_154_206 m s = some (0, cpyI (cpyI (cpyI (cpyI (cpyI (cpyI (cpyI (cpyI (cpyI (cpyI (cpyI (cpyI (wI s 154 0 (s.1 206 0)) 207 0 155 0 9) 208 0 156 0 9) 209 0 157 0 9) 210 0 158 0 36) 211 0 159 0 5) 212 0 160 0 5) 213 0 161 0 5) 214 0 162 0 12) 215 0 163 0 12) 216 0 164 0 12) 217 0 165 0 12) 218 0 166 0 12) := rfl
set_option maxRecDepth 100000 in
set_option maxHeartbeats 1000000 in
theorem f_St_copyOf_167_206_eq (m : Nat) (s : mS) : f_St_copyOf_167_206 m s = some (0, cpyI (cpyI (cpyI (cpyI (cpyI (cpyI (cpyI (cpyI (cpyI (cpyI (cpyI (cpyI (wI s 167 0 (s.1 206 0)) 207 0 168 0 9) 208 0 169 0 9) 209 0 170 0 9) 210 0 171 0 36) 211 0 172 0 5) 212 0 173 0 5) 213 0 174 0 5) 214 0 175 0 12) 215 0 176 0 12) 216 0 177 0 12) 217 0 178 0 12) 218 0 179 0 12) := rfl
set_option maxRecDepth 100000 in
set_option maxHeartbeats 1000000 in
theorem f_St_copyOf_180_206_eq (m : Nat) (s : mS) : f_St_copyOf_180_206 m s = some (0, cpyI (cpyI (cpyI (cpyI (cpyI (cpyI (cpyI (cpyI (cpyI (cpyI (cpyI (cpyI (wI s 180 0 (s.1 206 0)) 207 0 181 0 9) 208 0 182 0 9) 209 0 183 0 9) 210 0 184 0 36) 211 0 185 0 5) 212 0 186 0 5) 213 0 187 0 5) 214 0 188 0 12) 215 0 189 0 12) 216 0 190 0 12) 217 0 191 0 12) 218 0 192 0 12) := rfl
set_option maxRecDepth 100000 in
set_option maxHeartbeats 1000000 in
theorem f_St_copyOf_193_206_eq (m : Nat) (s : mS) : f_St_copyOf_193_206 m s = some (0, cpyI (cpyI (cpyI (cpyI (cpyI (cpyI (cpyI (cpyI (cpyI (cpyI (cpyI (cpyI (wI s 193 0 (s.1 206 0)) 207 0 194 0 9) 208 0 195 0 9) 209 0 196 0 9) 210 0 197 0 36) 211 0 198 0 5) 212 0 199 0 5) 213 0 200 0 5) 214 0 201 0 12) 215 0 202 0 12) 216 0 203 0 12) 217 0 204 0 12) 218 0 205 0 12) := rfl
set_option maxRecDepth 100000 in
set_option maxHeartbeats 1000000 in
theorem f_St_copyOf_17_102_eq (m : Nat) (s : mS) : f_St_copyOf_17_102 m s = some (0, cpyI (cpyI (cpyI (cpyI (cpyI (cpyI (cpyI (cpyI (cpyI (cpyI (cpyI (cpyI (wI s 17 0 (s.1 102 0)) 103 0 18 0 9) 104 0 19 0 9) 105 0 20 0 9) 106 0 21 0 36) 107 0 22 0 5) 108 0 23 0 5) 109 0 24 0 5) 110 0 25 0 12) 111 0 26 0 12) 112 0 27 0 12) 113 0 28 0 12) 114 0 29 0 12) := rfl
set_option maxRecDepth 100000 in
set_option maxHeartbeats 1000000 in
theorem f_St_copyOf_17_115_eq (m : Nat) (s : mS) : f_St_copyOf_17_115 m s = some (0, cpyI (cpyI (cpyI (cpyI (cpyI (cpyI (cpyI (cpyI (cpyI (cpyI (cpyI (cpyI (wI s 17 0 (s.1 115 0)) 116 0 18 0 9) 117 0 19 0 9) 118 0 20 0 9) 119 0 21 0 36) 120 0 22 0 5) 121 0 23 0 5) 122 0 24 0 5) 123 0 25 0 12) 124 0 26 0 12) 125 0 27 0 12) 126 0 28 0 12) 127 0 29 0 12) := rfl
set_option maxRecDepth 100000 in
set_option maxHeartbeats 1000000 in
theorem f_St_copyOf_17_128_eq (m : Nat) (s : mS) : f_St_copyOf_17_128 m s = some (0, cpyI (cpyI (cpyI (cpyI (cpyI (cpyI (cpyI (cpyI (cpyI (cpyI (cpyI (cpyI (wI s 17 0 (s.1 128 0)) 129 0 18 0 9) 130 0 19 0 9) 131 0 20 0 9) 132 0 21 0 36) 133 0 22 0 5) 134 0 23 0 5) 135 0 24 0 5) 136 0 25 0 12) 137 0 26 0 12) 138 0 27 0 12) 139 0 28 0 12) 140 0 29 0 12) := rfl
set_option maxRecDepth 100000 in
set_option maxHeartbeats 1000000 in
theorem f_St_copyOf_17_141_eq (m : Nat) (s : mS) : f_St_copyOf_17_141 m s = some (0, cpyI (cpyI (cpyI (cpyI (cpyI (cpyI (cpyI (cpyI (cpyI (cpyI (cpyI (cpyI (wI s 17 0 (s.1 141 0)) 142 0 18 0 9) 143 0 19 0 9) 144 0 20 0 9) 145 0 21 0 36) 146 0 22 0 5) 147 0 23 0 5) 148 0 24 0 5) 149 0 25 0 12) 150 0 26 0 12) 151 0 27 0 12) 152 0 28 0 12) 153 0 29 0 12) := rfl
set_option maxRecDepth 100000 in
set_option maxHeartbeats 1000000 in
theorem f_St_copyOf_17_154_eq (m : Nat) (s : mS) : f_St_copyOf_17_154 m s = some (0, cpyI (cpyI (cpyI (cpyI (cpyI (cpyI (cpyI (cpyI (cpyI (cpyI (cpyI (cpyI (wI s 17 0 (s.1 154 0)) 155 0 18 0 9) 156 0 19 0 9) 157 0 20 0 9) 158 0 21 0 36) 159 0 22 0 5) 160 0 23 0 5) 161 0 24 0 5) 162 0 25 0 12) 163 0 26 0 12) 164 0 27 0 12) 165 0 28 0 12) 166 0 29 0 12) := rfl
set_option maxRecDepth 100000 in
set_option maxHeartbeats 1000000 in
theorem f_St_copyOf_17_167_eq (m : Nat) (s : mS) : f_St_copyOf_17_167 m s = some (0, cpyI (cpyI (cpyI (cpyI (cpyI (cpyI (cpyI (cpyI (cpyI (cpyI (cpyI (cpyI (wI s 17 0 (s.1 167 0)) 168 0 18 0 9) 169 0 19 0 9) 170 0 20 0 9) 171 0 21 0 36) 172 0 22 0 5) 173 0 23 0 5) 174 0 24 0 5) 175 0 25 0 12) 176 0 26 0 12) 177 0 27 0 12) 178 0 28 0 12) 179 0 29 0 12) := rfl
set_option maxRecDepth 100000 in
set_option maxHeartbeats 1000000 in
theorem f_St_copyOf_17_180_eq (m : Nat) (s : mS) : f_St_copyOf_17_180 m s = some (0, cpyI (cpyI (cpyI (cpyI (cpyI (cpyI (cpyI (cpyI (cpyI (cpyI (cpyI (cpyI (wI s 17 0 (s.1 180 0)) 181 0 18 0 9) 182 0 19 0 9) 183 0 20 0 9) 184 0 21 0 36) 185 0 22 0 5) 186 0 23 0 5) 187 0 24 0 5) 188 0 25 0 12) 189 0 26 0 12) 190 0 27 0 12) 191 0 28 0 12) 192 0 29 0 12) := rfl
set_option maxRecDepth 100000 in
set_option maxHeartbeats 1000000 in
theorem f_St_copyOf_17_193_eq (m : Nat) (s : mS) : f_St_copyOf_17_193 m s = some (0, cpyI (cpyI (cpyI (cpyI (cpyI (cpyI (cpyI (cpyI (cpyI (cpyI (cpyI (cpyI (wI s 17 0 (s.1 193 0)) 194 0 18 0 9) 195 0 19 0 9) 196 0 20 0 9) 197 0 21 0 36) 198 0 22 0 5) 199 0 23 0 5) 200 0 24 0 5) 201 0 25 0 12) 202 0 26 0 12) 203 0 27 0 12) 204 0 28 0 12) 205 0 29 0 12) := rfl
set_option maxRecDepth 100000 in
set_option maxHeartbeats 1000000 in
theorem f_St_copyOf_102_17_eq (m : Nat) (s : mS) : f_St_copyOf_102_17 m s = some (0, cpyI (cpyI (cpyI (cpyI (cpyI (cpyI (cpyI (cpyI (cpyI (cpyI (cpyI (cpyI (wI s 102 0 (s.1 17 0)) 18 0 103 0 9) 19 0 104 0 9) 20 0 105 0 9) 21 0 106 0 36) 22 0 107 0 5) 23 0 108 0 5) 24 0 109 0 5) 25 0 110 0 12) 26 0 111 0 12) 27 0 112 0 12) 28 0 113 0 12) 29 0 114 0 12) := rfl
set_option maxRecDepth 100000 in
set_option maxHeartbeats 1000000 in
theorem f_St_copyOf_115_17_eq (m : Nat) (s : mS) : f_St_copyOf_115_17 m s = some (0, cpyI (cpyI (cpyI (cpyI (cpyI (cpyI (cpyI (cpyI (cpyI (cpyI (cpyI (cpyI (wI s 115 0 (s.1 17 0)) 18 0 116 0 9) 19 0 117 0 9) 20 0 118 0 9) 21 0 119 0 36) 22 0 120 0 5) 23 0 121 0 5) 24 0 122 0 5) 25 0 123 0 12) 26 0 124 0 12) 27 0 125 0 12) 28 0 126 0 12) 29 0 127 0 12) := rfl
set_option maxRecDepth 100000 in
set_option maxHeartbeats 1000000 in
theorem f_St_copyOf_128_17_eq (m : Nat) (s : mS) : f_St_copyOf_128_17 m s = some (0, cpyI (cpyI (cpyI (cpyI (cpyI (cpyI (cpyI (cpyI (cpyI (cpyI (cpyI (cpyI (wI s 128 0 (s.1 17 0)) 18 0 129 0 9) 19 0 130 0 9) 20 0 131 0 9) 21 0 132 0 36) 22 0 133 0 5) 23 0 134 0 5) 24 0 135 0 5) 25 0 136 0 12) 26 0 137 0 12) 27 0 138 0 12) 28 0 139 0 12) 29 0 140 0 12) := rfl
