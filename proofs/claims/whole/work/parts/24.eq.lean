/-! ===== written by gen_fun.py: do not edit ===== -/
set_option maxRecDepth 100000 in
set_option maxHeartbeats 1000000 in
theorem f_R_whyLend_eq (m : Nat) (a1 : Int) (a2 : Int) (s : mS) : f_R_whyLend m a1 a2 s = (inR (w32 (164 + a1)) 466 (if s.1 251 (w32 (164 + a1)).toNat = 1 then ((f_R_isFree m a2 s).bind fun p0 => (if p0.1 = 0 then some (2, p0.2) else ((f_R_fits m a1 a2 p0.2).bind fun p1 => (if p1.1 = 0 then some (3, p1.2) else (inR (w32 (86 + a2)) 466 (inR (w32 (15 + a2)) 466 (if p1.2.1 251 (w32 (86 + a2)).toNat = p1.2.1 251 (w32 (15 + a2)).toNat then some (4, p1.2) else some (0, p1.2)))))))) else some (1, s))) := rfl
set_option maxRecDepth 100000 in
set_option maxHeartbeats 1000000 in
theorem f_R_why_eq (m : Nat) (a1 : Int) (a2 : Int) (a3 : Int) (s : mS) : f_R_why m a1 a2 a3 s = (if a1 = 0 then ((f_R_whyLend m a2 a3 s).bind fun p0 => some (p0.1, p0.2)) else (if a1 = 1 then ((f_R_whyLay m a2 a3 s).bind fun p0 => some (p0.1, p0.2)) else (if a1 = 2 then ((f_R_whySwap m a2 a3 s).bind fun p0 => some (p0.1, p0.2)) else (inR (w32 (86 + a2)) 466 (if s.1 251 (w32 (86 + a2)).toNat = 0 then some (1, s) else (inR (w32 (95 + a2)) 466 (if s.1 251 (w32 (95 + a2)).toNat = (-1) then some (0, s) else some (2, s)))))))) := rfl
set_option maxRecDepth 100000 in
set_option maxHeartbeats 1000000 in
theorem f_R_save_249_254_eq (m : Nat) (a2 : Int) (s : mS) : f_R_save_249_254 m a2 s = (l_R_save_249_254_L2 m m a2 0 s) := rfl
set_option maxRecDepth 100000 in
set_option maxHeartbeats 1000000 in
theorem l_R_save_249_254_L2_eq (m : Nat) (n : Nat) (x2 : Int) (x3 : Int) (s : mS) : l_R_save_249_254_L2 m (n + 1) x2 x3 s = (if x3 < 139 then (inR (w32 (85 + x3)) 466 (inR (w32 (x2 + x3)) 1112 (l_R_save_249_254_L2 m n x2 (w32 (x3 + 1)) (wI s 254 (w32 (x2 + x3)).toNat (s.1 251 (w32 (85 + x3)).toNat))))) else some (0, s)) := rfl
set_option maxRecDepth 100000 in
set_option maxHeartbeats 1000000 in
theorem f_R_save_249_256_eq (m : Nat) (a2 : Int) (s : mS) : f_R_save_249_256 m a2 s = (l_R_save_249_256_L2 m m a2 0 s) := rfl
set_option maxRecDepth 100000 in
set_option maxHeartbeats 1000000 in
theorem l_R_save_249_256_L2_eq (m : Nat) (n : Nat) (x2 : Int) (x3 : Int) (s : mS) : l_R_save_249_256_L2 m (n + 1) x2 x3 s = (if x3 < 139 then (inR (w32 (85 + x3)) 466 (inR (w32 (x2 + x3)) 139 (l_R_save_249_256_L2 m n x2 (w32 (x3 + 1)) (wI s 256 (w32 (x2 + x3)).toNat (s.1 251 (w32 (85 + x3)).toNat))))) else some (0, s)) := rfl
set_option maxRecDepth 100000 in
set_option maxHeartbeats 1000000 in
theorem f_R_save_249_255_eq (m : Nat) (a2 : Int) (s : mS) : f_R_save_249_255 m a2 s = (l_R_save_249_255_L2 m m a2 0 s) := rfl
set_option maxRecDepth 100000 in
set_option maxHeartbeats 1000000 in
theorem l_R_save_249_255_L2_eq (m : Nat) (n : Nat) (x2 : Int) (x3 : Int) (s : mS) : l_R_save_249_255_L2 m (n + 1) x2 x3 s = (if x3 < 139 then (inR (w32 (85 + x3)) 466 (inR (w32 (x2 + x3)) 139 (l_R_save_249_255_L2 m n x2 (w32 (x3 + 1)) (wI s 255 (w32 (x2 + x3)).toNat (s.1 251 (w32 (85 + x3)).toNat))))) else some (0, s)) := rfl
set_option maxRecDepth 100000 in
set_option maxHeartbeats 1000000 in
theorem f_R_snap_eq (m : Nat) (s : mS) : f_R_snap m s = (if s.1 249 25 = 8 then (l_R_snap_L11 m m 0 s) else ((f_R_save_249_254 m (w32 (139 * (s.1 249 25))) s).bind fun p0 => some (0, wI p0.2 249 25 (w32 ((p0.2.1 249 25) + 1))))) := rfl
set_option maxRecDepth 100000 in
set_option maxHeartbeats 1000000 in
theorem l_R_snap_L11_eq (m : Nat) (n : Nat) (x1 : Int) (s : mS) : l_R_snap_L11 m (n + 1) x1 s = (if x1 < 973 then (inR (w32 (x1 + 139)) 1112 (inR x1 1112 (l_R_snap_L11 m n (w32 (x1 + 1)) (wI s 254 x1.toNat (s.1 254 (w32 (x1 + 139)).toNat))))) else ((f_R_save_249_254 m (w32 (139 * ((wI s 249 25 (w32 ((s.1 249 25) - 1))).1 249 25))) (wI s 249 25 (w32 ((s.1 249 25) - 1)))).bind fun p0 => some (0, wI p0.2 249 25 (w32 ((p0.2.1 249 25) + 1))))) := rfl
set_option maxRecDepth 100000 in
set_option maxHeartbeats 1000000 in
theorem f_R_lies_eq (m : Nat) (a1 : Int) (a2 : Int) (s : mS) : f_R_lies m a1 a2 s = (inR (w32 (176 + a1)) 466 (inR (w32 (95 + a2)) 466 some (0, wI (wI s 251 (w32 (176 + a1)).toNat a2) 251 (w32 (95 + a2)).toNat a1))) := rfl
set_option maxRecDepth 100000 in
set_option maxHeartbeats 1000000 in
theorem f_R_lays_eq (m : Nat) (a1 : Int) (a2 : Int) (s : mS) : f_R_lays m a1 a2 s = (inR (w32 (176 + a1)) 466 (inR (w32 (164 + a1)) 466 (inR (w32 (176 + a1)) 466 (inR (w32 (95 + (s.1 251 (w32 (176 + a1)).toNat))) 466 (inR (w32 (104 + (s.1 251 (w32 (176 + a1)).toNat))) 466 (inR (w32 (188 + a1)) 466 (inR (w32 (154 + a2)) 466 (inR (w32 (24 + a2)) 466 (inR (w32 (149 + a2)) 466 (inR (w32 (159 + a2)) 466 (inR (w32 (159 + a2)) 466 some (0, wI (wI (wI (wI (wI (wI (wI (wI s 251 (w32 (164 + a1)).toNat 3) 251 (w32 (176 + a1)).toNat (-1)) 251 (w32 (95 + (s.1 251 (w32 (176 + a1)).toNat))).toNat (-1)) 251 (w32 (104 + (s.1 251 (w32 (176 + a1)).toNat))).toNat ((wI (wI (wI s 251 (w32 (164 + a1)).toNat 3) 251 (w32 (176 + a1)).toNat (-1)) 251 (w32 (95 + (s.1 251 (w32 (176 + a1)).toNat))).toNat (-1)).1 251 5)) 251 (w32 (188 + a1)).toNat a2) 251 (w32 (154 + a2)).toNat a1) 251 (w32 (149 + a2)).toNat ((wI (wI (wI (wI (wI (wI s 251 (w32 (164 + a1)).toNat 3) 251 (w32 (176 + a1)).toNat (-1)) 251 (w32 (95 + (s.1 251 (w32 (176 + a1)).toNat))).toNat (-1)) 251 (w32 (104 + (s.1 251 (w32 (176 + a1)).toNat))).toNat ((wI (wI (wI s 251 (w32 (164 + a1)).toNat 3) 251 (w32 (176 + a1)).toNat (-1)) 251 (w32 (95 + (s.1 251 (w32 (176 + a1)).toNat))).toNat (-1)).1 251 5)) 251 (w32 (188 + a1)).toNat a2) 251 (w32 (154 + a2)).toNat a1).1 251 (w32 (24 + a2)).toNat)) 251 (w32 (159 + a2)).toNat (w32 (((wI (wI (wI (wI (wI (wI (wI s 251 (w32 (164 + a1)).toNat 3) 251 (w32 (176 + a1)).toNat (-1)) 251 (w32 (95 + (s.1 251 (w32 (176 + a1)).toNat))).toNat (-1)) 251 (w32 (104 + (s.1 251 (w32 (176 + a1)).toNat))).toNat ((wI (wI (wI s 251 (w32 (164 + a1)).toNat 3) 251 (w32 (176 + a1)).toNat (-1)) 251 (w32 (95 + (s.1 251 (w32 (176 + a1)).toNat))).toNat (-1)).1 251 5)) 251 (w32 (188 + a1)).toNat a2) 251 (w32 (154 + a2)).toNat a1) 251 (w32 (149 + a2)).toNat ((wI (wI (wI (wI (wI (wI s 251 (w32 (164 + a1)).toNat 3) 251 (w32 (176 + a1)).toNat (-1)) 251 (w32 (95 + (s.1 251 (w32 (176 + a1)).toNat))).toNat (-1)) 251 (w32 (104 + (s.1 251 (w32 (176 + a1)).toNat))).toNat ((wI (wI (wI s 251 (w32 (164 + a1)).toNat 3) 251 (w32 (176 + a1)).toNat (-1)) 251 (w32 (95 + (s.1 251 (w32 (176 + a1)).toNat))).toNat (-1)).1 251 5)) 251 (w32 (188 + a1)).toNat a2) 251 (w32 (154 + a2)).toNat a1).1 251 (w32 (24 + a2)).toNat)).1 251 (w32 (159 + a2)).toNat) + 1)))))))))))))) := rfl
set_option maxRecDepth 100000 in
set_option maxHeartbeats 1000000 in
theorem f_R_lends_eq (m : Nat) (a1 : Int) (a2 : Int) (s : mS) : f_R_lends m a1 a2 s = (inR (w32 (164 + a1)) 466 (inR (w32 (86 + a2)) 466 (inR (w32 (86 + a2)) 466 ((f_R_lies m a1 a2 (wI (wI s 251 (w32 (164 + a1)).toNat 2) 251 (w32 (86 + a2)).toNat (w32 (((wI s 251 (w32 (164 + a1)).toNat 2).1 251 (w32 (86 + a2)).toNat) + 1)))).bind fun p0 => (l_R_lends_L32 m m a1 a2 3 p0.2))))) := rfl
set_option maxRecDepth 100000 in
set_option maxHeartbeats 1000000 in
theorem l_R_lends_L32_eq (m : Nat) (n : Nat) (x1 : Int) (x2 : Int) (x3 : Int) (s : mS) : l_R_lends_L32 m (n + 1) x1 x2 x3 s = (if 0 < x3 then (inR (w32 ((w32 ((w32 (113 + (w32 (4 * x2)))) + x3)) - 1)) 466 (inR (w32 ((w32 (113 + (w32 (4 * x2)))) + x3)) 466 (l_R_lends_L32 m n x1 x2 (w32 (x3 + (-1))) (wI s 251 (w32 ((w32 (113 + (w32 (4 * x2)))) + x3)).toNat (s.1 251 (w32 ((w32 ((w32 (113 + (w32 (4 * x2)))) + x3)) - 1)).toNat))))) else (inR (w32 (113 + (w32 (4 * x2)))) 466 some (0, wI s 251 (w32 (113 + (w32 (4 * x2)))).toNat x1))) := rfl
set_option maxRecDepth 100000 in
set_option maxHeartbeats 1000000 in
theorem f_R_live_eq (m : Nat) (a1 : Int) (a2 : Int) (a3 : Int) (s : mS) : f_R_live m a1 a2 a3 s = (if a1 = 0 then ((f_R_lends m a2 a3 s).bind fun p0 => some (0, p0.2)) else (if a1 = 1 then ((f_R_lays m a2 a3 s).bind fun p0 => some (0, p0.2)) else (if a1 = 2 then (inR (w32 (176 + a2)) 466 (inR (w32 (176 + a3)) 466 ((f_R_lies m a2 (s.1 251 (w32 (176 + a3)).toNat) s).bind fun p0 => ((f_R_lies m a3 (s.1 251 (w32 (176 + a2)).toNat) p0.2).bind fun p1 => some (0, p1.2))))) else (inR (w32 (86 + a2)) 466 some (0, wI s 251 (w32 (86 + a2)).toNat 0))))) := rfl
set_option maxRecDepth 100000 in
set_option maxHeartbeats 1000000 in
theorem f_R_act_eq (m : Nat) (a1 : Int) (a2 : Int) (a3 : Int) (a4 : Int) (s : mS) : f_R_act m a1 a2 a3 a4 s = (if a4 = 0 then some ((-1), s) else ((f_R_why m a1 a2 a3 s).bind fun p0 => (if p0.1 = 0 then ((f_R_snap m p0.2).bind fun p1 => ((f_R_live m a1 a2 a3 p1.2).bind fun p2 => some (0, p2.2))) else some (p0.1, p0.2)))) := rfl
set_option maxRecDepth 100000 in
set_option maxHeartbeats 1000000 in
theorem f_R_lend_eq (m : Nat) (a1 : Int) (a2 : Int) (s : mS) : f_R_lend m a1 a2 s = ((f_R_isDead m a1 (wI s 249 0 0)).bind fun p0 => (if p0.1 = 0 then ((f_R_act m 0 a1 a2 0 p0.2).bind fun p1 => some (p1.1, p1.2)) else ((f_R_isBox m a2 p0.2).bind fun p1 => (if p1.1 = 0 then ((f_R_act m 0 a1 a2 0 p1.2).bind fun p2 => some (p2.1, p2.2)) else ((f_R_act m 0 a1 a2 1 p1.2).bind fun p2 => some (p2.1, p2.2)))))) := rfl
set_option maxRecDepth 100000 in
set_option maxHeartbeats 1000000 in
theorem f_R_lay_eq (m : Nat) (a1 : Int) (a2 : Int) (s : mS) : f_R_lay m a1 a2 s = ((f_R_isDead m a1 (wI s 249 0 0)).bind fun p0 => (if p0.1 = 0 then ((f_R_act m 1 a1 a2 0 p0.2).bind fun p1 => some (p1.1, p1.2)) else ((f_R_isPlot m a2 p0.2).bind fun p1 => (if p1.1 = 0 then ((f_R_act m 1 a1 a2 0 p1.2).bind fun p2 => some (p2.1, p2.2)) else ((f_R_act m 1 a1 a2 1 p1.2).bind fun p2 => some (p2.1, p2.2)))))) := rfl
set_option maxRecDepth 100000 in
set_option maxHeartbeats 1000000 in
theorem f_R_swap_eq (m : Nat) (a1 : Int) (a2 : Int) (s : mS) : f_R_swap m a1 a2 s = ((f_R_isDead m a1 (wI s 249 0 0)).bind fun p0 => (if p0.1 = 0 then ((f_R_act m 2 a1 a2 0 p0.2).bind fun p1 => some (p1.1, p1.2)) else ((f_R_isDead m a2 p0.2).bind fun p1 => (if p1.1 = 0 then ((f_R_act m 2 a1 a2 0 p1.2).bind fun p2 => some (p2.1, p2.2)) else (if a1 = a2 then ((f_R_act m 2 a1 a2 0 p1.2).bind fun p2 => some (p2.1, p2.2)) else ((f_R_act m 2 a1 a2 1 p1.2).bind fun p2 => some (p2.1, p2.2))))))) := rfl
set_option maxRecDepth 100000 in
set_option maxHeartbeats 1000000 in
theorem f_R_mend_eq (m : Nat) (a1 : Int) (s : mS) : f_R_mend m a1 s = ((f_R_isBox m a1 (wI s 249 0 0)).bind fun p0 => ((f_R_act m 3 a1 0 p0.1 p0.2).bind fun p1 => some (p1.1, p1.2))) := rfl
set_option maxRecDepth 100000 in
set_option maxHeartbeats 1000000 in
theorem f_R_comeBack_249_254_eq (m : Nat) (a2 : Int) (s : mS) : f_R_comeBack_249_254 m a2 s = (l_R_comeBack_249_254_L2 m m a2 0 s) := rfl
set_option maxRecDepth 100000 in
set_option maxHeartbeats 1000000 in
theorem l_R_comeBack_249_254_L2_eq (m : Nat) (n : Nat) (x2 : Int) (x3 : Int) (s : mS) : l_R_comeBack_249_254_L2 m (n + 1) x2 x3 s = (if x3 < 139 then (inR (w32 (x2 + x3)) 1112 (inR (w32 (85 + x3)) 466 (l_R_comeBack_249_254_L2 m n x2 (w32 (x3 + 1)) (wI s 251 (w32 (85 + x3)).toNat (s.1 254 (w32 (x2 + x3)).toNat))))) else some (0, s)) := rfl
set_option maxRecDepth 100000 in
set_option maxHeartbeats 1000000 in
theorem f_R_comeBack_249_256_eq (m : Nat) (a2 : Int) (s : mS) : f_R_comeBack_249_256 m a2 s = (l_R_comeBack_249_256_L2 m m a2 0 s) := rfl
set_option maxRecDepth 100000 in
set_option maxHeartbeats 1000000 in
theorem l_R_comeBack_249_256_L2_eq (m : Nat) (n : Nat) (x2 : Int) (x3 : Int) (s : mS) : l_R_comeBack_249_256_L2 m (n + 1) x2 x3 s = (if x3 < 139 then (inR (w32 (x2 + x3)) 139 (inR (w32 (85 + x3)) 466 (l_R_comeBack_249_256_L2 m n x2 (w32 (x3 + 1)) (wI s 251 (w32 (85 + x3)).toNat (s.1 256 (w32 (x2 + x3)).toNat))))) else some (0, s)) := rfl
set_option maxRecDepth 100000 in
set_option maxHeartbeats 1000000 in
theorem f_R_comeBack_249_255_eq (m : Nat) (a2 : Int) (s : mS) : f_R_comeBack_249_255 m a2 s = (l_R_comeBack_249_255_L2 m m a2 0 s) := rfl
set_option maxRecDepth 100000 in
set_option maxHeartbeats 1000000 in
theorem l_R_comeBack_249_255_L2_eq (m : Nat) (n : Nat) (x2 : Int) (x3 : Int) (s : mS) : l_R_comeBack_249_255_L2 m (n + 1) x2 x3 s = (if x3 < 139 then (inR (w32 (x2 + x3)) 139 (inR (w32 (85 + x3)) 466 (l_R_comeBack_249_255_L2 m n x2 (w32 (x3 + 1)) (wI s 251 (w32 (85 + x3)).toNat (s.1 255 (w32 (x2 + x3)).toNat))))) else some (0, s)) := rfl
set_option maxRecDepth 100000 in
set_option maxHeartbeats 1000000 in
theorem f_R_undo_eq (m : Nat) (s : mS) : f_R_undo m s = (if (wI s 249 0 0).1 249 25 = 0 then some ((-1), wI s 249 0 0) else ((f_R_comeBack_249_254 m (w32 (139 * ((wI (wI s 249 0 0) 249 25 (w32 (((wI s 249 0 0).1 249 25) - 1))).1 249 25))) (wI (wI s 249 0 0) 249 25 (w32 (((wI s 249 0 0).1 249 25) - 1)))).bind fun p0 => some (p0.2.1 249 25, p0.2))) := rfl
set_option maxRecDepth 100000 in
set_option maxHeartbeats 1000000 in
theorem f_R_least_eq (m : Nat) (a0 : Int) (a1 : Int) (s : mS) : f_R_least m a0 a1 s = (if a0 < a1 then some (a0, s) else some (a1, s)) := rfl
set_option maxRecDepth 100000 in
set_option maxHeartbeats 1000000 in
theorem f_R_oneDay_eq (m : Nat) (s : mS) : f_R_oneDay m s = (l_R_oneDay_L2 m m 0 s) := rfl
set_option maxRecDepth 100000 in
set_option maxHeartbeats 1000000 in
theorem l_R_oneDay_L2_eq (m : Nat) (n : Nat) (x1 : Int) (s : mS) : l_R_oneDay_L2 m (n + 1) x1 s = (if x1 < s.1 251 2 then (inR (w32 (164 + x1)) 466 (if s.1 251 (w32 (164 + x1)).toNat = 1 then (inR (w32 (200 + x1)) 466 (inR (w32 (200 + x1)) 466 (inR (w32 (164 + x1)) 466 (if (wI s 251 (w32 (200 + x1)).toNat (w32 ((s.1 251 (w32 (200 + x1)).toNat) + 1))).1 251 (w32 (164 + x1)).toNat = 2 then (inR (w32 (212 + x1)) 466 (inR (w32 (212 + x1)) 466 (l_R_oneDay_L2 m n (w32 (x1 + 1)) (wI (wI s 251 (w32 (200 + x1)).toNat (w32 ((s.1 251 (w32 (200 + x1)).toNat) + 1))) 251 (w32 (212 + x1)).toNat (w32 (((wI s 251 (w32 (200 + x1)).toNat (w32 ((s.1 251 (w32 (200 + x1)).toNat) + 1))).1 251 (w32 (212 + x1)).toNat) + 1)))))) else (l_R_oneDay_L2 m n (w32 (x1 + 1)) (wI s 251 (w32 (200 + x1)).toNat (w32 ((s.1 251 (w32 (200 + x1)).toNat) + 1)))))))) else (inR (w32 (164 + x1)) 466 (if s.1 251 (w32 (164 + x1)).toNat = 2 then (inR (w32 (212 + x1)) 466 (inR (w32 (212 + x1)) 466 (l_R_oneDay_L2 m n (w32 (x1 + 1)) (wI s 251 (w32 (212 + x1)).toNat (w32 ((s.1 251 (w32 (212 + x1)).toNat) + 1)))))) else (l_R_oneDay_L2 m n (w32 (x1 + 1)) s))))) else (l_R_oneDay_L76 m n 0 s)) := rfl
set_option maxRecDepth 100000 in
set_option maxHeartbeats 1000000 in
theorem l_R_oneDay_L76_eq (m : Nat) (n : Nat) (x1 : Int) (s : mS) : l_R_oneDay_L76 m (n + 1) x1 s = (if x1 < 9 then (inR (w32 (104 + x1)) 466 (if 0 < s.1 251 (w32 (104 + x1)).toNat then (inR (w32 (104 + x1)) 466 (inR (w32 (104 + x1)) 466 (l_R_oneDay_L76 m n (w32 (x1 + 1)) (wI s 251 (w32 (104 + x1)).toNat (w32 ((s.1 251 (w32 (104 + x1)).toNat) - 1)))))) else (l_R_oneDay_L76 m n (w32 (x1 + 1)) s))) else (l_R_oneDay_L115 m n 0 s)) := rfl
set_option maxRecDepth 100000 in
set_option maxHeartbeats 1000000 in
theorem l_R_oneDay_L115_eq (m : Nat) (n : Nat) (x1 : Int) (s : mS) : l_R_oneDay_L115 m (n + 1) x1 s = (if x1 < 5 then (inR (w32 (149 + x1)) 466 (if 0 < s.1 251 (w32 (149 + x1)).toNat then (inR (w32 (149 + x1)) 466 (inR (w32 (149 + x1)) 466 (l_R_oneDay_L115 m n (w32 (x1 + 1)) (wI s 251 (w32 (149 + x1)).toNat (w32 ((s.1 251 (w32 (149 + x1)).toNat) - 1)))))) else (l_R_oneDay_L115 m n (w32 (x1 + 1)) s))) else ((f_R_comeb m (wI s 251 85 (w32 ((s.1 251 85) + 1)))).bind fun p0 => some (0, p0.2))) := rfl
set_option maxRecDepth 100000 in
set_option maxHeartbeats 1000000 in
theorem f_R_passDays_eq (m : Nat) (a1 : Int) (s : mS) : f_R_passDays m a1 s = ((f_R_least m a1 (w32 (400 - (s.1 251 85))) s).bind fun p0 => (l_R_passDays_L18 m m p0.1 0 p0.2)) := rfl
set_option maxRecDepth 100000 in
set_option maxHeartbeats 1000000 in
theorem l_R_passDays_L18_eq (m : Nat) (n : Nat) (x2 : Int) (x3 : Int) (s : mS) : l_R_passDays_L18 m (n + 1) x2 x3 s = (if x3 < x2 then ((f_R_oneDay m s).bind fun p0 => (l_R_passDays_L18 m n x2 (w32 (x3 + 1)) p0.2)) else some (x2, s)) := rfl
set_option maxRecDepth 100000 in
set_option maxHeartbeats 1000000 in
theorem f_R_days_eq (m : Nat) (a1 : Int) (s : mS) : f_R_days m a1 s = ((f_R_isIn m a1 1 60 (wI s 249 0 0)).bind fun p0 => (if p0.1 = 0 then some ((-1), p0.2) else (if p0.2.1 251 85 = 400 then some (0, p0.2) else ((f_R_snap m p0.2).bind fun p1 => ((f_R_passDays m a1 p1.2).bind fun p2 => some (p2.1, p2.2)))))) := rfl
set_option maxRecDepth 100000 in
set_option maxHeartbeats 1000000 in
theorem f_R_canLend_eq (m : Nat) (a1 : Int) (a2 : Int) (s : mS) : f_R_canLend m a1 a2 s = (inR (w32 (164 + a1)) 466 (if s.1 251 (w32 (164 + a1)).toNat = 1 then ((f_R_isFree m a2 s).bind fun p0 => (if p0.1 = 0 then some (0, p0.2) else ((f_R_fits m a1 a2 p0.2).bind fun p1 => (if p1.1 = 0 then some (0, p1.2) else (inR (w32 (86 + a2)) 466 (inR (w32 (15 + a2)) 466 (if p1.2.1 251 (w32 (86 + a2)).toNat < p1.2.1 251 (w32 (15 + a2)).toNat then some (1, p1.2) else some (0, p1.2)))))))) else some (0, s))) := rfl
set_option maxRecDepth 100000 in
set_option maxHeartbeats 1000000 in
theorem f_R_boxFor_eq (m : Nat) (a1 : Int) (a2 : Int) (s : mS) : f_R_boxFor m a1 a2 s = (l_R_boxFor_L2 m m a1 a2 0 s) := rfl
set_option maxRecDepth 100000 in
set_option maxHeartbeats 1000000 in
theorem l_R_boxFor_L2_eq (m : Nat) (n : Nat) (x1 : Int) (x2 : Int) (x3 : Int) (s : mS) : l_R_boxFor_L2 m (n + 1) x1 x2 x3 s = (if x3 < s.1 251 0 then ((f_R_has m x2 x3 s).bind fun p0 => (if p0.1 = 0 then ((f_R_canLend m x1 x3 p0.2).bind fun p1 => (if p1.1 = 0 then (l_R_boxFor_L2 m n x1 x2 (w32 (x3 + 1)) p1.2) else (inR (w32 ((w32 (512 * (w32 (x1 + 1)))) + (bor x2 (bshl 1 x3)))) 6656 (inR (w32 ((w32 (512 * x1)) + x2)) 6656 (if w32 (1 + (p1.2.1 261 (w32 ((w32 (512 * (w32 (x1 + 1)))) + (bor x2 (bshl 1 x3)))).toNat)) = p1.2.1 261 (w32 ((w32 (512 * x1)) + x2)).toNat then some (x3, p1.2) else (l_R_boxFor_L2 m n x1 x2 (w32 (x3 + 1)) p1.2)))))) else (l_R_boxFor_L2 m n x1 x2 (w32 (x3 + 1)) p0.2))) else some ((-1), s)) := rfl
set_option maxRecDepth 100000 in
set_option maxHeartbeats 1000000 in
theorem f_R_mostOf_eq (m : Nat) (a1 : Int) (a2 : Int) (s : mS) : f_R_mostOf m a1 a2 s = (inR (w32 ((w32 (512 * (w32 (a1 + 1)))) + a2)) 6656 (l_R_mostOf_L18 m m a1 a2 (s.1 261 (w32 ((w32 (512 * (w32 (a1 + 1)))) + a2)).toNat) 0 s)) := rfl
set_option maxRecDepth 100000 in
set_option maxHeartbeats 1000000 in
theorem l_R_mostOf_L18_eq (m : Nat) (n : Nat) (x1 : Int) (x2 : Int) (x3 : Int) (x4 : Int) (s : mS) : l_R_mostOf_L18 m (n + 1) x1 x2 x3 x4 s = (if x4 < s.1 251 0 then ((f_R_has m x2 x4 s).bind fun p0 => (if p0.1 = 0 then ((f_R_canLend m x1 x4 p0.2).bind fun p1 => (if p1.1 = 0 then (l_R_mostOf_L18 m n x1 x2 x3 (w32 (x4 + 1)) p1.2) else (inR (w32 ((w32 (512 * (w32 (x1 + 1)))) + (bor x2 (bshl 1 x4)))) 6656 (if x3 < w32 (1 + (p1.2.1 261 (w32 ((w32 (512 * (w32 (x1 + 1)))) + (bor x2 (bshl 1 x4)))).toNat)) then (l_R_mostOf_L18 m n x1 x2 (w32 (1 + (p1.2.1 261 (w32 ((w32 (512 * (w32 (x1 + 1)))) + (bor x2 (bshl 1 x4)))).toNat))) (w32 (x4 + 1)) p1.2) else (l_R_mostOf_L18 m n x1 x2 x3 (w32 (x4 + 1)) p1.2))))) else (l_R_mostOf_L18 m n x1 x2 x3 (w32 (x4 + 1)) p0.2))) else some (x3, s)) := rfl
set_option maxRecDepth 100000 in
set_option maxHeartbeats 1000000 in
theorem f_R_match_eq (m : Nat) (s : mS) : f_R_match m s = (l_R_match_L14 m m ((wI s 249 0 0).1 251 2) 0 (wI s 249 0 0)) := rfl
set_option maxRecDepth 100000 in
set_option maxHeartbeats 1000000 in
theorem l_R_match_L14_eq (m : Nat) (n : Nat) (x1 : Int) (x2 : Int) (s : mS) : l_R_match_L14 m (n + 1) x1 x2 s = (if x2 < 512 then (inR (w32 ((w32 (512 * x1)) + x2)) 6656 (l_R_match_L14 m n x1 (w32 (x2 + 1)) (wI s 261 (w32 ((w32 (512 * x1)) + x2)).toNat 0))) else (l_R_match_L44 m n x1 (w32 (x1 - 1)) s)) := rfl
set_option maxRecDepth 100000 in
set_option maxHeartbeats 1000000 in
theorem l_R_match_L44_eq (m : Nat) (n : Nat) (x1 : Int) (x2 : Int) (s : mS) : l_R_match_L44 m (n + 1) x1 x2 s = (if x2 < 0 then (l_R_match_L91 m n x1 0 0 s) else (l_R_match_L50 m n x1 x2 0 s)) := rfl
set_option maxRecDepth 100000 in
set_option maxHeartbeats 1000000 in
theorem l_R_match_L91_eq (m : Nat) (n : Nat) (x1 : Int) (x2 : Int) (x3 : Int) (s : mS) : l_R_match_L91 m (n + 1) x1 x2 x3 s = (if x3 < x1 then ((f_R_boxFor m x3 x2 s).bind fun p0 => (inR x3 12 (inR x3 12 (if (wI p0.2 262 x3.toNat p0.1).1 262 x3.toNat = (-1) then (l_R_match_L91 m n x1 x2 (w32 (x3 + 1)) (wI p0.2 262 x3.toNat p0.1)) else (inR x3 12 (l_R_match_L91 m n x1 (bor x2 (bshl 1 ((wI p0.2 262 x3.toNat p0.1).1 262 x3.toNat))) (w32 (x3 + 1)) (wI p0.2 262 x3.toNat p0.1))))))) else some ((wI s 249 28 x1).1 261 0, wI s 249 28 x1)) := rfl
set_option maxRecDepth 100000 in
set_option maxHeartbeats 1000000 in
theorem l_R_match_L50_eq (m : Nat) (n : Nat) (x1 : Int) (x2 : Int) (x3 : Int) (s : mS) : l_R_match_L50 m (n + 1) x1 x2 x3 s = (if x3 < 512 then ((f_R_mostOf m x2 x3 s).bind fun p0 => (inR (w32 ((w32 (512 * x2)) + x3)) 6656 (l_R_match_L50 m n x1 x2 (w32 (x3 + 1)) (wI p0.2 261 (w32 ((w32 (512 * x2)) + x3)).toNat p0.1)))) else (l_R_match_L44 m n x1 (w32 (x2 + (-1))) s)) := rfl
set_option maxRecDepth 100000 in
set_option maxHeartbeats 1000000 in
theorem f_R_matchOf_eq (m : Nat) (a1 : Int) (s : mS) : f_R_matchOf m a1 s = ((f_R_isIn m a1 0 (w32 (((wI s 249 0 0).1 249 28) - 1)) (wI s 249 0 0)).bind fun p0 => (if p0.1 = 0 then some ((-1), p0.2) else (inR a1 12 some (p0.2.1 262 a1.toNat, p0.2)))) := rfl
set_option maxRecDepth 100000 in
set_option maxHeartbeats 1000000 in
theorem f_R_plotIn_eq (m : Nat) (a1 : Int) (a2 : Int) (s : mS) : f_R_plotIn m a1 a2 s = ((f_R_isFrost m (w32 ((s.1 251 85) + a2)) s).bind fun p0 => (if p0.1 = 0 then (l_R_plotIn_L20 m m a1 a2 0 p0.2) else some ((-1), p0.2))) := rfl
set_option maxRecDepth 100000 in
set_option maxHeartbeats 1000000 in
theorem l_R_plotIn_L20_eq (m : Nat) (n : Nat) (x1 : Int) (x2 : Int) (x3 : Int) (s : mS) : l_R_plotIn_L20 m (n + 1) x1 x2 x3 s = (if x3 < s.1 251 1 then (inR (w32 (149 + x3)) 466 (if x2 < s.1 251 (w32 (149 + x3)).toNat then (l_R_plotIn_L20 m n x1 x2 (w32 (x3 + 1)) s) else ((f_R_isByKin m x1 x3 s).bind fun p0 => (if p0.1 = 0 then some (x3, p0.2) else (l_R_plotIn_L20 m n x1 x2 (w32 (x3 + 1)) p0.2))))) else some ((-1), s)) := rfl
set_option maxRecDepth 100000 in
set_option maxHeartbeats 1000000 in
theorem f_R_soon_eq (m : Nat) (a1 : Int) (s : mS) : f_R_soon m a1 s = ((f_R_isDead m a1 (wI s 249 0 0)).bind fun p0 => (if p0.1 = 0 then some ((-1), p0.2) else (inR (w32 (164 + a1)) 466 (if p0.2.1 251 (w32 (164 + a1)).toNat = 2 then (l_R_soon_L31 m m a1 0 p0.2) else some ((-1), p0.2))))) := rfl
set_option maxRecDepth 100000 in
set_option maxHeartbeats 1000000 in
theorem l_R_soon_L31_eq (m : Nat) (n : Nat) (x1 : Int) (x2 : Int) (s : mS) : l_R_soon_L31 m (n + 1) x1 x2 s = (if 300 < x2 then some ((-1), s) else ((f_R_plotIn m x1 x2 s).bind fun p0 => (if p0.1 = (-1) then (l_R_soon_L31 m n x1 (w32 (x2 + 1)) p0.2) else some (x2, wI p0.2 249 29 p0.1)))) := rfl
set_option maxRecDepth 100000 in
set_option maxHeartbeats 1000000 in
theorem f_R_soonIn_eq (m : Nat) (s : mS) : f_R_soonIn m s = some ((wI s 249 0 0).1 249 29, wI s 249 0 0) := rfl
set_option maxRecDepth 100000 in
set_option maxHeartbeats 1000000 in
theorem f_R_crowd_eq (m : Nat) (a1 : Int) (s : mS) : f_R_crowd m a1 s = ((f_R_isIn m a1 0 99 (wI s 249 0 0)).bind fun p0 => (if p0.1 = 0 then some ((-1), p0.2) else (l_R_crowd_L21 m m a1 0 0 p0.2))) := rfl
set_option maxRecDepth 100000 in
set_option maxHeartbeats 1000000 in
theorem l_R_crowd_L21_eq (m : Nat) (n : Nat) (x1 : Int) (x2 : Int) (x3 : Int) (s : mS) : l_R_crowd_L21 m (n + 1) x1 x2 x3 s = (if x3 < s.1 251 2 then (inR (w32 (164 + x3)) 466 (if s.1 251 (w32 (164 + x3)).toNat = 1 then (l_R_crowd_L21 m n x1 (w32 (x2 + 1)) (w32 (x3 + 1)) s) else (inR (w32 (164 + x3)) 466 (if s.1 251 (w32 (164 + x3)).toNat = 0 then (inR (w32 (41 + x3)) 466 (if w32 ((s.1 251 85) + x1) < s.1 251 (w32 (41 + x3)).toNat then (l_R_crowd_L21 m n x1 x2 (w32 (x3 + 1)) s) else (l_R_crowd_L21 m n x1 (w32 (x2 + 1)) (w32 (x3 + 1)) s))) else (l_R_crowd_L21 m n x1 x2 (w32 (x3 + 1)) s))))) else some (x2, s)) := rfl
set_option maxRecDepth 100000 in
set_option maxHeartbeats 1000000 in
theorem f_R_isOut_eq (m : Nat) (a1 : Int) (a2 : Int) (a3 : Int) (s : mS) : f_R_isOut m a1 a2 a3 s = (inR (w32 (164 + a1)) 466 (if s.1 251 (w32 (164 + a1)).toNat = 3 then some (0, s) else (inR (w32 (164 + a1)) 466 (if s.1 251 (w32 (164 + a1)).toNat = 0 then (inR (w32 (41 + a1)) 466 ((f_R_isIn m (w32 (a2 - (s.1 251 (w32 (41 + a1)).toNat))) 0 (w32 ((w32 (a3 + (s.1 251 5))) - 1)) s).bind fun p0 => (if p0.1 = 0 ∨ p0.1 = 1 then some (p0.1, p0.2) else none))) else ((f_R_isIn m (w32 (a2 - (s.1 251 85))) 0 (w32 ((w32 (a3 + (s.1 251 5))) - 1)) s).bind fun p0 => (if p0.1 = 0 ∨ p0.1 = 1 then some (p0.1, p0.2) else none)))))) := rfl
set_option maxRecDepth 100000 in
set_option maxHeartbeats 1000000 in
theorem f_R_need_eq (m : Nat) (a1 : Int) (a2 : Int) (s : mS) : f_R_need m a1 a2 s = ((f_R_isIn m a1 0 99 (wI s 249 0 0)).bind fun p0 => (if p0.1 = 0 then some ((-1), p0.2) else ((f_R_isIn m a2 1 60 p0.2).bind fun p1 => (if p1.1 = 0 then some ((-1), p1.2) else (l_R_need_L32 m m a1 a2 0 0 p1.2))))) := rfl
set_option maxRecDepth 100000 in
set_option maxHeartbeats 1000000 in
theorem l_R_need_L32_eq (m : Nat) (n : Nat) (x1 : Int) (x2 : Int) (x3 : Int) (x4 : Int) (s : mS) : l_R_need_L32 m (n + 1) x1 x2 x3 x4 s = (if x1 < x4 then some (x3, s) else (l_R_need_L44 m n x1 x2 x3 x4 0 0 s)) := rfl
set_option maxRecDepth 100000 in
set_option maxHeartbeats 1000000 in
theorem l_R_need_L44_eq (m : Nat) (n : Nat) (x1 : Int) (x2 : Int) (x3 : Int) (x4 : Int) (x5 : Int) (x6 : Int) (s : mS) : l_R_need_L44 m (n + 1) x1 x2 x3 x4 x5 x6 s = (if x6 < s.1 251 2 then ((f_R_isOut m x6 (w32 ((s.1 251 85) + x4)) x2 s).bind fun p0 => (if p0.1 = 0 then (l_R_need_L44 m n x1 x2 x3 x4 x5 (w32 (x6 + 1)) p0.2) else (l_R_need_L44 m n x1 x2 x3 x4 (w32 (x5 + 1)) (w32 (x6 + 1)) p0.2))) else (if x3 < x5 then (l_R_need_L32 m n x1 x2 x5 (w32 (x4 + 1)) s) else (l_R_need_L32 m n x1 x2 x3 (w32 (x4 + 1)) s))) := rfl
set_option maxRecDepth 100000 in
set_option maxHeartbeats 1000000 in
theorem f_R_nextIn_eq (m : Nat) (a1 : Int) (s : mS) : f_R_nextIn m a1 s = (inR (w32 (65 + a1)) 466 (if w32 ((s.1 251 (w32 (65 + a1)).toNat) - 1) = (-1) then some ((-1), s) else ((f_R_fits m a1 (w32 ((s.1 251 (w32 (65 + a1)).toNat) - 1)) s).bind fun p0 => (if p0.1 = 0 then some ((-1), p0.2) else (inR (w32 (95 + (w32 ((s.1 251 (w32 (65 + a1)).toNat) - 1)))) 466 some (p0.2.1 251 (w32 (95 + (w32 ((s.1 251 (w32 (65 + a1)).toNat) - 1)))).toNat, p0.2)))))) := rfl
set_option maxRecDepth 100000 in
set_option maxHeartbeats 1000000 in
theorem f_R_ring_eq (m : Nat) (a1 : Int) (s : mS) : f_R_ring m a1 s = ((f_R_isDead m a1 (wI s 249 0 0)).bind fun p0 => (if p0.1 = 0 then some ((-1), p0.2) else (inR (w32 (164 + a1)) 466 (if p0.2.1 251 (w32 (164 + a1)).toNat = 2 then (l_R_ring_L33 m m a1 0 a1 p0.2) else some ((-1), p0.2))))) := rfl
set_option maxRecDepth 100000 in
set_option maxHeartbeats 1000000 in
theorem l_R_ring_L33_eq (m : Nat) (n : Nat) (x1 : Int) (x2 : Int) (x3 : Int) (s : mS) : l_R_ring_L33 m (n + 1) x1 x2 x3 s = (if x3 = (-1) then some ((-1), s) else (if x2 = 12 then some ((-1), s) else (inR x2 12 ((f_R_nextIn m x3 (wI s 263 x2.toNat x3)).bind fun p0 => (if p0.1 = x1 then (l_R_ring_L75 m n (w32 (x2 + 1)) 0 (wI p0.2 249 32 (w32 (x2 + 1)))) else (l_R_ring_L33 m n x1 (w32 (x2 + 1)) p0.1 p0.2)))))) := rfl
set_option maxRecDepth 100000 in
set_option maxHeartbeats 1000000 in
theorem l_R_ring_L75_eq (m : Nat) (n : Nat) (x2 : Int) (x4 : Int) (s : mS) : l_R_ring_L75 m (n + 1) x2 x4 s = (if x4 < x2 then (inR x4 12 (inR x4 12 (l_R_ring_L75 m n x2 (w32 (x4 + 1)) (wI s 264 x4.toNat (s.1 263 x4.toNat))))) else some (x2, s)) := rfl
set_option maxRecDepth 100000 in
set_option maxHeartbeats 1000000 in
theorem f_R_ringAt_eq (m : Nat) (a1 : Int) (s : mS) : f_R_ringAt m a1 s = ((f_R_isIn m a1 0 (w32 (((wI s 249 0 0).1 249 32) - 1)) (wI s 249 0 0)).bind fun p0 => (if p0.1 = 0 then some ((-1), p0.2) else (inR a1 12 some (p0.2.1 264 a1.toNat, p0.2)))) := rfl
set_option maxRecDepth 100000 in
set_option maxHeartbeats 1000000 in
theorem f_R_partOf_eq (m : Nat) (a1 : Int) (a2 : Int) (s : mS) : f_R_partOf m a1 a2 s = (if a2 = 0 then (inR (w32 (29 + a1)) 466 some (s.1 251 (w32 (29 + a1)).toNat, s)) else (if a2 = 1 then (inR (w32 (200 + a1)) 466 some (s.1 251 (w32 (200 + a1)).toNat, s)) else (if a2 = 2 then (inR (w32 (176 + a1)) 466 (if s.1 251 (w32 (176 + a1)).toNat = (-1) then some (255, s) else (inR (w32 (176 + a1)) 466 some (s.1 251 (w32 (176 + a1)).toNat, s)))) else (inR (w32 (188 + a1)) 466 (if s.1 251 (w32 (188 + a1)).toNat = (-1) then some (255, s) else (inR (w32 (188 + a1)) 466 some (s.1 251 (w32 (188 + a1)).toNat, s))))))) := rfl
set_option maxRecDepth 100000 in
set_option maxHeartbeats 1000000 in
theorem f_R_isTold_eq (m : Nat) (a1 : Int) (a2 : Int) (s : mS) : f_R_isTold m a1 a2 s = (l_R_isTold_L2 m m a1 a2 0 s) := rfl
set_option maxRecDepth 100000 in
set_option maxHeartbeats 1000000 in
theorem l_R_isTold_L2_eq (m : Nat) (n : Nat) (x1 : Int) (x2 : Int) (x3 : Int) (s : mS) : l_R_isTold_L2 m (n + 1) x1 x2 x3 s = (if x3 < x2 then (inR x3 940 ((f_R_partOf m x1 (s.1 250 x3.toNat) s).bind fun p0 => (inR (w32 (x3 + 1)) 940 (if p0.1 = p0.2.1 250 (w32 (x3 + 1)).toNat then (l_R_isTold_L2 m n x1 x2 (w32 (x3 + 2)) p0.2) else some (0, p0.2))))) else some (1, s)) := rfl
set_option maxRecDepth 100000 in
set_option maxHeartbeats 1000000 in
theorem f_R_leftBy_eq (m : Nat) (a1 : Int) (a2 : Int) (s : mS) : f_R_leftBy m a1 a2 s = (l_R_leftBy_L5 m m a1 a2 0 0 s) := rfl
set_option maxRecDepth 100000 in
set_option maxHeartbeats 1000000 in
theorem l_R_leftBy_L5_eq (m : Nat) (n : Nat) (x1 : Int) (x2 : Int) (x3 : Int) (x4 : Int) (s : mS) : l_R_leftBy_L5 m (n + 1) x1 x2 x3 x4 s = (if x4 < s.1 251 2 then ((f_R_has m x1 x4 s).bind fun p0 => (if p0.1 = 0 then (l_R_leftBy_L5 m n x1 x2 x3 (w32 (x4 + 1)) p0.2) else (l_R_leftBy_L34 m n x1 x2 x3 x4 0 0 p0.2))) else some (x3, s)) := rfl
set_option maxRecDepth 100000 in
set_option maxHeartbeats 1000000 in
theorem l_R_leftBy_L34_eq (m : Nat) (n : Nat) (x1 : Int) (x2 : Int) (x3 : Int) (x4 : Int) (x5 : Int) (x6 : Int) (s : mS) : l_R_leftBy_L34 m (n + 1) x1 x2 x3 x4 x5 x6 s = (if x6 < s.1 251 2 then ((f_R_has m x1 x6 s).bind fun p0 => (if p0.1 = 0 then (l_R_leftBy_L34 m n x1 x2 x3 x4 x5 (w32 (x6 + 1)) p0.2) else ((f_R_partOf m x6 x2 p0.2).bind fun p1 => ((f_R_partOf m x4 x2 p1.2).bind fun p2 => (if p1.1 = p2.1 then (l_R_leftBy_L34 m n x1 x2 x3 x4 (w32 (x5 + 1)) (w32 (x6 + 1)) p2.2) else (l_R_leftBy_L34 m n x1 x2 x3 x4 x5 (w32 (x6 + 1)) p2.2)))))) else (if x3 < x5 then (l_R_leftBy_L5 m n x1 x2 x5 (w32 (x4 + 1)) s) else (l_R_leftBy_L5 m n x1 x2 x3 (w32 (x4 + 1)) s))) := rfl
set_option maxRecDepth 100000 in
set_option maxHeartbeats 1000000 in
theorem f_R_who_eq (m : Nat) (s : mS) : f_R_who m s = ((f_R_take m (wI s 249 0 0)).bind fun p0 => (if Int.tmod p0.1 2 = 0 then ((f_R_isIn m (w32 (Int.tdiv p0.1 2)) 1 6 p0.2).bind fun p1 => (if p1.1 = 0 then some ((-1), p1.2) else (l_R_who_L32 m m p0.1 0 p1.2))) else some ((-1), p0.2))) := rfl
set_option maxRecDepth 100000 in
set_option maxHeartbeats 1000000 in
theorem l_R_who_L32_eq (m : Nat) (n : Nat) (x1 : Int) (x2 : Int) (s : mS) : l_R_who_L32 m (n + 1) x1 x2 s = (if x2 < x1 then (inR x2 940 (if 3 < s.1 250 x2.toNat then some ((-1), s) else (l_R_who_L32 m n x1 (w32 (x2 + 2)) s))) else (l_R_who_L59 m n x1 0 0 s)) := rfl
set_option maxRecDepth 100000 in
set_option maxHeartbeats 1000000 in
theorem l_R_who_L59_eq (m : Nat) (n : Nat) (x1 : Int) (x2 : Int) (x3 : Int) (s : mS) : l_R_who_L59 m (n + 1) x1 x2 x3 s = (if x3 < s.1 251 2 then ((f_R_isTold m x3 x1 s).bind fun p0 => (if p0.1 = 0 then (l_R_who_L59 m n x1 x2 (w32 (x3 + 1)) p0.2) else (l_R_who_L59 m n x1 (bor x2 (bshl 1 x3)) (w32 (x3 + 1)) p0.2))) else (if x2 = 0 then some (0, s) else (l_R_who_L103 m n x2 1 (wI s 249 33 0)))) := rfl
set_option maxRecDepth 100000 in
set_option maxHeartbeats 1000000 in
theorem l_R_who_L103_eq (m : Nat) (n : Nat) (x2 : Int) (x3 : Int) (s : mS) : l_R_who_L103 m (n + 1) x2 x3 s = (if x3 < 4 then ((f_R_leftBy m x2 x3 s).bind fun p0 => ((f_R_leftBy m x2 (p0.2.1 249 33) p0.2).bind fun p1 => (if p0.1 < p1.1 then (l_R_who_L103 m n x2 (w32 (x3 + 1)) (wI p1.2 249 33 x3)) else (l_R_who_L103 m n x2 (w32 (x3 + 1)) p1.2)))) else some (x2, s)) := rfl
set_option maxRecDepth 100000 in
set_option maxHeartbeats 1000000 in
theorem f_R_ask_eq (m : Nat) (s : mS) : f_R_ask m s = some ((wI s 249 0 0).1 249 33, wI s 249 0 0) := rfl
set_option maxRecDepth 100000 in
set_option maxHeartbeats 1000000 in
theorem f_R_near_eq (m : Nat) (a1 : Int) (a2 : Int) (s : mS) : f_R_near m a1 a2 s = ((f_R_isDead m a1 (wI s 249 0 0)).bind fun p0 => (if p0.1 = 0 then some ((-1), p0.2) else ((f_R_isDead m a2 p0.2).bind fun p1 => (if p1.1 = 0 then some ((-1), p1.2) else (l_R_near_L30 m m a2 (bshl 1 a1) 0 p1.2))))) := rfl
set_option maxRecDepth 100000 in
set_option maxHeartbeats 1000000 in
theorem l_R_near_L30_eq (m : Nat) (n : Nat) (x2 : Int) (x3 : Int) (x4 : Int) (s : mS) : l_R_near_L30 m (n + 1) x2 x3 x4 s = (if 12 < x4 then some ((-1), s) else ((f_R_has m x3 x2 s).bind fun p0 => (if p0.1 = 0 then (l_R_near_L54 m n x2 x3 x4 x3 0 p0.2) else some (x4, p0.2)))) := rfl
set_option maxRecDepth 100000 in
set_option maxHeartbeats 1000000 in
theorem l_R_near_L54_eq (m : Nat) (n : Nat) (x2 : Int) (x3 : Int) (x4 : Int) (x5 : Int) (x6 : Int) (s : mS) : l_R_near_L54 m (n + 1) x2 x3 x4 x5 x6 s = (if x6 < s.1 251 2 then ((f_R_has m x3 x6 s).bind fun p0 => (if p0.1 = 0 then (l_R_near_L54 m n x2 x3 x4 x5 (w32 (x6 + 1)) p0.2) else (inR (w32 (53 + x6)) 466 (l_R_near_L54 m n x2 x3 x4 (bor x5 (p0.2.1 251 (w32 (53 + x6)).toNat)) (w32 (x6 + 1)) p0.2)))) else (l_R_near_L30 m n x2 x5 (w32 (x4 + 1)) s)) := rfl
set_option maxRecDepth 100000 in
set_option maxHeartbeats 1000000 in
theorem f_R_common_eq (m : Nat) (a0 : Int) (a1 : Int) (s : mS) : f_R_common m a0 a1 s = (l_R_common_L4 m m a0 a1 s) := rfl
set_option maxRecDepth 100000 in
set_option maxHeartbeats 1000000 in
theorem l_R_common_L4_eq (m : Nat) (n : Nat) (x2 : Int) (x3 : Int) (s : mS) : l_R_common_L4 m (n + 1) x2 x3 s = (if x3 = 0 then some (x2, s) else (if x3 = 0 then none else (l_R_common_L4 m n x3 (Int.tmod x2 x3) s))) := rfl
set_option maxRecDepth 100000 in
set_option maxHeartbeats 1000000 in
theorem f_R_fraction_eq (m : Nat) (a1 : Int) (a2 : Int) (a3 : Int) (s : mS) : f_R_fraction m a1 a2 a3 s = (if a3 = 0 then ((f_R_common m a1 a2 s).bind fun p0 => (if p0.1 = 0 then none else some (w32 (Int.tdiv a1 p0.1), p0.2))) else ((f_R_common m a1 a2 s).bind fun p0 => (if p0.1 = 0 then none else some (w32 (Int.tdiv a2 p0.1), p0.2)))) := rfl
set_option maxRecDepth 100000 in
set_option maxHeartbeats 1000000 in
theorem f_R_wear_eq (m : Nat) (a1 : Int) (a2 : Int) (s : mS) : f_R_wear m a1 a2 s = ((f_R_isBox m a1 (wI s 249 0 0)).bind fun p0 => (if p0.1 = 0 then ((f_R_refuse m p0.2).bind fun p1 => some (p1.1, p1.2)) else ((f_R_isIn m a2 0 1 p0.2).bind fun p1 => (if p1.1 = 0 then ((f_R_refuse m p1.2).bind fun p2 => some (p2.1, p2.2)) else (inR (w32 (86 + a1)) 466 (inR (w32 (15 + a1)) 466 ((f_R_fraction m (p1.2.1 251 (w32 (86 + a1)).toNat) (p1.2.1 251 (w32 (15 + a1)).toNat) a2 p1.2).bind fun p2 => some (p2.1, p2.2)))))))) := rfl
set_option maxRecDepth 100000 in
set_option maxHeartbeats 1000000 in
theorem f_R_mean_eq (m : Nat) (a1 : Int) (s : mS) : f_R_mean m a1 s = (if (wI s 249 0 0).1 251 2 = 0 then ((f_R_refuse m (wI s 249 0 0)).bind fun p0 => some (p0.1, p0.2)) else ((f_R_isIn m a1 0 1 (wI s 249 0 0)).bind fun p0 => (if p0.1 = 0 then ((f_R_refuse m p0.2).bind fun p1 => some (p1.1, p1.2)) else (l_R_mean_L35 m m a1 ((wI s 249 0 0).1 251 2) 0 0 p0.2)))) := rfl
set_option maxRecDepth 100000 in
set_option maxHeartbeats 1000000 in
theorem l_R_mean_L35_eq (m : Nat) (n : Nat) (x1 : Int) (x2 : Int) (x3 : Int) (x4 : Int) (s : mS) : l_R_mean_L35 m (n + 1) x1 x2 x3 x4 s = (if x4 < x2 then (inR (w32 (200 + x4)) 466 (l_R_mean_L35 m n x1 x2 (w32 (x3 + (s.1 251 (w32 (200 + x4)).toNat))) (w32 (x4 + 1)) s)) else ((f_R_fraction m x3 x2 x1 s).bind fun p0 => some (p0.1, p0.2))) := rfl
set_option maxRecDepth 100000 in
set_option maxHeartbeats 1000000 in
theorem f_R_longest_eq (m : Nat) (s : mS) : f_R_longest m s = (l_R_longest_L9 m m (-1) 0 (wI s 249 0 0)) := rfl
set_option maxRecDepth 100000 in
set_option maxHeartbeats 1000000 in
theorem l_R_longest_L9_eq (m : Nat) (n : Nat) (x1 : Int) (x2 : Int) (s : mS) : l_R_longest_L9 m (n + 1) x1 x2 s = (if x2 < s.1 251 2 then (inR (w32 (200 + x2)) 466 (if x1 = (-1) then (if 0 < s.1 251 (w32 (200 + x2)).toNat then (l_R_longest_L9 m n x2 (w32 (x2 + 1)) s) else (l_R_longest_L9 m n x1 (w32 (x2 + 1)) s)) else (inR (w32 (200 + x1)) 466 (if s.1 251 (w32 (200 + x1)).toNat < s.1 251 (w32 (200 + x2)).toNat then (l_R_longest_L9 m n x2 (w32 (x2 + 1)) s) else (l_R_longest_L9 m n x1 (w32 (x2 + 1)) s))))) else some (x1, s)) := rfl
set_option maxRecDepth 100000 in
set_option maxHeartbeats 1000000 in
theorem f_R_write_eq (m : Nat) (a1 : Int) (s : mS) : f_R_write m a1 s = (inR (s.1 249 35) 48 some (0, wI (wI s 265 (s.1 249 35).toNat a1) 249 35 (w32 (((wI s 265 (s.1 249 35).toNat a1).1 249 35) + 1)))) := rfl
set_option maxRecDepth 100000 in
set_option maxHeartbeats 1000000 in
theorem f_R_writeWord_eq (m : Nat) (d : Nat) (a1 : Int) (s : mS) : f_R_writeWord m (d + 1) a1 s = (if cmpL a1 27 < 0 then ((f_R_write m (w32 (96 + (w32 (Int.tmod a1 27)))) s).bind fun p0 => some (0, p0.2)) else ((f_R_writeWord m d (w64 (Int.tdiv a1 27)) s).bind fun p0 => ((f_R_write m (w32 (96 + (w32 (Int.tmod a1 27)))) p0.2).bind fun p1 => some (0, p1.2)))) := rfl
set_option maxRecDepth 100000 in
set_option maxHeartbeats 1000000 in
theorem f_R_writeNext_eq (m : Nat) (a1 : Int) (s : mS) : f_R_writeNext m a1 s = ((f_R_write m 32 s).bind fun p0 => ((f_R_writeWord m 64 a1 p0.2).bind fun p1 => some (0, p1.2))) := rfl
set_option maxRecDepth 100000 in
set_option maxHeartbeats 1000000 in
theorem f_R_tag_eq (m : Nat) (a1 : Int) (s : mS) : f_R_tag m a1 s = ((f_R_isDead m a1 (wI s 249 0 0)).bind fun p0 => (if p0.1 = 0 then some ((-1), p0.2) else (inR (w32 (14 + a1)) 26 ((f_R_writeWord m 64 ((wI p0.2 249 35 0).2 257 (w32 (14 + a1)).toNat) (wI p0.2 249 35 0)).bind fun p1 => (inR (w32 (164 + a1)) 466 (if p1.2.1 251 (w32 (164 + a1)).toNat = 0 then ((f_R_spelt m 99 111 109 101 115 0 0 p1.2).bind fun p2 => ((f_R_writeNext m p2.1 p2.2).bind fun p3 => some (p3.2.1 249 35, p3.2))) else (if p1.2.1 251 (w32 (164 + a1)).toNat = 1 then ((f_R_spelt m 119 97 105 116 115 0 0 p1.2).bind fun p2 => ((f_R_writeNext m p2.1 p2.2).bind fun p3 => some (p3.2.1 249 35, p3.2))) else (if p1.2.1 251 (w32 (164 + a1)).toNat = 2 then ((f_R_spelt m 108 105 101 115 0 0 0 p1.2).bind fun p2 => ((f_R_writeNext m p2.1 p2.2).bind fun p3 => ((f_R_wordOf m 18 p3.2).bind fun p4 => ((f_R_writeNext m p4.1 p4.2).bind fun p5 => (inR (w32 (176 + a1)) 466 (inR (p5.2.1 251 (w32 (176 + a1)).toNat) 26 ((f_R_writeNext m (p5.2.2 257 (p5.2.1 251 (w32 (176 + a1)).toNat).toNat) p5.2).bind fun p6 => some (p6.2.1 249 35, p6.2)))))))) else ((f_R_wordOf m 17 p1.2).bind fun p2 => ((f_R_writeNext m p2.1 p2.2).bind fun p3 => ((f_R_wordOf m 18 p3.2).bind fun p4 => ((f_R_writeNext m p4.1 p4.2).bind fun p5 => (inR (w32 (188 + a1)) 466 (inR (w32 (9 + (p5.2.1 251 (w32 (188 + a1)).toNat))) 26 ((f_R_writeNext m (p5.2.2 257 (w32 (9 + (p5.2.1 251 (w32 (188 + a1)).toNat))).toNat) p5.2).bind fun p6 => some (p6.2.1 249 35, p6.2)))))))))))))))) := rfl
set_option maxRecDepth 100000 in
set_option maxHeartbeats 1000000 in
theorem f_R_byteAt_eq (m : Nat) (a1 : Int) (s : mS) : f_R_byteAt m a1 s = ((f_R_isIn m a1 0 (w32 (((wI s 249 0 0).1 249 35) - 1)) (wI s 249 0 0)).bind fun p0 => (if p0.1 = 0 then some ((-1), p0.2) else (inR a1 48 some (p0.2.1 265 a1.toNat, p0.2)))) := rfl
set_option maxRecDepth 100000 in
set_option maxHeartbeats 1000000 in
theorem f_R_draw_eq (m : Nat) (a1 : Int) (s : mS) : f_R_draw m a1 s = (if a1 = 0 then none else some (Int.tmod (bushr ((wI s 249 36 (w32 ((w32 ((s.1 249 36) * 1103515245)) + 12345))).1 249 36) 8) a1, wI s 249 36 (w32 ((w32 ((s.1 249 36) * 1103515245)) + 12345)))) := rfl
set_option maxRecDepth 100000 in
set_option maxHeartbeats 1000000 in
theorem f_R_doIf_eq (m : Nat) (a1 : Int) (a2 : Int) (a3 : Int) (s : mS) : f_R_doIf m a1 a2 a3 s = ((f_R_why m a1 a2 a3 s).bind fun p0 => (if p0.1 = 0 then ((f_R_live m a1 a2 a3 p0.2).bind fun p1 => some (0, p1.2)) else some (0, p0.2))) := rfl
set_option maxRecDepth 100000 in
set_option maxHeartbeats 1000000 in
theorem f_R_drawsTwo_eq (m : Nat) (a1 : Int) (a2 : Int) (s : mS) : f_R_drawsTwo m a1 a2 s = (if s.1 251 2 = 0 then some (0, s) else (if a2 = 0 then some (0, s) else ((f_R_draw m (s.1 251 2) s).bind fun p0 => ((f_R_draw m a2 p0.2).bind fun p1 => (if a1 = 2 then (if p0.1 = p1.1 then some (0, p1.2) else ((f_R_doIf m a1 p0.1 p1.1 p1.2).bind fun p2 => some (0, p2.2))) else ((f_R_doIf m a1 p0.1 p1.1 p1.2).bind fun p2 => some (0, p2.2))))))) := rfl
set_option maxRecDepth 100000 in
set_option maxHeartbeats 1000000 in
theorem f_R_drawsFirst_eq (m : Nat) (s : mS) : f_R_drawsFirst m s = ((f_R_draw m 8 s).bind fun p0 => (if p0.1 < 3 then ((f_R_drawsTwo m 0 (p0.2.1 251 0) p0.2).bind fun p1 => (if p0.1 = 3 then ((f_R_drawsTwo m 1 (p1.2.1 251 1) p1.2).bind fun p2 => (l_R_drawsFirst_L44 m m p0.1 p2.2)) else (if p0.1 = 4 then ((f_R_drawsTwo m 1 (p1.2.1 251 1) p1.2).bind fun p2 => (l_R_drawsFirst_L44 m m p0.1 p2.2)) else (l_R_drawsFirst_L44 m m p0.1 p1.2)))) else (if p0.1 = 3 then ((f_R_drawsTwo m 1 (p0.2.1 251 1) p0.2).bind fun p1 => (l_R_drawsFirst_L44 m m p0.1 p1.2)) else (if p0.1 = 4 then ((f_R_drawsTwo m 1 (p0.2.1 251 1) p0.2).bind fun p1 => (l_R_drawsFirst_L44 m m p0.1 p1.2)) else (l_R_drawsFirst_L44 m m p0.1 p0.2))))) := rfl
set_option maxRecDepth 100000 in
set_option maxHeartbeats 1000000 in
theorem l_R_drawsFirst_L44_eq (m : Nat) (n : Nat) (x1 : Int) (s : mS) : l_R_drawsFirst_L44 m (n + 1) x1 s = (if x1 = 5 then (if 0 < s.1 251 0 then ((f_R_draw m (s.1 251 0) s).bind fun p0 => ((f_R_doIf m 3 p0.1 0 p0.2).bind fun p1 => (if x1 = 6 then ((f_R_drawsTwo m 2 (p1.2.1 251 2) p1.2).bind fun p2 => some (0, p2.2)) else some (0, p1.2)))) else (if x1 = 6 then ((f_R_drawsTwo m 2 (s.1 251 2) s).bind fun p0 => some (0, p0.2)) else some (0, s))) else (if x1 = 6 then ((f_R_drawsTwo m 2 (s.1 251 2) s).bind fun p0 => some (0, p0.2)) else some (0, s))) := rfl
set_option maxRecDepth 100000 in
set_option maxHeartbeats 1000000 in
theorem f_R_drawDays_eq (m : Nat) (a1 : Int) (a2 : Int) (s : mS) : f_R_drawDays m a1 a2 s = ((f_R_least m a1 (w32 (400 - ((wI s 249 36 a2).1 251 85))) (wI s 249 36 a2)).bind fun p0 => (l_R_drawDays_L24 m m p0.1 0 p0.2)) := rfl
set_option maxRecDepth 100000 in
set_option maxHeartbeats 1000000 in
theorem l_R_drawDays_L24_eq (m : Nat) (n : Nat) (x3 : Int) (x4 : Int) (s : mS) : l_R_drawDays_L24 m (n + 1) x3 x4 s = (if x4 < x3 then ((f_R_drawsFirst m s).bind fun p0 => ((f_R_oneDay m p0.2).bind fun p1 => (l_R_drawDays_L24 m n x3 (w32 (x4 + 1)) p1.2))) else some (x3, s)) := rfl
set_option maxRecDepth 100000 in
set_option maxHeartbeats 1000000 in
theorem f_R_drawn_eq (m : Nat) (a1 : Int) (a2 : Int) (s : mS) : f_R_drawn m a1 a2 s = ((f_R_isIn m a1 1 60 (wI s 249 0 0)).bind fun p0 => (if p0.1 = 0 then some ((-1), p0.2) else (if p0.2.1 251 85 = 400 then some (0, p0.2) else ((f_R_snap m p0.2).bind fun p1 => ((f_R_drawDays m a1 a2 p1.2).bind fun p2 => some (p2.1, p2.2)))))) := rfl
set_option maxRecDepth 100000 in
set_option maxHeartbeats 1000000 in
theorem f_R_odds_eq (m : Nat) (a1 : Int) (a2 : Int) (a3 : Int) (s : mS) : f_R_odds m a1 a2 a3 s = ((f_R_isDead m a1 (wI s 249 0 0)).bind fun p0 => (if p0.1 = 0 then some ((-1), p0.2) else ((f_R_isIn m a2 1 30 p0.2).bind fun p1 => (if p1.1 = 0 then some ((-1), p1.2) else ((f_R_save_249_256 m 0 p1.2).bind fun p2 => (l_R_odds_L40 m m a1 a2 a3 0 0 p2.2)))))) := rfl
set_option maxRecDepth 100000 in
set_option maxHeartbeats 1000000 in
theorem l_R_odds_L40_eq (m : Nat) (n : Nat) (x1 : Int) (x2 : Int) (x3 : Int) (x4 : Int) (x5 : Int) (s : mS) : l_R_odds_L40 m (n + 1) x1 x2 x3 x4 x5 s = (if x5 < x2 then ((f_R_drawDays m 20 (w32 (x3 + x5)) s).bind fun p0 => (inR (w32 (164 + x1)) 466 (if p0.2.1 251 (w32 (164 + x1)).toNat = 3 then ((f_R_comeBack_249_256 m 0 p0.2).bind fun p1 => (l_R_odds_L40 m n x1 x2 x3 (w32 (x4 + 1)) (w32 (x5 + 1)) p1.2)) else ((f_R_comeBack_249_256 m 0 p0.2).bind fun p1 => (l_R_odds_L40 m n x1 x2 x3 x4 (w32 (x5 + 1)) p1.2))))) else some (x4, s)) := rfl
set_option maxRecDepth 100000 in
set_option maxHeartbeats 1000000 in
theorem f_R_keep_eq (m : Nat) (a1 : Int) (a2 : Int) (s : mS) : f_R_keep m a1 a2 s = (if a2 = 0 then (if a2 = 0 ∨ a2 = 1 then some (a2, s) else none) else (inR a1 120 (if a2 = 0 ∨ a2 = 1 then some (a2, wI s 266 a1.toNat (s.1 249 13)) else none))) := rfl
set_option maxRecDepth 100000 in
set_option maxHeartbeats 1000000 in
theorem f_R_readNamed_eq (m : Nat) (a1 : Int) (a2 : Int) (s : mS) : f_R_readNamed m a1 a2 s = ((f_R_isName m s).bind fun p0 => (if p0.1 = 0 then ((f_R_bad m 1 p0.2).bind fun p1 => (if p1.1 = 0 ∨ p1.1 = 1 then some (p1.1, p1.2) else none)) else ((f_R_findIn_257 m a1 a2 (p0.2.2 249 12) p0.2).bind fun p1 => (if (wI p1.2 249 13 p1.1).1 249 13 = (-1) then ((f_R_bad m 3 (wI p1.2 249 13 p1.1)).bind fun p2 => (if p2.1 = 0 ∨ p2.1 = 1 then some (p2.1, p2.2) else none)) else ((f_R_go m (wI p1.2 249 13 p1.1)).bind fun p2 => some (1, p2.2)))))) := rfl
set_option maxRecDepth 100000 in
set_option maxHeartbeats 1000000 in
theorem f_R_readBoxName_eq (m : Nat) (s : mS) : f_R_readBoxName m s = ((f_R_readNamed m 0 (s.1 251 0) s).bind fun p0 => (if p0.1 = 0 ∨ p0.1 = 1 then some (p0.1, p0.2) else none)) := rfl
set_option maxRecDepth 100000 in
set_option maxHeartbeats 1000000 in
theorem f_R_readDeadName_eq (m : Nat) (s : mS) : f_R_readDeadName m s = ((f_R_readNamed m 14 (s.1 251 2) s).bind fun p0 => (if p0.1 = 0 ∨ p0.1 = 1 then some (p0.1, p0.2) else none)) := rfl
set_option maxRecDepth 100000 in
set_option maxHeartbeats 1000000 in
theorem f_R_readOther_eq (m : Nat) (a1 : Int) (s : mS) : f_R_readOther m a1 s = ((f_R_isName m s).bind fun p0 => (if p0.1 = 0 then ((f_R_bad m 1 p0.2).bind fun p1 => (if p1.1 = 0 ∨ p1.1 = 1 then some (p1.1, p1.2) else none)) else ((f_R_findIn_257 m 14 (p0.2.1 251 2) (p0.2.2 249 12) p0.2).bind fun p1 => (inR (w32 (a1 + 1)) 120 (inR (w32 (a1 + 1)) 120 (if (wI p1.2 266 (w32 (a1 + 1)).toNat p1.1).1 266 (w32 (a1 + 1)).toNat = (-1) then ((f_R_bad m 3 (wI p1.2 266 (w32 (a1 + 1)).toNat p1.1)).bind fun p2 => (if p2.1 = 0 ∨ p2.1 = 1 then some (p2.1, p2.2) else none)) else (inR (w32 (a1 + 1)) 120 (inR a1 120 (if (wI p1.2 266 (w32 (a1 + 1)).toNat p1.1).1 266 (w32 (a1 + 1)).toNat = (wI p1.2 266 (w32 (a1 + 1)).toNat p1.1).1 266 a1.toNat then ((f_R_bad m 3 (wI p1.2 266 (w32 (a1 + 1)).toNat p1.1)).bind fun p2 => (if p2.1 = 0 ∨ p2.1 = 1 then some (p2.1, p2.2) else none)) else ((f_R_go m (wI p1.2 266 (w32 (a1 + 1)).toNat p1.1)).bind fun p2 => some (1, p2.2))))))))))) := rfl
set_option maxRecDepth 100000 in
set_option maxHeartbeats 1000000 in
theorem f_R_readBookLine_eq (m : Nat) (s : mS) : f_R_readBookLine m s = ((f_R_isWord m 10 s).bind fun p0 => (if p0.1 = 0 then (l_R_readBookLine_L17 m m (-1) 0 p0.2) else (l_R_readBookLine_L17 m m 4 0 p0.2))) := rfl
set_option maxRecDepth 100000 in
set_option maxHeartbeats 1000000 in
theorem l_R_readBookLine_L17_eq (m : Nat) (n : Nat) (x1 : Int) (x2 : Int) (s : mS) : l_R_readBookLine_L17 m (n + 1) x1 x2 s = (if 3 < x2 then (if x1 = (-1) then ((f_R_bad m 1 s).bind fun p0 => (if p0.1 = 0 ∨ p0.1 = 1 then some (p0.1, p0.2) else none)) else (if s.1 249 39 = 40 then ((f_R_bad m 4 s).bind fun p0 => (if p0.1 = 0 ∨ p0.1 = 1 then some (p0.1, p0.2) else none)) else (inR (w32 (3 * (s.1 249 39))) 120 (inR (w32 ((w32 (3 * (s.1 249 39))) + 2)) 120 ((f_R_go m (wI (wI s 266 (w32 (3 * (s.1 249 39))).toNat x1) 266 (w32 ((w32 (3 * (s.1 249 39))) + 2)).toNat 0)).bind fun p0 => (if x1 = 0 then ((f_R_readDeadName m p0.2).bind fun p1 => ((f_R_keep m (w32 ((w32 (3 * (s.1 249 39))) + 1)) p1.1 p1.2).bind fun p2 => (if p2.1 = 0 then some (0, p2.2) else ((f_R_readBoxName m p2.2).bind fun p3 => ((f_R_keep m (w32 ((w32 (3 * (s.1 249 39))) + 2)) p3.1 p3.2).bind fun p4 => (if p4.1 = 0 then some (0, p4.2) else ((f_R_readEnd m p4.2).bind fun p5 => (if p5.1 = 0 then some (0, p5.2) else some (1, p5.2))))))))) else (if x1 = 1 then ((f_R_readDeadName m p0.2).bind fun p1 => ((f_R_keep m (w32 ((w32 (3 * (s.1 249 39))) + 1)) p1.1 p1.2).bind fun p2 => (if p2.1 = 0 then some (0, p2.2) else ((f_R_readNamed m 9 (p2.2.1 251 1) p2.2).bind fun p3 => ((f_R_keep m (w32 ((w32 (3 * (s.1 249 39))) + 2)) p3.1 p3.2).bind fun p4 => (if p4.1 = 0 then some (0, p4.2) else ((f_R_readEnd m p4.2).bind fun p5 => (if p5.1 = 0 then some (0, p5.2) else some (1, p5.2))))))))) else (if x1 = 2 then ((f_R_readDeadName m p0.2).bind fun p1 => ((f_R_keep m (w32 ((w32 (3 * (s.1 249 39))) + 1)) p1.1 p1.2).bind fun p2 => (if p2.1 = 0 then some (0, p2.2) else ((f_R_readOther m (w32 ((w32 (3 * (s.1 249 39))) + 1)) p2.2).bind fun p3 => (if p3.1 = 0 then some (0, p3.2) else ((f_R_readEnd m p3.2).bind fun p4 => (if p4.1 = 0 then some (0, p4.2) else some (1, p4.2)))))))) else (if x1 = 3 then ((f_R_readBoxName m p0.2).bind fun p1 => ((f_R_keep m (w32 ((w32 (3 * (s.1 249 39))) + 1)) p1.1 p1.2).bind fun p2 => (if p2.1 = 0 then some (0, p2.2) else ((f_R_readEnd m p2.2).bind fun p3 => (if p3.1 = 0 then some (0, p3.2) else some (1, p3.2)))))) else ((f_R_readNumber m 1 60 p0.2).bind fun p1 => ((f_R_keep m (w32 ((w32 (3 * (s.1 249 39))) + 1)) p1.1 p1.2).bind fun p2 => (if p2.1 = 0 then some (0, p2.2) else ((f_R_readEnd m p2.2).bind fun p3 => (if p3.1 = 0 then some (0, p3.2) else some (1, p3.2))))))))))))))) else ((f_R_isWord m (w32 (6 + x2)) s).bind fun p0 => (if p0.1 = 0 then (l_R_readBookLine_L17 m n x1 (w32 (x2 + 1)) p0.2) else (l_R_readBookLine_L17 m n x2 (w32 (x2 + 1)) p0.2)))) := rfl
set_option maxRecDepth 100000 in
set_option maxHeartbeats 1000000 in
theorem f_R_goBy_eq (m : Nat) (a1 : Int) (s : mS) : f_R_goBy m a1 s = (inR a1 120 (inR (w32 (a1 + 1)) 120 (if s.1 266 a1.toNat = 4 then (if 400 < w32 ((s.1 251 85) + (s.1 266 (w32 (a1 + 1)).toNat)) then some (41, s) else ((f_R_passDays m (s.1 266 (w32 (a1 + 1)).toNat) s).bind fun p0 => some (0, p0.2))) else (inR (w32 (a1 + 2)) 120 ((f_R_why m (s.1 266 a1.toNat) (s.1 266 (w32 (a1 + 1)).toNat) (s.1 266 (w32 (a1 + 2)).toNat) s).bind fun p0 => (if p0.1 = 0 then (inR (w32 (a1 + 2)) 120 ((f_R_live m (s.1 266 a1.toNat) (s.1 266 (w32 (a1 + 1)).toNat) (p0.2.1 266 (w32 (a1 + 2)).toNat) p0.2).bind fun p1 => some (0, p1.2))) else some (w32 ((w32 (10 * (s.1 266 a1.toNat))) + p0.1), p0.2))))))) := rfl
set_option maxRecDepth 100000 in
set_option maxHeartbeats 1000000 in
theorem f_R_stay_eq (m : Nat) (a1 : Int) (s : mS) : f_R_stay m a1 s = ((f_R_save_249_255 m 0 s).bind fun p0 => ((f_R_comeBack_249_256 m 0 p0.2).bind fun p1 => (if a1 = 0 then some (0, p1.2) else ((f_R_snap m p1.2).bind fun p2 => ((f_R_comeBack_249_255 m 0 p2.2).bind fun p3 => some (0, p3.2)))))) := rfl
set_option maxRecDepth 100000 in
set_option maxHeartbeats 1000000 in
theorem f_R_book_eq (m : Nat) (a1 : Int) (s : mS) : f_R_book m a1 s = ((f_R_isIn m a1 0 1 (wI s 249 0 0)).bind fun p0 => (if p0.1 = 0 then some ((-1000), p0.2) else ((f_R_begin m 400 p0.2).bind fun p1 => (l_R_book_L30 m m a1 (wI p1.2 249 39 0))))) := rfl
set_option maxRecDepth 100000 in
set_option maxHeartbeats 1000000 in
theorem l_R_book_L30_eq (m : Nat) (n : Nat) (x1 : Int) (s : mS) : l_R_book_L30 m (n + 1) x1 s = (if s.1 249 7 = 0 then ((f_R_save_249_256 m 0 s).bind fun p0 => (l_R_book_L78 m n x1 0 0 p0.2)) else ((f_R_readBookLine m s).bind fun p0 => (if p0.1 = 0 then some (w32 ((-2) - (p0.2.1 249 11)), p0.2) else (l_R_book_L30 m n x1 (wI p0.2 249 39 (w32 ((p0.2.1 249 39) + 1))))))) := rfl
set_option maxRecDepth 100000 in
set_option maxHeartbeats 1000000 in
theorem l_R_book_L78_eq (m : Nat) (n : Nat) (x1 : Int) (x2 : Int) (x3 : Int) (s : mS) : l_R_book_L78 m (n + 1) x1 x2 x3 s = (if x2 < s.1 249 39 then (if x3 = 0 then ((f_R_goBy m (w32 (3 * x2)) s).bind fun p0 => (if p0.1 = 0 then (l_R_book_L78 m n x1 (w32 (x2 + 1)) p0.1 p0.2) else (l_R_book_L78 m n x1 x2 p0.1 p0.2))) else (l_R_book_L108 m n x1 x2 x3 s)) else (l_R_book_L108 m n x1 x2 x3 s)) := rfl
set_option maxRecDepth 100000 in
set_option maxHeartbeats 1000000 in
theorem l_R_book_L108_eq (m : Nat) (n : Nat) (x1 : Int) (x2 : Int) (x3 : Int) (s : mS) : l_R_book_L108 m (n + 1) x1 x2 x3 s = ((f_R_those m 3 (wI (wI (wI s 267 0 x3) 267 1 x2) 267 2 ((wI (wI s 267 0 x3) 267 1 x2).1 251 85))).bind fun p0 => (if x1 = 1 then (if 0 < x2 then ((f_R_stay m 1 (wI (wI p0.2 267 3 p0.1) 249 40 1)).bind fun p1 => (if x3 = 0 then some ((-1), p1.2) else some (x2, p1.2))) else ((f_R_stay m 0 (wI (wI p0.2 267 3 p0.1) 249 40 1)).bind fun p1 => (if x3 = 0 then some ((-1), p1.2) else some (x2, p1.2)))) else ((f_R_stay m 0 (wI (wI p0.2 267 3 p0.1) 249 40 1)).bind fun p1 => (if x3 = 0 then some ((-1), p1.2) else some (x2, p1.2))))) := rfl
set_option maxRecDepth 100000 in
set_option maxHeartbeats 1000000 in
theorem f_R_told_eq (m : Nat) (a1 : Int) (s : mS) : f_R_told m a1 s = (if (wI s 249 0 0).1 249 40 = 0 then some ((-1), wI s 249 0 0) else ((f_R_isIn m a1 0 3 (wI s 249 0 0)).bind fun p0 => (if p0.1 = 0 then some ((-1), p0.2) else (inR a1 4 some (p0.2.1 267 a1.toNat, p0.2))))) := rfl
set_option maxRecDepth 100000 in
set_option maxHeartbeats 1000000 in
theorem f_R_saysOne_eq (m : Nat) (a1 : Int) (a2 : Int) (a3 : Int) (a4 : Int) (s : mS) : f_R_saysOne m a1 a2 a3 a4 s = (inR (w32 (4 * (s.1 249 42))) 240 (inR (w32 ((w32 (4 * (s.1 249 42))) + 1)) 240 (inR (w32 ((w32 (4 * (s.1 249 42))) + 2)) 240 (inR (w32 ((w32 (4 * (s.1 249 42))) + 3)) 240 some (w32 (((wI (wI (wI (wI (wI s 268 (w32 (4 * (s.1 249 42))).toNat a1) 268 (w32 ((w32 (4 * (s.1 249 42))) + 1)).toNat a2) 268 (w32 ((w32 (4 * (s.1 249 42))) + 2)).toNat a3) 268 (w32 ((w32 (4 * (s.1 249 42))) + 3)).toNat a4) 249 42 (w32 (((wI (wI (wI (wI s 268 (w32 (4 * (s.1 249 42))).toNat a1) 268 (w32 ((w32 (4 * (s.1 249 42))) + 1)).toNat a2) 268 (w32 ((w32 (4 * (s.1 249 42))) + 2)).toNat a3) 268 (w32 ((w32 (4 * (s.1 249 42))) + 3)).toNat a4).1 249 42) + 1))).1 249 42) - 1), wI (wI (wI (wI (wI s 268 (w32 (4 * (s.1 249 42))).toNat a1) 268 (w32 ((w32 (4 * (s.1 249 42))) + 1)).toNat a2) 268 (w32 ((w32 (4 * (s.1 249 42))) + 2)).toNat a3) 268 (w32 ((w32 (4 * (s.1 249 42))) + 3)).toNat a4) 249 42 (w32 (((wI (wI (wI (wI s 268 (w32 (4 * (s.1 249 42))).toNat a1) 268 (w32 ((w32 (4 * (s.1 249 42))) + 1)).toNat a2) 268 (w32 ((w32 (4 * (s.1 249 42))) + 2)).toNat a3) 268 (w32 ((w32 (4 * (s.1 249 42))) + 3)).toNat a4).1 249 42) + 1))))))) := rfl
set_option maxRecDepth 100000 in
set_option maxHeartbeats 1000000 in
theorem f_R_readThat_eq (m : Nat) (a1 : Int) (s : mS) : f_R_readThat m a1 s = (if a1 = 18 then ((f_R_readBoxName m s).bind fun p0 => (if p0.1 = 0 ∨ p0.1 = 1 then some (p0.1, p0.2) else none)) else ((f_R_readDeadName m s).bind fun p0 => (if p0.1 = 0 ∨ p0.1 = 1 then some (p0.1, p0.2) else none))) := rfl
set_option maxRecDepth 100000 in
set_option maxHeartbeats 1000000 in
theorem f_R_readOf_eq (m : Nat) (a1 : Int) (s : mS) : f_R_readOf m a1 s = ((f_R_readThat m a1 s).bind fun p0 => (if p0.1 = 0 then some (0, p0.2) else ((f_R_saysOne m (w32 (50 + a1)) (p0.2.1 249 13) 0 0 p0.2).bind fun p1 => some (1, wI p1.2 249 45 p1.1)))) := rfl
set_option maxRecDepth 100000 in
set_option maxHeartbeats 1000000 in
theorem f_R_readCompare_eq (m : Nat) (a1 : Int) (s : mS) : f_R_readCompare m a1 s = ((f_R_isSign m 60 s).bind fun p0 => (if p0.1 = 0 then ((f_R_isSign m 61 p0.2).bind fun p1 => (if p1.1 = 0 then ((f_R_isSign m 62 p1.2).bind fun p2 => (if p2.1 = 0 then ((f_R_bad m 1 p2.2).bind fun p3 => (if p3.1 = 0 ∨ p3.1 = 1 then some (p3.1, p3.2) else none)) else ((f_R_go m p2.2).bind fun p3 => ((f_R_readNumber m 0 999 p3.2).bind fun p4 => (if p4.1 = 0 then some (0, p4.2) else ((f_R_saysOne m (w32 (50 + a1)) 0 (p4.2.1 249 13) (p2.2.1 249 9) p4.2).bind fun p5 => some (1, wI p5.2 249 45 p5.1))))))) else ((f_R_go m p1.2).bind fun p2 => ((f_R_readNumber m 0 999 p2.2).bind fun p3 => (if p3.1 = 0 then some (0, p3.2) else ((f_R_saysOne m (w32 (50 + a1)) 0 (p3.2.1 249 13) (p1.2.1 249 9) p3.2).bind fun p4 => some (1, wI p4.2 249 45 p4.1))))))) else ((f_R_go m p0.2).bind fun p1 => ((f_R_readNumber m 0 999 p1.2).bind fun p2 => (if p2.1 = 0 then some (0, p2.2) else ((f_R_saysOne m (w32 (50 + a1)) 0 (p2.2.1 249 13) (p0.2.1 249 9) p2.2).bind fun p3 => some (1, wI p3.2 249 45 p3.1))))))) := rfl
set_option maxRecDepth 100000 in
set_option maxHeartbeats 1000000 in
theorem f_R_readOr_eq (m : Nat) (d : Nat) (s : mS) : f_R_readOr m (d + 1) s = ((f_R_readAnd m d s).bind fun p0 => (if p0.1 = 0 then some (0, p0.2) else (l_R_readOr_L14 m d m (p0.2.1 249 45) p0.2))) := rfl
set_option maxRecDepth 100000 in
set_option maxHeartbeats 1000000 in
theorem l_R_readOr_L14_eq (m : Nat) (d : Nat) (n : Nat) (x1 : Int) (s : mS) : l_R_readOr_L14 m d (n + 1) x1 s = ((f_R_isWord m 11 s).bind fun p0 => (if p0.1 = 0 then some (1, wI p0.2 249 45 x1) else ((f_R_go m p0.2).bind fun p1 => ((f_R_readAnd m d p1.2).bind fun p2 => (if p2.1 = 0 then some (0, p2.2) else ((f_R_saysOne m 3 x1 (p2.2.1 249 45) 0 p2.2).bind fun p3 => (l_R_readOr_L14 m d n p3.1 p3.2))))))) := rfl
set_option maxRecDepth 100000 in
set_option maxHeartbeats 1000000 in
theorem f_R_readAnd_eq (m : Nat) (d : Nat) (s : mS) : f_R_readAnd m (d + 1) s = ((f_R_readSaid m d s).bind fun p0 => (if p0.1 = 0 then some (0, p0.2) else (l_R_readAnd_L14 m d m (p0.2.1 249 45) p0.2))) := rfl
set_option maxRecDepth 100000 in
set_option maxHeartbeats 1000000 in
theorem l_R_readAnd_L14_eq (m : Nat) (d : Nat) (n : Nat) (x1 : Int) (s : mS) : l_R_readAnd_L14 m d (n + 1) x1 s = ((f_R_isWord m 12 s).bind fun p0 => (if p0.1 = 0 then some (1, wI p0.2 249 45 x1) else ((f_R_go m p0.2).bind fun p1 => ((f_R_readSaid m d p1.2).bind fun p2 => (if p2.1 = 0 then some (0, p2.2) else ((f_R_saysOne m 2 x1 (p2.2.1 249 45) 0 p2.2).bind fun p3 => (l_R_readAnd_L14 m d n p3.1 p3.2))))))) := rfl
set_option maxRecDepth 100000 in
set_option maxHeartbeats 1000000 in
theorem f_R_readSaid_eq (m : Nat) (d : Nat) (s : mS) : f_R_readSaid m (d + 1) s = ((f_R_isSign m 40 s).bind fun p0 => (l_R_readSaid_L10 m d m p0.1 13 p0.2)) := rfl
set_option maxRecDepth 100000 in
set_option maxHeartbeats 1000000 in
theorem l_R_readSaid_L10_eq (m : Nat) (d : Nat) (n : Nat) (x1 : Int) (x2 : Int) (s : mS) : l_R_readSaid_L10 m d (n + 1) x1 x2 s = (if 23 < x2 then (if x1 = 0 then (if 23 < x2 then ((f_R_bad m 1 s).bind fun p0 => (if p0.1 = 0 ∨ p0.1 = 1 then some (p0.1, p0.2) else none)) else (l_R_readSaid_L46 m d n x1 x2 s)) else (l_R_readSaid_L46 m d n x1 x2 s)) else ((f_R_isWord m x2 s).bind fun p0 => (if p0.1 = 0 then (l_R_readSaid_L10 m d n x1 (w32 (x2 + 1)) p0.2) else (if x1 = 0 then (if 23 < x2 then ((f_R_bad m 1 p0.2).bind fun p1 => (if p1.1 = 0 ∨ p1.1 = 1 then some (p1.1, p1.2) else none)) else (l_R_readSaid_L46 m d n x1 x2 p0.2)) else (l_R_readSaid_L46 m d n x1 x2 p0.2))))) := rfl
set_option maxRecDepth 100000 in
set_option maxHeartbeats 1000000 in
theorem l_R_readSaid_L46_eq (m : Nat) (d : Nat) (n : Nat) (x1 : Int) (x2 : Int) (s : mS) : l_R_readSaid_L46 m d (n + 1) x1 x2 s = (if s.1 249 43 = 20 then ((f_R_bad m 4 s).bind fun p0 => (if p0.1 = 0 ∨ p0.1 = 1 then some (p0.1, p0.2) else none)) else (if s.1 249 44 = 8 then ((f_R_bad m 4 s).bind fun p0 => (if p0.1 = 0 ∨ p0.1 = 1 then some (p0.1, p0.2) else none)) else ((f_R_go m (wI (wI s 249 43 (w32 ((s.1 249 43) + 1))) 249 44 (w32 (((wI s 249 43 (w32 ((s.1 249 43) + 1))).1 249 44) + 1)))).bind fun p0 => (if x1 = 0 then (if x2 = 13 then ((f_R_readNot m d p0.2).bind fun p1 => (if p1.1 = 0 ∨ p1.1 = 1 then some (p1.1, wI p1.2 249 44 (w32 ((p1.2.1 249 44) - 1))) else none)) else (if x2 < 18 then ((f_R_saysOne m (w32 (50 + x2)) 0 0 0 p0.2).bind fun p1 => some (1, wI (wI p1.2 249 45 p1.1) 249 44 (w32 (((wI p1.2 249 45 p1.1).1 249 44) - 1)))) else (if x2 < 20 then ((f_R_readOf m x2 p0.2).bind fun p1 => (if p1.1 = 0 ∨ p1.1 = 1 then some (p1.1, wI p1.2 249 44 (w32 ((p1.2.1 249 44) - 1))) else none)) else ((f_R_readCompare m x2 p0.2).bind fun p1 => (if p1.1 = 0 ∨ p1.1 = 1 then some (p1.1, wI p1.2 249 44 (w32 ((p1.2.1 249 44) - 1))) else none))))) else ((f_R_readBracket m d p0.2).bind fun p1 => (if p1.1 = 0 ∨ p1.1 = 1 then some (p1.1, wI p1.2 249 44 (w32 ((p1.2.1 249 44) - 1))) else none)))))) := rfl
set_option maxRecDepth 100000 in
set_option maxHeartbeats 1000000 in
theorem f_R_readBracket_eq (m : Nat) (d : Nat) (s : mS) : f_R_readBracket m (d + 1) s = ((f_R_readOr m d s).bind fun p0 => (if p0.1 = 0 then some (0, p0.2) else ((f_R_isSign m 41 p0.2).bind fun p1 => (if p1.1 = 0 then ((f_R_bad m 1 p1.2).bind fun p2 => (if p2.1 = 0 ∨ p2.1 = 1 then some (p2.1, p2.2) else none)) else ((f_R_go m p1.2).bind fun p2 => some (1, p2.2)))))) := rfl
set_option maxRecDepth 100000 in
set_option maxHeartbeats 1000000 in
theorem f_R_readNot_eq (m : Nat) (d : Nat) (s : mS) : f_R_readNot m (d + 1) s = ((f_R_readSaid m d s).bind fun p0 => (if p0.1 = 0 then some (0, p0.2) else ((f_R_saysOne m 1 (p0.2.1 249 45) 0 0 p0.2).bind fun p1 => some (1, wI p1.2 249 45 p1.1)))) := rfl
set_option maxRecDepth 100000 in
set_option maxHeartbeats 1000000 in
theorem f_R_sentence_eq (m : Nat) (s : mS) : f_R_sentence m s = ((f_R_begin m 200 s).bind fun p0 => ((f_R_readOr m 64 (wI (wI (wI p0.2 249 42 0) 249 43 0) 249 44 0)).bind fun p1 => (if p1.1 = 0 then some (w32 ((-1) - (p1.2.1 249 11)), p1.2) else (if p1.2.1 249 7 = 0 then (l_R_sentence_L79 m m 0 (wI (wI p1.2 251 224 1) 251 225 ((wI p1.2 251 224 1).1 249 45))) else ((f_R_bad m 1 p1.2).bind fun p2 => some (w32 ((-1) - (p2.2.1 249 11)), p2.2)))))) := rfl
set_option maxRecDepth 100000 in
set_option maxHeartbeats 1000000 in
theorem l_R_sentence_L79_eq (m : Nat) (n : Nat) (x1 : Int) (s : mS) : l_R_sentence_L79 m (n + 1) x1 s = (if x1 < 240 then (inR x1 240 (inR (w32 (226 + x1)) 466 (l_R_sentence_L79 m n (w32 (x1 + 1)) (wI s 251 (w32 (226 + x1)).toNat (s.1 268 x1.toNat))))) else some (s.1 249 43, s)) := rfl
set_option maxRecDepth 100000 in
set_option maxHeartbeats 1000000 in
theorem f_R_holds_eq (m : Nat) (d : Nat) (a1 : Int) (a2 : Int) (s : mS) : f_R_holds m (d + 1) a1 a2 s = (inR (w32 ((w32 (226 + (w32 (4 * a1)))) + 1)) 466 (inR (w32 ((w32 (226 + (w32 (4 * a1)))) + 2)) 466 (inR (w32 (226 + (w32 (4 * a1)))) 466 (if s.1 251 (w32 (226 + (w32 (4 * a1)))).toNat = 1 then ((f_R_holds m d (s.1 251 (w32 ((w32 (226 + (w32 (4 * a1)))) + 1)).toNat) a2 s).bind fun p0 => (if p0.1 = 0 then some (1, p0.2) else some (0, p0.2))) else (if s.1 251 (w32 (226 + (w32 (4 * a1)))).toNat = 2 then ((f_R_holds m d (s.1 251 (w32 ((w32 (226 + (w32 (4 * a1)))) + 1)).toNat) a2 s).bind fun p0 => (if p0.1 = 0 then some (0, p0.2) else ((f_R_holds m d (s.1 251 (w32 ((w32 (226 + (w32 (4 * a1)))) + 2)).toNat) a2 p0.2).bind fun p1 => (if p1.1 = 0 then some (0, p1.2) else some (1, p1.2))))) else (if s.1 251 (w32 (226 + (w32 (4 * a1)))).toNat = 3 then ((f_R_holds m d (s.1 251 (w32 ((w32 (226 + (w32 (4 * a1)))) + 1)).toNat) a2 s).bind fun p0 => (if p0.1 = 0 then ((f_R_holds m d (s.1 251 (w32 ((w32 (226 + (w32 (4 * a1)))) + 2)).toNat) a2 p0.2).bind fun p1 => (if p1.1 = 0 then some (0, p1.2) else some (1, p1.2))) else some (1, p0.2))) else (if s.1 251 (w32 (226 + (w32 (4 * a1)))).toNat = 64 then (inR (w32 (164 + a2)) 466 (if s.1 251 (w32 (164 + a2)).toNat = 0 then some (1, s) else some (0, s))) else (if s.1 251 (w32 (226 + (w32 (4 * a1)))).toNat = 65 then (inR (w32 (164 + a2)) 466 (if s.1 251 (w32 (164 + a2)).toNat = 1 then some (1, s) else some (0, s))) else (if s.1 251 (w32 (226 + (w32 (4 * a1)))).toNat = 66 then (inR (w32 (164 + a2)) 466 (if s.1 251 (w32 (164 + a2)).toNat = 2 then some (1, s) else some (0, s))) else (if s.1 251 (w32 (226 + (w32 (4 * a1)))).toNat = 67 then (inR (w32 (164 + a2)) 466 (if s.1 251 (w32 (164 + a2)).toNat = 3 then some (1, s) else some (0, s))) else (if s.1 251 (w32 (226 + (w32 (4 * a1)))).toNat = 68 then (inR (w32 (176 + a2)) 466 (if s.1 251 (w32 (176 + a2)).toNat = s.1 251 (w32 ((w32 (226 + (w32 (4 * a1)))) + 1)).toNat then some (1, s) else some (0, s))) else (if s.1 251 (w32 (226 + (w32 (4 * a1)))).toNat = 69 then (inR (w32 (53 + a2)) 466 ((f_R_has m (s.1 251 (w32 (53 + a2)).toNat) (s.1 251 (w32 ((w32 (226 + (w32 (4 * a1)))) + 1)).toNat) s).bind fun p0 => (if p0.1 = 0 ∨ p0.1 = 1 then some (p0.1, p0.2) else none))) else (inR (w32 (226 + (w32 (4 * a1)))) 466 (if w32 ((s.1 251 (w32 (226 + (w32 (4 * a1)))).toNat) - 50) = 20 then (inR (w32 (29 + a2)) 466 (l_R_holds_L370 m d m (w32 (226 + (w32 (4 * a1)))) (s.1 251 (w32 ((w32 (226 + (w32 (4 * a1)))) + 2)).toNat) (s.1 251 (w32 (29 + a2)).toNat) s)) else (if w32 ((s.1 251 (w32 (226 + (w32 (4 * a1)))).toNat) - 50) = 21 then (inR (w32 (200 + a2)) 466 (l_R_holds_L370 m d m (w32 (226 + (w32 (4 * a1)))) (s.1 251 (w32 ((w32 (226 + (w32 (4 * a1)))) + 2)).toNat) (s.1 251 (w32 (200 + a2)).toNat) s)) else (if w32 ((s.1 251 (w32 (226 + (w32 (4 * a1)))).toNat) - 50) = 22 then (inR (w32 (212 + a2)) 466 (l_R_holds_L370 m d m (w32 (226 + (w32 (4 * a1)))) (s.1 251 (w32 ((w32 (226 + (w32 (4 * a1)))) + 2)).toNat) (s.1 251 (w32 (212 + a2)).toNat) s)) else (l_R_holds_L370 m d m (w32 (226 + (w32 (4 * a1)))) (s.1 251 (w32 ((w32 (226 + (w32 (4 * a1)))) + 2)).toNat) a2 s))))))))))))))))) := rfl
set_option maxRecDepth 100000 in
set_option maxHeartbeats 1000000 in
theorem l_R_holds_L370_eq (m : Nat) (d : Nat) (n : Nat) (x3 : Int) (x5 : Int) (y0 : Int) (s : mS) : l_R_holds_L370 m d (n + 1) x3 x5 y0 s = (inR (w32 (x3 + 3)) 466 (if s.1 251 (w32 (x3 + 3)).toNat = 60 then (if y0 < x5 then some (1, s) else some (0, s)) else (inR (w32 (x3 + 3)) 466 (if s.1 251 (w32 (x3 + 3)).toNat = 61 then (if y0 = x5 then some (1, s) else some (0, s)) else (if x5 < y0 then some (1, s) else some (0, s)))))) := rfl
set_option maxRecDepth 100000 in
set_option maxHeartbeats 1000000 in
theorem f_R_said_eq (m : Nat) (a1 : Int) (s : mS) : f_R_said m a1 s = (if (wI s 249 0 0).1 251 224 = 0 then some ((-1), wI s 249 0 0) else (l_R_said_L22 m m a1 0 0 (wI s 249 0 0))) := rfl
set_option maxRecDepth 100000 in
set_option maxHeartbeats 1000000 in
theorem l_R_said_L22_eq (m : Nat) (n : Nat) (x1 : Int) (x2 : Int) (x3 : Int) (s : mS) : l_R_said_L22 m (n + 1) x1 x2 x3 s = (if x3 < s.1 251 2 then ((f_R_holds m 64 (s.1 251 225) x3 s).bind fun p0 => (if p0.1 = 0 then (l_R_said_L22 m n x1 x2 (w32 (x3 + 1)) p0.2) else (if x2 = x1 then some (x3, p0.2) else (l_R_said_L22 m n x1 (w32 (x2 + 1)) (w32 (x3 + 1)) p0.2)))) else (if x1 = (-1) then some (x2, s) else some ((-1), s))) := rfl
set_option maxRecDepth 100000 in
set_option maxHeartbeats 1000000 in
theorem f_R_image_eq (m : Nat) (a1 : Int) (s : mS) : f_R_image m a1 s = ((f_R_isIn m a1 0 1 (wI s 249 0 0)).bind fun p0 => (if p0.1 = 0 then some (0, p0.2) else (l_R_image_L18 m m a1 0 p0.2))) := rfl
set_option maxRecDepth 100000 in
set_option maxHeartbeats 1000000 in
theorem l_R_image_L18_eq (m : Nat) (n : Nat) (x1 : Int) (x2 : Int) (s : mS) : l_R_image_L18 m (n + 1) x1 x2 s = (if x2 < 466 then (inR x2 466 (inR (w32 ((w32 (466 * x1)) + x2)) 932 (l_R_image_L18 m n x1 (w32 (x2 + 1)) (wI s 253 (w32 ((w32 (466 * x1)) + x2)).toNat (s.1 251 x2.toNat))))) else (l_R_image_L51 m n x1 0 s)) := rfl
set_option maxRecDepth 100000 in
set_option maxHeartbeats 1000000 in
theorem l_R_image_L51_eq (m : Nat) (n : Nat) (x1 : Int) (x2 : Int) (s : mS) : l_R_image_L51 m (n + 1) x1 x2 s = (if x2 < 26 then (inR x2 26 (inR (w32 ((w32 (26 * x1)) + x2)) 52 (l_R_image_L51 m n x1 (w32 (x2 + 1)) (wJ s 259 (w32 ((w32 (26 * x1)) + x2)).toNat (s.2 257 x2.toNat))))) else (inR x1 2 some (1, wI s 260 x1.toNat 1))) := rfl
set_option maxRecDepth 100000 in
set_option maxHeartbeats 1000000 in
theorem f_R_restore_eq (m : Nat) (a1 : Int) (s : mS) : f_R_restore m a1 s = ((f_R_isIn m a1 0 1 (wI s 249 0 0)).bind fun p0 => (if p0.1 = 0 then some (0, p0.2) else (inR a1 2 (if p0.2.1 260 a1.toNat = 0 then some (0, p0.2) else (l_R_restore_L27 m m a1 0 p0.2))))) := rfl
set_option maxRecDepth 100000 in
set_option maxHeartbeats 1000000 in
theorem l_R_restore_L27_eq (m : Nat) (n : Nat) (x1 : Int) (x2 : Int) (s : mS) : l_R_restore_L27 m (n + 1) x1 x2 s = (if x2 < 466 then (inR (w32 ((w32 (466 * x1)) + x2)) 932 (inR x2 466 (l_R_restore_L27 m n x1 (w32 (x2 + 1)) (wI s 251 x2.toNat (s.1 253 (w32 ((w32 (466 * x1)) + x2)).toNat))))) else (l_R_restore_L60 m n x1 0 s)) := rfl
set_option maxRecDepth 100000 in
set_option maxHeartbeats 1000000 in
theorem l_R_restore_L60_eq (m : Nat) (n : Nat) (x1 : Int) (x2 : Int) (s : mS) : l_R_restore_L60 m (n + 1) x1 x2 s = (if x2 < 26 then (inR (w32 ((w32 (26 * x1)) + x2)) 52 (inR x2 26 (l_R_restore_L60 m n x1 (w32 (x2 + 1)) (wJ s 257 x2.toNat (s.2 259 (w32 ((w32 (26 * x1)) + x2)).toNat))))) else some (1, wI s 249 25 0)) := rfl
set_option maxRecDepth 100000 in
set_option maxHeartbeats 1000000 in
theorem f_R_count_eq (m : Nat) (a1 : Int) (s : mS) : f_R_count m a1 s = (if a1 = 0 then some ((wI s 249 0 0).1 251 0, wI s 249 0 0) else (if a1 = 1 then some ((wI s 249 0 0).1 251 1, wI s 249 0 0) else (if a1 = 2 then some ((wI s 249 0 0).1 251 2, wI s 249 0 0) else (if a1 = 3 then some ((wI s 249 0 0).1 251 3, wI s 249 0 0) else (if a1 = 4 then some ((wI s 249 0 0).1 251 4, wI s 249 0 0) else (if a1 = 5 then some ((wI s 249 0 0).1 251 5, wI s 249 0 0) else (if a1 = 6 then some ((wI s 249 0 0).1 249 2, wI s 249 0 0) else some ((-1), wI s 249 0 0)))))))) := rfl
