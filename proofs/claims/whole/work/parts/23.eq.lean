/-! ===== written by gen_fun.py: do not edit ===== -/
set_option maxRecDepth 100000 in
set_option maxHeartbeats 1000000 in
theorem f_Bk_readLine_eq (m : Nat) (s : mS) : f_Bk_readLine m s = ((f_Bk_actOf m s).bind fun p0 => (if p0.1 = (-1) then ((f_Tp_fail m 1 p0.2).bind fun p1 => (if p1.1 = 0 ∨ p1.1 = 1 then some (p1.1, p1.2) else none)) else (if p0.2.1 237 0 < 40 then ((f_Tp_advance m p0.2).bind fun p1 => (inR (p1.2.1 237 0) 40 (if p0.1 = 4 then ((f_Tp_takeNumber m 1 60 (wI p1.2 238 (p1.2.1 237 0).toNat p0.1)).bind fun p2 => (inR ((wI p1.2 238 (p1.2.1 237 0).toNat p0.1).1 237 0) 40 (inR ((wI p2.2 239 ((wI p1.2 238 (p1.2.1 237 0).toNat p0.1).1 237 0).toNat p2.1).1 237 0) 40 (if (wI p2.2 239 ((wI p1.2 238 (p1.2.1 237 0).toNat p0.1).1 237 0).toNat p2.1).1 239 ((wI p2.2 239 ((wI p1.2 238 (p1.2.1 237 0).toNat p0.1).1 237 0).toNat p2.1).1 237 0).toNat = (-1) then some (0, wI p2.2 239 ((wI p1.2 238 (p1.2.1 237 0).toNat p0.1).1 237 0).toNat p2.1) else some (1, wI p2.2 239 ((wI p1.2 238 (p1.2.1 237 0).toNat p0.1).1 237 0).toNat p2.1))))) else (if p0.1 = 3 then ((f_Vs_takeBox_4_1 m (wI p1.2 238 (p1.2.1 237 0).toNat p0.1)).bind fun p2 => (l_Bk_readLine_L111 m m p0.1 ((wI p1.2 238 (p1.2.1 237 0).toNat p0.1).1 237 0) p2.1 p2.2)) else ((f_Vs_takeDead_4_1 m (wI p1.2 238 (p1.2.1 237 0).toNat p0.1)).bind fun p2 => (l_Bk_readLine_L111 m m p0.1 ((wI p1.2 238 (p1.2.1 237 0).toNat p0.1).1 237 0) p2.1 p2.2)))))) else ((f_Tp_fail m 4 p0.2).bind fun p1 => (if p1.1 = 0 ∨ p1.1 = 1 then some (p1.1, p1.2) else none))))) := rfl
set_option maxRecDepth 100000 in
set_option maxHeartbeats 1000000 in
theorem l_Bk_readLine_L111_eq (m : Nat) (n : Nat) (x3 : Int) (y1 : Int) (y2 : Int) (s : mS) : l_Bk_readLine_L111 m (n + 1) x3 y1 y2 s = (inR y1 40 (inR ((wI s 239 y1.toNat y2).1 237 0) 40 (if (wI s 239 y1.toNat y2).1 239 ((wI s 239 y1.toNat y2).1 237 0).toNat = (-1) then (inR ((wI s 239 y1.toNat y2).1 237 0) 40 (if (wI s 239 y1.toNat y2).1 239 ((wI s 239 y1.toNat y2).1 237 0).toNat = (-1) then some (0, wI s 239 y1.toNat y2) else some (1, wI s 239 y1.toNat y2))) else (if x3 = 3 then (inR ((wI s 239 y1.toNat y2).1 237 0) 40 (if (wI s 239 y1.toNat y2).1 239 ((wI s 239 y1.toNat y2).1 237 0).toNat = (-1) then some (0, wI s 239 y1.toNat y2) else some (1, wI s 239 y1.toNat y2))) else (if x3 = 2 then ((f_Bk_readOther m (wI s 239 y1.toNat y2)).bind fun p0 => (if p0.1 = 0 ∨ p0.1 = 1 then some (p0.1, p0.2) else none)) else (if x3 = 0 then ((f_Vs_takeBox_4_1 m (wI s 239 y1.toNat y2)).bind fun p0 => (inR ((wI s 239 y1.toNat y2).1 237 0) 40 (inR ((wI p0.2 240 ((wI s 239 y1.toNat y2).1 237 0).toNat p0.1).1 237 0) 40 (if (wI p0.2 240 ((wI s 239 y1.toNat y2).1 237 0).toNat p0.1).1 240 ((wI p0.2 240 ((wI s 239 y1.toNat y2).1 237 0).toNat p0.1).1 237 0).toNat = (-1) then some (0, wI p0.2 240 ((wI s 239 y1.toNat y2).1 237 0).toNat p0.1) else some (1, wI p0.2 240 ((wI s 239 y1.toNat y2).1 237 0).toNat p0.1))))) else ((f_Vs_takePlot m (wI s 239 y1.toNat y2)).bind fun p0 => (inR ((wI s 239 y1.toNat y2).1 237 0) 40 (inR ((wI p0.2 240 ((wI s 239 y1.toNat y2).1 237 0).toNat p0.1).1 237 0) 40 (if (wI p0.2 240 ((wI s 239 y1.toNat y2).1 237 0).toNat p0.1).1 240 ((wI p0.2 240 ((wI s 239 y1.toNat y2).1 237 0).toNat p0.1).1 237 0).toNat = (-1) then some (0, wI p0.2 240 ((wI s 239 y1.toNat y2).1 237 0).toNat p0.1) else some (1, wI p0.2 240 ((wI s 239 y1.toNat y2).1 237 0).toNat p0.1))))))))))) := rfl
set_option maxRecDepth 100000 in
set_option maxHeartbeats 1000000 in
theorem f_Bk_readFrom_eq (m : Nat) (s : mS) : f_Bk_readFrom m s = (l_Bk_readFrom_L7 m m 0 (wI s 237 0 0)) := rfl
set_option maxRecDepth 100000 in
set_option maxHeartbeats 1000000 in
theorem l_Bk_readFrom_L7_eq (m : Nat) (n : Nat) (x3 : Int) (s : mS) : l_Bk_readFrom_L7 m (n + 1) x3 s = (if x3 < 940 then (if s.1 1 2 = 0 then some (0, s) else ((f_Bk_readLine m s).bind fun p0 => (if p0.1 = 0 then some (0, p0.2) else ((f_Tp_takeSign m 59 p0.2).bind fun p1 => (if p1.1 = 0 then some (0, p1.2) else (l_Bk_readFrom_L7 m n (w32 (x3 + 1)) (wI p1.2 237 0 (w32 ((p1.2.1 237 0) + 1))))))))) else some (0, s)) := rfl
set_option maxRecDepth 100000 in
set_option maxHeartbeats 1000000 in
theorem f_Bk_liveAct_eq (m : Nat) (a1 : Int) (s : mS) : f_Bk_liveAct m a1 s = (inR a1 40 (if s.1 238 a1.toNat = 0 then (inR a1 40 (inR a1 40 ((f_St_lendHim_206_4 m (s.1 239 a1.toNat) (s.1 240 a1.toNat) s).bind fun p0 => some (p0.1, p0.2)))) else (if s.1 238 a1.toNat = 1 then (inR a1 40 (inR a1 40 ((f_St_layHim_206_4 m (s.1 239 a1.toNat) (s.1 240 a1.toNat) s).bind fun p0 => some (p0.1, p0.2)))) else (if s.1 238 a1.toNat = 2 then (inR a1 40 (inR a1 40 ((f_St_swapThem_206_4 m (s.1 239 a1.toNat) (s.1 240 a1.toNat) s).bind fun p0 => some (p0.1, p0.2)))) else (if s.1 238 a1.toNat = 3 then (inR a1 40 ((f_St_mendIt_206 m (s.1 239 a1.toNat) s).bind fun p0 => some (p0.1, p0.2))) else (inR a1 40 (if 400 < w32 ((s.1 206 0) + (s.1 239 a1.toNat)) then some (1, s) else (inR a1 40 ((f_St_passDays_206_4 m (s.1 239 a1.toNat) s).bind fun p0 => some (0, p0.2)))))))))) := rfl
set_option maxRecDepth 100000 in
set_option maxHeartbeats 1000000 in
theorem f_Bk_liveLine_eq (m : Nat) (a1 : Int) (s : mS) : f_Bk_liveLine m a1 s = (if a1 < 0 then some (0, s) else (if a1 < s.1 237 0 then ((f_Bk_liveAct m a1 s).bind fun p0 => (if p0.1 = 0 then some (0, p0.2) else (inR a1 40 some (w32 ((w32 (10 * (p0.2.1 238 a1.toNat))) + p0.1), p0.2)))) else some (0, s))) := rfl
set_option maxRecDepth 100000 in
set_option maxHeartbeats 1000000 in
theorem f_X_judge_eq (m : Nat) (s : mS) : f_X_judge m s = (l_X_judge_L4 m m 0 0 s) := rfl
set_option maxRecDepth 100000 in
set_option maxHeartbeats 1000000 in
theorem l_X_judge_L4_eq (m : Nat) (n : Nat) (x1 : Int) (x2 : Int) (s : mS) : l_X_judge_L4 m (n + 1) x1 x2 s = (if x2 < s.1 237 0 then (if x1 = 0 then ((f_Bk_liveLine m x2 s).bind fun p0 => (if p0.1 = 0 then (l_X_judge_L4 m n p0.1 (w32 (x2 + 1)) p0.2) else (l_X_judge_L4 m n p0.1 x2 p0.2))) else (l_X_judge_L49 m n x1 x2 s)) else (l_X_judge_L49 m n x1 x2 s)) := rfl
set_option maxRecDepth 100000 in
set_option maxHeartbeats 1000000 in
theorem l_X_judge_L49_eq (m : Nat) (n : Nat) (x1 : Int) (x2 : Int) (s : mS) : l_X_judge_L49 m (n + 1) x1 x2 s = ((f_St_bitsOf_206_4 m 3 (wI (wI (wI s 248 0 x1) 248 1 x2) 248 2 ((wI (wI s 248 0 x1) 248 1 x2).1 206 0))).bind fun p0 => some (x2, wI (wI p0.2 248 3 p0.1) 0 18 1)) := rfl
set_option maxRecDepth 100000 in
set_option maxHeartbeats 1000000 in
theorem f_X_book_eq (m : Nat) (a1 : Int) (s : mS) : f_X_book m a1 s = (if a1 < 0 then some ((-1000), s) else (if 1 < a1 then some ((-1000), s) else ((f_Tp_open m 400 s).bind fun p0 => ((f_Bk_readFrom m p0.2).bind fun p1 => (if (wI p1.2 0 13 (p1.2.1 1 6)).1 0 13 = 0 then ((f_St_copyOf_206_17 m (wI p1.2 0 13 (p1.2.1 1 6))).bind fun p2 => ((f_X_judge m p2.2).bind fun p3 => (if a1 = 1 then (if 0 < p3.1 then ((f_Ps_keep_100_17 m p3.2).bind fun p4 => ((f_St_copyOf_17_206 m p4.2).bind fun p5 => (if p3.1 < p5.2.1 237 0 then some (p3.1, p5.2) else some ((-1), p5.2)))) else (if p3.1 < p3.2.1 237 0 then some (p3.1, p3.2) else some ((-1), p3.2))) else (if p3.1 < p3.2.1 237 0 then some (p3.1, p3.2) else some ((-1), p3.2))))) else some (w32 ((-2) - ((wI p1.2 0 13 (p1.2.1 1 6)).1 1 7)), wI p1.2 0 13 (p1.2.1 1 6))))))) := rfl
set_option maxRecDepth 100000 in
set_option maxHeartbeats 1000000 in
theorem f_X_told_eq (m : Nat) (a1 : Int) (s : mS) : f_X_told m a1 s = (if s.1 0 18 = 0 then some ((-1), s) else (if a1 < 0 then some ((-1), s) else (if a1 < 4 then (inR a1 4 some (s.1 248 a1.toNat, s)) else some ((-1), s)))) := rfl
set_option maxRecDepth 100000 in
set_option maxHeartbeats 1000000 in
theorem f_Sn_beginsOne_eq (m : Nat) (q0 : Option Nat) (s : mS) : f_Sn_beginsOne m q0 s = (if q0 = none then some (0, s) else (onS q0 fun t0 => (if gIn 1 t0 = true then ((f_Je_ordinal m t0 s).bind fun p1 => (inR p1.1 24 (if swM p1.1.toNat = 4 then some (1, p1.2) else (if swM p1.1.toNat = 5 then some (0, p1.2) else (if swM p1.1.toNat = 6 then some (0, p1.2) else (if swM p1.1.toNat = 7 then some (0, p1.2) else (if swM p1.1.toNat = 8 then some (0, p1.2) else (if swM p1.1.toNat = 9 then some (0, p1.2) else (if swM p1.1.toNat = 10 then some (0, p1.2) else (if swM p1.1.toNat = 11 then some (0, p1.2) else (if swM p1.1.toNat = 12 then some (0, p1.2) else (if swM p1.1.toNat = 13 then some (1, p1.2) else (if swM p1.1.toNat = 14 then some (1, p1.2) else (if swM p1.1.toNat = 15 then some (1, p1.2) else (if swM p1.1.toNat = 16 then some (1, p1.2) else (if swM p1.1.toNat = 17 then some (1, p1.2) else (if swM p1.1.toNat = 18 then some (1, p1.2) else (if swM p1.1.toNat = 19 then some (1, p1.2) else (if swM p1.1.toNat = 20 then some (1, p1.2) else (if swM p1.1.toNat = 21 then some (1, p1.2) else (if swM p1.1.toNat = 22 then some (1, p1.2) else some (0, p1.2)))))))))))))))))))))) else none))) := rfl
set_option maxRecDepth 100000 in
set_option maxHeartbeats 1000000 in
theorem f_Sn_put_eq (m : Nat) (a1 : Int) (a2 : Int) (a3 : Int) (s : mS) : f_Sn_put m a1 a2 a3 s = (if s.1 232 1 < 40 then (inR (s.1 232 1) 40 (inR ((wI s 233 (s.1 232 1).toNat a1).1 232 1) 40 (inR ((wI (wI s 233 (s.1 232 1).toNat a1) 234 ((wI s 233 (s.1 232 1).toNat a1).1 232 1).toNat a2).1 232 1) 40 some (1, wI (wI (wI (wI s 233 (s.1 232 1).toNat a1) 234 ((wI s 233 (s.1 232 1).toNat a1).1 232 1).toNat a2) 235 ((wI (wI s 233 (s.1 232 1).toNat a1) 234 ((wI s 233 (s.1 232 1).toNat a1).1 232 1).toNat a2).1 232 1).toNat a3) 232 1 (w32 (((wI (wI (wI s 233 (s.1 232 1).toNat a1) 234 ((wI s 233 (s.1 232 1).toNat a1).1 232 1).toNat a2) 235 ((wI (wI s 233 (s.1 232 1).toNat a1) 234 ((wI s 233 (s.1 232 1).toNat a1).1 232 1).toNat a2).1 232 1).toNat a3).1 232 1) + 1)))))) else some (1, s)) := rfl
set_option maxRecDepth 100000 in
set_option maxHeartbeats 1000000 in
theorem f_Sn_partOf_eq (m : Nat) (q0 : Option Nat) (s : mS) : f_Sn_partOf m q0 s = (bsel (refOk q0 && refOk (some 1019)) (if q0 = (some 1019) then some (4, s) else (bsel (refOk q0 && refOk (some 1003)) (if q0 = (some 1003) then some (5, s) else (bsel (refOk q0 && refOk (some 1020)) (if q0 = (some 1020) then some (6, s) else (bsel (refOk q0 && refOk (some 1021)) (if q0 = (some 1021) then some (7, s) else (bsel (refOk q0 && refOk (some 1022)) (if q0 = (some 1022) then some (8, s) else (bsel (refOk q0 && refOk (some 1023)) (if q0 = (some 1023) then some (9, s) else some (3, s)) none)) none)) none)) none)) none)) none) := rfl
set_option maxRecDepth 100000 in
set_option maxHeartbeats 1000000 in
theorem f_Sn_howOf_eq (m : Nat) (q0 : Option Nat) (s : mS) : f_Sn_howOf m q0 s = (bsel (refOk q0 && refOk (some 1015)) (if q0 = (some 1015) then some (0, s) else (bsel (refOk q0 && refOk (some 1016)) (if q0 = (some 1016) then some (1, s) else (bsel (refOk q0 && refOk (some 1017)) (if q0 = (some 1017) then some (2, s) else some (3, s)) none)) none)) none) := rfl
set_option maxRecDepth 100000 in
set_option maxHeartbeats 1000000 in
theorem f_Sn_readPlain_eq (m : Nat) (q1 : Option Nat) (s : mS) : f_Sn_readPlain m q1 s = ((f_Sn_partOf m q1 s).bind fun p0 => (if p0.1 = 3 then ((f_Sn_howOf m q1 p0.2).bind fun p1 => ((f_Sn_put m 3 0 p1.1 p1.2).bind fun p2 => (if p2.1 = 0 ∨ p2.1 = 1 then some (p2.1, p2.2) else none))) else (if p0.1 = 4 then (l_Sn_readPlain_L35 m m p0.1 p0.2) else (if p0.1 = 5 then (l_Sn_readPlain_L35 m m p0.1 p0.2) else (if p0.2.1 1 2 = 60 then ((f_Tp_advance m p0.2).bind fun p1 => ((f_Tp_takeNumber m 0 999 p1.2).bind fun p2 => (if p2.1 = (-1) then some (0, p2.2) else ((f_Sn_put m p0.1 (p0.2.1 1 2) p2.1 p2.2).bind fun p3 => (if p3.1 = 0 then some (0, p3.2) else some (1, p3.2)))))) else (if p0.2.1 1 2 = 61 then ((f_Tp_advance m p0.2).bind fun p1 => ((f_Tp_takeNumber m 0 999 p1.2).bind fun p2 => (if p2.1 = (-1) then some (0, p2.2) else ((f_Sn_put m p0.1 (p0.2.1 1 2) p2.1 p2.2).bind fun p3 => (if p3.1 = 0 then some (0, p3.2) else some (1, p3.2)))))) else (if p0.2.1 1 2 = 62 then ((f_Tp_advance m p0.2).bind fun p1 => ((f_Tp_takeNumber m 0 999 p1.2).bind fun p2 => (if p2.1 = (-1) then some (0, p2.2) else ((f_Sn_put m p0.1 (p0.2.1 1 2) p2.1 p2.2).bind fun p3 => (if p3.1 = 0 then some (0, p3.2) else some (1, p3.2)))))) else ((f_Tp_fail m 1 p0.2).bind fun p1 => (if p1.1 = 0 ∨ p1.1 = 1 then some (p1.1, p1.2) else none))))))))) := rfl
set_option maxRecDepth 100000 in
set_option maxHeartbeats 1000000 in
theorem l_Sn_readPlain_L35_eq (m : Nat) (n : Nat) (x4 : Int) (s : mS) : l_Sn_readPlain_L35 m (n + 1) x4 s = (if x4 = 4 then ((f_Vs_takeBox_4_1 m s).bind fun p0 => (if p0.1 = (-1) then some (0, p0.2) else ((f_Sn_put m x4 0 p0.1 p0.2).bind fun p1 => (if p1.1 = 0 then some (0, p1.2) else some (1, p1.2))))) else ((f_Vs_takeDead_4_1 m s).bind fun p0 => (if p0.1 = (-1) then some (0, p0.2) else ((f_Sn_put m x4 0 p0.1 p0.2).bind fun p1 => (if p1.1 = 0 then some (0, p1.2) else some (1, p1.2)))))) := rfl
set_option maxRecDepth 100000 in
set_option maxHeartbeats 1000000 in
theorem f_Tp_isWord_1_1013_eq (m : Nat) (s : mS) : f_Tp_isWord_1_1013 m s = (bsel (refOk (encW (s.1 1 3)) && refOk (some 1013)) (if (encW (s.1 1 3)) = (some 1013) then some (1, s) else some (0, s)) none) := rfl
set_option maxRecDepth 100000 in
set_option maxHeartbeats 1000000 in
theorem f_Tp_isWord_1_1012_eq (m : Nat) (s : mS) : f_Tp_isWord_1_1012 m s = (bsel (refOk (encW (s.1 1 3)) && refOk (some 1012)) (if (encW (s.1 1 3)) = (some 1012) then some (1, s) else some (0, s)) none) := rfl
set_option maxRecDepth 100000 in
set_option maxHeartbeats 1000000 in
theorem f_Sn_readCond_eq (m : Nat) (d : Nat) (a3 : Int) (s : mS) : f_Sn_readCond m (d + 1) a3 s = ((f_Sn_readEach m d a3 s).bind fun p0 => (if p0.1 = 0 then some (0, p0.2) else (l_Sn_readCond_L15 m d m a3 0 p0.2))) := rfl
set_option maxRecDepth 100000 in
set_option maxHeartbeats 1000000 in
theorem l_Sn_readCond_L15_eq (m : Nat) (d : Nat) (n : Nat) (x3 : Int) (x4 : Int) (s : mS) : l_Sn_readCond_L15 m d (n + 1) x3 x4 s = (if x4 < 20 then ((f_Tp_isWord_1_1012 m s).bind fun p0 => (if p0.1 = 0 then some (1, p0.2) else ((f_Tp_advance m p0.2).bind fun p1 => ((f_Sn_readEach m d x3 p1.2).bind fun p2 => (if p2.1 = 0 then some (0, p2.2) else ((f_Sn_put m 2 0 0 p2.2).bind fun p3 => (if p3.1 = 0 then some (0, p3.2) else (l_Sn_readCond_L15 m d n x3 (w32 (x4 + 1)) p3.2)))))))) else some (1, s)) := rfl
set_option maxRecDepth 100000 in
set_option maxHeartbeats 1000000 in
theorem f_Sn_readEach_eq (m : Nat) (d : Nat) (a3 : Int) (s : mS) : f_Sn_readEach m (d + 1) a3 s = ((f_Sn_readOne m d a3 s).bind fun p0 => (if p0.1 = 0 then some (0, p0.2) else (l_Sn_readEach_L15 m d m a3 0 p0.2))) := rfl
set_option maxRecDepth 100000 in
set_option maxHeartbeats 1000000 in
theorem l_Sn_readEach_L15_eq (m : Nat) (d : Nat) (n : Nat) (x3 : Int) (x4 : Int) (s : mS) : l_Sn_readEach_L15 m d (n + 1) x3 x4 s = (if x4 < 20 then ((f_Tp_isWord_1_1013 m s).bind fun p0 => (if p0.1 = 0 then some (1, p0.2) else ((f_Tp_advance m p0.2).bind fun p1 => ((f_Sn_readOne m d x3 p1.2).bind fun p2 => (if p2.1 = 0 then some (0, p2.2) else ((f_Sn_put m 1 0 0 p2.2).bind fun p3 => (if p3.1 = 0 then some (0, p3.2) else (l_Sn_readEach_L15 m d n x3 (w32 (x4 + 1)) p3.2)))))))) else some (1, s)) := rfl
set_option maxRecDepth 100000 in
set_option maxHeartbeats 1000000 in
theorem f_Sn_readOne_eq (m : Nat) (d : Nat) (a3 : Int) (s : mS) : f_Sn_readOne m (d + 1) a3 s = (if s.1 1 2 = 40 then (l_Sn_readOne_L41 m d m a3 (encW (s.1 1 3)) 1 s) else ((f_Sn_beginsOne m (encW (s.1 1 3)) s).bind fun p0 => (if p0.1 = 0 then ((f_Tp_fail m 1 p0.2).bind fun p1 => (if p1.1 = 0 ∨ p1.1 = 1 then some (p1.1, p1.2) else none)) else (l_Sn_readOne_L41 m d m a3 (encW (s.1 1 3)) 0 p0.2)))) := rfl
set_option maxRecDepth 100000 in
set_option maxHeartbeats 1000000 in
theorem l_Sn_readOne_L41_eq (m : Nat) (d : Nat) (n : Nat) (x3 : Int) (q4 : Option Nat) (x5 : Int) (s : mS) : l_Sn_readOne_L41 m d (n + 1) x3 q4 x5 s = (if s.1 232 0 < 20 then (if 8 < x3 then ((f_Tp_fail m 4 s).bind fun p0 => (if p0.1 = 0 ∨ p0.1 = 1 then some (p0.1, p0.2) else none)) else ((f_Tp_advance m (wI s 232 0 (w32 ((s.1 232 0) + 1)))).bind fun p0 => (if x5 = 0 then (bsel (refOk q4 && refOk (some 1014)) (if q4 = (some 1014) then ((f_Sn_readOne m d (w32 (x3 + 1)) p0.2).bind fun p1 => (if p1.1 = 0 then some (0, p1.2) else ((f_Sn_put m 0 0 0 p1.2).bind fun p2 => (if p2.1 = 0 then some (0, p2.2) else some (1, p2.2))))) else ((f_Sn_readPlain m q4 p0.2).bind fun p1 => (if p1.1 = 0 ∨ p1.1 = 1 then some (p1.1, p1.2) else none))) none) else ((f_Sn_readCond m d (w32 (x3 + 1)) p0.2).bind fun p1 => (if p1.1 = 0 then some (0, p1.2) else ((f_Tp_takeSign m 41 p1.2).bind fun p2 => (if p2.1 = 0 then some (0, p2.2) else some (1, p2.2)))))))) else ((f_Tp_fail m 4 s).bind fun p0 => (if p0.1 = 0 ∨ p0.1 = 1 then some (p0.1, p0.2) else none))) := rfl
set_option maxRecDepth 100000 in
set_option maxHeartbeats 1000000 in
theorem f_Sn_copyOf_30_232_eq (m : Nat) (s : mS) : f_Sn_copyOf_30_232 m s = some (0, cpyI (cpyI (cpyI (wI (wI s 30 0 (s.1 232 0)) 30 1 ((wI s 30 0 (s.1 232 0)).1 232 1)) 233 0 31 0 40) 234 0 32 0 40) 235 0 33 0 40) := rfl
set_option maxRecDepth 100000 in
set_option maxHeartbeats 1000000 in
theorem f_Sn_copyOf_63_30_eq (m : Nat) (s : mS) : f_Sn_copyOf_63_30 m s = some (0, cpyI (cpyI (cpyI (wI (wI s 63 0 (s.1 30 0)) 63 1 ((wI s 63 0 (s.1 30 0)).1 30 1)) 31 0 64 0 40) 32 0 65 0 40) 33 0 66 0 40) := rfl
set_option maxRecDepth 100000 in
set_option maxHeartbeats 1000000 in
theorem f_Sn_copyOf_95_30_eq (m : Nat) (s : mS) : f_Sn_copyOf_95_30 m s = some (0, cpyI (cpyI (cpyI (wI (wI s 95 0 (s.1 30 0)) 95 1 ((wI s 95 0 (s.1 30 0)).1 30 1)) 31 0 96 0 40) 32 0 97 0 40) 33 0 98 0 40) := rfl
set_option maxRecDepth 100000 in
set_option maxHeartbeats 1000000 in
theorem f_Sn_copyOf_30_63_eq (m : Nat) (s : mS) : f_Sn_copyOf_30_63 m s = some (0, cpyI (cpyI (cpyI (wI (wI s 30 0 (s.1 63 0)) 30 1 ((wI s 30 0 (s.1 63 0)).1 63 1)) 64 0 31 0 40) 65 0 32 0 40) 66 0 33 0 40) := rfl
set_option maxRecDepth 100000 in
set_option maxHeartbeats 1000000 in
theorem f_Sn_copyOf_30_95_eq (m : Nat) (s : mS) : f_Sn_copyOf_30_95 m s = some (0, cpyI (cpyI (cpyI (wI (wI s 30 0 (s.1 95 0)) 30 1 ((wI s 30 0 (s.1 95 0)).1 95 1)) 96 0 31 0 40) 97 0 32 0 40) 98 0 33 0 40) := rfl
set_option maxRecDepth 100000 in
set_option maxHeartbeats 1000000 in
theorem f_X_sentence_eq (m : Nat) (s : mS) : f_X_sentence m s = ((f_Tp_open m 200 s).bind fun p0 => ((f_Sn_wipe_232 m p0.2).bind fun p1 => ((f_Sn_readCond m 64 1 p1.2).bind fun p2 => (if p2.1 = 0 then (if (wI p2.2 0 13 (p2.2.1 1 6)).1 0 13 = 0 then ((f_Sn_copyOf_30_232 m (wI p2.2 0 13 (p2.2.1 1 6))).bind fun p3 => some (p3.2.1 30 0, p3.2)) else some (w32 ((-1) - ((wI p2.2 0 13 (p2.2.1 1 6)).1 1 7)), wI p2.2 0 13 (p2.2.1 1 6))) else (if p2.2.1 1 2 = 0 then (if (wI p2.2 0 13 (p2.2.1 1 6)).1 0 13 = 0 then ((f_Sn_copyOf_30_232 m (wI p2.2 0 13 (p2.2.1 1 6))).bind fun p3 => some (p3.2.1 30 0, p3.2)) else some (w32 ((-1) - ((wI p2.2 0 13 (p2.2.1 1 6)).1 1 7)), wI p2.2 0 13 (p2.2.1 1 6))) else ((f_Tp_fail m 1 p2.2).bind fun p3 => (if (wI p3.2 0 13 (p3.2.1 1 6)).1 0 13 = 0 then ((f_Sn_copyOf_30_232 m (wI p3.2 0 13 (p3.2.1 1 6))).bind fun p4 => some (p4.2.1 30 0, p4.2)) else some (w32 ((-1) - ((wI p3.2 0 13 (p3.2.1 1 6)).1 1 7)), wI p3.2 0 13 (p3.2.1 1 6))))))))) := rfl
set_option maxRecDepth 100000 in
set_option maxHeartbeats 1000000 in
theorem f_Sn_compares_eq (m : Nat) (a1 : Int) (a2 : Int) (s : mS) : f_Sn_compares m a1 a2 s = (inR a2 40 (if s.1 32 a2.toNat = 60 then (inR a2 40 (if a1 < s.1 33 a2.toNat then some (1, s) else some (0, s))) else (inR a2 40 (if s.1 32 a2.toNat = 61 then (inR a2 40 (if a1 = s.1 33 a2.toNat then some (1, s) else some (0, s))) else (inR a2 40 (if s.1 33 a2.toNat < a1 then some (1, s) else some (0, s))))))) := rfl
set_option maxRecDepth 100000 in
set_option maxHeartbeats 1000000 in
theorem f_Sn_isSo_eq (m : Nat) (a1 : Int) (a2 : Int) (s : mS) : f_Sn_isSo m a1 a2 s = (inR a1 40 (if s.1 31 a1.toNat = 3 then (inR a2 12 (inR a1 40 (if s.1 25 a2.toNat = s.1 33 a1.toNat then some (1, s) else some (0, s)))) else (if s.1 31 a1.toNat = 4 then (inR a2 12 (inR a1 40 (if s.1 26 a2.toNat = s.1 33 a1.toNat then some (1, s) else some (0, s)))) else (if s.1 31 a1.toNat = 5 then (inR a1 40 ((f_Vs_areKin_4 m a2 (s.1 33 a1.toNat) s).bind fun p0 => (if p0.1 = 0 ∨ p0.1 = 1 then some (p0.1, p0.2) else none))) else (if s.1 31 a1.toNat = 6 then (inR a2 12 ((f_Sn_compares m (s.1 11 a2.toNat) a1 s).bind fun p0 => (if p0.1 = 0 ∨ p0.1 = 1 then some (p0.1, p0.2) else none))) else (if s.1 31 a1.toNat = 7 then (inR a2 12 ((f_Sn_compares m (s.1 28 a2.toNat) a1 s).bind fun p0 => (if p0.1 = 0 ∨ p0.1 = 1 then some (p0.1, p0.2) else none))) else (if s.1 31 a1.toNat = 8 then (inR a2 12 ((f_Sn_compares m (s.1 29 a2.toNat) a1 s).bind fun p0 => (if p0.1 = 0 ∨ p0.1 = 1 then some (p0.1, p0.2) else none))) else ((f_Sn_compares m a2 a1 s).bind fun p0 => (if p0.1 = 0 ∨ p0.1 = 1 then some (p0.1, p0.2) else none))))))))) := rfl
set_option maxRecDepth 100000 in
set_option maxHeartbeats 1000000 in
theorem f_Sn_thoseBy_eq (m : Nat) (a1 : Int) (s : mS) : f_Sn_thoseBy m a1 s = (l_Sn_thoseBy_L6 m m a1 0 0 s) := rfl
set_option maxRecDepth 100000 in
set_option maxHeartbeats 1000000 in
theorem l_Sn_thoseBy_L6_eq (m : Nat) (n : Nat) (x1 : Int) (x4 : Int) (x5 : Int) (s : mS) : l_Sn_thoseBy_L6 m (n + 1) x1 x4 x5 s = (if x5 < s.1 4 2 then ((f_Sn_isSo m x1 x5 s).bind fun p0 => (if p0.1 = 0 then (l_Sn_thoseBy_L6 m n x1 x4 (w32 (x5 + 1)) p0.2) else (l_Sn_thoseBy_L6 m n x1 (bor x4 (bshl 1 x5)) (w32 (x5 + 1)) p0.2))) else some (x4, s)) := rfl
set_option maxRecDepth 100000 in
set_option maxHeartbeats 1000000 in
theorem f_Sn_saidOf_eq (m : Nat) (s : mS) : f_Sn_saidOf m s = (l_Sn_saidOf_L5 m m 0 0 s) := rfl
set_option maxRecDepth 100000 in
set_option maxHeartbeats 1000000 in
theorem l_Sn_saidOf_L5_eq (m : Nat) (n : Nat) (x3 : Int) (x4 : Int) (s : mS) : l_Sn_saidOf_L5 m (n + 1) x3 x4 s = (if x4 < s.1 30 1 then (inR x4 40 (if s.1 31 x4.toNat = 0 then (if 0 < x3 then (inR (w32 (x3 - 1)) 40 ((f_Vs_allDead m s).bind fun p0 => (inR (w32 (x3 - 1)) 40 (l_Sn_saidOf_L5 m n x3 (w32 (x4 + 1)) (wI p0.2 34 (w32 (x3 - 1)).toNat (bxor (s.1 34 (w32 (x3 - 1)).toNat) p0.1)))))) else (l_Sn_saidOf_L46 m n x3 x4 s)) else (l_Sn_saidOf_L46 m n x3 x4 s))) else (if 0 < x3 then some (s.1 34 0, s) else some (0, s))) := rfl
set_option maxRecDepth 100000 in
set_option maxHeartbeats 1000000 in
theorem l_Sn_saidOf_L46_eq (m : Nat) (n : Nat) (x3 : Int) (x4 : Int) (s : mS) : l_Sn_saidOf_L46 m (n + 1) x3 x4 s = (inR x4 40 (if s.1 31 x4.toNat = 1 then (if 1 < x3 then (inR (w32 ((w32 (x3 + (-1))) - 1)) 40 (inR (w32 (x3 + (-1))) 40 (inR (w32 ((w32 (x3 + (-1))) - 1)) 40 (l_Sn_saidOf_L5 m n (w32 (x3 + (-1))) (w32 (x4 + 1)) (wI s 34 (w32 ((w32 (x3 + (-1))) - 1)).toNat (band (s.1 34 (w32 ((w32 (x3 + (-1))) - 1)).toNat) (s.1 34 (w32 (x3 + (-1))).toNat))))))) else (l_Sn_saidOf_L85 m n x3 x4 s)) else (l_Sn_saidOf_L85 m n x3 x4 s))) := rfl
set_option maxRecDepth 100000 in
set_option maxHeartbeats 1000000 in
theorem l_Sn_saidOf_L85_eq (m : Nat) (n : Nat) (x3 : Int) (x4 : Int) (s : mS) : l_Sn_saidOf_L85 m (n + 1) x3 x4 s = (inR x4 40 (if s.1 31 x4.toNat = 2 then (if 1 < x3 then (inR (w32 ((w32 (x3 + (-1))) - 1)) 40 (inR (w32 (x3 + (-1))) 40 (inR (w32 ((w32 (x3 + (-1))) - 1)) 40 (l_Sn_saidOf_L5 m n (w32 (x3 + (-1))) (w32 (x4 + 1)) (wI s 34 (w32 ((w32 (x3 + (-1))) - 1)).toNat (bor (s.1 34 (w32 ((w32 (x3 + (-1))) - 1)).toNat) (s.1 34 (w32 (x3 + (-1))).toNat))))))) else (inR x4 40 (if 2 < s.1 31 x4.toNat then ((f_Sn_thoseBy m x4 s).bind fun p0 => (inR x3 40 (l_Sn_saidOf_L5 m n (w32 (x3 + 1)) (w32 (x4 + 1)) (wI p0.2 34 x3.toNat p0.1)))) else (l_Sn_saidOf_L5 m n x3 (w32 (x4 + 1)) s)))) else (inR x4 40 (if 2 < s.1 31 x4.toNat then ((f_Sn_thoseBy m x4 s).bind fun p0 => (inR x3 40 (l_Sn_saidOf_L5 m n (w32 (x3 + 1)) (w32 (x4 + 1)) (wI p0.2 34 x3.toNat p0.1)))) else (l_Sn_saidOf_L5 m n x3 (w32 (x4 + 1)) s))))) := rfl
set_option maxRecDepth 100000 in
set_option maxHeartbeats 1000000 in
theorem f_X_said_eq (m : Nat) (a1 : Int) (s : mS) : f_X_said m a1 s = (if s.1 30 0 = 0 then some ((-1), s) else (if a1 < (-1) then some ((-1), s) else ((f_Sn_saidOf m s).bind fun p0 => (if a1 = (-1) then ((f_Ji_bitCount m p0.1 p0.2).bind fun p1 => some (p1.1, p1.2)) else (l_X_said_L60 m m a1 p0.1 0 0 p0.2))))) := rfl
set_option maxRecDepth 100000 in
set_option maxHeartbeats 1000000 in
theorem l_X_said_L60_eq (m : Nat) (n : Nat) (x1 : Int) (x2 : Int) (x3 : Int) (x4 : Int) (s : mS) : l_X_said_L60 m (n + 1) x1 x2 x3 x4 s = (if x4 < 12 then (if band (bshr x2 x4) 1 = 0 then (l_X_said_L60 m n x1 x2 x3 (w32 (x4 + 1)) s) else (if x3 = x1 then some (x4, s) else (l_X_said_L60 m n x1 x2 (w32 (x3 + 1)) (w32 (x4 + 1)) s))) else some ((-1), s)) := rfl
set_option maxRecDepth 100000 in
set_option maxHeartbeats 1000000 in
theorem f_Wd_copyOf_36_3_eq (m : Nat) (s : mS) : f_Wd_copyOf_36_3 m s = ((f_Vs_copyOf_37_4 m s).bind fun p0 => ((f_St_copyOf_50_17 m p0.2).bind fun p1 => ((f_Sn_copyOf_63_30 m p1.2).bind fun p2 => some (0, p2.2)))) := rfl
set_option maxRecDepth 100000 in
set_option maxHeartbeats 1000000 in
theorem f_Wd_copyOf_68_3_eq (m : Nat) (s : mS) : f_Wd_copyOf_68_3 m s = ((f_Vs_copyOf_69_4 m s).bind fun p0 => ((f_St_copyOf_82_17 m p0.2).bind fun p1 => ((f_Sn_copyOf_95_30 m p1.2).bind fun p2 => some (0, p2.2)))) := rfl
set_option maxRecDepth 100000 in
set_option maxHeartbeats 1000000 in
theorem f_Wd_copyOf_3_36_eq (m : Nat) (s : mS) : f_Wd_copyOf_3_36 m s = ((f_Vs_copyOf_4_37 m s).bind fun p0 => ((f_St_copyOf_17_50 m p0.2).bind fun p1 => ((f_Sn_copyOf_30_63 m p1.2).bind fun p2 => some (0, p2.2)))) := rfl
set_option maxRecDepth 100000 in
set_option maxHeartbeats 1000000 in
theorem f_Wd_copyOf_3_68_eq (m : Nat) (s : mS) : f_Wd_copyOf_3_68 m s = ((f_Vs_copyOf_4_69 m s).bind fun p0 => ((f_St_copyOf_17_82 m p0.2).bind fun p1 => ((f_Sn_copyOf_30_95 m p1.2).bind fun p2 => some (0, p2.2)))) := rfl
set_option maxRecDepth 100000 in
set_option maxHeartbeats 1000000 in
theorem f_X_image_eq (m : Nat) (a1 : Int) (s : mS) : f_X_image m a1 s = (if a1 < 0 then some (0, s) else (if a1 < 2 then (inR a1 2 (l_X_image_L17 m m a1 (R0f 35 a1.toNat) s)) else some (0, s))) := rfl
set_option maxRecDepth 100000 in
set_option maxHeartbeats 1000000 in
theorem l_X_image_L17_eq0 (m : Nat) (n : Nat) (x1 : Int) (s : mS) : l_X_image_L17 m (n + 1) x1 (some 36) s = ((f_Wd_copyOf_36_3 m s).bind fun p0 => (inR x1 2 (l_X_image_L30 m n (R0f 35 x1.toNat) p0.2))) := rfl
set_option maxRecDepth 100000 in
set_option maxHeartbeats 1000000 in
theorem l_X_image_L17_eq1 (m : Nat) (n : Nat) (x1 : Int) (s : mS) : l_X_image_L17 m (n + 1) x1 (some 68) s = ((f_Wd_copyOf_68_3 m s).bind fun p0 => (inR x1 2 (l_X_image_L30 m n (R0f 35 x1.toNat) p0.2))) := rfl
set_option maxRecDepth 100000 in
set_option maxHeartbeats 1000000 in
theorem l_X_image_L30_eq0 (m : Nat) (n : Nat) (s : mS) : l_X_image_L30 m (n + 1) (some 36) s = some (1, wI s 36 3 1) := rfl
set_option maxRecDepth 100000 in
set_option maxHeartbeats 1000000 in
theorem l_X_image_L30_eq1 (m : Nat) (n : Nat) (s : mS) : l_X_image_L30 m (n + 1) (some 68) s = some (1, wI s 68 3 1) := rfl
set_option maxRecDepth 100000 in
set_option maxHeartbeats 1000000 in
theorem f_X_restore_eq (m : Nat) (a1 : Int) (s : mS) : f_X_restore m a1 s = (if a1 < 0 then some (0, s) else (if a1 < 2 then (inR a1 2 (l_X_restore_L15 m m a1 (R0f 35 a1.toNat) s)) else some (0, s))) := rfl
set_option maxRecDepth 100000 in
set_option maxHeartbeats 1000000 in
theorem l_X_restore_L15_eq0 (m : Nat) (n : Nat) (x1 : Int) (s : mS) : l_X_restore_L15 m (n + 1) x1 (some 36) s = (if s.1 36 3 = 0 then some (0, s) else (inR x1 2 (l_X_restore_L33 m n (R0f 35 x1.toNat) s))) := rfl
set_option maxRecDepth 100000 in
set_option maxHeartbeats 1000000 in
theorem l_X_restore_L15_eq1 (m : Nat) (n : Nat) (x1 : Int) (s : mS) : l_X_restore_L15 m (n + 1) x1 (some 68) s = (if s.1 68 3 = 0 then some (0, s) else (inR x1 2 (l_X_restore_L33 m n (R0f 35 x1.toNat) s))) := rfl
set_option maxRecDepth 100000 in
set_option maxHeartbeats 1000000 in
theorem l_X_restore_L33_eq0 (m : Nat) (n : Nat) (s : mS) : l_X_restore_L33 m (n + 1) (some 36) s = ((f_Wd_copyOf_3_36 m s).bind fun p0 => ((f_Ps_forget m p0.2).bind fun p1 => some (1, p1.2))) := rfl
set_option maxRecDepth 100000 in
set_option maxHeartbeats 1000000 in
theorem l_X_restore_L33_eq1 (m : Nat) (n : Nat) (s : mS) : l_X_restore_L33 m (n + 1) (some 68) s = ((f_Wd_copyOf_3_68 m s).bind fun p0 => ((f_Ps_forget m p0.2).bind fun p1 => some (1, p1.2))) := rfl
set_option maxRecDepth 100000 in
set_option maxHeartbeats 1000000 in
theorem f_X_count_eq (m : Nat) (a1 : Int) (s : mS) : f_X_count m a1 s = (if a1 = 0 then some (s.1 4 0, s) else (if a1 = 1 then some (s.1 4 1, s) else (if a1 = 2 then some (s.1 4 2, s) else (if a1 = 3 then some (s.1 4 3, s) else (if a1 = 4 then some (s.1 4 4, s) else (if a1 = 5 then some (s.1 4 5, s) else (if a1 = 6 then some (s.1 1 1, s) else some ((-1), s)))))))) := rfl
set_option maxRecDepth 100000 in
set_option maxHeartbeats 1000000 in
theorem f_X_dead_eq (m : Nat) (a1 : Int) (a2 : Int) (s : mS) : f_X_dead m a1 a2 s = ((f_X_isDead m a1 s).bind fun p0 => (if p0.1 = 0 then none else (if a2 = 0 then (inR a1 12 some (p0.2.1 11 a1.toNat, p0.2)) else (if a2 = 1 then (inR a1 12 some (p0.2.1 25 a1.toNat, p0.2)) else (if a2 = 2 then (inR a1 12 some (p0.2.1 26 a1.toNat, p0.2)) else (if a2 = 3 then (inR a1 12 some (p0.2.1 27 a1.toNat, p0.2)) else (if a2 = 4 then (inR a1 12 some (p0.2.1 28 a1.toNat, p0.2)) else (if a2 = 5 then (inR a1 12 some (p0.2.1 29 a1.toNat, p0.2)) else (if a2 = 6 then (inR a1 12 some (p0.2.1 13 a1.toNat, p0.2)) else (if a2 = 7 then (inR a1 12 some (p0.2.1 14 a1.toNat, p0.2)) else none)))))))))) := rfl
set_option maxRecDepth 100000 in
set_option maxHeartbeats 1000000 in
theorem f_X_inLeastTerms_eq (m : Nat) (a0 : Int) (a1 : Int) (a2 : Int) (s : mS) : f_X_inLeastTerms m a0 a1 a2 s = (l_X_inLeastTerms_L8 m m a0 a1 a2 a1 a0 0 s) := rfl
set_option maxRecDepth 100000 in
set_option maxHeartbeats 1000000 in
theorem l_X_inLeastTerms_L8_eq (m : Nat) (n : Nat) (x0 : Int) (x1 : Int) (x2 : Int) (x3 : Int) (x4 : Int) (x5 : Int) (s : mS) : l_X_inLeastTerms_L8 m (n + 1) x0 x1 x2 x3 x4 x5 s = (if x5 < 64 then (if x4 = 0 then (if x3 = 0 then some ((-1), s) else (if x2 = 0 then (if x3 = 0 then none else some (w32 (Int.tdiv x0 x3), s)) else (if x3 = 0 then none else some (w32 (Int.tdiv x1 x3), s)))) else (if x4 = 0 then none else (l_X_inLeastTerms_L8 m n x0 x1 x2 x4 (Int.tmod x3 x4) (w32 (x5 + 1)) s))) else (if x3 = 0 then some ((-1), s) else (if x2 = 0 then (if x3 = 0 then none else some (w32 (Int.tdiv x0 x3), s)) else (if x3 = 0 then none else some (w32 (Int.tdiv x1 x3), s))))) := rfl
set_option maxRecDepth 100000 in
set_option maxHeartbeats 1000000 in
theorem f_X_wear_eq (m : Nat) (a1 : Int) (a2 : Int) (s : mS) : f_X_wear m a1 a2 s = ((f_X_isBox m a1 s).bind fun p0 => (if p0.1 = 0 then none else (if a2 < 0 then none else (if 1 < a2 then none else (inR a1 9 (inR a1 9 ((f_X_inLeastTerms m (p0.2.1 18 a1.toNat) (p0.2.1 7 a1.toNat) a2 p0.2).bind fun p1 => some (p1.1, p1.2)))))))) := rfl
set_option maxRecDepth 100000 in
set_option maxHeartbeats 1000000 in
theorem f_X_mean_eq (m : Nat) (a1 : Int) (s : mS) : f_X_mean m a1 s = (if s.1 4 2 = 0 then none else (if a1 < 0 then none else (if 1 < a1 then none else (l_X_mean_L37 m m a1 0 0 s)))) := rfl
set_option maxRecDepth 100000 in
set_option maxHeartbeats 1000000 in
theorem l_X_mean_L37_eq (m : Nat) (n : Nat) (x1 : Int) (x2 : Int) (x3 : Int) (s : mS) : l_X_mean_L37 m (n + 1) x1 x2 x3 s = (if x3 < s.1 4 2 then (inR x3 12 (l_X_mean_L37 m n x1 (w32 (x2 + (s.1 28 x3.toNat))) (w32 (x3 + 1)) s)) else ((f_X_inLeastTerms m x2 (s.1 4 2) x1 s).bind fun p0 => some (p0.1, p0.2))) := rfl
set_option maxRecDepth 100000 in
set_option maxHeartbeats 1000000 in
theorem f_R_thrown_eq (m : Nat) (s : mS) : f_R_thrown m s = some (s.1 249 0, s) := rfl
set_option maxRecDepth 100000 in
set_option maxHeartbeats 1000000 in
theorem f_R_comea_eq (m : Nat) (a1 : Int) (s : mS) : f_R_comea m a1 s = (l_R_comea_L3 m m a1 24 s) := rfl
set_option maxRecDepth 100000 in
set_option maxHeartbeats 1000000 in
theorem l_R_comea_L3_eq (m : Nat) (n : Nat) (x1 : Int) (x2 : Int) (s : mS) : l_R_comea_L3 m (n + 1) x1 x2 s = (if x2 < 0 then some (0, s) else (inR (s.1 249 2) 940 (l_R_comea_L3 m n x1 (w32 (x2 + (-8))) (wI (wI s 250 (s.1 249 2).toNat (band (bushr x1 x2) 255)) 249 2 (w32 (((wI s 250 (s.1 249 2).toNat (band (bushr x1 x2) 255)).1 249 2) + 1)))))) := rfl
set_option maxRecDepth 100000 in
set_option maxHeartbeats 1000000 in
theorem f_R_feed_eq (m : Nat) (a1 : Int) (a2 : Int) (a3 : Int) (a4 : Int) (a5 : Int) (s : mS) : f_R_feed m a1 a2 a3 a4 a5 s = (if 940 < w32 (((wI s 249 0 0).1 249 2) + 20) then some ((-1), wI s 249 0 0) else ((f_R_comea m a1 (wI s 249 0 0)).bind fun p0 => ((f_R_comea m a2 p0.2).bind fun p1 => ((f_R_comea m a3 p1.2).bind fun p2 => ((f_R_comea m a4 p2.2).bind fun p3 => ((f_R_comea m a5 p3.2).bind fun p4 => some (p4.2.1 249 2, p4.2))))))) := rfl
set_option maxRecDepth 100000 in
set_option maxHeartbeats 1000000 in
theorem f_R_end_eq (m : Nat) (a1 : Int) (s : mS) : f_R_end m a1 s = (if a1 < 0 then some (0, wI s 249 0 0) else (if (wI s 249 0 0).1 249 2 < a1 then some (0, wI s 249 0 0) else some (1, wI (wI s 249 0 0) 249 2 a1))) := rfl
set_option maxRecDepth 100000 in
set_option maxHeartbeats 1000000 in
theorem f_R_take_eq (m : Nat) (s : mS) : f_R_take m s = some (s.1 249 2, wI s 249 2 0) := rfl
set_option maxRecDepth 100000 in
set_option maxHeartbeats 1000000 in
theorem f_R_isLetter_eq (m : Nat) (a0 : Int) (s : mS) : f_R_isLetter m a0 s = (if a0 < 97 then some (0, s) else (if 122 < a0 then some (0, s) else some (1, s))) := rfl
set_option maxRecDepth 100000 in
set_option maxHeartbeats 1000000 in
theorem f_R_isDigit_eq (m : Nat) (a0 : Int) (s : mS) : f_R_isDigit m a0 s = (if a0 < 48 then some (0, s) else (if 57 < a0 then some (0, s) else some (1, s))) := rfl
set_option maxRecDepth 100000 in
set_option maxHeartbeats 1000000 in
theorem f_R_tapeAt_eq (m : Nat) (a1 : Int) (s : mS) : f_R_tapeAt m a1 s = (if a1 < s.1 249 3 then (inR a1 940 some (s.1 250 a1.toNat, s)) else some (0, s)) := rfl
set_option maxRecDepth 100000 in
set_option maxHeartbeats 1000000 in
theorem f_R_go_eq (m : Nat) (s : mS) : f_R_go m s = (if s.1 249 5 < s.1 249 3 then (inR (s.1 249 5) 940 (if s.1 250 (s.1 249 5).toNat = 32 then (l_R_go_L0 m m (wI s 249 5 (w32 ((s.1 249 5) + 1)))) else (inR (s.1 249 5) 940 (if s.1 250 (s.1 249 5).toNat = 10 then (l_R_go_L0 m m (wI s 249 5 (w32 ((s.1 249 5) + 1)))) else (if (wI s 249 6 (s.1 249 5)).1 249 4 < (wI s 249 6 (s.1 249 5)).1 249 3 then (if (wI s 249 6 (s.1 249 5)).1 249 6 < (wI s 249 6 (s.1 249 5)).1 249 4 then (l_R_go_L96 m m (wI s 249 6 (s.1 249 5))) else some (0, wI (wI (wI s 249 6 (s.1 249 5)) 249 6 ((wI s 249 6 (s.1 249 5)).1 249 4)) 249 7 1)) else (l_R_go_L96 m m (wI s 249 6 (s.1 249 5)))))))) else (if (wI s 249 6 (s.1 249 5)).1 249 4 < (wI s 249 6 (s.1 249 5)).1 249 3 then (if (wI s 249 6 (s.1 249 5)).1 249 6 < (wI s 249 6 (s.1 249 5)).1 249 4 then (l_R_go_L96 m m (wI s 249 6 (s.1 249 5))) else some (0, wI (wI (wI s 249 6 (s.1 249 5)) 249 6 ((wI s 249 6 (s.1 249 5)).1 249 4)) 249 7 1)) else (l_R_go_L96 m m (wI s 249 6 (s.1 249 5))))) := rfl
set_option maxRecDepth 100000 in
set_option maxHeartbeats 1000000 in
theorem l_R_go_L0_eq (m : Nat) (n : Nat) (s : mS) : l_R_go_L0 m (n + 1) s = (if s.1 249 5 < s.1 249 3 then (inR (s.1 249 5) 940 (if s.1 250 (s.1 249 5).toNat = 32 then (l_R_go_L0 m n (wI s 249 5 (w32 ((s.1 249 5) + 1)))) else (inR (s.1 249 5) 940 (if s.1 250 (s.1 249 5).toNat = 10 then (l_R_go_L0 m n (wI s 249 5 (w32 ((s.1 249 5) + 1)))) else (if (wI s 249 6 (s.1 249 5)).1 249 4 < (wI s 249 6 (s.1 249 5)).1 249 3 then (if (wI s 249 6 (s.1 249 5)).1 249 6 < (wI s 249 6 (s.1 249 5)).1 249 4 then (l_R_go_L96 m n (wI s 249 6 (s.1 249 5))) else some (0, wI (wI (wI s 249 6 (s.1 249 5)) 249 6 ((wI s 249 6 (s.1 249 5)).1 249 4)) 249 7 1)) else (l_R_go_L96 m n (wI s 249 6 (s.1 249 5)))))))) else (if (wI s 249 6 (s.1 249 5)).1 249 4 < (wI s 249 6 (s.1 249 5)).1 249 3 then (if (wI s 249 6 (s.1 249 5)).1 249 6 < (wI s 249 6 (s.1 249 5)).1 249 4 then (l_R_go_L96 m n (wI s 249 6 (s.1 249 5))) else some (0, wI (wI (wI s 249 6 (s.1 249 5)) 249 6 ((wI s 249 6 (s.1 249 5)).1 249 4)) 249 7 1)) else (l_R_go_L96 m n (wI s 249 6 (s.1 249 5))))) := rfl
set_option maxRecDepth 100000 in
set_option maxHeartbeats 1000000 in
theorem l_R_go_L96_eq (m : Nat) (n : Nat) (s : mS) : l_R_go_L96 m (n + 1) s = (if s.1 249 5 < s.1 249 3 then (inR (s.1 249 5) 940 ((f_R_isLetter m (s.1 250 (s.1 249 5).toNat) s).bind fun p0 => (if p0.1 = 0 then ((f_R_isDigit m (s.1 250 (s.1 249 5).toNat) p0.2).bind fun p1 => (if p1.1 = 0 then (if s.1 250 (s.1 249 5).toNat = 59 then some (0, wI (wI (wI p1.2 249 7 4) 249 9 (s.1 250 (s.1 249 5).toNat)) 249 5 (w32 (((wI (wI p1.2 249 7 4) 249 9 (s.1 250 (s.1 249 5).toNat)).1 249 5) + 1))) else (if s.1 250 (s.1 249 5).toNat = 60 then some (0, wI (wI (wI p1.2 249 7 4) 249 9 (s.1 250 (s.1 249 5).toNat)) 249 5 (w32 (((wI (wI p1.2 249 7 4) 249 9 (s.1 250 (s.1 249 5).toNat)).1 249 5) + 1))) else (if s.1 250 (s.1 249 5).toNat = 61 then some (0, wI (wI (wI p1.2 249 7 4) 249 9 (s.1 250 (s.1 249 5).toNat)) 249 5 (w32 (((wI (wI p1.2 249 7 4) 249 9 (s.1 250 (s.1 249 5).toNat)).1 249 5) + 1))) else (if s.1 250 (s.1 249 5).toNat = 62 then some (0, wI (wI (wI p1.2 249 7 4) 249 9 (s.1 250 (s.1 249 5).toNat)) 249 5 (w32 (((wI (wI p1.2 249 7 4) 249 9 (s.1 250 (s.1 249 5).toNat)).1 249 5) + 1))) else (if s.1 250 (s.1 249 5).toNat = 40 then some (0, wI (wI (wI p1.2 249 7 4) 249 9 (s.1 250 (s.1 249 5).toNat)) 249 5 (w32 (((wI (wI p1.2 249 7 4) 249 9 (s.1 250 (s.1 249 5).toNat)).1 249 5) + 1))) else (if s.1 250 (s.1 249 5).toNat = 41 then some (0, wI (wI (wI p1.2 249 7 4) 249 9 (s.1 250 (s.1 249 5).toNat)) 249 5 (w32 (((wI (wI p1.2 249 7 4) 249 9 (s.1 250 (s.1 249 5).toNat)).1 249 5) + 1))) else some (0, wI (wI (wI p1.2 249 7 1) 249 9 (s.1 250 (s.1 249 5).toNat)) 249 5 (w32 (((wI (wI p1.2 249 7 1) 249 9 (s.1 250 (s.1 249 5).toNat)).1 249 5) + 1))))))))) else ((f_R_isLetter m (s.1 250 (s.1 249 5).toNat) p1.2).bind fun p2 => (l_R_go_L215 m n p2.1 1 (wI (wJ p2.2 249 12 0) 249 8 0))))) else ((f_R_isLetter m (s.1 250 (s.1 249 5).toNat) p0.2).bind fun p1 => (l_R_go_L215 m n p1.1 1 (wI (wJ p1.2 249 12 0) 249 8 0)))))) else some (0, wI s 249 7 0)) := rfl
set_option maxRecDepth 100000 in
set_option maxHeartbeats 1000000 in
theorem l_R_go_L215_eq (m : Nat) (n : Nat) (x2 : Int) (x3 : Int) (s : mS) : l_R_go_L215 m (n + 1) x2 x3 s = ((f_R_tapeAt m (s.1 249 5) s).bind fun p0 => ((f_R_isLetter m p0.1 p0.2).bind fun p1 => (if p1.1 = 0 then ((f_R_tapeAt m (p1.2.1 249 5) p1.2).bind fun p2 => ((f_R_isDigit m p2.1 p2.2).bind fun p3 => (if p3.1 = 0 then (if x3 = 0 then some (0, wI p3.2 249 7 1) else (if x2 = 0 then (if 3 < w32 ((p3.2.1 249 5) - (p3.2.1 249 6)) then some (0, wI p3.2 249 7 1) else (if x2 = 0 then some (0, wI p3.2 249 7 3) else some (0, wI p3.2 249 7 2))) else (if 7 < w32 ((p3.2.1 249 5) - (p3.2.1 249 6)) then some (0, wI p3.2 249 7 1) else (if x2 = 0 then some (0, wI p3.2 249 7 3) else some (0, wI p3.2 249 7 2))))) else (l_R_go_L243 m n x2 x3 p3.2)))) else (l_R_go_L243 m n x2 x3 p1.2)))) := rfl
set_option maxRecDepth 100000 in
set_option maxHeartbeats 1000000 in
theorem l_R_go_L243_eq (m : Nat) (n : Nat) (x2 : Int) (x3 : Int) (s : mS) : l_R_go_L243 m (n + 1) x2 x3 s = (inR (s.1 249 5) 940 (if x3 = 0 then (if w32 ((s.1 249 5) - (s.1 249 6)) < 7 then (l_R_go_L307 m n x2 0 (s.1 250 (s.1 249 5).toNat) (wJ s 249 12 (w64 ((w64 ((w64 (27 * (s.2 249 12))) + (s.1 250 (s.1 249 5).toNat))) - 96)))) else (l_R_go_L307 m n x2 0 (s.1 250 (s.1 249 5).toNat) s)) else ((f_R_isLetter m (s.1 250 (s.1 249 5).toNat) s).bind fun p0 => (if p0.1 = x2 then (if w32 ((p0.2.1 249 5) - (p0.2.1 249 6)) < 7 then (l_R_go_L307 m n x2 1 (s.1 250 (s.1 249 5).toNat) (wJ p0.2 249 12 (w64 ((w64 ((w64 (27 * (p0.2.2 249 12))) + (s.1 250 (s.1 249 5).toNat))) - 96)))) else (l_R_go_L307 m n x2 1 (s.1 250 (s.1 249 5).toNat) p0.2)) else (if w32 ((p0.2.1 249 5) - (p0.2.1 249 6)) < 7 then (l_R_go_L307 m n x2 0 (s.1 250 (s.1 249 5).toNat) (wJ p0.2 249 12 (w64 ((w64 ((w64 (27 * (p0.2.2 249 12))) + (s.1 250 (s.1 249 5).toNat))) - 96)))) else (l_R_go_L307 m n x2 0 (s.1 250 (s.1 249 5).toNat) p0.2)))))) := rfl
set_option maxRecDepth 100000 in
set_option maxHeartbeats 1000000 in
theorem l_R_go_L307_eq (m : Nat) (n : Nat) (x2 : Int) (x3 : Int) (x4 : Int) (s : mS) : l_R_go_L307 m (n + 1) x2 x3 x4 s = (if w32 ((s.1 249 5) - (s.1 249 6)) < 3 then (l_R_go_L215 m n x2 x3 (wI (wI s 249 8 (w32 ((w32 ((w32 (10 * (s.1 249 8))) + x4)) - 48))) 249 5 (w32 (((wI s 249 8 (w32 ((w32 ((w32 (10 * (s.1 249 8))) + x4)) - 48))).1 249 5) + 1)))) else (l_R_go_L215 m n x2 x3 (wI s 249 5 (w32 ((s.1 249 5) + 1))))) := rfl
set_option maxRecDepth 100000 in
set_option maxHeartbeats 1000000 in
theorem f_R_begin_eq (m : Nat) (a1 : Int) (s : mS) : f_R_begin m a1 s = ((f_R_take m (wI s 249 0 0)).bind fun p0 => ((f_R_go m (wI (wI (wI (wI p0.2 249 3 p0.1) 249 4 a1) 249 10 0) 249 5 0)).bind fun p1 => some (0, p1.2))) := rfl
set_option maxRecDepth 100000 in
set_option maxHeartbeats 1000000 in
theorem f_R_spelt_eq (m : Nat) (a0 : Int) (a1 : Int) (a2 : Int) (a3 : Int) (a4 : Int) (a5 : Int) (a6 : Int) (s : mS) : f_R_spelt m a0 a1 a2 a3 a4 a5 a6 s = (if 0 < a2 then (l_R_spelt_L38 m m a3 a4 a5 a6 (w64 ((w64 ((w64 (27 * (w64 ((w64 ((w64 (27 * (w64 (a0 - 96)))) + a1)) - 96)))) + a2)) - 96)) s) else (l_R_spelt_L38 m m a3 a4 a5 a6 (w64 ((w64 ((w64 (27 * (w64 (a0 - 96)))) + a1)) - 96)) s)) := rfl
set_option maxRecDepth 100000 in
set_option maxHeartbeats 1000000 in
theorem l_R_spelt_L38_eq (m : Nat) (n : Nat) (x3 : Int) (x4 : Int) (x5 : Int) (x6 : Int) (x7 : Int) (s : mS) : l_R_spelt_L38 m (n + 1) x3 x4 x5 x6 x7 s = (if 0 < x3 then (if 0 < x4 then (l_R_spelt_L78 m n x5 x6 (w64 ((w64 ((w64 (27 * (w64 ((w64 ((w64 (27 * x7)) + x3)) - 96)))) + x4)) - 96)) s) else (l_R_spelt_L78 m n x5 x6 (w64 ((w64 ((w64 (27 * x7)) + x3)) - 96)) s)) else (if 0 < x4 then (l_R_spelt_L78 m n x5 x6 (w64 ((w64 ((w64 (27 * x7)) + x4)) - 96)) s) else (l_R_spelt_L78 m n x5 x6 x7 s))) := rfl
set_option maxRecDepth 100000 in
set_option maxHeartbeats 1000000 in
theorem l_R_spelt_L78_eq (m : Nat) (n : Nat) (x5 : Int) (x6 : Int) (x7 : Int) (s : mS) : l_R_spelt_L78 m (n + 1) x5 x6 x7 s = (if 0 < x5 then (if 0 < x6 then some (w64 ((w64 ((w64 (27 * (w64 ((w64 ((w64 (27 * x7)) + x5)) - 96)))) + x6)) - 96), s) else some (w64 ((w64 ((w64 (27 * x7)) + x5)) - 96), s)) else (if 0 < x6 then some (w64 ((w64 ((w64 (27 * x7)) + x6)) - 96), s) else some (x7, s))) := rfl
set_option maxRecDepth 100000 in
set_option maxHeartbeats 1000000 in
theorem f_R_wordOf_eq (m : Nat) (a0 : Int) (s : mS) : f_R_wordOf m a0 s = (if a0 = 0 then ((f_R_spelt m 98 111 120 0 0 0 0 s).bind fun p0 => some (p0.1, p0.2)) else (if a0 = 1 then ((f_R_spelt m 112 108 111 116 0 0 0 s).bind fun p0 => some (p0.1, p0.2)) else (if a0 = 2 then ((f_R_spelt m 100 101 97 100 0 0 0 s).bind fun p0 => some (p0.1, p0.2)) else (if a0 = 3 then ((f_R_spelt m 97 115 107 115 0 0 0 s).bind fun p0 => some (p0.1, p0.2)) else (if a0 = 4 then ((f_R_spelt m 102 114 111 115 116 0 0 s).bind fun p0 => some (p0.1, p0.2)) else (if a0 = 5 then ((f_R_spelt m 97 105 114 0 0 0 0 s).bind fun p0 => some (p0.1, p0.2)) else (if a0 = 6 then ((f_R_spelt m 108 101 110 100 0 0 0 s).bind fun p0 => some (p0.1, p0.2)) else (if a0 = 7 then ((f_R_spelt m 108 97 121 0 0 0 0 s).bind fun p0 => some (p0.1, p0.2)) else (if a0 = 8 then ((f_R_spelt m 115 119 97 112 0 0 0 s).bind fun p0 => some (p0.1, p0.2)) else (if a0 = 9 then ((f_R_spelt m 109 101 110 100 0 0 0 s).bind fun p0 => some (p0.1, p0.2)) else (if a0 = 10 then ((f_R_spelt m 100 97 121 0 0 0 0 s).bind fun p0 => some (p0.1, p0.2)) else (if a0 = 11 then ((f_R_spelt m 111 114 0 0 0 0 0 s).bind fun p0 => some (p0.1, p0.2)) else (if a0 = 12 then ((f_R_spelt m 97 110 100 0 0 0 0 s).bind fun p0 => some (p0.1, p0.2)) else (if a0 = 13 then ((f_R_spelt m 110 111 116 0 0 0 0 s).bind fun p0 => some (p0.1, p0.2)) else (if a0 = 14 then ((f_R_spelt m 99 111 109 105 110 103 0 s).bind fun p0 => some (p0.1, p0.2)) else (if a0 = 15 then ((f_R_spelt m 119 97 105 116 105 110 103 s).bind fun p0 => some (p0.1, p0.2)) else (if a0 = 16 then ((f_R_spelt m 108 121 105 110 103 0 0 s).bind fun p0 => some (p0.1, p0.2)) else (if a0 = 17 then ((f_R_spelt m 108 97 105 100 0 0 0 s).bind fun p0 => some (p0.1, p0.2)) else (if a0 = 18 then ((f_R_spelt m 105 110 0 0 0 0 0 s).bind fun p0 => some (p0.1, p0.2)) else (if a0 = 19 then ((f_R_spelt m 107 105 110 0 0 0 0 s).bind fun p0 => some (p0.1, p0.2)) else (if a0 = 20 then ((f_R_spelt m 108 111 110 103 0 0 0 s).bind fun p0 => some (p0.1, p0.2)) else (if a0 = 21 then ((f_R_spelt m 119 97 105 116 101 100 0 s).bind fun p0 => some (p0.1, p0.2)) else (if a0 = 22 then ((f_R_spelt m 108 97 105 110 0 0 0 s).bind fun p0 => some (p0.1, p0.2)) else ((f_R_spelt m 110 117 109 98 101 114 0 s).bind fun p0 => some (p0.1, p0.2))))))))))))))))))))))))) := rfl
set_option maxRecDepth 100000 in
set_option maxHeartbeats 1000000 in
theorem f_R_isWord_eq (m : Nat) (a1 : Int) (s : mS) : f_R_isWord m a1 s = (if s.1 249 7 = 2 then ((f_R_wordOf m a1 s).bind fun p0 => (if cmpL (s.2 249 12) p0.1 = 0 then some (1, p0.2) else some (0, p0.2))) else some (0, s)) := rfl
set_option maxRecDepth 100000 in
set_option maxHeartbeats 1000000 in
theorem f_R_bad_eq (m : Nat) (a1 : Int) (s : mS) : f_R_bad m a1 s = (if s.1 249 7 = 1 then some (0, wI (wI s 249 10 1) 249 11 ((wI s 249 10 1).1 249 6)) else some (0, wI (wI s 249 10 a1) 249 11 ((wI s 249 10 a1).1 249 6))) := rfl
set_option maxRecDepth 100000 in
set_option maxHeartbeats 1000000 in
theorem f_R_isIn_eq (m : Nat) (a0 : Int) (a1 : Int) (a2 : Int) (s : mS) : f_R_isIn m a0 a1 a2 s = (if a0 < a1 then some (0, s) else (if a2 < a0 then some (0, s) else some (1, s))) := rfl
set_option maxRecDepth 100000 in
set_option maxHeartbeats 1000000 in
theorem f_R_readNumber_eq (m : Nat) (a1 : Int) (a2 : Int) (s : mS) : f_R_readNumber m a1 a2 s = (if s.1 249 7 = 3 then ((f_R_isIn m (s.1 249 8) a1 a2 s).bind fun p0 => (if p0.1 = 0 then ((f_R_bad m 2 p0.2).bind fun p1 => (if p1.1 = 0 ∨ p1.1 = 1 then some (p1.1, p1.2) else none)) else ((f_R_go m (wI p0.2 249 13 (p0.2.1 249 8))).bind fun p1 => some (1, p1.2)))) else ((f_R_bad m 1 s).bind fun p0 => (if p0.1 = 0 ∨ p0.1 = 1 then some (p0.1, p0.2) else none))) := rfl
set_option maxRecDepth 100000 in
set_option maxHeartbeats 1000000 in
theorem f_R_noted_eq (m : Nat) (a1 : Int) (a2 : Int) (s : mS) : f_R_noted m a1 a2 s = (if a2 = 0 then (if a2 = 0 ∨ a2 = 1 then some (a2, s) else none) else (inR a1 85 (if a2 = 0 ∨ a2 = 1 then some (a2, wI s 252 a1.toNat (s.1 249 13)) else none))) := rfl
set_option maxRecDepth 100000 in
set_option maxHeartbeats 1000000 in
theorem f_R_readAir_eq (m : Nat) (s : mS) : f_R_readAir m s = (if s.1 249 24 = 0 then ((f_R_go m (wI s 249 24 1)).bind fun p0 => ((f_R_readNumber m 0 9 p0.2).bind fun p1 => ((f_R_noted m 5 p1.1 p1.2).bind fun p2 => (if p2.1 = 0 ∨ p2.1 = 1 then some (p2.1, p2.2) else none)))) else ((f_R_bad m 3 s).bind fun p0 => (if p0.1 = 0 ∨ p0.1 = 1 then some (p0.1, p0.2) else none))) := rfl
set_option maxRecDepth 100000 in
set_option maxHeartbeats 1000000 in
theorem f_R_readFirst_eq (m : Nat) (a1 : Int) (a2 : Int) (s : mS) : f_R_readFirst m a1 a2 s = (inR a1 85 (if s.1 252 a1.toNat = a2 then ((f_R_bad m 4 s).bind fun p0 => (if p0.1 = 0 ∨ p0.1 = 1 then some (p0.1, p0.2) else none)) else ((f_R_go m s).bind fun p0 => some (1, p0.2)))) := rfl
set_option maxRecDepth 100000 in
set_option maxHeartbeats 1000000 in
theorem f_R_readFrost_eq (m : Nat) (s : mS) : f_R_readFrost m s = ((f_R_readFirst m 4 4 s).bind fun p0 => (if p0.1 = 0 then some (0, p0.2) else ((f_R_readNumber m 0 199 p0.2).bind fun p1 => ((f_R_noted m (w32 (77 + (p0.2.1 252 4))) p1.1 p1.2).bind fun p2 => (if p2.1 = 0 then some (0, p2.2) else ((f_R_readNumber m 1 60 p2.2).bind fun p3 => ((f_R_noted m (w32 (81 + (p0.2.1 252 4))) p3.1 p3.2).bind fun p4 => (if p4.1 = 0 then some (0, p4.2) else some (1, wI p4.2 252 4 (w32 ((p4.2.1 252 4) + 1))))))))))) := rfl
set_option maxRecDepth 100000 in
set_option maxHeartbeats 1000000 in
theorem f_R_isName_eq (m : Nat) (s : mS) : f_R_isName m s = (if s.1 249 7 = 2 then (l_R_isName_L12 m m 0 s) else some (0, s)) := rfl
set_option maxRecDepth 100000 in
set_option maxHeartbeats 1000000 in
theorem l_R_isName_L12_eq (m : Nat) (n : Nat) (x1 : Int) (s : mS) : l_R_isName_L12 m (n + 1) x1 s = (if 23 < x1 then some (1, s) else ((f_R_wordOf m x1 s).bind fun p0 => (if cmpL (s.2 249 12) p0.1 = 0 then some (0, p0.2) else (l_R_isName_L12 m n (w32 (x1 + 1)) p0.2)))) := rfl
set_option maxRecDepth 100000 in
set_option maxHeartbeats 1000000 in
theorem f_R_findIn_258_eq (m : Nat) (a1 : Int) (a2 : Int) (a3 : Int) (s : mS) : f_R_findIn_258 m a1 a2 a3 s = (l_R_findIn_258_L3 m m a1 a2 a3 0 s) := rfl
set_option maxRecDepth 100000 in
set_option maxHeartbeats 1000000 in
theorem l_R_findIn_258_L3_eq (m : Nat) (n : Nat) (x1 : Int) (x2 : Int) (x3 : Int) (x5 : Int) (s : mS) : l_R_findIn_258_L3 m (n + 1) x1 x2 x3 x5 s = (if x5 < x2 then (inR (w32 (x1 + x5)) 26 (if cmpL (s.2 258 (w32 (x1 + x5)).toNat) x3 = 0 then some (x5, s) else (l_R_findIn_258_L3 m n x1 x2 x3 (w32 (x5 + 1)) s))) else some ((-1), s)) := rfl
set_option maxRecDepth 100000 in
set_option maxHeartbeats 1000000 in
theorem f_R_findIn_257_eq (m : Nat) (a1 : Int) (a2 : Int) (a3 : Int) (s : mS) : f_R_findIn_257 m a1 a2 a3 s = (l_R_findIn_257_L3 m m a1 a2 a3 0 s) := rfl
set_option maxRecDepth 100000 in
set_option maxHeartbeats 1000000 in
theorem l_R_findIn_257_L3_eq (m : Nat) (n : Nat) (x1 : Int) (x2 : Int) (x3 : Int) (x5 : Int) (s : mS) : l_R_findIn_257_L3 m (n + 1) x1 x2 x3 x5 s = (if x5 < x2 then (inR (w32 (x1 + x5)) 26 (if cmpL (s.2 257 (w32 (x1 + x5)).toNat) x3 = 0 then some (x5, s) else (l_R_findIn_257_L3 m n x1 x2 x3 (w32 (x5 + 1)) s))) else some ((-1), s)) := rfl
set_option maxRecDepth 100000 in
set_option maxHeartbeats 1000000 in
theorem f_R_isHere_eq (m : Nat) (a1 : Int) (a2 : Int) (s : mS) : f_R_isHere m a1 a2 s = ((f_R_isName m s).bind fun p0 => (if p0.1 = 0 then ((f_R_bad m 1 p0.2).bind fun p1 => (if p1.1 = 0 ∨ p1.1 = 1 then some (p1.1, p1.2) else none)) else ((f_R_findIn_258 m a1 a2 (p0.2.2 249 12) p0.2).bind fun p1 => (if (wI p1.2 249 13 p1.1).1 249 13 = (-1) then ((f_R_bad m 3 (wI p1.2 249 13 p1.1)).bind fun p2 => (if p2.1 = 0 then some (0, p2.2) else some (1, p2.2))) else some (1, wI p1.2 249 13 p1.1))))) := rfl
set_option maxRecDepth 100000 in
set_option maxHeartbeats 1000000 in
theorem f_R_readAsks_eq (m : Nat) (s : mS) : f_R_readAsks m s = ((f_R_go m s).bind fun p0 => ((f_R_isHere m 14 (p0.2.1 252 2) p0.2).bind fun p1 => (if p1.1 = 0 then some (0, p1.2) else (inR (w32 (65 + (p1.2.1 249 13))) 85 (if 0 < p1.2.1 252 (w32 (65 + (p1.2.1 249 13))).toNat then ((f_R_bad m 3 p1.2).bind fun p2 => (if p2.1 = 0 ∨ p2.1 = 1 then some (p2.1, p2.2) else none)) else ((f_R_go m p1.2).bind fun p2 => ((f_R_isHere m 0 (p2.2.1 252 0) p2.2).bind fun p3 => (if p3.1 = 0 then some (0, p3.2) else (inR (w32 (65 + (p1.2.1 249 13))) 85 ((f_R_go m (wI p3.2 252 (w32 (65 + (p1.2.1 249 13))).toNat (w32 ((p3.2.1 249 13) + 1)))).bind fun p4 => some (1, p4.2))))))))))) := rfl
set_option maxRecDepth 100000 in
set_option maxHeartbeats 1000000 in
theorem f_R_has_eq (m : Nat) (a0 : Int) (a1 : Int) (s : mS) : f_R_has m a0 a1 s = (if band (bshr a0 a1) 1 = 1 then some (1, s) else some (0, s)) := rfl
set_option maxRecDepth 100000 in
set_option maxHeartbeats 1000000 in
theorem f_R_readKin_eq (m : Nat) (s : mS) : f_R_readKin m s = ((f_R_readFirst m 3 12 s).bind fun p0 => (if p0.1 = 0 then some (0, p0.2) else ((f_R_isHere m 14 (p0.2.1 252 2) p0.2).bind fun p1 => (if p1.1 = 0 then some (0, p1.2) else ((f_R_go m p1.2).bind fun p2 => ((f_R_isHere m 14 (p2.2.1 252 2) p2.2).bind fun p3 => (if p3.1 = 0 then some (0, p3.2) else (if p3.2.1 249 13 = p1.2.1 249 13 then ((f_R_bad m 3 p3.2).bind fun p4 => (if p4.1 = 0 ∨ p4.1 = 1 then some (p4.1, p4.2) else none)) else (inR (w32 (53 + (p1.2.1 249 13))) 85 ((f_R_has m (p3.2.1 252 (w32 (53 + (p1.2.1 249 13))).toNat) (p3.2.1 249 13) p3.2).bind fun p4 => (if p4.1 = 0 then (inR (w32 (53 + (p1.2.1 249 13))) 85 (inR (w32 (53 + (p1.2.1 249 13))) 85 (inR (w32 (53 + ((wI p4.2 252 (w32 (53 + (p1.2.1 249 13))).toNat (bor (p4.2.1 252 (w32 (53 + (p1.2.1 249 13))).toNat) (bshl 1 (p4.2.1 249 13)))).1 249 13))) 85 (inR (w32 (53 + ((wI p4.2 252 (w32 (53 + (p1.2.1 249 13))).toNat (bor (p4.2.1 252 (w32 (53 + (p1.2.1 249 13))).toNat) (bshl 1 (p4.2.1 249 13)))).1 249 13))) 85 ((f_R_go m (wI (wI (wI p4.2 252 (w32 (53 + (p1.2.1 249 13))).toNat (bor (p4.2.1 252 (w32 (53 + (p1.2.1 249 13))).toNat) (bshl 1 (p4.2.1 249 13)))) 252 (w32 (53 + ((wI p4.2 252 (w32 (53 + (p1.2.1 249 13))).toNat (bor (p4.2.1 252 (w32 (53 + (p1.2.1 249 13))).toNat) (bshl 1 (p4.2.1 249 13)))).1 249 13))).toNat (bor ((wI p4.2 252 (w32 (53 + (p1.2.1 249 13))).toNat (bor (p4.2.1 252 (w32 (53 + (p1.2.1 249 13))).toNat) (bshl 1 (p4.2.1 249 13)))).1 252 (w32 (53 + ((wI p4.2 252 (w32 (53 + (p1.2.1 249 13))).toNat (bor (p4.2.1 252 (w32 (53 + (p1.2.1 249 13))).toNat) (bshl 1 (p4.2.1 249 13)))).1 249 13))).toNat) (bshl 1 (p1.2.1 249 13)))) 252 3 (w32 (((wI (wI p4.2 252 (w32 (53 + (p1.2.1 249 13))).toNat (bor (p4.2.1 252 (w32 (53 + (p1.2.1 249 13))).toNat) (bshl 1 (p4.2.1 249 13)))) 252 (w32 (53 + ((wI p4.2 252 (w32 (53 + (p1.2.1 249 13))).toNat (bor (p4.2.1 252 (w32 (53 + (p1.2.1 249 13))).toNat) (bshl 1 (p4.2.1 249 13)))).1 249 13))).toNat (bor ((wI p4.2 252 (w32 (53 + (p1.2.1 249 13))).toNat (bor (p4.2.1 252 (w32 (53 + (p1.2.1 249 13))).toNat) (bshl 1 (p4.2.1 249 13)))).1 252 (w32 (53 + ((wI p4.2 252 (w32 (53 + (p1.2.1 249 13))).toNat (bor (p4.2.1 252 (w32 (53 + (p1.2.1 249 13))).toNat) (bshl 1 (p4.2.1 249 13)))).1 249 13))).toNat) (bshl 1 (p1.2.1 249 13)))).1 252 3) + 1)))).bind fun p5 => some (1, p5.2)))))) else ((f_R_bad m 3 p4.2).bind fun p5 => (if p5.1 = 0 ∨ p5.1 = 1 then some (p5.1, p5.2) else none))))))))))))) := rfl
set_option maxRecDepth 100000 in
set_option maxHeartbeats 1000000 in
theorem f_R_readNew_eq (m : Nat) (a1 : Int) (s : mS) : f_R_readNew m a1 s = ((f_R_isName m s).bind fun p0 => (if p0.1 = 0 then ((f_R_bad m 1 p0.2).bind fun p1 => (if p1.1 = 0 ∨ p1.1 = 1 then some (p1.1, p1.2) else none)) else ((f_R_findIn_258 m 0 (p0.2.1 252 0) (p0.2.2 249 12) p0.2).bind fun p1 => (if p1.1 = (-1) then ((f_R_findIn_258 m 9 (p1.2.1 252 1) (p1.2.2 249 12) p1.2).bind fun p2 => (if p2.1 = (-1) then (l_R_readNew_L63 m m a1 0 p2.2) else (l_R_readNew_L63 m m a1 1 p2.2))) else (l_R_readNew_L63 m m a1 1 p1.2))))) := rfl
set_option maxRecDepth 100000 in
set_option maxHeartbeats 1000000 in
theorem l_R_readNew_L63_eq (m : Nat) (n : Nat) (x1 : Int) (y0 : Int) (s : mS) : l_R_readNew_L63 m (n + 1) x1 y0 s = (if y0 = 0 then ((f_R_findIn_258 m 14 (s.1 252 2) (s.2 249 12) s).bind fun p0 => (if p0.1 = (-1) then (inR x1 26 ((f_R_go m (wJ p0.2 258 x1.toNat (p0.2.2 249 12))).bind fun p1 => some (1, p1.2))) else ((f_R_bad m 3 p0.2).bind fun p1 => (if p1.1 = 0 ∨ p1.1 = 1 then some (p1.1, p1.2) else none)))) else ((f_R_bad m 3 s).bind fun p0 => (if p0.1 = 0 ∨ p0.1 = 1 then some (p0.1, p0.2) else none))) := rfl
set_option maxRecDepth 100000 in
set_option maxHeartbeats 1000000 in
theorem f_R_readDead_eq (m : Nat) (s : mS) : f_R_readDead m s = ((f_R_readFirst m 2 12 s).bind fun p0 => (if p0.1 = 0 then some (0, p0.2) else ((f_R_readNew m (w32 (14 + (p0.2.1 252 2))) p0.2).bind fun p1 => (if p1.1 = 0 then some (0, p1.2) else ((f_R_readNumber m 10 99 p1.2).bind fun p2 => ((f_R_noted m (w32 (29 + (p0.2.1 252 2))) p2.1 p2.2).bind fun p3 => (if p3.1 = 0 then some (0, p3.2) else ((f_R_readNumber m 0 99 p3.2).bind fun p4 => ((f_R_noted m (w32 (41 + (p0.2.1 252 2))) p4.1 p4.2).bind fun p5 => (if p5.1 = 0 then some (0, p5.2) else some (1, wI p5.2 252 2 (w32 ((p5.2.1 252 2) + 1))))))))))))) := rfl
set_option maxRecDepth 100000 in
set_option maxHeartbeats 1000000 in
theorem f_R_readPlot_eq (m : Nat) (s : mS) : f_R_readPlot m s = ((f_R_readFirst m 1 5 s).bind fun p0 => (if p0.1 = 0 then some (0, p0.2) else ((f_R_readNew m (w32 (9 + (p0.2.1 252 1))) p0.2).bind fun p1 => (if p1.1 = 0 then some (0, p1.2) else ((f_R_readNumber m 0 60 p1.2).bind fun p2 => ((f_R_noted m (w32 (24 + (p0.2.1 252 1))) p2.1 p2.2).bind fun p3 => (if p3.1 = 0 then some (0, p3.2) else some (1, wI p3.2 252 1 (w32 ((p3.2.1 252 1) + 1)))))))))) := rfl
set_option maxRecDepth 100000 in
set_option maxHeartbeats 1000000 in
theorem f_R_readBox_eq (m : Nat) (s : mS) : f_R_readBox m s = ((f_R_readFirst m 0 9 s).bind fun p0 => (if p0.1 = 0 then some (0, p0.2) else ((f_R_readNew m (p0.2.1 252 0) p0.2).bind fun p1 => (if p1.1 = 0 then some (0, p1.2) else ((f_R_readNumber m 10 99 p1.2).bind fun p2 => ((f_R_noted m (w32 (6 + (p0.2.1 252 0))) p2.1 p2.2).bind fun p3 => (if p3.1 = 0 then some (0, p3.2) else ((f_R_readNumber m 1 99 p3.2).bind fun p4 => ((f_R_noted m (w32 (15 + (p0.2.1 252 0))) p4.1 p4.2).bind fun p5 => (if p5.1 = 0 then some (0, p5.2) else some (1, wI p5.2 252 0 (w32 ((p5.2.1 252 0) + 1))))))))))))) := rfl
set_option maxRecDepth 100000 in
set_option maxHeartbeats 1000000 in
theorem f_R_readLine_eq (m : Nat) (s : mS) : f_R_readLine m s = ((f_R_isWord m 0 s).bind fun p0 => (if p0.1 = 0 then ((f_R_isWord m 1 p0.2).bind fun p1 => (if p1.1 = 0 then ((f_R_isWord m 2 p1.2).bind fun p2 => (if p2.1 = 0 then ((f_R_isWord m 19 p2.2).bind fun p3 => (if p3.1 = 0 then ((f_R_isWord m 3 p3.2).bind fun p4 => (if p4.1 = 0 then ((f_R_isWord m 4 p4.2).bind fun p5 => (if p5.1 = 0 then ((f_R_isWord m 5 p5.2).bind fun p6 => (if p6.1 = 0 then ((f_R_bad m 1 p6.2).bind fun p7 => (if p7.1 = 0 ∨ p7.1 = 1 then some (p7.1, p7.2) else none)) else ((f_R_readAir m p6.2).bind fun p7 => (if p7.1 = 0 ∨ p7.1 = 1 then some (p7.1, p7.2) else none)))) else ((f_R_readFrost m p5.2).bind fun p6 => (if p6.1 = 0 ∨ p6.1 = 1 then some (p6.1, p6.2) else none)))) else ((f_R_readAsks m p4.2).bind fun p5 => (if p5.1 = 0 ∨ p5.1 = 1 then some (p5.1, p5.2) else none)))) else ((f_R_readKin m p3.2).bind fun p4 => (if p4.1 = 0 ∨ p4.1 = 1 then some (p4.1, p4.2) else none)))) else ((f_R_readDead m p2.2).bind fun p3 => (if p3.1 = 0 ∨ p3.1 = 1 then some (p3.1, p3.2) else none)))) else ((f_R_readPlot m p1.2).bind fun p2 => (if p2.1 = 0 ∨ p2.1 = 1 then some (p2.1, p2.2) else none)))) else ((f_R_readBox m p0.2).bind fun p1 => (if p1.1 = 0 ∨ p1.1 = 1 then some (p1.1, p1.2) else none)))) := rfl
set_option maxRecDepth 100000 in
set_option maxHeartbeats 1000000 in
theorem f_R_isSign_eq (m : Nat) (a1 : Int) (s : mS) : f_R_isSign m a1 s = (if s.1 249 7 = 4 then (if s.1 249 9 = a1 then some (1, s) else some (0, s)) else some (0, s)) := rfl
set_option maxRecDepth 100000 in
set_option maxHeartbeats 1000000 in
theorem f_R_readEnd_eq (m : Nat) (s : mS) : f_R_readEnd m s = ((f_R_isSign m 59 s).bind fun p0 => (if p0.1 = 0 then ((f_R_bad m 1 p0.2).bind fun p1 => (if p1.1 = 0 ∨ p1.1 = 1 then some (p1.1, p1.2) else none)) else ((f_R_go m p0.2).bind fun p1 => some (1, p1.2)))) := rfl
set_option maxRecDepth 100000 in
set_option maxHeartbeats 1000000 in
theorem f_R_comeb_eq (m : Nat) (s : mS) : f_R_comeb m s = (l_R_comeb_L2 m m 0 s) := rfl
set_option maxRecDepth 100000 in
set_option maxHeartbeats 1000000 in
theorem l_R_comeb_L2_eq (m : Nat) (n : Nat) (x1 : Int) (s : mS) : l_R_comeb_L2 m (n + 1) x1 s = (if x1 < s.1 251 2 then (inR (w32 (164 + x1)) 466 (if s.1 251 (w32 (164 + x1)).toNat = 0 then (inR (w32 (41 + x1)) 466 (if s.1 251 (w32 (41 + x1)).toNat = s.1 251 85 then (inR (w32 (164 + x1)) 466 (l_R_comeb_L2 m n (w32 (x1 + 1)) (wI s 251 (w32 (164 + x1)).toNat 1))) else (l_R_comeb_L2 m n (w32 (x1 + 1)) s))) else (l_R_comeb_L2 m n (w32 (x1 + 1)) s))) else some (0, s)) := rfl
set_option maxRecDepth 100000 in
set_option maxHeartbeats 1000000 in
theorem f_R_startSo_eq (m : Nat) (s : mS) : f_R_startSo m s = (l_R_startSo_L3 m m 85 s) := rfl
set_option maxRecDepth 100000 in
set_option maxHeartbeats 1000000 in
theorem l_R_startSo_L3_eq (m : Nat) (n : Nat) (x1 : Int) (s : mS) : l_R_startSo_L3 m (n + 1) x1 s = (if x1 < 466 then (inR x1 466 (l_R_startSo_L3 m n (w32 (x1 + 1)) (wI s 251 x1.toNat 0))) else (l_R_startSo_L25 m n 0 s)) := rfl
set_option maxRecDepth 100000 in
set_option maxHeartbeats 1000000 in
theorem l_R_startSo_L25_eq (m : Nat) (n : Nat) (x1 : Int) (s : mS) : l_R_startSo_L25 m (n + 1) x1 s = (if x1 < 9 then (inR (w32 (95 + x1)) 466 (l_R_startSo_L25 m n (w32 (x1 + 1)) (wI s 251 (w32 (95 + x1)).toNat (-1)))) else (l_R_startSo_L49 m n 0 s)) := rfl
set_option maxRecDepth 100000 in
set_option maxHeartbeats 1000000 in
theorem l_R_startSo_L49_eq (m : Nat) (n : Nat) (x1 : Int) (s : mS) : l_R_startSo_L49 m (n + 1) x1 s = (if x1 < 36 then (inR (w32 (113 + x1)) 466 (l_R_startSo_L49 m n (w32 (x1 + 1)) (wI s 251 (w32 (113 + x1)).toNat (-1)))) else (l_R_startSo_L73 m n 0 s)) := rfl
set_option maxRecDepth 100000 in
set_option maxHeartbeats 1000000 in
theorem l_R_startSo_L73_eq (m : Nat) (n : Nat) (x1 : Int) (s : mS) : l_R_startSo_L73 m (n + 1) x1 s = (if x1 < 5 then (inR (w32 (154 + x1)) 466 (l_R_startSo_L73 m n (w32 (x1 + 1)) (wI s 251 (w32 (154 + x1)).toNat (-1)))) else (l_R_startSo_L97 m n 0 s)) := rfl
set_option maxRecDepth 100000 in
set_option maxHeartbeats 1000000 in
theorem l_R_startSo_L97_eq (m : Nat) (n : Nat) (x1 : Int) (s : mS) : l_R_startSo_L97 m (n + 1) x1 s = (if x1 < 12 then (inR (w32 (176 + x1)) 466 (inR (w32 (188 + x1)) 466 (l_R_startSo_L97 m n (w32 (x1 + 1)) (wI (wI s 251 (w32 (176 + x1)).toNat (-1)) 251 (w32 (188 + x1)).toNat (-1))))) else ((f_R_comeb m s).bind fun p0 => some (0, p0.2))) := rfl
set_option maxRecDepth 100000 in
set_option maxHeartbeats 1000000 in
theorem f_R_vestry_eq (m : Nat) (s : mS) : f_R_vestry m s = ((f_R_begin m 900 s).bind fun p0 => (l_R_vestry_L9 m m 0 p0.2)) := rfl
set_option maxRecDepth 100000 in
set_option maxHeartbeats 1000000 in
theorem l_R_vestry_L9_eq (m : Nat) (n : Nat) (x1 : Int) (s : mS) : l_R_vestry_L9 m (n + 1) x1 s = (if x1 < 85 then (inR x1 85 (l_R_vestry_L9 m n (w32 (x1 + 1)) (wI s 252 x1.toNat 0))) else (l_R_vestry_L42 m n 0 (wI (wI s 252 5 1) 249 24 0))) := rfl
set_option maxRecDepth 100000 in
set_option maxHeartbeats 1000000 in
theorem l_R_vestry_L42_eq (m : Nat) (n : Nat) (x1 : Int) (s : mS) : l_R_vestry_L42 m (n + 1) x1 s = (if s.1 249 7 = 0 then (l_R_vestry_L78 m n x1 0 s) else ((f_R_readLine m s).bind fun p0 => (if p0.1 = 0 then some (w32 ((-1) - (p0.2.1 249 11)), p0.2) else ((f_R_readEnd m p0.2).bind fun p1 => (if p1.1 = 0 then some (w32 ((-1) - (p1.2.1 249 11)), p1.2) else (l_R_vestry_L42 m n (w32 (x1 + 1)) p1.2)))))) := rfl
set_option maxRecDepth 100000 in
set_option maxHeartbeats 1000000 in
theorem l_R_vestry_L78_eq (m : Nat) (n : Nat) (x1 : Int) (x2 : Int) (s : mS) : l_R_vestry_L78 m (n + 1) x1 x2 s = (if x2 < 85 then (inR x2 85 (inR x2 466 (l_R_vestry_L78 m n x1 (w32 (x2 + 1)) (wI s 251 x2.toNat (s.1 252 x2.toNat))))) else (l_R_vestry_L104 m n x1 0 s)) := rfl
set_option maxRecDepth 100000 in
set_option maxHeartbeats 1000000 in
theorem l_R_vestry_L104_eq (m : Nat) (n : Nat) (x1 : Int) (x2 : Int) (s : mS) : l_R_vestry_L104 m (n + 1) x1 x2 s = (if x2 < 26 then (inR x2 26 (inR x2 26 (l_R_vestry_L104 m n x1 (w32 (x2 + 1)) (wJ s 257 x2.toNat (s.2 258 x2.toNat))))) else ((f_R_startSo m s).bind fun p0 => some (x1, wI p0.2 249 25 0))) := rfl
set_option maxRecDepth 100000 in
set_option maxHeartbeats 1000000 in
theorem f_R_fault_eq (m : Nat) (s : mS) : f_R_fault m s = some ((wI s 249 0 0).1 249 10, wI s 249 0 0) := rfl
set_option maxRecDepth 100000 in
set_option maxHeartbeats 1000000 in
theorem f_R_isBox_eq (m : Nat) (a1 : Int) (s : mS) : f_R_isBox m a1 s = ((f_R_isIn m a1 0 (w32 ((s.1 251 0) - 1)) s).bind fun p0 => (if p0.1 = 0 ∨ p0.1 = 1 then some (p0.1, p0.2) else none)) := rfl
set_option maxRecDepth 100000 in
set_option maxHeartbeats 1000000 in
theorem f_R_isFree_eq (m : Nat) (a1 : Int) (s : mS) : f_R_isFree m a1 s = (inR (w32 (95 + a1)) 466 (if s.1 251 (w32 (95 + a1)).toNat = (-1) then (inR (w32 (104 + a1)) 466 (if s.1 251 (w32 (104 + a1)).toNat = 0 then some (1, s) else some (0, s))) else some (0, s))) := rfl
set_option maxRecDepth 100000 in
set_option maxHeartbeats 1000000 in
theorem f_R_box_eq (m : Nat) (a1 : Int) (a2 : Int) (s : mS) : f_R_box m a1 a2 s = ((f_R_isBox m a1 (wI s 249 0 0)).bind fun p0 => (if p0.1 = 0 then some ((-1), p0.2) else (if a2 = 0 then (inR (w32 (6 + a1)) 466 some (p0.2.1 251 (w32 (6 + a1)).toNat, p0.2)) else (if a2 = 1 then (inR (w32 (15 + a1)) 466 some (p0.2.1 251 (w32 (15 + a1)).toNat, p0.2)) else (if a2 = 2 then (inR (w32 (86 + a1)) 466 some (p0.2.1 251 (w32 (86 + a1)).toNat, p0.2)) else (if a2 = 3 then (inR (w32 (95 + a1)) 466 some (p0.2.1 251 (w32 (95 + a1)).toNat, p0.2)) else (if a2 = 4 then ((f_R_isFree m a1 p0.2).bind fun p1 => (if p1.1 = 0 then some (0, p1.2) else some (1, p1.2))) else (if a2 = 5 then (inR (w32 (104 + a1)) 466 some (p0.2.1 251 (w32 (104 + a1)).toNat, p0.2)) else some ((-1), p0.2))))))))) := rfl
set_option maxRecDepth 100000 in
set_option maxHeartbeats 1000000 in
theorem f_R_isPlot_eq (m : Nat) (a1 : Int) (s : mS) : f_R_isPlot m a1 s = ((f_R_isIn m a1 0 (w32 ((s.1 251 1) - 1)) s).bind fun p0 => (if p0.1 = 0 ∨ p0.1 = 1 then some (p0.1, p0.2) else none)) := rfl
set_option maxRecDepth 100000 in
set_option maxHeartbeats 1000000 in
theorem f_R_plot_eq (m : Nat) (a1 : Int) (a2 : Int) (s : mS) : f_R_plot m a1 a2 s = ((f_R_isPlot m a1 (wI s 249 0 0)).bind fun p0 => (if p0.1 = 0 then some ((-1), p0.2) else (if a2 = 0 then (inR (w32 (24 + a1)) 466 some (p0.2.1 251 (w32 (24 + a1)).toNat, p0.2)) else (if a2 = 1 then (inR (w32 (154 + a1)) 466 some (p0.2.1 251 (w32 (154 + a1)).toNat, p0.2)) else (if a2 = 2 then (inR (w32 (149 + a1)) 466 some (p0.2.1 251 (w32 (149 + a1)).toNat, p0.2)) else (if a2 = 3 then (inR (w32 (159 + a1)) 466 some (p0.2.1 251 (w32 (159 + a1)).toNat, p0.2)) else some ((-1), p0.2))))))) := rfl
set_option maxRecDepth 100000 in
set_option maxHeartbeats 1000000 in
theorem f_R_isDead_eq (m : Nat) (a1 : Int) (s : mS) : f_R_isDead m a1 s = ((f_R_isIn m a1 0 (w32 ((s.1 251 2) - 1)) s).bind fun p0 => (if p0.1 = 0 ∨ p0.1 = 1 then some (p0.1, p0.2) else none)) := rfl
set_option maxRecDepth 100000 in
set_option maxHeartbeats 1000000 in
theorem f_R_refuse_eq (m : Nat) (s : mS) : f_R_refuse m s = some (0, wI s 249 0 1) := rfl
set_option maxRecDepth 100000 in
set_option maxHeartbeats 1000000 in
theorem f_R_dead_eq (m : Nat) (a1 : Int) (a2 : Int) (s : mS) : f_R_dead m a1 a2 s = ((f_R_isDead m a1 (wI s 249 0 0)).bind fun p0 => (if p0.1 = 0 then ((f_R_refuse m p0.2).bind fun p1 => some (p1.1, p1.2)) else (if a2 = 0 then (inR (w32 (29 + a1)) 466 some (p0.2.1 251 (w32 (29 + a1)).toNat, p0.2)) else (if a2 = 1 then (inR (w32 (164 + a1)) 466 some (p0.2.1 251 (w32 (164 + a1)).toNat, p0.2)) else (if a2 = 2 then (inR (w32 (176 + a1)) 466 some (p0.2.1 251 (w32 (176 + a1)).toNat, p0.2)) else (if a2 = 3 then (inR (w32 (188 + a1)) 466 some (p0.2.1 251 (w32 (188 + a1)).toNat, p0.2)) else (if a2 = 4 then (inR (w32 (200 + a1)) 466 some (p0.2.1 251 (w32 (200 + a1)).toNat, p0.2)) else (if a2 = 5 then (inR (w32 (212 + a1)) 466 some (p0.2.1 251 (w32 (212 + a1)).toNat, p0.2)) else (if a2 = 6 then (inR (w32 (53 + a1)) 466 some (p0.2.1 251 (w32 (53 + a1)).toNat, p0.2)) else (if a2 = 7 then (inR (w32 (65 + a1)) 466 some (w32 ((p0.2.1 251 (w32 (65 + a1)).toNat) - 1), p0.2)) else ((f_R_refuse m p0.2).bind fun p1 => some (p1.1, p1.2)))))))))))) := rfl
set_option maxRecDepth 100000 in
set_option maxHeartbeats 1000000 in
theorem f_R_isFrost_eq (m : Nat) (a1 : Int) (s : mS) : f_R_isFrost m a1 s = (l_R_isFrost_L2 m m a1 0 s) := rfl
set_option maxRecDepth 100000 in
set_option maxHeartbeats 1000000 in
theorem l_R_isFrost_L2_eq (m : Nat) (n : Nat) (x1 : Int) (x2 : Int) (s : mS) : l_R_isFrost_L2 m (n + 1) x1 x2 s = (if x2 < s.1 251 4 then (inR (w32 (77 + x2)) 466 (inR (w32 (81 + x2)) 466 ((f_R_isIn m (w32 (x1 - (s.1 251 (w32 (77 + x2)).toNat))) 0 (w32 ((s.1 251 (w32 (81 + x2)).toNat) - 1)) s).bind fun p0 => (if p0.1 = 0 then (l_R_isFrost_L2 m n x1 (w32 (x2 + 1)) p0.2) else some (1, p0.2))))) else some (0, s)) := rfl
set_option maxRecDepth 100000 in
set_option maxHeartbeats 1000000 in
theorem f_R_those_eq (m : Nat) (a1 : Int) (s : mS) : f_R_those m a1 s = (l_R_those_L4 m m a1 0 0 s) := rfl
set_option maxRecDepth 100000 in
set_option maxHeartbeats 1000000 in
theorem l_R_those_L4_eq (m : Nat) (n : Nat) (x1 : Int) (x2 : Int) (x3 : Int) (s : mS) : l_R_those_L4 m (n + 1) x1 x2 x3 s = (if x3 < s.1 251 2 then (inR (w32 (164 + x3)) 466 (if s.1 251 (w32 (164 + x3)).toNat = x1 then (l_R_those_L4 m n x1 (bor x2 (bshl 1 x3)) (w32 (x3 + 1)) s) else (l_R_those_L4 m n x1 x2 (w32 (x3 + 1)) s))) else some (x2, s)) := rfl
set_option maxRecDepth 100000 in
set_option maxHeartbeats 1000000 in
theorem f_R_now_eq (m : Nat) (a1 : Int) (s : mS) : f_R_now m a1 s = (if a1 = 0 then some ((wI s 249 0 0).1 251 85, wI s 249 0 0) else (if a1 = 1 then ((f_R_those m (w32 (a1 - 1)) (wI s 249 0 0)).bind fun p0 => some (p0.1, p0.2)) else (if a1 = 2 then ((f_R_those m (w32 (a1 - 1)) (wI s 249 0 0)).bind fun p0 => some (p0.1, p0.2)) else (if a1 = 3 then ((f_R_those m (w32 (a1 - 1)) (wI s 249 0 0)).bind fun p0 => some (p0.1, p0.2)) else (if a1 = 4 then ((f_R_those m (w32 (a1 - 1)) (wI s 249 0 0)).bind fun p0 => some (p0.1, p0.2)) else (if a1 = 5 then (l_R_now_L74 m m 0 0 (wI s 249 0 0)) else (if a1 = 6 then (l_R_now_L108 m m 0 0 (wI s 249 0 0)) else (if a1 = 7 then ((f_R_isFrost m ((wI s 249 0 0).1 251 85) (wI s 249 0 0)).bind fun p0 => (if p0.1 = 0 then some (0, p0.2) else some (1, p0.2))) else some ((-1), wI s 249 0 0))))))))) := rfl
set_option maxRecDepth 100000 in
set_option maxHeartbeats 1000000 in
theorem l_R_now_L108_eq (m : Nat) (n : Nat) (x2 : Int) (x3 : Int) (s : mS) : l_R_now_L108 m (n + 1) x2 x3 s = (if x3 < s.1 251 1 then (inR (w32 (149 + x3)) 466 (if s.1 251 (w32 (149 + x3)).toNat = 0 then (l_R_now_L108 m n (bor x2 (bshl 1 x3)) (w32 (x3 + 1)) s) else (l_R_now_L108 m n x2 (w32 (x3 + 1)) s))) else some (x2, s)) := rfl
set_option maxRecDepth 100000 in
set_option maxHeartbeats 1000000 in
theorem l_R_now_L74_eq (m : Nat) (n : Nat) (x2 : Int) (x3 : Int) (s : mS) : l_R_now_L74 m (n + 1) x2 x3 s = (if x3 < s.1 251 0 then ((f_R_isFree m x3 s).bind fun p0 => (if p0.1 = 0 then (l_R_now_L74 m n x2 (w32 (x3 + 1)) p0.2) else (l_R_now_L74 m n (bor x2 (bshl 1 x3)) (w32 (x3 + 1)) p0.2))) else some (x2, s)) := rfl
set_option maxRecDepth 100000 in
set_option maxHeartbeats 1000000 in
theorem f_R_had_eq (m : Nat) (a1 : Int) (a2 : Int) (s : mS) : f_R_had m a1 a2 s = ((f_R_isBox m a1 (wI s 249 0 0)).bind fun p0 => (if p0.1 = 0 then some ((-1), p0.2) else ((f_R_isIn m a2 0 3 p0.2).bind fun p1 => (if p1.1 = 0 then some ((-1), p1.2) else (inR (w32 ((w32 (113 + (w32 (4 * a1)))) + a2)) 466 some (p1.2.1 251 (w32 ((w32 (113 + (w32 (4 * a1)))) + a2)).toNat, p1.2)))))) := rfl
set_option maxRecDepth 100000 in
set_option maxHeartbeats 1000000 in
theorem f_R_fits_eq (m : Nat) (a1 : Int) (a2 : Int) (s : mS) : f_R_fits m a1 a2 s = (inR (w32 (29 + a1)) 466 (inR (w32 (6 + a2)) 466 (if s.1 251 (w32 (6 + a2)).toNat < s.1 251 (w32 (29 + a1)).toNat then some (0, s) else some (1, s)))) := rfl
set_option maxRecDepth 100000 in
set_option maxHeartbeats 1000000 in
theorem f_R_whySwap_eq (m : Nat) (a1 : Int) (a2 : Int) (s : mS) : f_R_whySwap m a1 a2 s = (inR (w32 (164 + a1)) 466 (if s.1 251 (w32 (164 + a1)).toNat = 2 then (inR (w32 (164 + a2)) 466 (if s.1 251 (w32 (164 + a2)).toNat = 2 then (inR (w32 (176 + a2)) 466 ((f_R_fits m a1 (s.1 251 (w32 (176 + a2)).toNat) s).bind fun p0 => (if p0.1 = 0 then some (2, p0.2) else (inR (w32 (176 + a1)) 466 ((f_R_fits m a2 (p0.2.1 251 (w32 (176 + a1)).toNat) p0.2).bind fun p1 => (if p1.1 = 0 then some (2, p1.2) else some (0, p1.2))))))) else some (1, s))) else some (1, s))) := rfl
set_option maxRecDepth 100000 in
set_option maxHeartbeats 1000000 in
theorem f_R_isByKin_eq (m : Nat) (a1 : Int) (a2 : Int) (s : mS) : f_R_isByKin m a1 a2 s = (inR (w32 (154 + a2)) 466 (if s.1 251 (w32 (154 + a2)).toNat = (-1) then some (0, s) else (inR (w32 (53 + a1)) 466 (inR (w32 (154 + a2)) 466 ((f_R_has m (s.1 251 (w32 (53 + a1)).toNat) (s.1 251 (w32 (154 + a2)).toNat) s).bind fun p0 => (if p0.1 = 0 then some (0, p0.2) else some (1, p0.2))))))) := rfl
set_option maxRecDepth 100000 in
set_option maxHeartbeats 1000000 in
theorem f_R_whyLay_eq (m : Nat) (a1 : Int) (a2 : Int) (s : mS) : f_R_whyLay m a1 a2 s = (inR (w32 (164 + a1)) 466 (if s.1 251 (w32 (164 + a1)).toNat = 2 then ((f_R_isFrost m (s.1 251 85) s).bind fun p0 => (if p0.1 = 0 then (inR (w32 (149 + a2)) 466 (if 0 < p0.2.1 251 (w32 (149 + a2)).toNat then some (3, p0.2) else ((f_R_isByKin m a1 a2 p0.2).bind fun p1 => (if p1.1 = 0 then some (0, p1.2) else some (4, p1.2))))) else some (2, p0.2))) else some (1, s))) := rfl
