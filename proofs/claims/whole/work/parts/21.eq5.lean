/-! ===== written by gen_fun.py: do not edit ===== -/
set_option maxHeartbeats 1000000 in
set_option maxRecDepth 100000 in
theorem zf_R_undo_eq (Z : mZ) (m : Nat) (s : mS) : zf_R_undo Z m s = (if (wI s 249 0 0).1 249 25 = 0 then (some ((-1), wI s 249 0 0)) else ((zf_R_comeBack_249_254 Z m (Z 2 139 ((wI (wI s 249 0 0) 249 25 (Z 1 ((wI s 249 0 0).1 249 25) 1)).1 249 25)) (wI (wI s 249 0 0) 249 25 (Z 1 ((wI s 249 0 0).1 249 25) 1))).bind fun p0 => (some (p0.2.1 249 25, p0.2)))) := rfl
set_option maxHeartbeats 1000000 in
set_option maxRecDepth 100000 in
theorem zf_R_least_eq (Z : mZ) (m : Nat) (a0 : Int) (a1 : Int) (s : mS) : zf_R_least Z m a0 a1 s = (if a0 < a1 then (some (a0, s)) else (some (a1, s))) := rfl
set_option maxHeartbeats 1000000 in
set_option maxRecDepth 100000 in
theorem zf_R_oneDay_eq (Z : mZ) (m : Nat) (s : mS) : zf_R_oneDay Z m s = (zl_R_oneDay_L2 Z m m 0 s) := rfl
set_option maxHeartbeats 1000000 in
set_option maxRecDepth 100000 in
theorem zl_R_oneDay_L2_eq (Z : mZ) (m : Nat) (n : Nat) (x1 : Int) (s : mS) : zl_R_oneDay_L2 Z m (n + 1) x1 s = (if x1 < s.1 251 2 then (inR (Z 0 164 x1) 466 (if s.1 251 (Z 0 164 x1).toNat = 1 then (inR (Z 0 200 x1) 466 (inR (Z 0 200 x1) 466 (inR (Z 0 164 x1) 466 (if (wI s 251 (Z 0 200 x1).toNat (Z 0 (s.1 251 (Z 0 200 x1).toNat) 1)).1 251 (Z 0 164 x1).toNat = 2 then (inR (Z 0 212 x1) 466 (inR (Z 0 212 x1) 466 (zl_R_oneDay_L2 Z m n (Z 0 x1 1) (wI (wI s 251 (Z 0 200 x1).toNat (Z 0 (s.1 251 (Z 0 200 x1).toNat) 1)) 251 (Z 0 212 x1).toNat (Z 0 ((wI s 251 (Z 0 200 x1).toNat (Z 0 (s.1 251 (Z 0 200 x1).toNat) 1)).1 251 (Z 0 212 x1).toNat) 1))))) else (zl_R_oneDay_L2 Z m n (Z 0 x1 1) (wI s 251 (Z 0 200 x1).toNat (Z 0 (s.1 251 (Z 0 200 x1).toNat) 1))))))) else (inR (Z 0 164 x1) 466 (if s.1 251 (Z 0 164 x1).toNat = 2 then (inR (Z 0 212 x1) 466 (inR (Z 0 212 x1) 466 (zl_R_oneDay_L2 Z m n (Z 0 x1 1) (wI s 251 (Z 0 212 x1).toNat (Z 0 (s.1 251 (Z 0 212 x1).toNat) 1))))) else (zl_R_oneDay_L2 Z m n (Z 0 x1 1) s))))) else (zl_R_oneDay_L76 Z m n 0 s)) := rfl
set_option maxHeartbeats 1000000 in
set_option maxRecDepth 100000 in
theorem zl_R_oneDay_L76_eq (Z : mZ) (m : Nat) (n : Nat) (x1 : Int) (s : mS) : zl_R_oneDay_L76 Z m (n + 1) x1 s = (if x1 < 9 then (inR (Z 0 104 x1) 466 (if 0 < s.1 251 (Z 0 104 x1).toNat then (inR (Z 0 104 x1) 466 (inR (Z 0 104 x1) 466 (zl_R_oneDay_L76 Z m n (Z 0 x1 1) (wI s 251 (Z 0 104 x1).toNat (Z 1 (s.1 251 (Z 0 104 x1).toNat) 1))))) else (zl_R_oneDay_L76 Z m n (Z 0 x1 1) s))) else (zl_R_oneDay_L115 Z m n 0 s)) := rfl
set_option maxHeartbeats 1000000 in
set_option maxRecDepth 100000 in
theorem zl_R_oneDay_L115_eq (Z : mZ) (m : Nat) (n : Nat) (x1 : Int) (s : mS) : zl_R_oneDay_L115 Z m (n + 1) x1 s = (if x1 < 5 then (inR (Z 0 149 x1) 466 (if 0 < s.1 251 (Z 0 149 x1).toNat then (inR (Z 0 149 x1) 466 (inR (Z 0 149 x1) 466 (zl_R_oneDay_L115 Z m n (Z 0 x1 1) (wI s 251 (Z 0 149 x1).toNat (Z 1 (s.1 251 (Z 0 149 x1).toNat) 1))))) else (zl_R_oneDay_L115 Z m n (Z 0 x1 1) s))) else ((zf_R_comeb Z m (wI s 251 85 (Z 0 (s.1 251 85) 1))).bind fun p0 => (some (0, p0.2)))) := rfl
set_option maxHeartbeats 1000000 in
set_option maxRecDepth 100000 in
theorem zf_R_passDays_eq (Z : mZ) (m : Nat) (a1 : Int) (s : mS) : zf_R_passDays Z m a1 s = ((zf_R_least Z m a1 (Z 1 400 (s.1 251 85)) s).bind fun p0 => (zl_R_passDays_L18 Z m m p0.1 0 p0.2)) := rfl
set_option maxHeartbeats 1000000 in
set_option maxRecDepth 100000 in
theorem zl_R_passDays_L18_eq (Z : mZ) (m : Nat) (n : Nat) (x2 : Int) (x3 : Int) (s : mS) : zl_R_passDays_L18 Z m (n + 1) x2 x3 s = (if x3 < x2 then ((zf_R_oneDay Z m s).bind fun p0 => (zl_R_passDays_L18 Z m n x2 (Z 0 x3 1) p0.2)) else (some (x2, s))) := rfl
set_option maxHeartbeats 1000000 in
set_option maxRecDepth 100000 in
theorem zf_R_days_eq (Z : mZ) (m : Nat) (a1 : Int) (s : mS) : zf_R_days Z m a1 s = ((zf_R_isIn Z m a1 1 60 (wI s 249 0 0)).bind fun p0 => (if p0.1 = 0 then (some ((-1), p0.2)) else (if p0.2.1 251 85 = 400 then (some (0, p0.2)) else ((zf_R_snap Z m p0.2).bind fun p1 => ((zf_R_passDays Z m a1 p1.2).bind fun p2 => (some (p2.1, p2.2))))))) := rfl
set_option maxHeartbeats 1000000 in
set_option maxRecDepth 100000 in
theorem zf_R_canLend_eq (Z : mZ) (m : Nat) (a1 : Int) (a2 : Int) (s : mS) : zf_R_canLend Z m a1 a2 s = (inR (Z 0 164 a1) 466 (if s.1 251 (Z 0 164 a1).toNat = 1 then ((zf_R_isFree Z m a2 s).bind fun p0 => (if p0.1 = 0 then (some (0, p0.2)) else ((zf_R_fits Z m a1 a2 p0.2).bind fun p1 => (if p1.1 = 0 then (some (0, p1.2)) else (inR (Z 0 86 a2) 466 (inR (Z 0 15 a2) 466 (if p1.2.1 251 (Z 0 86 a2).toNat < p1.2.1 251 (Z 0 15 a2).toNat then (some (1, p1.2)) else (some (0, p1.2))))))))) else (some (0, s)))) := rfl
set_option maxHeartbeats 1000000 in
set_option maxRecDepth 100000 in
theorem zf_R_boxFor_eq (Z : mZ) (m : Nat) (a1 : Int) (a2 : Int) (s : mS) : zf_R_boxFor Z m a1 a2 s = (zl_R_boxFor_L2 Z m m a1 a2 0 s) := rfl
set_option maxHeartbeats 1000000 in
set_option maxRecDepth 100000 in
theorem zl_R_boxFor_L2_eq (Z : mZ) (m : Nat) (n : Nat) (x1 : Int) (x2 : Int) (x3 : Int) (s : mS) : zl_R_boxFor_L2 Z m (n + 1) x1 x2 x3 s = (if x3 < s.1 251 0 then ((zf_R_has Z m x2 x3 s).bind fun p0 => (if p0.1 = 0 then ((zf_R_canLend Z m x1 x3 p0.2).bind fun p1 => (if p1.1 = 0 then (zl_R_boxFor_L2 Z m n x1 x2 (Z 0 x3 1) p1.2) else (inR (Z 0 (Z 2 512 (Z 0 x1 1)) (Z 4 x2 (Z 6 1 x3))) 6656 (inR (Z 0 (Z 2 512 x1) x2) 6656 (if Z 0 1 (p1.2.1 261 (Z 0 (Z 2 512 (Z 0 x1 1)) (Z 4 x2 (Z 6 1 x3))).toNat) = p1.2.1 261 (Z 0 (Z 2 512 x1) x2).toNat then (some (x3, p1.2)) else (zl_R_boxFor_L2 Z m n x1 x2 (Z 0 x3 1) p1.2)))))) else (zl_R_boxFor_L2 Z m n x1 x2 (Z 0 x3 1) p0.2))) else (some ((-1), s))) := rfl
set_option maxHeartbeats 1000000 in
set_option maxRecDepth 100000 in
theorem zf_R_mostOf_eq (Z : mZ) (m : Nat) (a1 : Int) (a2 : Int) (s : mS) : zf_R_mostOf Z m a1 a2 s = (inR (Z 0 (Z 2 512 (Z 0 a1 1)) a2) 6656 (zl_R_mostOf_L18 Z m m a1 a2 (s.1 261 (Z 0 (Z 2 512 (Z 0 a1 1)) a2).toNat) 0 s)) := rfl
set_option maxHeartbeats 1000000 in
set_option maxRecDepth 100000 in
theorem zl_R_mostOf_L18_eq (Z : mZ) (m : Nat) (n : Nat) (x1 : Int) (x2 : Int) (x3 : Int) (x4 : Int) (s : mS) : zl_R_mostOf_L18 Z m (n + 1) x1 x2 x3 x4 s = (if x4 < s.1 251 0 then ((zf_R_has Z m x2 x4 s).bind fun p0 => (if p0.1 = 0 then ((zf_R_canLend Z m x1 x4 p0.2).bind fun p1 => (if p1.1 = 0 then (zl_R_mostOf_L18 Z m n x1 x2 x3 (Z 0 x4 1) p1.2) else (inR (Z 0 (Z 2 512 (Z 0 x1 1)) (Z 4 x2 (Z 6 1 x4))) 6656 (if x3 < Z 0 1 (p1.2.1 261 (Z 0 (Z 2 512 (Z 0 x1 1)) (Z 4 x2 (Z 6 1 x4))).toNat) then (zl_R_mostOf_L18 Z m n x1 x2 (Z 0 1 (p1.2.1 261 (Z 0 (Z 2 512 (Z 0 x1 1)) (Z 4 x2 (Z 6 1 x4))).toNat)) (Z 0 x4 1) p1.2) else (zl_R_mostOf_L18 Z m n x1 x2 x3 (Z 0 x4 1) p1.2))))) else (zl_R_mostOf_L18 Z m n x1 x2 x3 (Z 0 x4 1) p0.2))) else (some (x3, s))) := rfl
set_option maxHeartbeats 1000000 in
set_option maxRecDepth 100000 in
theorem zf_R_match_eq (Z : mZ) (m : Nat) (s : mS) : zf_R_match Z m s = (zl_R_match_L14 Z m m ((wI s 249 0 0).1 251 2) 0 (wI s 249 0 0)) := rfl
set_option maxHeartbeats 1000000 in
set_option maxRecDepth 100000 in
theorem zl_R_match_L14_eq (Z : mZ) (m : Nat) (n : Nat) (x1 : Int) (x2 : Int) (s : mS) : zl_R_match_L14 Z m (n + 1) x1 x2 s = (if x2 < 512 then (inR (Z 0 (Z 2 512 x1) x2) 6656 (zl_R_match_L14 Z m n x1 (Z 0 x2 1) (wI s 261 (Z 0 (Z 2 512 x1) x2).toNat 0))) else (zl_R_match_L44 Z m n x1 (Z 1 x1 1) s)) := rfl
set_option maxHeartbeats 1000000 in
set_option maxRecDepth 100000 in
theorem zl_R_match_L44_eq (Z : mZ) (m : Nat) (n : Nat) (x1 : Int) (x2 : Int) (s : mS) : zl_R_match_L44 Z m (n + 1) x1 x2 s = (if x2 < 0 then (zl_R_match_L91 Z m n x1 0 0 s) else (zl_R_match_L50 Z m n x1 x2 0 s)) := rfl
set_option maxHeartbeats 1000000 in
set_option maxRecDepth 100000 in
theorem zl_R_match_L91_eq (Z : mZ) (m : Nat) (n : Nat) (x1 : Int) (x2 : Int) (x3 : Int) (s : mS) : zl_R_match_L91 Z m (n + 1) x1 x2 x3 s = (if x3 < x1 then ((zf_R_boxFor Z m x3 x2 s).bind fun p0 => (inR x3 12 (inR x3 12 (if (wI p0.2 262 x3.toNat p0.1).1 262 x3.toNat = (-1) then (zl_R_match_L91 Z m n x1 x2 (Z 0 x3 1) (wI p0.2 262 x3.toNat p0.1)) else (inR x3 12 (zl_R_match_L91 Z m n x1 (Z 4 x2 (Z 6 1 ((wI p0.2 262 x3.toNat p0.1).1 262 x3.toNat))) (Z 0 x3 1) (wI p0.2 262 x3.toNat p0.1))))))) else (some ((wI s 249 28 x1).1 261 0, wI s 249 28 x1))) := rfl
set_option maxHeartbeats 1000000 in
set_option maxRecDepth 100000 in
theorem zl_R_match_L50_eq (Z : mZ) (m : Nat) (n : Nat) (x1 : Int) (x2 : Int) (x3 : Int) (s : mS) : zl_R_match_L50 Z m (n + 1) x1 x2 x3 s = (if x3 < 512 then ((zf_R_mostOf Z m x2 x3 s).bind fun p0 => (inR (Z 0 (Z 2 512 x2) x3) 6656 (zl_R_match_L50 Z m n x1 x2 (Z 0 x3 1) (wI p0.2 261 (Z 0 (Z 2 512 x2) x3).toNat p0.1)))) else (zl_R_match_L44 Z m n x1 (Z 0 x2 (-1)) s)) := rfl
set_option maxHeartbeats 1000000 in
set_option maxRecDepth 100000 in
theorem zf_R_matchOf_eq (Z : mZ) (m : Nat) (a1 : Int) (s : mS) : zf_R_matchOf Z m a1 s = ((zf_R_isIn Z m a1 0 (Z 1 ((wI s 249 0 0).1 249 28) 1) (wI s 249 0 0)).bind fun p0 => (if p0.1 = 0 then (some ((-1), p0.2)) else (inR a1 12 (some (p0.2.1 262 a1.toNat, p0.2))))) := rfl
set_option maxHeartbeats 1000000 in
set_option maxRecDepth 100000 in
theorem zf_R_plotIn_eq (Z : mZ) (m : Nat) (a1 : Int) (a2 : Int) (s : mS) : zf_R_plotIn Z m a1 a2 s = ((zf_R_isFrost Z m (Z 0 (s.1 251 85) a2) s).bind fun p0 => (if p0.1 = 0 then (zl_R_plotIn_L20 Z m m a1 a2 0 p0.2) else (some ((-1), p0.2)))) := rfl
set_option maxHeartbeats 1000000 in
set_option maxRecDepth 100000 in
theorem zl_R_plotIn_L20_eq (Z : mZ) (m : Nat) (n : Nat) (x1 : Int) (x2 : Int) (x3 : Int) (s : mS) : zl_R_plotIn_L20 Z m (n + 1) x1 x2 x3 s = (if x3 < s.1 251 1 then (inR (Z 0 149 x3) 466 (if x2 < s.1 251 (Z 0 149 x3).toNat then (zl_R_plotIn_L20 Z m n x1 x2 (Z 0 x3 1) s) else ((zf_R_isByKin Z m x1 x3 s).bind fun p0 => (if p0.1 = 0 then (some (x3, p0.2)) else (zl_R_plotIn_L20 Z m n x1 x2 (Z 0 x3 1) p0.2))))) else (some ((-1), s))) := rfl
set_option maxHeartbeats 1000000 in
set_option maxRecDepth 100000 in
theorem zf_R_soon_eq (Z : mZ) (m : Nat) (a1 : Int) (s : mS) : zf_R_soon Z m a1 s = ((zf_R_isDead Z m a1 (wI s 249 0 0)).bind fun p0 => (if p0.1 = 0 then (some ((-1), p0.2)) else (inR (Z 0 164 a1) 466 (if p0.2.1 251 (Z 0 164 a1).toNat = 2 then (zl_R_soon_L31 Z m m a1 0 p0.2) else (some ((-1), p0.2)))))) := rfl
set_option maxHeartbeats 1000000 in
set_option maxRecDepth 100000 in
theorem zl_R_soon_L31_eq (Z : mZ) (m : Nat) (n : Nat) (x1 : Int) (x2 : Int) (s : mS) : zl_R_soon_L31 Z m (n + 1) x1 x2 s = (if 300 < x2 then (some ((-1), s)) else ((zf_R_plotIn Z m x1 x2 s).bind fun p0 => (if p0.1 = (-1) then (zl_R_soon_L31 Z m n x1 (Z 0 x2 1) p0.2) else (some (x2, wI p0.2 249 29 p0.1))))) := rfl
set_option maxHeartbeats 1000000 in
set_option maxRecDepth 100000 in
theorem zf_R_soonIn_eq (Z : mZ) (m : Nat) (s : mS) : zf_R_soonIn Z m s = (some ((wI s 249 0 0).1 249 29, wI s 249 0 0)) := rfl
set_option maxHeartbeats 1000000 in
set_option maxRecDepth 100000 in
theorem zf_R_crowd_eq (Z : mZ) (m : Nat) (a1 : Int) (s : mS) : zf_R_crowd Z m a1 s = ((zf_R_isIn Z m a1 0 99 (wI s 249 0 0)).bind fun p0 => (if p0.1 = 0 then (some ((-1), p0.2)) else (zl_R_crowd_L21 Z m m a1 0 0 p0.2))) := rfl
set_option maxHeartbeats 1000000 in
set_option maxRecDepth 100000 in
theorem zl_R_crowd_L21_eq (Z : mZ) (m : Nat) (n : Nat) (x1 : Int) (x2 : Int) (x3 : Int) (s : mS) : zl_R_crowd_L21 Z m (n + 1) x1 x2 x3 s = (if x3 < s.1 251 2 then (inR (Z 0 164 x3) 466 (if s.1 251 (Z 0 164 x3).toNat = 1 then (zl_R_crowd_L21 Z m n x1 (Z 0 x2 1) (Z 0 x3 1) s) else (inR (Z 0 164 x3) 466 (if s.1 251 (Z 0 164 x3).toNat = 0 then (inR (Z 0 41 x3) 466 (if Z 0 (s.1 251 85) x1 < s.1 251 (Z 0 41 x3).toNat then (zl_R_crowd_L21 Z m n x1 x2 (Z 0 x3 1) s) else (zl_R_crowd_L21 Z m n x1 (Z 0 x2 1) (Z 0 x3 1) s))) else (zl_R_crowd_L21 Z m n x1 x2 (Z 0 x3 1) s))))) else (some (x2, s))) := rfl
set_option maxHeartbeats 1000000 in
set_option maxRecDepth 100000 in
theorem zf_R_isOut_eq (Z : mZ) (m : Nat) (a1 : Int) (a2 : Int) (a3 : Int) (s : mS) : zf_R_isOut Z m a1 a2 a3 s = (inR (Z 0 164 a1) 466 (if s.1 251 (Z 0 164 a1).toNat = 3 then (some (0, s)) else (inR (Z 0 164 a1) 466 (if s.1 251 (Z 0 164 a1).toNat = 0 then (inR (Z 0 41 a1) 466 ((zf_R_isIn Z m (Z 1 a2 (s.1 251 (Z 0 41 a1).toNat)) 0 (Z 1 (Z 0 a3 (s.1 251 5)) 1) s).bind fun p0 => (if p0.1 = 0 ∨ p0.1 = 1 then some (p0.1, p0.2) else none))) else ((zf_R_isIn Z m (Z 1 a2 (s.1 251 85)) 0 (Z 1 (Z 0 a3 (s.1 251 5)) 1) s).bind fun p0 => (if p0.1 = 0 ∨ p0.1 = 1 then some (p0.1, p0.2) else none)))))) := rfl
set_option maxHeartbeats 1000000 in
set_option maxRecDepth 100000 in
theorem zf_R_need_eq (Z : mZ) (m : Nat) (a1 : Int) (a2 : Int) (s : mS) : zf_R_need Z m a1 a2 s = ((zf_R_isIn Z m a1 0 99 (wI s 249 0 0)).bind fun p0 => (if p0.1 = 0 then (some ((-1), p0.2)) else ((zf_R_isIn Z m a2 1 60 p0.2).bind fun p1 => (if p1.1 = 0 then (some ((-1), p1.2)) else (zl_R_need_L32 Z m m a1 a2 0 0 p1.2))))) := rfl
set_option maxHeartbeats 1000000 in
set_option maxRecDepth 100000 in
theorem zl_R_need_L32_eq (Z : mZ) (m : Nat) (n : Nat) (x1 : Int) (x2 : Int) (x3 : Int) (x4 : Int) (s : mS) : zl_R_need_L32 Z m (n + 1) x1 x2 x3 x4 s = (if x1 < x4 then (some (x3, s)) else (zl_R_need_L44 Z m n x1 x2 x3 x4 0 0 s)) := rfl
set_option maxHeartbeats 1000000 in
set_option maxRecDepth 100000 in
theorem zl_R_need_L44_eq (Z : mZ) (m : Nat) (n : Nat) (x1 : Int) (x2 : Int) (x3 : Int) (x4 : Int) (x5 : Int) (x6 : Int) (s : mS) : zl_R_need_L44 Z m (n + 1) x1 x2 x3 x4 x5 x6 s = (if x6 < s.1 251 2 then ((zf_R_isOut Z m x6 (Z 0 (s.1 251 85) x4) x2 s).bind fun p0 => (if p0.1 = 0 then (zl_R_need_L44 Z m n x1 x2 x3 x4 x5 (Z 0 x6 1) p0.2) else (zl_R_need_L44 Z m n x1 x2 x3 x4 (Z 0 x5 1) (Z 0 x6 1) p0.2))) else (if x3 < x5 then (zl_R_need_L32 Z m n x1 x2 x5 (Z 0 x4 1) s) else (zl_R_need_L32 Z m n x1 x2 x3 (Z 0 x4 1) s))) := rfl
set_option maxHeartbeats 1000000 in
set_option maxRecDepth 100000 in
theorem zf_R_nextIn_eq (Z : mZ) (m : Nat) (a1 : Int) (s : mS) : zf_R_nextIn Z m a1 s = (inR (Z 0 65 a1) 466 (if Z 1 (s.1 251 (Z 0 65 a1).toNat) 1 = (-1) then (some ((-1), s)) else ((zf_R_fits Z m a1 (Z 1 (s.1 251 (Z 0 65 a1).toNat) 1) s).bind fun p0 => (if p0.1 = 0 then (some ((-1), p0.2)) else (inR (Z 0 95 (Z 1 (s.1 251 (Z 0 65 a1).toNat) 1)) 466 (some (p0.2.1 251 (Z 0 95 (Z 1 (s.1 251 (Z 0 65 a1).toNat) 1)).toNat, p0.2))))))) := rfl
set_option maxHeartbeats 1000000 in
set_option maxRecDepth 100000 in
theorem zf_R_ring_eq (Z : mZ) (m : Nat) (a1 : Int) (s : mS) : zf_R_ring Z m a1 s = ((zf_R_isDead Z m a1 (wI s 249 0 0)).bind fun p0 => (if p0.1 = 0 then (some ((-1), p0.2)) else (inR (Z 0 164 a1) 466 (if p0.2.1 251 (Z 0 164 a1).toNat = 2 then (zl_R_ring_L33 Z m m a1 0 a1 p0.2) else (some ((-1), p0.2)))))) := rfl
set_option maxHeartbeats 1000000 in
set_option maxRecDepth 100000 in
theorem zl_R_ring_L33_eq (Z : mZ) (m : Nat) (n : Nat) (x1 : Int) (x2 : Int) (x3 : Int) (s : mS) : zl_R_ring_L33 Z m (n + 1) x1 x2 x3 s = (if x3 = (-1) then (some ((-1), s)) else (if x2 = 12 then (some ((-1), s)) else (inR x2 12 ((zf_R_nextIn Z m x3 (wI s 263 x2.toNat x3)).bind fun p0 => (if p0.1 = x1 then (zl_R_ring_L75 Z m n (Z 0 x2 1) 0 (wI p0.2 249 32 (Z 0 x2 1))) else (zl_R_ring_L33 Z m n x1 (Z 0 x2 1) p0.1 p0.2)))))) := rfl
set_option maxHeartbeats 1000000 in
set_option maxRecDepth 100000 in
theorem zl_R_ring_L75_eq (Z : mZ) (m : Nat) (n : Nat) (x2 : Int) (x4 : Int) (s : mS) : zl_R_ring_L75 Z m (n + 1) x2 x4 s = (if x4 < x2 then (inR x4 12 (inR x4 12 (zl_R_ring_L75 Z m n x2 (Z 0 x4 1) (wI s 264 x4.toNat (s.1 263 x4.toNat))))) else (some (x2, s))) := rfl
set_option maxHeartbeats 1000000 in
set_option maxRecDepth 100000 in
theorem zf_R_ringAt_eq (Z : mZ) (m : Nat) (a1 : Int) (s : mS) : zf_R_ringAt Z m a1 s = ((zf_R_isIn Z m a1 0 (Z 1 ((wI s 249 0 0).1 249 32) 1) (wI s 249 0 0)).bind fun p0 => (if p0.1 = 0 then (some ((-1), p0.2)) else (inR a1 12 (some (p0.2.1 264 a1.toNat, p0.2))))) := rfl
set_option maxHeartbeats 1000000 in
set_option maxRecDepth 100000 in
theorem zf_R_partOf_eq (Z : mZ) (m : Nat) (a1 : Int) (a2 : Int) (s : mS) : zf_R_partOf Z m a1 a2 s = (if a2 = 0 then (inR (Z 0 29 a1) 466 (some (s.1 251 (Z 0 29 a1).toNat, s))) else (if a2 = 1 then (inR (Z 0 200 a1) 466 (some (s.1 251 (Z 0 200 a1).toNat, s))) else (if a2 = 2 then (inR (Z 0 176 a1) 466 (if s.1 251 (Z 0 176 a1).toNat = (-1) then (some (255, s)) else (inR (Z 0 176 a1) 466 (some (s.1 251 (Z 0 176 a1).toNat, s))))) else (inR (Z 0 188 a1) 466 (if s.1 251 (Z 0 188 a1).toNat = (-1) then (some (255, s)) else (inR (Z 0 188 a1) 466 (some (s.1 251 (Z 0 188 a1).toNat, s)))))))) := rfl
set_option maxHeartbeats 1000000 in
set_option maxRecDepth 100000 in
theorem zf_R_isTold_eq (Z : mZ) (m : Nat) (a1 : Int) (a2 : Int) (s : mS) : zf_R_isTold Z m a1 a2 s = (zl_R_isTold_L2 Z m m a1 a2 0 s) := rfl
set_option maxHeartbeats 1000000 in
set_option maxRecDepth 100000 in
theorem zl_R_isTold_L2_eq (Z : mZ) (m : Nat) (n : Nat) (x1 : Int) (x2 : Int) (x3 : Int) (s : mS) : zl_R_isTold_L2 Z m (n + 1) x1 x2 x3 s = (if x3 < x2 then (inR x3 940 ((zf_R_partOf Z m x1 (s.1 250 x3.toNat) s).bind fun p0 => (inR (Z 0 x3 1) 940 (if p0.1 = p0.2.1 250 (Z 0 x3 1).toNat then (zl_R_isTold_L2 Z m n x1 x2 (Z 0 x3 2) p0.2) else (some (0, p0.2)))))) else (some (1, s))) := rfl
set_option maxHeartbeats 1000000 in
set_option maxRecDepth 100000 in
theorem zf_R_leftBy_eq (Z : mZ) (m : Nat) (a1 : Int) (a2 : Int) (s : mS) : zf_R_leftBy Z m a1 a2 s = (zl_R_leftBy_L5 Z m m a1 a2 0 0 s) := rfl
set_option maxHeartbeats 1000000 in
set_option maxRecDepth 100000 in
theorem zl_R_leftBy_L5_eq (Z : mZ) (m : Nat) (n : Nat) (x1 : Int) (x2 : Int) (x3 : Int) (x4 : Int) (s : mS) : zl_R_leftBy_L5 Z m (n + 1) x1 x2 x3 x4 s = (if x4 < s.1 251 2 then ((zf_R_has Z m x1 x4 s).bind fun p0 => (if p0.1 = 0 then (zl_R_leftBy_L5 Z m n x1 x2 x3 (Z 0 x4 1) p0.2) else (zl_R_leftBy_L34 Z m n x1 x2 x3 x4 0 0 p0.2))) else (some (x3, s))) := rfl
set_option maxHeartbeats 1000000 in
set_option maxRecDepth 100000 in
theorem zl_R_leftBy_L34_eq (Z : mZ) (m : Nat) (n : Nat) (x1 : Int) (x2 : Int) (x3 : Int) (x4 : Int) (x5 : Int) (x6 : Int) (s : mS) : zl_R_leftBy_L34 Z m (n + 1) x1 x2 x3 x4 x5 x6 s = (if x6 < s.1 251 2 then ((zf_R_has Z m x1 x6 s).bind fun p0 => (if p0.1 = 0 then (zl_R_leftBy_L34 Z m n x1 x2 x3 x4 x5 (Z 0 x6 1) p0.2) else ((zf_R_partOf Z m x6 x2 p0.2).bind fun p1 => ((zf_R_partOf Z m x4 x2 p1.2).bind fun p2 => (if p1.1 = p2.1 then (zl_R_leftBy_L34 Z m n x1 x2 x3 x4 (Z 0 x5 1) (Z 0 x6 1) p2.2) else (zl_R_leftBy_L34 Z m n x1 x2 x3 x4 x5 (Z 0 x6 1) p2.2)))))) else (if x3 < x5 then (zl_R_leftBy_L5 Z m n x1 x2 x5 (Z 0 x4 1) s) else (zl_R_leftBy_L5 Z m n x1 x2 x3 (Z 0 x4 1) s))) := rfl
set_option maxHeartbeats 1000000 in
set_option maxRecDepth 100000 in
theorem zf_R_who_eq (Z : mZ) (m : Nat) (s : mS) : zf_R_who Z m s = ((zf_R_take Z m (wI s 249 0 0)).bind fun p0 => (if Z 10 p0.1 2 = 0 then ((zf_R_isIn Z m (Z 9 p0.1 2) 1 6 p0.2).bind fun p1 => (if p1.1 = 0 then (some ((-1), p1.2)) else (zl_R_who_L32 Z m m p0.1 0 p1.2))) else (some ((-1), p0.2)))) := rfl
set_option maxHeartbeats 1000000 in
set_option maxRecDepth 100000 in
theorem zl_R_who_L32_eq (Z : mZ) (m : Nat) (n : Nat) (x1 : Int) (x2 : Int) (s : mS) : zl_R_who_L32 Z m (n + 1) x1 x2 s = (if x2 < x1 then (inR x2 940 (if 3 < s.1 250 x2.toNat then (some ((-1), s)) else (zl_R_who_L32 Z m n x1 (Z 0 x2 2) s))) else (zl_R_who_L59 Z m n x1 0 0 s)) := rfl
set_option maxHeartbeats 1000000 in
set_option maxRecDepth 100000 in
theorem zl_R_who_L59_eq (Z : mZ) (m : Nat) (n : Nat) (x1 : Int) (x2 : Int) (x3 : Int) (s : mS) : zl_R_who_L59 Z m (n + 1) x1 x2 x3 s = (if x3 < s.1 251 2 then ((zf_R_isTold Z m x3 x1 s).bind fun p0 => (if p0.1 = 0 then (zl_R_who_L59 Z m n x1 x2 (Z 0 x3 1) p0.2) else (zl_R_who_L59 Z m n x1 (Z 4 x2 (Z 6 1 x3)) (Z 0 x3 1) p0.2))) else (if x2 = 0 then (some (0, s)) else (zl_R_who_L103 Z m n x2 1 (wI s 249 33 0)))) := rfl
set_option maxHeartbeats 1000000 in
set_option maxRecDepth 100000 in
theorem zl_R_who_L103_eq (Z : mZ) (m : Nat) (n : Nat) (x2 : Int) (x3 : Int) (s : mS) : zl_R_who_L103 Z m (n + 1) x2 x3 s = (if x3 < 4 then ((zf_R_leftBy Z m x2 x3 s).bind fun p0 => ((zf_R_leftBy Z m x2 (p0.2.1 249 33) p0.2).bind fun p1 => (if p0.1 < p1.1 then (zl_R_who_L103 Z m n x2 (Z 0 x3 1) (wI p1.2 249 33 x3)) else (zl_R_who_L103 Z m n x2 (Z 0 x3 1) p1.2)))) else (some (x2, s))) := rfl
set_option maxHeartbeats 1000000 in
set_option maxRecDepth 100000 in
theorem zf_R_ask_eq (Z : mZ) (m : Nat) (s : mS) : zf_R_ask Z m s = (some ((wI s 249 0 0).1 249 33, wI s 249 0 0)) := rfl
set_option maxHeartbeats 1000000 in
set_option maxRecDepth 100000 in
theorem zf_R_near_eq (Z : mZ) (m : Nat) (a1 : Int) (a2 : Int) (s : mS) : zf_R_near Z m a1 a2 s = ((zf_R_isDead Z m a1 (wI s 249 0 0)).bind fun p0 => (if p0.1 = 0 then (some ((-1), p0.2)) else ((zf_R_isDead Z m a2 p0.2).bind fun p1 => (if p1.1 = 0 then (some ((-1), p1.2)) else (zl_R_near_L30 Z m m a2 (Z 6 1 a1) 0 p1.2))))) := rfl
set_option maxHeartbeats 1000000 in
set_option maxRecDepth 100000 in
theorem zl_R_near_L30_eq (Z : mZ) (m : Nat) (n : Nat) (x2 : Int) (x3 : Int) (x4 : Int) (s : mS) : zl_R_near_L30 Z m (n + 1) x2 x3 x4 s = (if 12 < x4 then (some ((-1), s)) else ((zf_R_has Z m x3 x2 s).bind fun p0 => (if p0.1 = 0 then (zl_R_near_L54 Z m n x2 x3 x4 x3 0 p0.2) else (some (x4, p0.2))))) := rfl
set_option maxHeartbeats 1000000 in
set_option maxRecDepth 100000 in
theorem zl_R_near_L54_eq (Z : mZ) (m : Nat) (n : Nat) (x2 : Int) (x3 : Int) (x4 : Int) (x5 : Int) (x6 : Int) (s : mS) : zl_R_near_L54 Z m (n + 1) x2 x3 x4 x5 x6 s = (if x6 < s.1 251 2 then ((zf_R_has Z m x3 x6 s).bind fun p0 => (if p0.1 = 0 then (zl_R_near_L54 Z m n x2 x3 x4 x5 (Z 0 x6 1) p0.2) else (inR (Z 0 53 x6) 466 (zl_R_near_L54 Z m n x2 x3 x4 (Z 4 x5 (p0.2.1 251 (Z 0 53 x6).toNat)) (Z 0 x6 1) p0.2)))) else (zl_R_near_L30 Z m n x2 x5 (Z 0 x4 1) s)) := rfl
set_option maxHeartbeats 1000000 in
set_option maxRecDepth 100000 in
theorem zf_R_common_eq (Z : mZ) (m : Nat) (a0 : Int) (a1 : Int) (s : mS) : zf_R_common Z m a0 a1 s = (zl_R_common_L4 Z m m a0 a1 s) := rfl
set_option maxHeartbeats 1000000 in
set_option maxRecDepth 100000 in
theorem zl_R_common_L4_eq (Z : mZ) (m : Nat) (n : Nat) (x2 : Int) (x3 : Int) (s : mS) : zl_R_common_L4 Z m (n + 1) x2 x3 s = (if x3 = 0 then (some (x2, s)) else (if x3 = 0 then none else (zl_R_common_L4 Z m n x3 (Z 10 x2 x3) s))) := rfl
set_option maxHeartbeats 1000000 in
set_option maxRecDepth 100000 in
theorem zf_R_fraction_eq (Z : mZ) (m : Nat) (a1 : Int) (a2 : Int) (a3 : Int) (s : mS) : zf_R_fraction Z m a1 a2 a3 s = (if a3 = 0 then ((zf_R_common Z m a1 a2 s).bind fun p0 => (if p0.1 = 0 then none else (some (Z 9 a1 p0.1, p0.2)))) else ((zf_R_common Z m a1 a2 s).bind fun p0 => (if p0.1 = 0 then none else (some (Z 9 a2 p0.1, p0.2))))) := rfl
set_option maxHeartbeats 1000000 in
set_option maxRecDepth 100000 in
theorem zf_R_wear_eq (Z : mZ) (m : Nat) (a1 : Int) (a2 : Int) (s : mS) : zf_R_wear Z m a1 a2 s = ((zf_R_isBox Z m a1 (wI s 249 0 0)).bind fun p0 => (if p0.1 = 0 then ((zf_R_refuse Z m p0.2).bind fun p1 => (some (p1.1, p1.2))) else ((zf_R_isIn Z m a2 0 1 p0.2).bind fun p1 => (if p1.1 = 0 then ((zf_R_refuse Z m p1.2).bind fun p2 => (some (p2.1, p2.2))) else (inR (Z 0 86 a1) 466 (inR (Z 0 15 a1) 466 ((zf_R_fraction Z m (p1.2.1 251 (Z 0 86 a1).toNat) (p1.2.1 251 (Z 0 15 a1).toNat) a2 p1.2).bind fun p2 => (some (p2.1, p2.2))))))))) := rfl
set_option maxHeartbeats 1000000 in
set_option maxRecDepth 100000 in
theorem zf_R_mean_eq (Z : mZ) (m : Nat) (a1 : Int) (s : mS) : zf_R_mean Z m a1 s = (if (wI s 249 0 0).1 251 2 = 0 then ((zf_R_refuse Z m (wI s 249 0 0)).bind fun p0 => (some (p0.1, p0.2))) else ((zf_R_isIn Z m a1 0 1 (wI s 249 0 0)).bind fun p0 => (if p0.1 = 0 then ((zf_R_refuse Z m p0.2).bind fun p1 => (some (p1.1, p1.2))) else (zl_R_mean_L35 Z m m a1 ((wI s 249 0 0).1 251 2) 0 0 p0.2)))) := rfl
set_option maxHeartbeats 1000000 in
set_option maxRecDepth 100000 in
theorem zl_R_mean_L35_eq (Z : mZ) (m : Nat) (n : Nat) (x1 : Int) (x2 : Int) (x3 : Int) (x4 : Int) (s : mS) : zl_R_mean_L35 Z m (n + 1) x1 x2 x3 x4 s = (if x4 < x2 then (inR (Z 0 200 x4) 466 (zl_R_mean_L35 Z m n x1 x2 (Z 0 x3 (s.1 251 (Z 0 200 x4).toNat)) (Z 0 x4 1) s)) else ((zf_R_fraction Z m x3 x2 x1 s).bind fun p0 => (some (p0.1, p0.2)))) := rfl
set_option maxHeartbeats 1000000 in
set_option maxRecDepth 100000 in
theorem zf_R_longest_eq (Z : mZ) (m : Nat) (s : mS) : zf_R_longest Z m s = (zl_R_longest_L9 Z m m (-1) 0 (wI s 249 0 0)) := rfl
set_option maxHeartbeats 1000000 in
set_option maxRecDepth 100000 in
theorem zl_R_longest_L9_eq (Z : mZ) (m : Nat) (n : Nat) (x1 : Int) (x2 : Int) (s : mS) : zl_R_longest_L9 Z m (n + 1) x1 x2 s = (if x2 < s.1 251 2 then (inR (Z 0 200 x2) 466 (if x1 = (-1) then (if 0 < s.1 251 (Z 0 200 x2).toNat then (zl_R_longest_L9 Z m n x2 (Z 0 x2 1) s) else (zl_R_longest_L9 Z m n x1 (Z 0 x2 1) s)) else (inR (Z 0 200 x1) 466 (if s.1 251 (Z 0 200 x1).toNat < s.1 251 (Z 0 200 x2).toNat then (zl_R_longest_L9 Z m n x2 (Z 0 x2 1) s) else (zl_R_longest_L9 Z m n x1 (Z 0 x2 1) s))))) else (some (x1, s))) := rfl
set_option maxHeartbeats 1000000 in
set_option maxRecDepth 100000 in
theorem zf_R_write_eq (Z : mZ) (m : Nat) (a1 : Int) (s : mS) : zf_R_write Z m a1 s = (inR (s.1 249 35) 48 (some (0, wI (wI s 265 (s.1 249 35).toNat a1) 249 35 (Z 0 ((wI s 265 (s.1 249 35).toNat a1).1 249 35) 1)))) := rfl
set_option maxHeartbeats 1000000 in
set_option maxRecDepth 100000 in
theorem zf_R_writeWord_eq (Z : mZ) (m : Nat) (d : Nat) (a1 : Int) (s : mS) : zf_R_writeWord Z m (d + 1) a1 s = (if Z 20 a1 27 < 0 then ((zf_R_write Z m (Z 0 96 (Z 21 (Z 19 a1 27) 0)) s).bind fun p0 => (some (0, p0.2))) else ((zf_R_writeWord Z m d (Z 18 a1 27) s).bind fun p0 => ((zf_R_write Z m (Z 0 96 (Z 21 (Z 19 a1 27) 0)) p0.2).bind fun p1 => (some (0, p1.2))))) := rfl
set_option maxHeartbeats 1000000 in
set_option maxRecDepth 100000 in
theorem zf_R_writeNext_eq (Z : mZ) (m : Nat) (a1 : Int) (s : mS) : zf_R_writeNext Z m a1 s = ((zf_R_write Z m 32 s).bind fun p0 => ((zf_R_writeWord Z m 64 a1 p0.2).bind fun p1 => (some (0, p1.2)))) := rfl
set_option maxHeartbeats 1000000 in
set_option maxRecDepth 100000 in
theorem zf_R_tag_eq (Z : mZ) (m : Nat) (a1 : Int) (s : mS) : zf_R_tag Z m a1 s = ((zf_R_isDead Z m a1 (wI s 249 0 0)).bind fun p0 => (if p0.1 = 0 then (some ((-1), p0.2)) else (inR (Z 0 14 a1) 26 ((zf_R_writeWord Z m 64 ((wI p0.2 249 35 0).2 257 (Z 0 14 a1).toNat) (wI p0.2 249 35 0)).bind fun p1 => (inR (Z 0 164 a1) 466 (if p1.2.1 251 (Z 0 164 a1).toNat = 0 then ((zf_R_spelt Z m 99 111 109 101 115 0 0 p1.2).bind fun p2 => ((zf_R_writeNext Z m p2.1 p2.2).bind fun p3 => (some (p3.2.1 249 35, p3.2)))) else (if p1.2.1 251 (Z 0 164 a1).toNat = 1 then ((zf_R_spelt Z m 119 97 105 116 115 0 0 p1.2).bind fun p2 => ((zf_R_writeNext Z m p2.1 p2.2).bind fun p3 => (some (p3.2.1 249 35, p3.2)))) else (if p1.2.1 251 (Z 0 164 a1).toNat = 2 then ((zf_R_spelt Z m 108 105 101 115 0 0 0 p1.2).bind fun p2 => ((zf_R_writeNext Z m p2.1 p2.2).bind fun p3 => ((zf_R_wordOf Z m 18 p3.2).bind fun p4 => ((zf_R_writeNext Z m p4.1 p4.2).bind fun p5 => (inR (Z 0 176 a1) 466 (inR (p5.2.1 251 (Z 0 176 a1).toNat) 26 ((zf_R_writeNext Z m (p5.2.2 257 (p5.2.1 251 (Z 0 176 a1).toNat).toNat) p5.2).bind fun p6 => (some (p6.2.1 249 35, p6.2))))))))) else ((zf_R_wordOf Z m 17 p1.2).bind fun p2 => ((zf_R_writeNext Z m p2.1 p2.2).bind fun p3 => ((zf_R_wordOf Z m 18 p3.2).bind fun p4 => ((zf_R_writeNext Z m p4.1 p4.2).bind fun p5 => (inR (Z 0 188 a1) 466 (inR (Z 0 9 (p5.2.1 251 (Z 0 188 a1).toNat)) 26 ((zf_R_writeNext Z m (p5.2.2 257 (Z 0 9 (p5.2.1 251 (Z 0 188 a1).toNat)).toNat) p5.2).bind fun p6 => (some (p6.2.1 249 35, p6.2))))))))))))))))) := rfl
set_option maxHeartbeats 1000000 in
set_option maxRecDepth 100000 in
theorem zf_R_byteAt_eq (Z : mZ) (m : Nat) (a1 : Int) (s : mS) : zf_R_byteAt Z m a1 s = ((zf_R_isIn Z m a1 0 (Z 1 ((wI s 249 0 0).1 249 35) 1) (wI s 249 0 0)).bind fun p0 => (if p0.1 = 0 then (some ((-1), p0.2)) else (inR a1 48 (some (p0.2.1 265 a1.toNat, p0.2))))) := rfl
set_option maxHeartbeats 1000000 in
set_option maxRecDepth 100000 in
theorem zf_R_draw_eq (Z : mZ) (m : Nat) (a1 : Int) (s : mS) : zf_R_draw Z m a1 s = (if a1 = 0 then none else (some (Z 10 (Z 8 ((wI s 249 36 (Z 0 (Z 2 (s.1 249 36) 1103515245) 12345)).1 249 36) 8) a1, wI s 249 36 (Z 0 (Z 2 (s.1 249 36) 1103515245) 12345)))) := rfl
set_option maxHeartbeats 1000000 in
set_option maxRecDepth 100000 in
theorem zf_R_doIf_eq (Z : mZ) (m : Nat) (a1 : Int) (a2 : Int) (a3 : Int) (s : mS) : zf_R_doIf Z m a1 a2 a3 s = ((zf_R_why Z m a1 a2 a3 s).bind fun p0 => (if p0.1 = 0 then ((zf_R_live Z m a1 a2 a3 p0.2).bind fun p1 => (some (0, p1.2))) else (some (0, p0.2)))) := rfl
set_option maxHeartbeats 1000000 in
set_option maxRecDepth 100000 in
theorem zf_R_drawsTwo_eq (Z : mZ) (m : Nat) (a1 : Int) (a2 : Int) (s : mS) : zf_R_drawsTwo Z m a1 a2 s = (if s.1 251 2 = 0 then (some (0, s)) else (if a2 = 0 then (some (0, s)) else ((zf_R_draw Z m (s.1 251 2) s).bind fun p0 => ((zf_R_draw Z m a2 p0.2).bind fun p1 => (if a1 = 2 then (if p0.1 = p1.1 then (some (0, p1.2)) else ((zf_R_doIf Z m a1 p0.1 p1.1 p1.2).bind fun p2 => (some (0, p2.2)))) else ((zf_R_doIf Z m a1 p0.1 p1.1 p1.2).bind fun p2 => (some (0, p2.2)))))))) := rfl
set_option maxHeartbeats 1000000 in
set_option maxRecDepth 100000 in
theorem zf_R_drawsFirst_eq (Z : mZ) (m : Nat) (s : mS) : zf_R_drawsFirst Z m s = ((zf_R_draw Z m 8 s).bind fun p0 => (if p0.1 < 3 then ((zf_R_drawsTwo Z m 0 (p0.2.1 251 0) p0.2).bind fun p1 => (if p0.1 = 3 then ((zf_R_drawsTwo Z m 1 (p1.2.1 251 1) p1.2).bind fun p2 => (zl_R_drawsFirst_L44 Z m m p0.1 p2.2)) else (if p0.1 = 4 then ((zf_R_drawsTwo Z m 1 (p1.2.1 251 1) p1.2).bind fun p2 => (zl_R_drawsFirst_L44 Z m m p0.1 p2.2)) else (zl_R_drawsFirst_L44 Z m m p0.1 p1.2)))) else (if p0.1 = 3 then ((zf_R_drawsTwo Z m 1 (p0.2.1 251 1) p0.2).bind fun p1 => (zl_R_drawsFirst_L44 Z m m p0.1 p1.2)) else (if p0.1 = 4 then ((zf_R_drawsTwo Z m 1 (p0.2.1 251 1) p0.2).bind fun p1 => (zl_R_drawsFirst_L44 Z m m p0.1 p1.2)) else (zl_R_drawsFirst_L44 Z m m p0.1 p0.2))))) := rfl
set_option maxHeartbeats 1000000 in
set_option maxRecDepth 100000 in
theorem zl_R_drawsFirst_L44_eq (Z : mZ) (m : Nat) (n : Nat) (x1 : Int) (s : mS) : zl_R_drawsFirst_L44 Z m (n + 1) x1 s = (if x1 = 5 then (if 0 < s.1 251 0 then ((zf_R_draw Z m (s.1 251 0) s).bind fun p0 => ((zf_R_doIf Z m 3 p0.1 0 p0.2).bind fun p1 => (if x1 = 6 then ((zf_R_drawsTwo Z m 2 (p1.2.1 251 2) p1.2).bind fun p2 => (some (0, p2.2))) else (some (0, p1.2))))) else (if x1 = 6 then ((zf_R_drawsTwo Z m 2 (s.1 251 2) s).bind fun p0 => (some (0, p0.2))) else (some (0, s)))) else (if x1 = 6 then ((zf_R_drawsTwo Z m 2 (s.1 251 2) s).bind fun p0 => (some (0, p0.2))) else (some (0, s)))) := rfl
set_option maxHeartbeats 1000000 in
set_option maxRecDepth 100000 in
theorem zf_R_drawDays_eq (Z : mZ) (m : Nat) (a1 : Int) (a2 : Int) (s : mS) : zf_R_drawDays Z m a1 a2 s = ((zf_R_least Z m a1 (Z 1 400 ((wI s 249 36 a2).1 251 85)) (wI s 249 36 a2)).bind fun p0 => (zl_R_drawDays_L24 Z m m p0.1 0 p0.2)) := rfl
set_option maxHeartbeats 1000000 in
set_option maxRecDepth 100000 in
theorem zl_R_drawDays_L24_eq (Z : mZ) (m : Nat) (n : Nat) (x3 : Int) (x4 : Int) (s : mS) : zl_R_drawDays_L24 Z m (n + 1) x3 x4 s = (if x4 < x3 then ((zf_R_drawsFirst Z m s).bind fun p0 => ((zf_R_oneDay Z m p0.2).bind fun p1 => (zl_R_drawDays_L24 Z m n x3 (Z 0 x4 1) p1.2))) else (some (x3, s))) := rfl
set_option maxHeartbeats 1000000 in
set_option maxRecDepth 100000 in
theorem zf_R_drawn_eq (Z : mZ) (m : Nat) (a1 : Int) (a2 : Int) (s : mS) : zf_R_drawn Z m a1 a2 s = ((zf_R_isIn Z m a1 1 60 (wI s 249 0 0)).bind fun p0 => (if p0.1 = 0 then (some ((-1), p0.2)) else (if p0.2.1 251 85 = 400 then (some (0, p0.2)) else ((zf_R_snap Z m p0.2).bind fun p1 => ((zf_R_drawDays Z m a1 a2 p1.2).bind fun p2 => (some (p2.1, p2.2))))))) := rfl
set_option maxHeartbeats 1000000 in
set_option maxRecDepth 100000 in
theorem zf_R_odds_eq (Z : mZ) (m : Nat) (a1 : Int) (a2 : Int) (a3 : Int) (s : mS) : zf_R_odds Z m a1 a2 a3 s = ((zf_R_isDead Z m a1 (wI s 249 0 0)).bind fun p0 => (if p0.1 = 0 then (some ((-1), p0.2)) else ((zf_R_isIn Z m a2 1 30 p0.2).bind fun p1 => (if p1.1 = 0 then (some ((-1), p1.2)) else ((zf_R_save_249_256 Z m 0 p1.2).bind fun p2 => (zl_R_odds_L40 Z m m a1 a2 a3 0 0 p2.2)))))) := rfl
set_option maxHeartbeats 1000000 in
set_option maxRecDepth 100000 in
theorem zl_R_odds_L40_eq (Z : mZ) (m : Nat) (n : Nat) (x1 : Int) (x2 : Int) (x3 : Int) (x4 : Int) (x5 : Int) (s : mS) : zl_R_odds_L40 Z m (n + 1) x1 x2 x3 x4 x5 s = (if x5 < x2 then ((zf_R_drawDays Z m 20 (Z 0 x3 x5) s).bind fun p0 => (inR (Z 0 164 x1) 466 (if p0.2.1 251 (Z 0 164 x1).toNat = 3 then ((zf_R_comeBack_249_256 Z m 0 p0.2).bind fun p1 => (zl_R_odds_L40 Z m n x1 x2 x3 (Z 0 x4 1) (Z 0 x5 1) p1.2)) else ((zf_R_comeBack_249_256 Z m 0 p0.2).bind fun p1 => (zl_R_odds_L40 Z m n x1 x2 x3 x4 (Z 0 x5 1) p1.2))))) else (some (x4, s))) := rfl
set_option maxHeartbeats 1000000 in
set_option maxRecDepth 100000 in
theorem zf_R_keep_eq (Z : mZ) (m : Nat) (a1 : Int) (a2 : Int) (s : mS) : zf_R_keep Z m a1 a2 s = (if a2 = 0 then (if a2 = 0 ∨ a2 = 1 then some (a2, s) else none) else (inR a1 120 (if a2 = 0 ∨ a2 = 1 then some (a2, wI s 266 a1.toNat (s.1 249 13)) else none))) := rfl
set_option maxHeartbeats 1000000 in
set_option maxRecDepth 100000 in
theorem zf_R_readNamed_eq (Z : mZ) (m : Nat) (a1 : Int) (a2 : Int) (s : mS) : zf_R_readNamed Z m a1 a2 s = ((zf_R_isName Z m s).bind fun p0 => (if p0.1 = 0 then ((zf_R_bad Z m 1 p0.2).bind fun p1 => (if p1.1 = 0 ∨ p1.1 = 1 then some (p1.1, p1.2) else none)) else ((zf_R_findIn_257 Z m a1 a2 (p0.2.2 249 12) p0.2).bind fun p1 => (if (wI p1.2 249 13 p1.1).1 249 13 = (-1) then ((zf_R_bad Z m 3 (wI p1.2 249 13 p1.1)).bind fun p2 => (if p2.1 = 0 ∨ p2.1 = 1 then some (p2.1, p2.2) else none)) else ((zf_R_go Z m (wI p1.2 249 13 p1.1)).bind fun p2 => (some (1, p2.2))))))) := rfl
set_option maxHeartbeats 1000000 in
set_option maxRecDepth 100000 in
theorem zf_R_readBoxName_eq (Z : mZ) (m : Nat) (s : mS) : zf_R_readBoxName Z m s = ((zf_R_readNamed Z m 0 (s.1 251 0) s).bind fun p0 => (if p0.1 = 0 ∨ p0.1 = 1 then some (p0.1, p0.2) else none)) := rfl
set_option maxHeartbeats 1000000 in
set_option maxRecDepth 100000 in
theorem zf_R_readDeadName_eq (Z : mZ) (m : Nat) (s : mS) : zf_R_readDeadName Z m s = ((zf_R_readNamed Z m 14 (s.1 251 2) s).bind fun p0 => (if p0.1 = 0 ∨ p0.1 = 1 then some (p0.1, p0.2) else none)) := rfl
set_option maxHeartbeats 1000000 in
set_option maxRecDepth 100000 in
theorem zf_R_readOther_eq (Z : mZ) (m : Nat) (a1 : Int) (s : mS) : zf_R_readOther Z m a1 s = ((zf_R_isName Z m s).bind fun p0 => (if p0.1 = 0 then ((zf_R_bad Z m 1 p0.2).bind fun p1 => (if p1.1 = 0 ∨ p1.1 = 1 then some (p1.1, p1.2) else none)) else ((zf_R_findIn_257 Z m 14 (p0.2.1 251 2) (p0.2.2 249 12) p0.2).bind fun p1 => (inR (Z 0 a1 1) 120 (inR (Z 0 a1 1) 120 (if (wI p1.2 266 (Z 0 a1 1).toNat p1.1).1 266 (Z 0 a1 1).toNat = (-1) then ((zf_R_bad Z m 3 (wI p1.2 266 (Z 0 a1 1).toNat p1.1)).bind fun p2 => (if p2.1 = 0 ∨ p2.1 = 1 then some (p2.1, p2.2) else none)) else (inR (Z 0 a1 1) 120 (inR a1 120 (if (wI p1.2 266 (Z 0 a1 1).toNat p1.1).1 266 (Z 0 a1 1).toNat = (wI p1.2 266 (Z 0 a1 1).toNat p1.1).1 266 a1.toNat then ((zf_R_bad Z m 3 (wI p1.2 266 (Z 0 a1 1).toNat p1.1)).bind fun p2 => (if p2.1 = 0 ∨ p2.1 = 1 then some (p2.1, p2.2) else none)) else ((zf_R_go Z m (wI p1.2 266 (Z 0 a1 1).toNat p1.1)).bind fun p2 => (some (1, p2.2)))))))))))) := rfl
set_option maxHeartbeats 1000000 in
set_option maxRecDepth 100000 in
theorem zf_R_readBookLine_eq (Z : mZ) (m : Nat) (s : mS) : zf_R_readBookLine Z m s = ((zf_R_isWord Z m 10 s).bind fun p0 => (if p0.1 = 0 then (zl_R_readBookLine_L17 Z m m (-1) 0 p0.2) else (zl_R_readBookLine_L17 Z m m 4 0 p0.2))) := rfl
set_option maxHeartbeats 1000000 in
set_option maxRecDepth 100000 in
theorem zl_R_readBookLine_L17_eq (Z : mZ) (m : Nat) (n : Nat) (x1 : Int) (x2 : Int) (s : mS) : zl_R_readBookLine_L17 Z m (n + 1) x1 x2 s = (if 3 < x2 then (if x1 = (-1) then ((zf_R_bad Z m 1 s).bind fun p0 => (if p0.1 = 0 ∨ p0.1 = 1 then some (p0.1, p0.2) else none)) else (if s.1 249 39 = 40 then ((zf_R_bad Z m 4 s).bind fun p0 => (if p0.1 = 0 ∨ p0.1 = 1 then some (p0.1, p0.2) else none)) else (inR (Z 2 3 (s.1 249 39)) 120 (inR (Z 0 (Z 2 3 (s.1 249 39)) 2) 120 ((zf_R_go Z m (wI (wI s 266 (Z 2 3 (s.1 249 39)).toNat x1) 266 (Z 0 (Z 2 3 (s.1 249 39)) 2).toNat 0)).bind fun p0 => (if x1 = 0 then ((zf_R_readDeadName Z m p0.2).bind fun p1 => ((zf_R_keep Z m (Z 0 (Z 2 3 (s.1 249 39)) 1) p1.1 p1.2).bind fun p2 => (if p2.1 = 0 then (some (0, p2.2)) else ((zf_R_readBoxName Z m p2.2).bind fun p3 => ((zf_R_keep Z m (Z 0 (Z 2 3 (s.1 249 39)) 2) p3.1 p3.2).bind fun p4 => (if p4.1 = 0 then (some (0, p4.2)) else ((zf_R_readEnd Z m p4.2).bind fun p5 => (if p5.1 = 0 then (some (0, p5.2)) else (some (1, p5.2)))))))))) else (if x1 = 1 then ((zf_R_readDeadName Z m p0.2).bind fun p1 => ((zf_R_keep Z m (Z 0 (Z 2 3 (s.1 249 39)) 1) p1.1 p1.2).bind fun p2 => (if p2.1 = 0 then (some (0, p2.2)) else ((zf_R_readNamed Z m 9 (p2.2.1 251 1) p2.2).bind fun p3 => ((zf_R_keep Z m (Z 0 (Z 2 3 (s.1 249 39)) 2) p3.1 p3.2).bind fun p4 => (if p4.1 = 0 then (some (0, p4.2)) else ((zf_R_readEnd Z m p4.2).bind fun p5 => (if p5.1 = 0 then (some (0, p5.2)) else (some (1, p5.2)))))))))) else (if x1 = 2 then ((zf_R_readDeadName Z m p0.2).bind fun p1 => ((zf_R_keep Z m (Z 0 (Z 2 3 (s.1 249 39)) 1) p1.1 p1.2).bind fun p2 => (if p2.1 = 0 then (some (0, p2.2)) else ((zf_R_readOther Z m (Z 0 (Z 2 3 (s.1 249 39)) 1) p2.2).bind fun p3 => (if p3.1 = 0 then (some (0, p3.2)) else ((zf_R_readEnd Z m p3.2).bind fun p4 => (if p4.1 = 0 then (some (0, p4.2)) else (some (1, p4.2))))))))) else (if x1 = 3 then ((zf_R_readBoxName Z m p0.2).bind fun p1 => ((zf_R_keep Z m (Z 0 (Z 2 3 (s.1 249 39)) 1) p1.1 p1.2).bind fun p2 => (if p2.1 = 0 then (some (0, p2.2)) else ((zf_R_readEnd Z m p2.2).bind fun p3 => (if p3.1 = 0 then (some (0, p3.2)) else (some (1, p3.2))))))) else ((zf_R_readNumber Z m 1 60 p0.2).bind fun p1 => ((zf_R_keep Z m (Z 0 (Z 2 3 (s.1 249 39)) 1) p1.1 p1.2).bind fun p2 => (if p2.1 = 0 then (some (0, p2.2)) else ((zf_R_readEnd Z m p2.2).bind fun p3 => (if p3.1 = 0 then (some (0, p3.2)) else (some (1, p3.2)))))))))))))))) else ((zf_R_isWord Z m (Z 0 6 x2) s).bind fun p0 => (if p0.1 = 0 then (zl_R_readBookLine_L17 Z m n x1 (Z 0 x2 1) p0.2) else (zl_R_readBookLine_L17 Z m n x2 (Z 0 x2 1) p0.2)))) := rfl
set_option maxHeartbeats 1000000 in
set_option maxRecDepth 100000 in
theorem zf_R_goBy_eq (Z : mZ) (m : Nat) (a1 : Int) (s : mS) : zf_R_goBy Z m a1 s = (inR a1 120 (inR (Z 0 a1 1) 120 (if s.1 266 a1.toNat = 4 then (if 400 < Z 0 (s.1 251 85) (s.1 266 (Z 0 a1 1).toNat) then (some (41, s)) else ((zf_R_passDays Z m (s.1 266 (Z 0 a1 1).toNat) s).bind fun p0 => (some (0, p0.2)))) else (inR (Z 0 a1 2) 120 ((zf_R_why Z m (s.1 266 a1.toNat) (s.1 266 (Z 0 a1 1).toNat) (s.1 266 (Z 0 a1 2).toNat) s).bind fun p0 => (if p0.1 = 0 then (inR (Z 0 a1 2) 120 ((zf_R_live Z m (s.1 266 a1.toNat) (s.1 266 (Z 0 a1 1).toNat) (p0.2.1 266 (Z 0 a1 2).toNat) p0.2).bind fun p1 => (some (0, p1.2)))) else (some (Z 0 (Z 2 10 (s.1 266 a1.toNat)) p0.1, p0.2)))))))) := rfl
set_option maxHeartbeats 1000000 in
set_option maxRecDepth 100000 in
theorem zf_R_stay_eq (Z : mZ) (m : Nat) (a1 : Int) (s : mS) : zf_R_stay Z m a1 s = ((zf_R_save_249_255 Z m 0 s).bind fun p0 => ((zf_R_comeBack_249_256 Z m 0 p0.2).bind fun p1 => (if a1 = 0 then (some (0, p1.2)) else ((zf_R_snap Z m p1.2).bind fun p2 => ((zf_R_comeBack_249_255 Z m 0 p2.2).bind fun p3 => (some (0, p3.2))))))) := rfl
set_option maxHeartbeats 1000000 in
set_option maxRecDepth 100000 in
theorem zf_R_book_eq (Z : mZ) (m : Nat) (a1 : Int) (s : mS) : zf_R_book Z m a1 s = ((zf_R_isIn Z m a1 0 1 (wI s 249 0 0)).bind fun p0 => (if p0.1 = 0 then (some ((-1000), p0.2)) else ((zf_R_begin Z m 400 p0.2).bind fun p1 => (zl_R_book_L30 Z m m a1 (wI p1.2 249 39 0))))) := rfl
set_option maxHeartbeats 1000000 in
set_option maxRecDepth 100000 in
theorem zl_R_book_L30_eq (Z : mZ) (m : Nat) (n : Nat) (x1 : Int) (s : mS) : zl_R_book_L30 Z m (n + 1) x1 s = (if s.1 249 7 = 0 then ((zf_R_save_249_256 Z m 0 s).bind fun p0 => (zl_R_book_L78 Z m n x1 0 0 p0.2)) else ((zf_R_readBookLine Z m s).bind fun p0 => (if p0.1 = 0 then (some (Z 1 (-2) (p0.2.1 249 11), p0.2)) else (zl_R_book_L30 Z m n x1 (wI p0.2 249 39 (Z 0 (p0.2.1 249 39) 1)))))) := rfl
set_option maxHeartbeats 1000000 in
set_option maxRecDepth 100000 in
theorem zl_R_book_L78_eq (Z : mZ) (m : Nat) (n : Nat) (x1 : Int) (x2 : Int) (x3 : Int) (s : mS) : zl_R_book_L78 Z m (n + 1) x1 x2 x3 s = (if x2 < s.1 249 39 then (if x3 = 0 then ((zf_R_goBy Z m (Z 2 3 x2) s).bind fun p0 => (if p0.1 = 0 then (zl_R_book_L78 Z m n x1 (Z 0 x2 1) p0.1 p0.2) else (zl_R_book_L78 Z m n x1 x2 p0.1 p0.2))) else (zl_R_book_L108 Z m n x1 x2 x3 s)) else (zl_R_book_L108 Z m n x1 x2 x3 s)) := rfl
set_option maxHeartbeats 1000000 in
set_option maxRecDepth 100000 in
theorem zl_R_book_L108_eq (Z : mZ) (m : Nat) (n : Nat) (x1 : Int) (x2 : Int) (x3 : Int) (s : mS) : zl_R_book_L108 Z m (n + 1) x1 x2 x3 s = ((zf_R_those Z m 3 (wI (wI (wI s 267 0 x3) 267 1 x2) 267 2 ((wI (wI s 267 0 x3) 267 1 x2).1 251 85))).bind fun p0 => (if x1 = 1 then (if 0 < x2 then ((zf_R_stay Z m 1 (wI (wI p0.2 267 3 p0.1) 249 40 1)).bind fun p1 => (if x3 = 0 then (some ((-1), p1.2)) else (some (x2, p1.2)))) else ((zf_R_stay Z m 0 (wI (wI p0.2 267 3 p0.1) 249 40 1)).bind fun p1 => (if x3 = 0 then (some ((-1), p1.2)) else (some (x2, p1.2))))) else ((zf_R_stay Z m 0 (wI (wI p0.2 267 3 p0.1) 249 40 1)).bind fun p1 => (if x3 = 0 then (some ((-1), p1.2)) else (some (x2, p1.2)))))) := rfl
set_option maxHeartbeats 1000000 in
set_option maxRecDepth 100000 in
theorem zf_R_told_eq (Z : mZ) (m : Nat) (a1 : Int) (s : mS) : zf_R_told Z m a1 s = (if (wI s 249 0 0).1 249 40 = 0 then (some ((-1), wI s 249 0 0)) else ((zf_R_isIn Z m a1 0 3 (wI s 249 0 0)).bind fun p0 => (if p0.1 = 0 then (some ((-1), p0.2)) else (inR a1 4 (some (p0.2.1 267 a1.toNat, p0.2)))))) := rfl
set_option maxHeartbeats 1000000 in
set_option maxRecDepth 100000 in
theorem zf_R_saysOne_eq (Z : mZ) (m : Nat) (a1 : Int) (a2 : Int) (a3 : Int) (a4 : Int) (s : mS) : zf_R_saysOne Z m a1 a2 a3 a4 s = (inR (Z 2 4 (s.1 249 42)) 240 (inR (Z 0 (Z 2 4 (s.1 249 42)) 1) 240 (inR (Z 0 (Z 2 4 (s.1 249 42)) 2) 240 (inR (Z 0 (Z 2 4 (s.1 249 42)) 3) 240 (some (Z 1 ((wI (wI (wI (wI (wI s 268 (Z 2 4 (s.1 249 42)).toNat a1) 268 (Z 0 (Z 2 4 (s.1 249 42)) 1).toNat a2) 268 (Z 0 (Z 2 4 (s.1 249 42)) 2).toNat a3) 268 (Z 0 (Z 2 4 (s.1 249 42)) 3).toNat a4) 249 42 (Z 0 ((wI (wI (wI (wI s 268 (Z 2 4 (s.1 249 42)).toNat a1) 268 (Z 0 (Z 2 4 (s.1 249 42)) 1).toNat a2) 268 (Z 0 (Z 2 4 (s.1 249 42)) 2).toNat a3) 268 (Z 0 (Z 2 4 (s.1 249 42)) 3).toNat a4).1 249 42) 1)).1 249 42) 1, wI (wI (wI (wI (wI s 268 (Z 2 4 (s.1 249 42)).toNat a1) 268 (Z 0 (Z 2 4 (s.1 249 42)) 1).toNat a2) 268 (Z 0 (Z 2 4 (s.1 249 42)) 2).toNat a3) 268 (Z 0 (Z 2 4 (s.1 249 42)) 3).toNat a4) 249 42 (Z 0 ((wI (wI (wI (wI s 268 (Z 2 4 (s.1 249 42)).toNat a1) 268 (Z 0 (Z 2 4 (s.1 249 42)) 1).toNat a2) 268 (Z 0 (Z 2 4 (s.1 249 42)) 2).toNat a3) 268 (Z 0 (Z 2 4 (s.1 249 42)) 3).toNat a4).1 249 42) 1))))))) := rfl
set_option maxHeartbeats 1000000 in
set_option maxRecDepth 100000 in
theorem zf_R_readThat_eq (Z : mZ) (m : Nat) (a1 : Int) (s : mS) : zf_R_readThat Z m a1 s = (if a1 = 18 then ((zf_R_readBoxName Z m s).bind fun p0 => (if p0.1 = 0 ∨ p0.1 = 1 then some (p0.1, p0.2) else none)) else ((zf_R_readDeadName Z m s).bind fun p0 => (if p0.1 = 0 ∨ p0.1 = 1 then some (p0.1, p0.2) else none))) := rfl
set_option maxHeartbeats 1000000 in
set_option maxRecDepth 100000 in
theorem zf_R_readOf_eq (Z : mZ) (m : Nat) (a1 : Int) (s : mS) : zf_R_readOf Z m a1 s = ((zf_R_readThat Z m a1 s).bind fun p0 => (if p0.1 = 0 then (some (0, p0.2)) else ((zf_R_saysOne Z m (Z 0 50 a1) (p0.2.1 249 13) 0 0 p0.2).bind fun p1 => (some (1, wI p1.2 249 45 p1.1))))) := rfl
set_option maxHeartbeats 1000000 in
set_option maxRecDepth 100000 in
theorem zf_R_readCompare_eq (Z : mZ) (m : Nat) (a1 : Int) (s : mS) : zf_R_readCompare Z m a1 s = ((zf_R_isSign Z m 60 s).bind fun p0 => (if p0.1 = 0 then ((zf_R_isSign Z m 61 p0.2).bind fun p1 => (if p1.1 = 0 then ((zf_R_isSign Z m 62 p1.2).bind fun p2 => (if p2.1 = 0 then ((zf_R_bad Z m 1 p2.2).bind fun p3 => (if p3.1 = 0 ∨ p3.1 = 1 then some (p3.1, p3.2) else none)) else ((zf_R_go Z m p2.2).bind fun p3 => ((zf_R_readNumber Z m 0 999 p3.2).bind fun p4 => (if p4.1 = 0 then (some (0, p4.2)) else ((zf_R_saysOne Z m (Z 0 50 a1) 0 (p4.2.1 249 13) (p2.2.1 249 9) p4.2).bind fun p5 => (some (1, wI p5.2 249 45 p5.1)))))))) else ((zf_R_go Z m p1.2).bind fun p2 => ((zf_R_readNumber Z m 0 999 p2.2).bind fun p3 => (if p3.1 = 0 then (some (0, p3.2)) else ((zf_R_saysOne Z m (Z 0 50 a1) 0 (p3.2.1 249 13) (p1.2.1 249 9) p3.2).bind fun p4 => (some (1, wI p4.2 249 45 p4.1)))))))) else ((zf_R_go Z m p0.2).bind fun p1 => ((zf_R_readNumber Z m 0 999 p1.2).bind fun p2 => (if p2.1 = 0 then (some (0, p2.2)) else ((zf_R_saysOne Z m (Z 0 50 a1) 0 (p2.2.1 249 13) (p0.2.1 249 9) p2.2).bind fun p3 => (some (1, wI p3.2 249 45 p3.1)))))))) := rfl
set_option maxHeartbeats 1000000 in
set_option maxRecDepth 100000 in
theorem zf_R_readOr_eq (Z : mZ) (m : Nat) (d : Nat) (s : mS) : zf_R_readOr Z m (d + 1) s = ((zf_R_readAnd Z m d s).bind fun p0 => (if p0.1 = 0 then (some (0, p0.2)) else (zl_R_readOr_L14 Z m d m (p0.2.1 249 45) p0.2))) := rfl
set_option maxHeartbeats 1000000 in
set_option maxRecDepth 100000 in
theorem zl_R_readOr_L14_eq (Z : mZ) (m : Nat) (d : Nat) (n : Nat) (x1 : Int) (s : mS) : zl_R_readOr_L14 Z m d (n + 1) x1 s = ((zf_R_isWord Z m 11 s).bind fun p0 => (if p0.1 = 0 then (some (1, wI p0.2 249 45 x1)) else ((zf_R_go Z m p0.2).bind fun p1 => ((zf_R_readAnd Z m d p1.2).bind fun p2 => (if p2.1 = 0 then (some (0, p2.2)) else ((zf_R_saysOne Z m 3 x1 (p2.2.1 249 45) 0 p2.2).bind fun p3 => (zl_R_readOr_L14 Z m d n p3.1 p3.2))))))) := rfl
set_option maxHeartbeats 1000000 in
set_option maxRecDepth 100000 in
theorem zf_R_readAnd_eq (Z : mZ) (m : Nat) (d : Nat) (s : mS) : zf_R_readAnd Z m (d + 1) s = ((zf_R_readSaid Z m d s).bind fun p0 => (if p0.1 = 0 then (some (0, p0.2)) else (zl_R_readAnd_L14 Z m d m (p0.2.1 249 45) p0.2))) := rfl
set_option maxHeartbeats 1000000 in
set_option maxRecDepth 100000 in
theorem zl_R_readAnd_L14_eq (Z : mZ) (m : Nat) (d : Nat) (n : Nat) (x1 : Int) (s : mS) : zl_R_readAnd_L14 Z m d (n + 1) x1 s = ((zf_R_isWord Z m 12 s).bind fun p0 => (if p0.1 = 0 then (some (1, wI p0.2 249 45 x1)) else ((zf_R_go Z m p0.2).bind fun p1 => ((zf_R_readSaid Z m d p1.2).bind fun p2 => (if p2.1 = 0 then (some (0, p2.2)) else ((zf_R_saysOne Z m 2 x1 (p2.2.1 249 45) 0 p2.2).bind fun p3 => (zl_R_readAnd_L14 Z m d n p3.1 p3.2))))))) := rfl
set_option maxHeartbeats 1000000 in
set_option maxRecDepth 100000 in
theorem zf_R_readSaid_eq (Z : mZ) (m : Nat) (d : Nat) (s : mS) : zf_R_readSaid Z m (d + 1) s = ((zf_R_isSign Z m 40 s).bind fun p0 => (zl_R_readSaid_L10 Z m d m p0.1 13 p0.2)) := rfl
set_option maxHeartbeats 1000000 in
set_option maxRecDepth 100000 in
theorem zl_R_readSaid_L10_eq (Z : mZ) (m : Nat) (d : Nat) (n : Nat) (x1 : Int) (x2 : Int) (s : mS) : zl_R_readSaid_L10 Z m d (n + 1) x1 x2 s = (if 23 < x2 then (if x1 = 0 then (if 23 < x2 then ((zf_R_bad Z m 1 s).bind fun p0 => (if p0.1 = 0 ∨ p0.1 = 1 then some (p0.1, p0.2) else none)) else (zl_R_readSaid_L46 Z m d n x1 x2 s)) else (zl_R_readSaid_L46 Z m d n x1 x2 s)) else ((zf_R_isWord Z m x2 s).bind fun p0 => (if p0.1 = 0 then (zl_R_readSaid_L10 Z m d n x1 (Z 0 x2 1) p0.2) else (if x1 = 0 then (if 23 < x2 then ((zf_R_bad Z m 1 p0.2).bind fun p1 => (if p1.1 = 0 ∨ p1.1 = 1 then some (p1.1, p1.2) else none)) else (zl_R_readSaid_L46 Z m d n x1 x2 p0.2)) else (zl_R_readSaid_L46 Z m d n x1 x2 p0.2))))) := rfl
set_option maxHeartbeats 1000000 in
set_option maxRecDepth 100000 in
theorem zl_R_readSaid_L46_eq (Z : mZ) (m : Nat) (d : Nat) (n : Nat) (x1 : Int) (x2 : Int) (s : mS) : zl_R_readSaid_L46 Z m d (n + 1) x1 x2 s = (if s.1 249 43 = 20 then ((zf_R_bad Z m 4 s).bind fun p0 => (if p0.1 = 0 ∨ p0.1 = 1 then some (p0.1, p0.2) else none)) else (if s.1 249 44 = 8 then ((zf_R_bad Z m 4 s).bind fun p0 => (if p0.1 = 0 ∨ p0.1 = 1 then some (p0.1, p0.2) else none)) else ((zf_R_go Z m (wI (wI s 249 43 (Z 0 (s.1 249 43) 1)) 249 44 (Z 0 ((wI s 249 43 (Z 0 (s.1 249 43) 1)).1 249 44) 1))).bind fun p0 => (if x1 = 0 then (if x2 = 13 then ((zf_R_readNot Z m d p0.2).bind fun p1 => (if p1.1 = 0 ∨ p1.1 = 1 then some (p1.1, wI p1.2 249 44 (Z 1 (p1.2.1 249 44) 1)) else none)) else (if x2 < 18 then ((zf_R_saysOne Z m (Z 0 50 x2) 0 0 0 p0.2).bind fun p1 => (some (1, wI (wI p1.2 249 45 p1.1) 249 44 (Z 1 ((wI p1.2 249 45 p1.1).1 249 44) 1)))) else (if x2 < 20 then ((zf_R_readOf Z m x2 p0.2).bind fun p1 => (if p1.1 = 0 ∨ p1.1 = 1 then some (p1.1, wI p1.2 249 44 (Z 1 (p1.2.1 249 44) 1)) else none)) else ((zf_R_readCompare Z m x2 p0.2).bind fun p1 => (if p1.1 = 0 ∨ p1.1 = 1 then some (p1.1, wI p1.2 249 44 (Z 1 (p1.2.1 249 44) 1)) else none))))) else ((zf_R_readBracket Z m d p0.2).bind fun p1 => (if p1.1 = 0 ∨ p1.1 = 1 then some (p1.1, wI p1.2 249 44 (Z 1 (p1.2.1 249 44) 1)) else none)))))) := rfl
set_option maxHeartbeats 1000000 in
set_option maxRecDepth 100000 in
theorem zf_R_readBracket_eq (Z : mZ) (m : Nat) (d : Nat) (s : mS) : zf_R_readBracket Z m (d + 1) s = ((zf_R_readOr Z m d s).bind fun p0 => (if p0.1 = 0 then (some (0, p0.2)) else ((zf_R_isSign Z m 41 p0.2).bind fun p1 => (if p1.1 = 0 then ((zf_R_bad Z m 1 p1.2).bind fun p2 => (if p2.1 = 0 ∨ p2.1 = 1 then some (p2.1, p2.2) else none)) else ((zf_R_go Z m p1.2).bind fun p2 => (some (1, p2.2))))))) := rfl
set_option maxHeartbeats 1000000 in
set_option maxRecDepth 100000 in
theorem zf_R_readNot_eq (Z : mZ) (m : Nat) (d : Nat) (s : mS) : zf_R_readNot Z m (d + 1) s = ((zf_R_readSaid Z m d s).bind fun p0 => (if p0.1 = 0 then (some (0, p0.2)) else ((zf_R_saysOne Z m 1 (p0.2.1 249 45) 0 0 p0.2).bind fun p1 => (some (1, wI p1.2 249 45 p1.1))))) := rfl
set_option maxHeartbeats 1000000 in
set_option maxRecDepth 100000 in
theorem zf_R_sentence_eq (Z : mZ) (m : Nat) (s : mS) : zf_R_sentence Z m s = ((zf_R_begin Z m 200 s).bind fun p0 => ((zf_R_readOr Z m 64 (wI (wI (wI p0.2 249 42 0) 249 43 0) 249 44 0)).bind fun p1 => (if p1.1 = 0 then (some (Z 1 (-1) (p1.2.1 249 11), p1.2)) else (if p1.2.1 249 7 = 0 then (zl_R_sentence_L79 Z m m 0 (wI (wI p1.2 251 224 1) 251 225 ((wI p1.2 251 224 1).1 249 45))) else ((zf_R_bad Z m 1 p1.2).bind fun p2 => (some (Z 1 (-1) (p2.2.1 249 11), p2.2))))))) := rfl
set_option maxHeartbeats 1000000 in
set_option maxRecDepth 100000 in
theorem zl_R_sentence_L79_eq (Z : mZ) (m : Nat) (n : Nat) (x1 : Int) (s : mS) : zl_R_sentence_L79 Z m (n + 1) x1 s = (if x1 < 240 then (inR x1 240 (inR (Z 0 226 x1) 466 (zl_R_sentence_L79 Z m n (Z 0 x1 1) (wI s 251 (Z 0 226 x1).toNat (s.1 268 x1.toNat))))) else (some (s.1 249 43, s))) := rfl
set_option maxHeartbeats 1000000 in
set_option maxRecDepth 100000 in
theorem zf_R_holds_eq (Z : mZ) (m : Nat) (d : Nat) (a1 : Int) (a2 : Int) (s : mS) : zf_R_holds Z m (d + 1) a1 a2 s = (inR (Z 0 (Z 0 226 (Z 2 4 a1)) 1) 466 (inR (Z 0 (Z 0 226 (Z 2 4 a1)) 2) 466 (inR (Z 0 226 (Z 2 4 a1)) 466 (if s.1 251 (Z 0 226 (Z 2 4 a1)).toNat = 1 then ((zf_R_holds Z m d (s.1 251 (Z 0 (Z 0 226 (Z 2 4 a1)) 1).toNat) a2 s).bind fun p0 => (if p0.1 = 0 then (some (1, p0.2)) else (some (0, p0.2)))) else (if s.1 251 (Z 0 226 (Z 2 4 a1)).toNat = 2 then ((zf_R_holds Z m d (s.1 251 (Z 0 (Z 0 226 (Z 2 4 a1)) 1).toNat) a2 s).bind fun p0 => (if p0.1 = 0 then (some (0, p0.2)) else ((zf_R_holds Z m d (s.1 251 (Z 0 (Z 0 226 (Z 2 4 a1)) 2).toNat) a2 p0.2).bind fun p1 => (if p1.1 = 0 then (some (0, p1.2)) else (some (1, p1.2)))))) else (if s.1 251 (Z 0 226 (Z 2 4 a1)).toNat = 3 then ((zf_R_holds Z m d (s.1 251 (Z 0 (Z 0 226 (Z 2 4 a1)) 1).toNat) a2 s).bind fun p0 => (if p0.1 = 0 then ((zf_R_holds Z m d (s.1 251 (Z 0 (Z 0 226 (Z 2 4 a1)) 2).toNat) a2 p0.2).bind fun p1 => (if p1.1 = 0 then (some (0, p1.2)) else (some (1, p1.2)))) else (some (1, p0.2)))) else (if s.1 251 (Z 0 226 (Z 2 4 a1)).toNat = 64 then (inR (Z 0 164 a2) 466 (if s.1 251 (Z 0 164 a2).toNat = 0 then (some (1, s)) else (some (0, s)))) else (if s.1 251 (Z 0 226 (Z 2 4 a1)).toNat = 65 then (inR (Z 0 164 a2) 466 (if s.1 251 (Z 0 164 a2).toNat = 1 then (some (1, s)) else (some (0, s)))) else (if s.1 251 (Z 0 226 (Z 2 4 a1)).toNat = 66 then (inR (Z 0 164 a2) 466 (if s.1 251 (Z 0 164 a2).toNat = 2 then (some (1, s)) else (some (0, s)))) else (if s.1 251 (Z 0 226 (Z 2 4 a1)).toNat = 67 then (inR (Z 0 164 a2) 466 (if s.1 251 (Z 0 164 a2).toNat = 3 then (some (1, s)) else (some (0, s)))) else (if s.1 251 (Z 0 226 (Z 2 4 a1)).toNat = 68 then (inR (Z 0 176 a2) 466 (if s.1 251 (Z 0 176 a2).toNat = s.1 251 (Z 0 (Z 0 226 (Z 2 4 a1)) 1).toNat then (some (1, s)) else (some (0, s)))) else (if s.1 251 (Z 0 226 (Z 2 4 a1)).toNat = 69 then (inR (Z 0 53 a2) 466 ((zf_R_has Z m (s.1 251 (Z 0 53 a2).toNat) (s.1 251 (Z 0 (Z 0 226 (Z 2 4 a1)) 1).toNat) s).bind fun p0 => (if p0.1 = 0 ∨ p0.1 = 1 then some (p0.1, p0.2) else none))) else (inR (Z 0 226 (Z 2 4 a1)) 466 (if Z 1 (s.1 251 (Z 0 226 (Z 2 4 a1)).toNat) 50 = 20 then (inR (Z 0 29 a2) 466 (zl_R_holds_L370 Z m d m (Z 0 226 (Z 2 4 a1)) (s.1 251 (Z 0 (Z 0 226 (Z 2 4 a1)) 2).toNat) (s.1 251 (Z 0 29 a2).toNat) s)) else (if Z 1 (s.1 251 (Z 0 226 (Z 2 4 a1)).toNat) 50 = 21 then (inR (Z 0 200 a2) 466 (zl_R_holds_L370 Z m d m (Z 0 226 (Z 2 4 a1)) (s.1 251 (Z 0 (Z 0 226 (Z 2 4 a1)) 2).toNat) (s.1 251 (Z 0 200 a2).toNat) s)) else (if Z 1 (s.1 251 (Z 0 226 (Z 2 4 a1)).toNat) 50 = 22 then (inR (Z 0 212 a2) 466 (zl_R_holds_L370 Z m d m (Z 0 226 (Z 2 4 a1)) (s.1 251 (Z 0 (Z 0 226 (Z 2 4 a1)) 2).toNat) (s.1 251 (Z 0 212 a2).toNat) s)) else (zl_R_holds_L370 Z m d m (Z 0 226 (Z 2 4 a1)) (s.1 251 (Z 0 (Z 0 226 (Z 2 4 a1)) 2).toNat) a2 s))))))))))))))))) := rfl
set_option maxHeartbeats 1000000 in
set_option maxRecDepth 100000 in
theorem zl_R_holds_L370_eq (Z : mZ) (m : Nat) (d : Nat) (n : Nat) (x3 : Int) (x5 : Int) (y0 : Int) (s : mS) : zl_R_holds_L370 Z m d (n + 1) x3 x5 y0 s = (inR (Z 0 x3 3) 466 (if s.1 251 (Z 0 x3 3).toNat = 60 then (if y0 < x5 then (some (1, s)) else (some (0, s))) else (inR (Z 0 x3 3) 466 (if s.1 251 (Z 0 x3 3).toNat = 61 then (if y0 = x5 then (some (1, s)) else (some (0, s))) else (if x5 < y0 then (some (1, s)) else (some (0, s))))))) := rfl
set_option maxHeartbeats 1000000 in
set_option maxRecDepth 100000 in
theorem zf_R_said_eq (Z : mZ) (m : Nat) (a1 : Int) (s : mS) : zf_R_said Z m a1 s = (if (wI s 249 0 0).1 251 224 = 0 then (some ((-1), wI s 249 0 0)) else (zl_R_said_L22 Z m m a1 0 0 (wI s 249 0 0))) := rfl
set_option maxHeartbeats 1000000 in
set_option maxRecDepth 100000 in
theorem zl_R_said_L22_eq (Z : mZ) (m : Nat) (n : Nat) (x1 : Int) (x2 : Int) (x3 : Int) (s : mS) : zl_R_said_L22 Z m (n + 1) x1 x2 x3 s = (if x3 < s.1 251 2 then ((zf_R_holds Z m 64 (s.1 251 225) x3 s).bind fun p0 => (if p0.1 = 0 then (zl_R_said_L22 Z m n x1 x2 (Z 0 x3 1) p0.2) else (if x2 = x1 then (some (x3, p0.2)) else (zl_R_said_L22 Z m n x1 (Z 0 x2 1) (Z 0 x3 1) p0.2)))) else (if x1 = (-1) then (some (x2, s)) else (some ((-1), s)))) := rfl
set_option maxHeartbeats 1000000 in
set_option maxRecDepth 100000 in
theorem zf_R_image_eq (Z : mZ) (m : Nat) (a1 : Int) (s : mS) : zf_R_image Z m a1 s = ((zf_R_isIn Z m a1 0 1 (wI s 249 0 0)).bind fun p0 => (if p0.1 = 0 then (some (0, p0.2)) else (zl_R_image_L18 Z m m a1 0 p0.2))) := rfl
set_option maxHeartbeats 1000000 in
set_option maxRecDepth 100000 in
theorem zl_R_image_L18_eq (Z : mZ) (m : Nat) (n : Nat) (x1 : Int) (x2 : Int) (s : mS) : zl_R_image_L18 Z m (n + 1) x1 x2 s = (if x2 < 466 then (inR x2 466 (inR (Z 0 (Z 2 466 x1) x2) 932 (zl_R_image_L18 Z m n x1 (Z 0 x2 1) (wI s 253 (Z 0 (Z 2 466 x1) x2).toNat (s.1 251 x2.toNat))))) else (zl_R_image_L51 Z m n x1 0 s)) := rfl
set_option maxHeartbeats 1000000 in
set_option maxRecDepth 100000 in
theorem zl_R_image_L51_eq (Z : mZ) (m : Nat) (n : Nat) (x1 : Int) (x2 : Int) (s : mS) : zl_R_image_L51 Z m (n + 1) x1 x2 s = (if x2 < 26 then (inR x2 26 (inR (Z 0 (Z 2 26 x1) x2) 52 (zl_R_image_L51 Z m n x1 (Z 0 x2 1) (wJ s 259 (Z 0 (Z 2 26 x1) x2).toNat (s.2 257 x2.toNat))))) else (inR x1 2 (some (1, wI s 260 x1.toNat 1)))) := rfl
set_option maxHeartbeats 1000000 in
set_option maxRecDepth 100000 in
theorem zf_R_restore_eq (Z : mZ) (m : Nat) (a1 : Int) (s : mS) : zf_R_restore Z m a1 s = ((zf_R_isIn Z m a1 0 1 (wI s 249 0 0)).bind fun p0 => (if p0.1 = 0 then (some (0, p0.2)) else (inR a1 2 (if p0.2.1 260 a1.toNat = 0 then (some (0, p0.2)) else (zl_R_restore_L27 Z m m a1 0 p0.2))))) := rfl
set_option maxHeartbeats 1000000 in
set_option maxRecDepth 100000 in
theorem zl_R_restore_L27_eq (Z : mZ) (m : Nat) (n : Nat) (x1 : Int) (x2 : Int) (s : mS) : zl_R_restore_L27 Z m (n + 1) x1 x2 s = (if x2 < 466 then (inR (Z 0 (Z 2 466 x1) x2) 932 (inR x2 466 (zl_R_restore_L27 Z m n x1 (Z 0 x2 1) (wI s 251 x2.toNat (s.1 253 (Z 0 (Z 2 466 x1) x2).toNat))))) else (zl_R_restore_L60 Z m n x1 0 s)) := rfl
set_option maxHeartbeats 1000000 in
set_option maxRecDepth 100000 in
theorem zl_R_restore_L60_eq (Z : mZ) (m : Nat) (n : Nat) (x1 : Int) (x2 : Int) (s : mS) : zl_R_restore_L60 Z m (n + 1) x1 x2 s = (if x2 < 26 then (inR (Z 0 (Z 2 26 x1) x2) 52 (inR x2 26 (zl_R_restore_L60 Z m n x1 (Z 0 x2 1) (wJ s 257 x2.toNat (s.2 259 (Z 0 (Z 2 26 x1) x2).toNat))))) else (some (1, wI s 249 25 0))) := rfl
set_option maxHeartbeats 1000000 in
set_option maxRecDepth 100000 in
theorem zf_R_count_eq (Z : mZ) (m : Nat) (a1 : Int) (s : mS) : zf_R_count Z m a1 s = (if a1 = 0 then (some ((wI s 249 0 0).1 251 0, wI s 249 0 0)) else (if a1 = 1 then (some ((wI s 249 0 0).1 251 1, wI s 249 0 0)) else (if a1 = 2 then (some ((wI s 249 0 0).1 251 2, wI s 249 0 0)) else (if a1 = 3 then (some ((wI s 249 0 0).1 251 3, wI s 249 0 0)) else (if a1 = 4 then (some ((wI s 249 0 0).1 251 4, wI s 249 0 0)) else (if a1 = 5 then (some ((wI s 249 0 0).1 251 5, wI s 249 0 0)) else (if a1 = 6 then (some ((wI s 249 0 0).1 249 2, wI s 249 0 0)) else (some ((-1), wI s 249 0 0))))))))) := rfl
