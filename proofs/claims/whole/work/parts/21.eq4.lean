/-! ===== written by gen_fun.py: do not edit ===== -/
set_option maxHeartbeats 1000000 in
set_option maxRecDepth 100000 in
theorem zl_X_dead_L146_eq (Z : mZ) (m : Nat) (n : Nat) (s : mS) : zl_X_dead_L146 Z m (n + 1) s = none := rfl
set_option maxHeartbeats 1000000 in
set_option maxRecDepth 100000 in
theorem zf_X_inLeastTerms_eq (Z : mZ) (m : Nat) (a0 : Int) (a1 : Int) (a2 : Int) (s : mS) : zf_X_inLeastTerms Z m a0 a1 a2 s = (zl_X_inLeastTerms_L8 Z m m a0 a1 a2 a1 a0 0 s) := rfl
set_option maxHeartbeats 1000000 in
set_option maxRecDepth 100000 in
theorem zl_X_inLeastTerms_L8_eq (Z : mZ) (m : Nat) (n : Nat) (x0 : Int) (x1 : Int) (x2 : Int) (x3 : Int) (x4 : Int) (x5 : Int) (s : mS) : zl_X_inLeastTerms_L8 Z m (n + 1) x0 x1 x2 x3 x4 x5 s = (if x5 < 64 then (if x4 = 0 then (if x3 = 0 then (some ((-1), s)) else (if x2 = 0 then (if x3 = 0 then none else (some (Z 9 x0 x3, s))) else (if x3 = 0 then none else (some (Z 9 x1 x3, s))))) else (if x4 = 0 then none else (zl_X_inLeastTerms_L8 Z m n x0 x1 x2 x4 (Z 10 x3 x4) (Z 0 x5 1) s))) else (if x3 = 0 then (some ((-1), s)) else (if x2 = 0 then (if x3 = 0 then none else (some (Z 9 x0 x3, s))) else (if x3 = 0 then none else (some (Z 9 x1 x3, s)))))) := rfl
set_option maxHeartbeats 1000000 in
set_option maxRecDepth 100000 in
theorem zf_X_wear_eq (Z : mZ) (m : Nat) (a1 : Int) (a2 : Int) (s : mS) : zf_X_wear Z m a1 a2 s = ((zf_X_isBox Z m a1 s).bind fun p0 => (if p0.1 = 0 then (zl_X_wear_L17 Z m m p0.2) else (if a2 < 0 then (zl_X_wear_L17 Z m m p0.2) else (if 1 < a2 then (zl_X_wear_L17 Z m m p0.2) else (inR a1 9 (inR a1 9 ((zf_X_inLeastTerms Z m (p0.2.1 18 a1.toNat) (p0.2.1 7 a1.toNat) a2 p0.2).bind fun p1 => (some (p1.1, p1.2))))))))) := rfl
set_option maxHeartbeats 1000000 in
set_option maxRecDepth 100000 in
theorem zl_X_wear_L17_eq (Z : mZ) (m : Nat) (n : Nat) (s : mS) : zl_X_wear_L17 Z m (n + 1) s = none := rfl
set_option maxHeartbeats 1000000 in
set_option maxRecDepth 100000 in
theorem zf_X_mean_eq (Z : mZ) (m : Nat) (a1 : Int) (s : mS) : zf_X_mean Z m a1 s = (if s.1 4 2 = 0 then (zl_X_mean_L22 Z m m s) else (if a1 < 0 then (zl_X_mean_L22 Z m m s) else (if 1 < a1 then (zl_X_mean_L22 Z m m s) else (zl_X_mean_L37 Z m m a1 0 0 s)))) := rfl
set_option maxHeartbeats 1000000 in
set_option maxRecDepth 100000 in
theorem zl_X_mean_L22_eq (Z : mZ) (m : Nat) (n : Nat) (s : mS) : zl_X_mean_L22 Z m (n + 1) s = none := rfl
set_option maxHeartbeats 1000000 in
set_option maxRecDepth 100000 in
theorem zl_X_mean_L37_eq (Z : mZ) (m : Nat) (n : Nat) (x1 : Int) (x2 : Int) (x3 : Int) (s : mS) : zl_X_mean_L37 Z m (n + 1) x1 x2 x3 s = (if x3 < s.1 4 2 then (inR x3 12 (zl_X_mean_L37 Z m n x1 (Z 0 x2 (s.1 28 x3.toNat)) (Z 0 x3 1) s)) else ((zf_X_inLeastTerms Z m x2 (s.1 4 2) x1 s).bind fun p0 => (some (p0.1, p0.2)))) := rfl
set_option maxHeartbeats 1000000 in
set_option maxRecDepth 100000 in
theorem zf_R_thrown_eq (Z : mZ) (m : Nat) (s : mS) : zf_R_thrown Z m s = (some (s.1 249 0, s)) := rfl
set_option maxHeartbeats 1000000 in
set_option maxRecDepth 100000 in
theorem zf_R_comea_eq (Z : mZ) (m : Nat) (a1 : Int) (s : mS) : zf_R_comea Z m a1 s = (zl_R_comea_L3 Z m m a1 24 s) := rfl
set_option maxHeartbeats 1000000 in
set_option maxRecDepth 100000 in
theorem zl_R_comea_L3_eq (Z : mZ) (m : Nat) (n : Nat) (x1 : Int) (x2 : Int) (s : mS) : zl_R_comea_L3 Z m (n + 1) x1 x2 s = (if x2 < 0 then (some (0, s)) else (inR (s.1 249 2) 940 (zl_R_comea_L3 Z m n x1 (Z 0 x2 (-8)) (wI (wI s 250 (s.1 249 2).toNat (Z 3 (Z 8 x1 x2) 255)) 249 2 (Z 0 ((wI s 250 (s.1 249 2).toNat (Z 3 (Z 8 x1 x2) 255)).1 249 2) 1))))) := rfl
set_option maxHeartbeats 1000000 in
set_option maxRecDepth 100000 in
theorem zf_R_feed_eq (Z : mZ) (m : Nat) (a1 : Int) (a2 : Int) (a3 : Int) (a4 : Int) (a5 : Int) (s : mS) : zf_R_feed Z m a1 a2 a3 a4 a5 s = (if 940 < Z 0 ((wI s 249 0 0).1 249 2) 20 then (some ((-1), wI s 249 0 0)) else ((zf_R_comea Z m a1 (wI s 249 0 0)).bind fun p0 => ((zf_R_comea Z m a2 p0.2).bind fun p1 => ((zf_R_comea Z m a3 p1.2).bind fun p2 => ((zf_R_comea Z m a4 p2.2).bind fun p3 => ((zf_R_comea Z m a5 p3.2).bind fun p4 => (some (p4.2.1 249 2, p4.2)))))))) := rfl
set_option maxHeartbeats 1000000 in
set_option maxRecDepth 100000 in
theorem zf_R_end_eq (Z : mZ) (m : Nat) (a1 : Int) (s : mS) : zf_R_end Z m a1 s = (if a1 < 0 then (some (0, wI s 249 0 0)) else (if (wI s 249 0 0).1 249 2 < a1 then (some (0, wI s 249 0 0)) else (some (1, wI (wI s 249 0 0) 249 2 a1)))) := rfl
set_option maxHeartbeats 1000000 in
set_option maxRecDepth 100000 in
theorem zf_R_take_eq (Z : mZ) (m : Nat) (s : mS) : zf_R_take Z m s = (some (s.1 249 2, wI s 249 2 0)) := rfl
set_option maxHeartbeats 1000000 in
set_option maxRecDepth 100000 in
theorem zf_R_isLetter_eq (Z : mZ) (m : Nat) (a0 : Int) (s : mS) : zf_R_isLetter Z m a0 s = (if a0 < 97 then (some (0, s)) else (if 122 < a0 then (some (0, s)) else (some (1, s)))) := rfl
set_option maxHeartbeats 1000000 in
set_option maxRecDepth 100000 in
theorem zf_R_isDigit_eq (Z : mZ) (m : Nat) (a0 : Int) (s : mS) : zf_R_isDigit Z m a0 s = (if a0 < 48 then (some (0, s)) else (if 57 < a0 then (some (0, s)) else (some (1, s)))) := rfl
set_option maxHeartbeats 1000000 in
set_option maxRecDepth 100000 in
theorem zf_R_tapeAt_eq (Z : mZ) (m : Nat) (a1 : Int) (s : mS) : zf_R_tapeAt Z m a1 s = (if a1 < s.1 249 3 then (inR a1 940 (some (s.1 250 a1.toNat, s))) else (some (0, s))) := rfl
set_option maxHeartbeats 1000000 in
set_option maxRecDepth 100000 in
theorem zf_R_go_eq (Z : mZ) (m : Nat) (s : mS) : zf_R_go Z m s = (if s.1 249 5 < s.1 249 3 then (inR (s.1 249 5) 940 (if s.1 250 (s.1 249 5).toNat = 32 then (zl_R_go_L0 Z m m (wI s 249 5 (Z 0 (s.1 249 5) 1))) else (inR (s.1 249 5) 940 (if s.1 250 (s.1 249 5).toNat = 10 then (zl_R_go_L0 Z m m (wI s 249 5 (Z 0 (s.1 249 5) 1))) else (if (wI s 249 6 (s.1 249 5)).1 249 4 < (wI s 249 6 (s.1 249 5)).1 249 3 then (if (wI s 249 6 (s.1 249 5)).1 249 6 < (wI s 249 6 (s.1 249 5)).1 249 4 then (zl_R_go_L96 Z m m (wI s 249 6 (s.1 249 5))) else (some (0, wI (wI (wI s 249 6 (s.1 249 5)) 249 6 ((wI s 249 6 (s.1 249 5)).1 249 4)) 249 7 1))) else (zl_R_go_L96 Z m m (wI s 249 6 (s.1 249 5)))))))) else (if (wI s 249 6 (s.1 249 5)).1 249 4 < (wI s 249 6 (s.1 249 5)).1 249 3 then (if (wI s 249 6 (s.1 249 5)).1 249 6 < (wI s 249 6 (s.1 249 5)).1 249 4 then (zl_R_go_L96 Z m m (wI s 249 6 (s.1 249 5))) else (some (0, wI (wI (wI s 249 6 (s.1 249 5)) 249 6 ((wI s 249 6 (s.1 249 5)).1 249 4)) 249 7 1))) else (zl_R_go_L96 Z m m (wI s 249 6 (s.1 249 5))))) := rfl
set_option maxHeartbeats 1000000 in
set_option maxRecDepth 100000 in
theorem zl_R_go_L0_eq (Z : mZ) (m : Nat) (n : Nat) (s : mS) : zl_R_go_L0 Z m (n + 1) s = (if s.1 249 5 < s.1 249 3 then (inR (s.1 249 5) 940 (if s.1 250 (s.1 249 5).toNat = 32 then (zl_R_go_L0 Z m n (wI s 249 5 (Z 0 (s.1 249 5) 1))) else (inR (s.1 249 5) 940 (if s.1 250 (s.1 249 5).toNat = 10 then (zl_R_go_L0 Z m n (wI s 249 5 (Z 0 (s.1 249 5) 1))) else (if (wI s 249 6 (s.1 249 5)).1 249 4 < (wI s 249 6 (s.1 249 5)).1 249 3 then (if (wI s 249 6 (s.1 249 5)).1 249 6 < (wI s 249 6 (s.1 249 5)).1 249 4 then (zl_R_go_L96 Z m n (wI s 249 6 (s.1 249 5))) else (some (0, wI (wI (wI s 249 6 (s.1 249 5)) 249 6 ((wI s 249 6 (s.1 249 5)).1 249 4)) 249 7 1))) else (zl_R_go_L96 Z m n (wI s 249 6 (s.1 249 5)))))))) else (if (wI s 249 6 (s.1 249 5)).1 249 4 < (wI s 249 6 (s.1 249 5)).1 249 3 then (if (wI s 249 6 (s.1 249 5)).1 249 6 < (wI s 249 6 (s.1 249 5)).1 249 4 then (zl_R_go_L96 Z m n (wI s 249 6 (s.1 249 5))) else (some (0, wI (wI (wI s 249 6 (s.1 249 5)) 249 6 ((wI s 249 6 (s.1 249 5)).1 249 4)) 249 7 1))) else (zl_R_go_L96 Z m n (wI s 249 6 (s.1 249 5))))) := rfl
set_option maxHeartbeats 1000000 in
set_option maxRecDepth 100000 in
theorem zl_R_go_L96_eq (Z : mZ) (m : Nat) (n : Nat) (s : mS) : zl_R_go_L96 Z m (n + 1) s = (if s.1 249 5 < s.1 249 3 then (inR (s.1 249 5) 940 ((zf_R_isLetter Z m (s.1 250 (s.1 249 5).toNat) s).bind fun p0 => (if p0.1 = 0 then ((zf_R_isDigit Z m (s.1 250 (s.1 249 5).toNat) p0.2).bind fun p1 => (if p1.1 = 0 then (if s.1 250 (s.1 249 5).toNat = 59 then (some (0, wI (wI (wI p1.2 249 7 4) 249 9 (s.1 250 (s.1 249 5).toNat)) 249 5 (Z 0 ((wI (wI p1.2 249 7 4) 249 9 (s.1 250 (s.1 249 5).toNat)).1 249 5) 1))) else (if s.1 250 (s.1 249 5).toNat = 60 then (some (0, wI (wI (wI p1.2 249 7 4) 249 9 (s.1 250 (s.1 249 5).toNat)) 249 5 (Z 0 ((wI (wI p1.2 249 7 4) 249 9 (s.1 250 (s.1 249 5).toNat)).1 249 5) 1))) else (if s.1 250 (s.1 249 5).toNat = 61 then (some (0, wI (wI (wI p1.2 249 7 4) 249 9 (s.1 250 (s.1 249 5).toNat)) 249 5 (Z 0 ((wI (wI p1.2 249 7 4) 249 9 (s.1 250 (s.1 249 5).toNat)).1 249 5) 1))) else (if s.1 250 (s.1 249 5).toNat = 62 then (some (0, wI (wI (wI p1.2 249 7 4) 249 9 (s.1 250 (s.1 249 5).toNat)) 249 5 (Z 0 ((wI (wI p1.2 249 7 4) 249 9 (s.1 250 (s.1 249 5).toNat)).1 249 5) 1))) else (if s.1 250 (s.1 249 5).toNat = 40 then (some (0, wI (wI (wI p1.2 249 7 4) 249 9 (s.1 250 (s.1 249 5).toNat)) 249 5 (Z 0 ((wI (wI p1.2 249 7 4) 249 9 (s.1 250 (s.1 249 5).toNat)).1 249 5) 1))) else (if s.1 250 (s.1 249 5).toNat = 41 then (some (0, wI (wI (wI p1.2 249 7 4) 249 9 (s.1 250 (s.1 249 5).toNat)) 249 5 (Z 0 ((wI (wI p1.2 249 7 4) 249 9 (s.1 250 (s.1 249 5).toNat)).1 249 5) 1))) else (some (0, wI (wI (wI p1.2 249 7 1) 249 9 (s.1 250 (s.1 249 5).toNat)) 249 5 (Z 0 ((wI (wI p1.2 249 7 1) 249 9 (s.1 250 (s.1 249 5).toNat)).1 249 5) 1))))))))) else ((zf_R_isLetter Z m (s.1 250 (s.1 249 5).toNat) p1.2).bind fun p2 => (zl_R_go_L215 Z m n p2.1 1 (wI (wJ p2.2 249 12 0) 249 8 0))))) else ((zf_R_isLetter Z m (s.1 250 (s.1 249 5).toNat) p0.2).bind fun p1 => (zl_R_go_L215 Z m n p1.1 1 (wI (wJ p1.2 249 12 0) 249 8 0)))))) else (some (0, wI s 249 7 0))) := rfl
set_option maxHeartbeats 1000000 in
set_option maxRecDepth 100000 in
theorem zl_R_go_L215_eq (Z : mZ) (m : Nat) (n : Nat) (x2 : Int) (x3 : Int) (s : mS) : zl_R_go_L215 Z m (n + 1) x2 x3 s = ((zf_R_tapeAt Z m (s.1 249 5) s).bind fun p0 => ((zf_R_isLetter Z m p0.1 p0.2).bind fun p1 => (if p1.1 = 0 then ((zf_R_tapeAt Z m (p1.2.1 249 5) p1.2).bind fun p2 => ((zf_R_isDigit Z m p2.1 p2.2).bind fun p3 => (if p3.1 = 0 then (if x3 = 0 then (some (0, wI p3.2 249 7 1)) else (if x2 = 0 then (if 3 < Z 1 (p3.2.1 249 5) (p3.2.1 249 6) then (some (0, wI p3.2 249 7 1)) else (if x2 = 0 then (some (0, wI p3.2 249 7 3)) else (some (0, wI p3.2 249 7 2)))) else (if 7 < Z 1 (p3.2.1 249 5) (p3.2.1 249 6) then (some (0, wI p3.2 249 7 1)) else (if x2 = 0 then (some (0, wI p3.2 249 7 3)) else (some (0, wI p3.2 249 7 2)))))) else (zl_R_go_L243 Z m n x2 x3 p3.2)))) else (zl_R_go_L243 Z m n x2 x3 p1.2)))) := rfl
set_option maxHeartbeats 1000000 in
set_option maxRecDepth 100000 in
theorem zl_R_go_L243_eq (Z : mZ) (m : Nat) (n : Nat) (x2 : Int) (x3 : Int) (s : mS) : zl_R_go_L243 Z m (n + 1) x2 x3 s = (inR (s.1 249 5) 940 (if x3 = 0 then (if Z 1 (s.1 249 5) (s.1 249 6) < 7 then (zl_R_go_L307 Z m n x2 0 (s.1 250 (s.1 249 5).toNat) (wJ s 249 12 (Z 12 (Z 11 (Z 13 27 (s.2 249 12)) (s.1 250 (s.1 249 5).toNat)) 96))) else (zl_R_go_L307 Z m n x2 0 (s.1 250 (s.1 249 5).toNat) s)) else ((zf_R_isLetter Z m (s.1 250 (s.1 249 5).toNat) s).bind fun p0 => (if p0.1 = x2 then (if Z 1 (p0.2.1 249 5) (p0.2.1 249 6) < 7 then (zl_R_go_L307 Z m n x2 1 (s.1 250 (s.1 249 5).toNat) (wJ p0.2 249 12 (Z 12 (Z 11 (Z 13 27 (p0.2.2 249 12)) (s.1 250 (s.1 249 5).toNat)) 96))) else (zl_R_go_L307 Z m n x2 1 (s.1 250 (s.1 249 5).toNat) p0.2)) else (if Z 1 (p0.2.1 249 5) (p0.2.1 249 6) < 7 then (zl_R_go_L307 Z m n x2 0 (s.1 250 (s.1 249 5).toNat) (wJ p0.2 249 12 (Z 12 (Z 11 (Z 13 27 (p0.2.2 249 12)) (s.1 250 (s.1 249 5).toNat)) 96))) else (zl_R_go_L307 Z m n x2 0 (s.1 250 (s.1 249 5).toNat) p0.2)))))) := rfl
set_option maxHeartbeats 1000000 in
set_option maxRecDepth 100000 in
theorem zl_R_go_L307_eq (Z : mZ) (m : Nat) (n : Nat) (x2 : Int) (x3 : Int) (x4 : Int) (s : mS) : zl_R_go_L307 Z m (n + 1) x2 x3 x4 s = (if Z 1 (s.1 249 5) (s.1 249 6) < 3 then (zl_R_go_L215 Z m n x2 x3 (wI (wI s 249 8 (Z 1 (Z 0 (Z 2 10 (s.1 249 8)) x4) 48)) 249 5 (Z 0 ((wI s 249 8 (Z 1 (Z 0 (Z 2 10 (s.1 249 8)) x4) 48)).1 249 5) 1))) else (zl_R_go_L215 Z m n x2 x3 (wI s 249 5 (Z 0 (s.1 249 5) 1)))) := rfl
set_option maxHeartbeats 1000000 in
set_option maxRecDepth 100000 in
theorem zf_R_begin_eq (Z : mZ) (m : Nat) (a1 : Int) (s : mS) : zf_R_begin Z m a1 s = ((zf_R_take Z m (wI s 249 0 0)).bind fun p0 => ((zf_R_go Z m (wI (wI (wI (wI p0.2 249 3 p0.1) 249 4 a1) 249 10 0) 249 5 0)).bind fun p1 => (some (0, p1.2)))) := rfl
set_option maxHeartbeats 1000000 in
set_option maxRecDepth 100000 in
theorem zf_R_spelt_eq (Z : mZ) (m : Nat) (a0 : Int) (a1 : Int) (a2 : Int) (a3 : Int) (a4 : Int) (a5 : Int) (a6 : Int) (s : mS) : zf_R_spelt Z m a0 a1 a2 a3 a4 a5 a6 s = (if 0 < a2 then (zl_R_spelt_L38 Z m m a3 a4 a5 a6 (Z 12 (Z 11 (Z 13 27 (Z 12 (Z 11 (Z 13 27 (Z 12 a0 96)) a1) 96)) a2) 96) s) else (zl_R_spelt_L38 Z m m a3 a4 a5 a6 (Z 12 (Z 11 (Z 13 27 (Z 12 a0 96)) a1) 96) s)) := rfl
set_option maxHeartbeats 1000000 in
set_option maxRecDepth 100000 in
theorem zl_R_spelt_L38_eq (Z : mZ) (m : Nat) (n : Nat) (x3 : Int) (x4 : Int) (x5 : Int) (x6 : Int) (x7 : Int) (s : mS) : zl_R_spelt_L38 Z m (n + 1) x3 x4 x5 x6 x7 s = (if 0 < x3 then (if 0 < x4 then (zl_R_spelt_L78 Z m n x5 x6 (Z 12 (Z 11 (Z 13 27 (Z 12 (Z 11 (Z 13 27 x7) x3) 96)) x4) 96) s) else (zl_R_spelt_L78 Z m n x5 x6 (Z 12 (Z 11 (Z 13 27 x7) x3) 96) s)) else (if 0 < x4 then (zl_R_spelt_L78 Z m n x5 x6 (Z 12 (Z 11 (Z 13 27 x7) x4) 96) s) else (zl_R_spelt_L78 Z m n x5 x6 x7 s))) := rfl
set_option maxHeartbeats 1000000 in
set_option maxRecDepth 100000 in
theorem zl_R_spelt_L78_eq (Z : mZ) (m : Nat) (n : Nat) (x5 : Int) (x6 : Int) (x7 : Int) (s : mS) : zl_R_spelt_L78 Z m (n + 1) x5 x6 x7 s = (if 0 < x5 then (if 0 < x6 then (some (Z 12 (Z 11 (Z 13 27 (Z 12 (Z 11 (Z 13 27 x7) x5) 96)) x6) 96, s)) else (some (Z 12 (Z 11 (Z 13 27 x7) x5) 96, s))) else (if 0 < x6 then (some (Z 12 (Z 11 (Z 13 27 x7) x6) 96, s)) else (some (x7, s)))) := rfl
set_option maxHeartbeats 1000000 in
set_option maxRecDepth 100000 in
theorem zf_R_wordOf_eq (Z : mZ) (m : Nat) (a0 : Int) (s : mS) : zf_R_wordOf Z m a0 s = (if a0 = 0 then ((zf_R_spelt Z m 98 111 120 0 0 0 0 s).bind fun p0 => (some (p0.1, p0.2))) else (if a0 = 1 then ((zf_R_spelt Z m 112 108 111 116 0 0 0 s).bind fun p0 => (some (p0.1, p0.2))) else (if a0 = 2 then ((zf_R_spelt Z m 100 101 97 100 0 0 0 s).bind fun p0 => (some (p0.1, p0.2))) else (if a0 = 3 then ((zf_R_spelt Z m 97 115 107 115 0 0 0 s).bind fun p0 => (some (p0.1, p0.2))) else (if a0 = 4 then ((zf_R_spelt Z m 102 114 111 115 116 0 0 s).bind fun p0 => (some (p0.1, p0.2))) else (if a0 = 5 then ((zf_R_spelt Z m 97 105 114 0 0 0 0 s).bind fun p0 => (some (p0.1, p0.2))) else (if a0 = 6 then ((zf_R_spelt Z m 108 101 110 100 0 0 0 s).bind fun p0 => (some (p0.1, p0.2))) else (if a0 = 7 then ((zf_R_spelt Z m 108 97 121 0 0 0 0 s).bind fun p0 => (some (p0.1, p0.2))) else (if a0 = 8 then ((zf_R_spelt Z m 115 119 97 112 0 0 0 s).bind fun p0 => (some (p0.1, p0.2))) else (if a0 = 9 then ((zf_R_spelt Z m 109 101 110 100 0 0 0 s).bind fun p0 => (some (p0.1, p0.2))) else (if a0 = 10 then ((zf_R_spelt Z m 100 97 121 0 0 0 0 s).bind fun p0 => (some (p0.1, p0.2))) else (if a0 = 11 then ((zf_R_spelt Z m 111 114 0 0 0 0 0 s).bind fun p0 => (some (p0.1, p0.2))) else (if a0 = 12 then ((zf_R_spelt Z m 97 110 100 0 0 0 0 s).bind fun p0 => (some (p0.1, p0.2))) else (if a0 = 13 then ((zf_R_spelt Z m 110 111 116 0 0 0 0 s).bind fun p0 => (some (p0.1, p0.2))) else (if a0 = 14 then ((zf_R_spelt Z m 99 111 109 105 110 103 0 s).bind fun p0 => (some (p0.1, p0.2))) else (if a0 = 15 then ((zf_R_spelt Z m 119 97 105 116 105 110 103 s).bind fun p0 => (some (p0.1, p0.2))) else (if a0 = 16 then ((zf_R_spelt Z m 108 121 105 110 103 0 0 s).bind fun p0 => (some (p0.1, p0.2))) else (if a0 = 17 then ((zf_R_spelt Z m 108 97 105 100 0 0 0 s).bind fun p0 => (some (p0.1, p0.2))) else (if a0 = 18 then ((zf_R_spelt Z m 105 110 0 0 0 0 0 s).bind fun p0 => (some (p0.1, p0.2))) else (if a0 = 19 then ((zf_R_spelt Z m 107 105 110 0 0 0 0 s).bind fun p0 => (some (p0.1, p0.2))) else (if a0 = 20 then ((zf_R_spelt Z m 108 111 110 103 0 0 0 s).bind fun p0 => (some (p0.1, p0.2))) else (if a0 = 21 then ((zf_R_spelt Z m 119 97 105 116 101 100 0 s).bind fun p0 => (some (p0.1, p0.2))) else (if a0 = 22 then ((zf_R_spelt Z m 108 97 105 110 0 0 0 s).bind fun p0 => (some (p0.1, p0.2))) else ((zf_R_spelt Z m 110 117 109 98 101 114 0 s).bind fun p0 => (some (p0.1, p0.2)))))))))))))))))))))))))) := rfl
set_option maxHeartbeats 1000000 in
set_option maxRecDepth 100000 in
theorem zf_R_isWord_eq (Z : mZ) (m : Nat) (a1 : Int) (s : mS) : zf_R_isWord Z m a1 s = (if s.1 249 7 = 2 then ((zf_R_wordOf Z m a1 s).bind fun p0 => (if Z 20 (s.2 249 12) p0.1 = 0 then (some (1, p0.2)) else (some (0, p0.2)))) else (some (0, s))) := rfl
set_option maxHeartbeats 1000000 in
set_option maxRecDepth 100000 in
theorem zf_R_bad_eq (Z : mZ) (m : Nat) (a1 : Int) (s : mS) : zf_R_bad Z m a1 s = (if s.1 249 7 = 1 then (some (0, wI (wI s 249 10 1) 249 11 ((wI s 249 10 1).1 249 6))) else (some (0, wI (wI s 249 10 a1) 249 11 ((wI s 249 10 a1).1 249 6)))) := rfl
set_option maxHeartbeats 1000000 in
set_option maxRecDepth 100000 in
theorem zf_R_isIn_eq (Z : mZ) (m : Nat) (a0 : Int) (a1 : Int) (a2 : Int) (s : mS) : zf_R_isIn Z m a0 a1 a2 s = (if a0 < a1 then (some (0, s)) else (if a2 < a0 then (some (0, s)) else (some (1, s)))) := rfl
set_option maxHeartbeats 1000000 in
set_option maxRecDepth 100000 in
theorem zf_R_readNumber_eq (Z : mZ) (m : Nat) (a1 : Int) (a2 : Int) (s : mS) : zf_R_readNumber Z m a1 a2 s = (if s.1 249 7 = 3 then ((zf_R_isIn Z m (s.1 249 8) a1 a2 s).bind fun p0 => (if p0.1 = 0 then ((zf_R_bad Z m 2 p0.2).bind fun p1 => (if p1.1 = 0 ∨ p1.1 = 1 then some (p1.1, p1.2) else none)) else ((zf_R_go Z m (wI p0.2 249 13 (p0.2.1 249 8))).bind fun p1 => (some (1, p1.2))))) else ((zf_R_bad Z m 1 s).bind fun p0 => (if p0.1 = 0 ∨ p0.1 = 1 then some (p0.1, p0.2) else none))) := rfl
set_option maxHeartbeats 1000000 in
set_option maxRecDepth 100000 in
theorem zf_R_noted_eq (Z : mZ) (m : Nat) (a1 : Int) (a2 : Int) (s : mS) : zf_R_noted Z m a1 a2 s = (if a2 = 0 then (if a2 = 0 ∨ a2 = 1 then some (a2, s) else none) else (inR a1 85 (if a2 = 0 ∨ a2 = 1 then some (a2, wI s 252 a1.toNat (s.1 249 13)) else none))) := rfl
set_option maxHeartbeats 1000000 in
set_option maxRecDepth 100000 in
theorem zf_R_readAir_eq (Z : mZ) (m : Nat) (s : mS) : zf_R_readAir Z m s = (if s.1 249 24 = 0 then ((zf_R_go Z m (wI s 249 24 1)).bind fun p0 => ((zf_R_readNumber Z m 0 9 p0.2).bind fun p1 => ((zf_R_noted Z m 5 p1.1 p1.2).bind fun p2 => (if p2.1 = 0 ∨ p2.1 = 1 then some (p2.1, p2.2) else none)))) else ((zf_R_bad Z m 3 s).bind fun p0 => (if p0.1 = 0 ∨ p0.1 = 1 then some (p0.1, p0.2) else none))) := rfl
set_option maxHeartbeats 1000000 in
set_option maxRecDepth 100000 in
theorem zf_R_readFirst_eq (Z : mZ) (m : Nat) (a1 : Int) (a2 : Int) (s : mS) : zf_R_readFirst Z m a1 a2 s = (inR a1 85 (if s.1 252 a1.toNat = a2 then ((zf_R_bad Z m 4 s).bind fun p0 => (if p0.1 = 0 ∨ p0.1 = 1 then some (p0.1, p0.2) else none)) else ((zf_R_go Z m s).bind fun p0 => (some (1, p0.2))))) := rfl
set_option maxHeartbeats 1000000 in
set_option maxRecDepth 100000 in
theorem zf_R_readFrost_eq (Z : mZ) (m : Nat) (s : mS) : zf_R_readFrost Z m s = ((zf_R_readFirst Z m 4 4 s).bind fun p0 => (if p0.1 = 0 then (some (0, p0.2)) else ((zf_R_readNumber Z m 0 199 p0.2).bind fun p1 => ((zf_R_noted Z m (Z 0 77 (p0.2.1 252 4)) p1.1 p1.2).bind fun p2 => (if p2.1 = 0 then (some (0, p2.2)) else ((zf_R_readNumber Z m 1 60 p2.2).bind fun p3 => ((zf_R_noted Z m (Z 0 81 (p0.2.1 252 4)) p3.1 p3.2).bind fun p4 => (if p4.1 = 0 then (some (0, p4.2)) else (some (1, wI p4.2 252 4 (Z 0 (p4.2.1 252 4) 1))))))))))) := rfl
set_option maxHeartbeats 1000000 in
set_option maxRecDepth 100000 in
theorem zf_R_isName_eq (Z : mZ) (m : Nat) (s : mS) : zf_R_isName Z m s = (if s.1 249 7 = 2 then (zl_R_isName_L12 Z m m 0 s) else (some (0, s))) := rfl
set_option maxHeartbeats 1000000 in
set_option maxRecDepth 100000 in
theorem zl_R_isName_L12_eq (Z : mZ) (m : Nat) (n : Nat) (x1 : Int) (s : mS) : zl_R_isName_L12 Z m (n + 1) x1 s = (if 23 < x1 then (some (1, s)) else ((zf_R_wordOf Z m x1 s).bind fun p0 => (if Z 20 (s.2 249 12) p0.1 = 0 then (some (0, p0.2)) else (zl_R_isName_L12 Z m n (Z 0 x1 1) p0.2)))) := rfl
set_option maxHeartbeats 1000000 in
set_option maxRecDepth 100000 in
theorem zf_R_findIn_258_eq (Z : mZ) (m : Nat) (a1 : Int) (a2 : Int) (a3 : Int) (s : mS) : zf_R_findIn_258 Z m a1 a2 a3 s = (zl_R_findIn_258_L3 Z m m a1 a2 a3 0 s) := rfl
set_option maxHeartbeats 1000000 in
set_option maxRecDepth 100000 in
theorem zl_R_findIn_258_L3_eq (Z : mZ) (m : Nat) (n : Nat) (x1 : Int) (x2 : Int) (x3 : Int) (x5 : Int) (s : mS) : zl_R_findIn_258_L3 Z m (n + 1) x1 x2 x3 x5 s = (if x5 < x2 then (inR (Z 0 x1 x5) 26 (if Z 20 (s.2 258 (Z 0 x1 x5).toNat) x3 = 0 then (some (x5, s)) else (zl_R_findIn_258_L3 Z m n x1 x2 x3 (Z 0 x5 1) s))) else (some ((-1), s))) := rfl
set_option maxHeartbeats 1000000 in
set_option maxRecDepth 100000 in
theorem zf_R_findIn_257_eq (Z : mZ) (m : Nat) (a1 : Int) (a2 : Int) (a3 : Int) (s : mS) : zf_R_findIn_257 Z m a1 a2 a3 s = (zl_R_findIn_257_L3 Z m m a1 a2 a3 0 s) := rfl
set_option maxHeartbeats 1000000 in
set_option maxRecDepth 100000 in
theorem zl_R_findIn_257_L3_eq (Z : mZ) (m : Nat) (n : Nat) (x1 : Int) (x2 : Int) (x3 : Int) (x5 : Int) (s : mS) : zl_R_findIn_257_L3 Z m (n + 1) x1 x2 x3 x5 s = (if x5 < x2 then (inR (Z 0 x1 x5) 26 (if Z 20 (s.2 257 (Z 0 x1 x5).toNat) x3 = 0 then (some (x5, s)) else (zl_R_findIn_257_L3 Z m n x1 x2 x3 (Z 0 x5 1) s))) else (some ((-1), s))) := rfl
set_option maxHeartbeats 1000000 in
set_option maxRecDepth 100000 in
theorem zf_R_isHere_eq (Z : mZ) (m : Nat) (a1 : Int) (a2 : Int) (s : mS) : zf_R_isHere Z m a1 a2 s = ((zf_R_isName Z m s).bind fun p0 => (if p0.1 = 0 then ((zf_R_bad Z m 1 p0.2).bind fun p1 => (if p1.1 = 0 ∨ p1.1 = 1 then some (p1.1, p1.2) else none)) else ((zf_R_findIn_258 Z m a1 a2 (p0.2.2 249 12) p0.2).bind fun p1 => (if (wI p1.2 249 13 p1.1).1 249 13 = (-1) then ((zf_R_bad Z m 3 (wI p1.2 249 13 p1.1)).bind fun p2 => (if p2.1 = 0 then (some (0, p2.2)) else (some (1, p2.2)))) else (some (1, wI p1.2 249 13 p1.1)))))) := rfl
set_option maxHeartbeats 1000000 in
set_option maxRecDepth 100000 in
theorem zf_R_readAsks_eq (Z : mZ) (m : Nat) (s : mS) : zf_R_readAsks Z m s = ((zf_R_go Z m s).bind fun p0 => ((zf_R_isHere Z m 14 (p0.2.1 252 2) p0.2).bind fun p1 => (if p1.1 = 0 then (some (0, p1.2)) else (inR (Z 0 65 (p1.2.1 249 13)) 85 (if 0 < p1.2.1 252 (Z 0 65 (p1.2.1 249 13)).toNat then ((zf_R_bad Z m 3 p1.2).bind fun p2 => (if p2.1 = 0 ∨ p2.1 = 1 then some (p2.1, p2.2) else none)) else ((zf_R_go Z m p1.2).bind fun p2 => ((zf_R_isHere Z m 0 (p2.2.1 252 0) p2.2).bind fun p3 => (if p3.1 = 0 then (some (0, p3.2)) else (inR (Z 0 65 (p1.2.1 249 13)) 85 ((zf_R_go Z m (wI p3.2 252 (Z 0 65 (p1.2.1 249 13)).toNat (Z 0 (p3.2.1 249 13) 1))).bind fun p4 => (some (1, p4.2)))))))))))) := rfl
set_option maxHeartbeats 1000000 in
set_option maxRecDepth 100000 in
theorem zf_R_has_eq (Z : mZ) (m : Nat) (a0 : Int) (a1 : Int) (s : mS) : zf_R_has Z m a0 a1 s = (if Z 3 (Z 7 a0 a1) 1 = 1 then (some (1, s)) else (some (0, s))) := rfl
set_option maxHeartbeats 1000000 in
set_option maxRecDepth 100000 in
theorem zf_R_readKin_eq (Z : mZ) (m : Nat) (s : mS) : zf_R_readKin Z m s = ((zf_R_readFirst Z m 3 12 s).bind fun p0 => (if p0.1 = 0 then (some (0, p0.2)) else ((zf_R_isHere Z m 14 (p0.2.1 252 2) p0.2).bind fun p1 => (if p1.1 = 0 then (some (0, p1.2)) else ((zf_R_go Z m p1.2).bind fun p2 => ((zf_R_isHere Z m 14 (p2.2.1 252 2) p2.2).bind fun p3 => (if p3.1 = 0 then (some (0, p3.2)) else (if p3.2.1 249 13 = p1.2.1 249 13 then ((zf_R_bad Z m 3 p3.2).bind fun p4 => (if p4.1 = 0 ∨ p4.1 = 1 then some (p4.1, p4.2) else none)) else (inR (Z 0 53 (p1.2.1 249 13)) 85 ((zf_R_has Z m (p3.2.1 252 (Z 0 53 (p1.2.1 249 13)).toNat) (p3.2.1 249 13) p3.2).bind fun p4 => (if p4.1 = 0 then (inR (Z 0 53 (p1.2.1 249 13)) 85 (inR (Z 0 53 (p1.2.1 249 13)) 85 (inR (Z 0 53 ((wI p4.2 252 (Z 0 53 (p1.2.1 249 13)).toNat (Z 4 (p4.2.1 252 (Z 0 53 (p1.2.1 249 13)).toNat) (Z 6 1 (p4.2.1 249 13)))).1 249 13)) 85 (inR (Z 0 53 ((wI p4.2 252 (Z 0 53 (p1.2.1 249 13)).toNat (Z 4 (p4.2.1 252 (Z 0 53 (p1.2.1 249 13)).toNat) (Z 6 1 (p4.2.1 249 13)))).1 249 13)) 85 ((zf_R_go Z m (wI (wI (wI p4.2 252 (Z 0 53 (p1.2.1 249 13)).toNat (Z 4 (p4.2.1 252 (Z 0 53 (p1.2.1 249 13)).toNat) (Z 6 1 (p4.2.1 249 13)))) 252 (Z 0 53 ((wI p4.2 252 (Z 0 53 (p1.2.1 249 13)).toNat (Z 4 (p4.2.1 252 (Z 0 53 (p1.2.1 249 13)).toNat) (Z 6 1 (p4.2.1 249 13)))).1 249 13)).toNat (Z 4 ((wI p4.2 252 (Z 0 53 (p1.2.1 249 13)).toNat (Z 4 (p4.2.1 252 (Z 0 53 (p1.2.1 249 13)).toNat) (Z 6 1 (p4.2.1 249 13)))).1 252 (Z 0 53 ((wI p4.2 252 (Z 0 53 (p1.2.1 249 13)).toNat (Z 4 (p4.2.1 252 (Z 0 53 (p1.2.1 249 13)).toNat) (Z 6 1 (p4.2.1 249 13)))).1 249 13)).toNat) (Z 6 1 (p1.2.1 249 13)))) 252 3 (Z 0 ((wI (wI p4.2 252 (Z 0 53 (p1.2.1 249 13)).toNat (Z 4 (p4.2.1 252 (Z 0 53 (p1.2.1 249 13)).toNat) (Z 6 1 (p4.2.1 249 13)))) 252 (Z 0 53 ((wI p4.2 252 (Z 0 53 (p1.2.1 249 13)).toNat (Z 4 (p4.2.1 252 (Z 0 53 (p1.2.1 249 13)).toNat) (Z 6 1 (p4.2.1 249 13)))).1 249 13)).toNat (Z 4 ((wI p4.2 252 (Z 0 53 (p1.2.1 249 13)).toNat (Z 4 (p4.2.1 252 (Z 0 53 (p1.2.1 249 13)).toNat) (Z 6 1 (p4.2.1 249 13)))).1 252 (Z 0 53 ((wI p4.2 252 (Z 0 53 (p1.2.1 249 13)).toNat (Z 4 (p4.2.1 252 (Z 0 53 (p1.2.1 249 13)).toNat) (Z 6 1 (p4.2.1 249 13)))).1 249 13)).toNat) (Z 6 1 (p1.2.1 249 13)))).1 252 3) 1))).bind fun p5 => (some (1, p5.2))))))) else ((zf_R_bad Z m 3 p4.2).bind fun p5 => (if p5.1 = 0 ∨ p5.1 = 1 then some (p5.1, p5.2) else none))))))))))))) := rfl
set_option maxHeartbeats 1000000 in
set_option maxRecDepth 100000 in
theorem zf_R_readNew_eq (Z : mZ) (m : Nat) (a1 : Int) (s : mS) : zf_R_readNew Z m a1 s = ((zf_R_isName Z m s).bind fun p0 => (if p0.1 = 0 then ((zf_R_bad Z m 1 p0.2).bind fun p1 => (if p1.1 = 0 ∨ p1.1 = 1 then some (p1.1, p1.2) else none)) else ((zf_R_findIn_258 Z m 0 (p0.2.1 252 0) (p0.2.2 249 12) p0.2).bind fun p1 => (if p1.1 = (-1) then ((zf_R_findIn_258 Z m 9 (p1.2.1 252 1) (p1.2.2 249 12) p1.2).bind fun p2 => (if p2.1 = (-1) then (zl_R_readNew_L63 Z m m a1 0 p2.2) else (zl_R_readNew_L63 Z m m a1 1 p2.2))) else (zl_R_readNew_L63 Z m m a1 1 p1.2))))) := rfl
set_option maxHeartbeats 1000000 in
set_option maxRecDepth 100000 in
theorem zl_R_readNew_L63_eq (Z : mZ) (m : Nat) (n : Nat) (x1 : Int) (y0 : Int) (s : mS) : zl_R_readNew_L63 Z m (n + 1) x1 y0 s = (if y0 = 0 then ((zf_R_findIn_258 Z m 14 (s.1 252 2) (s.2 249 12) s).bind fun p0 => (if p0.1 = (-1) then (inR x1 26 ((zf_R_go Z m (wJ p0.2 258 x1.toNat (p0.2.2 249 12))).bind fun p1 => (some (1, p1.2)))) else ((zf_R_bad Z m 3 p0.2).bind fun p1 => (if p1.1 = 0 ∨ p1.1 = 1 then some (p1.1, p1.2) else none)))) else ((zf_R_bad Z m 3 s).bind fun p0 => (if p0.1 = 0 ∨ p0.1 = 1 then some (p0.1, p0.2) else none))) := rfl
set_option maxHeartbeats 1000000 in
set_option maxRecDepth 100000 in
theorem zf_R_readDead_eq (Z : mZ) (m : Nat) (s : mS) : zf_R_readDead Z m s = ((zf_R_readFirst Z m 2 12 s).bind fun p0 => (if p0.1 = 0 then (some (0, p0.2)) else ((zf_R_readNew Z m (Z 0 14 (p0.2.1 252 2)) p0.2).bind fun p1 => (if p1.1 = 0 then (some (0, p1.2)) else ((zf_R_readNumber Z m 10 99 p1.2).bind fun p2 => ((zf_R_noted Z m (Z 0 29 (p0.2.1 252 2)) p2.1 p2.2).bind fun p3 => (if p3.1 = 0 then (some (0, p3.2)) else ((zf_R_readNumber Z m 0 99 p3.2).bind fun p4 => ((zf_R_noted Z m (Z 0 41 (p0.2.1 252 2)) p4.1 p4.2).bind fun p5 => (if p5.1 = 0 then (some (0, p5.2)) else (some (1, wI p5.2 252 2 (Z 0 (p5.2.1 252 2) 1))))))))))))) := rfl
set_option maxHeartbeats 1000000 in
set_option maxRecDepth 100000 in
theorem zf_R_readPlot_eq (Z : mZ) (m : Nat) (s : mS) : zf_R_readPlot Z m s = ((zf_R_readFirst Z m 1 5 s).bind fun p0 => (if p0.1 = 0 then (some (0, p0.2)) else ((zf_R_readNew Z m (Z 0 9 (p0.2.1 252 1)) p0.2).bind fun p1 => (if p1.1 = 0 then (some (0, p1.2)) else ((zf_R_readNumber Z m 0 60 p1.2).bind fun p2 => ((zf_R_noted Z m (Z 0 24 (p0.2.1 252 1)) p2.1 p2.2).bind fun p3 => (if p3.1 = 0 then (some (0, p3.2)) else (some (1, wI p3.2 252 1 (Z 0 (p3.2.1 252 1) 1)))))))))) := rfl
set_option maxHeartbeats 1000000 in
set_option maxRecDepth 100000 in
theorem zf_R_readBox_eq (Z : mZ) (m : Nat) (s : mS) : zf_R_readBox Z m s = ((zf_R_readFirst Z m 0 9 s).bind fun p0 => (if p0.1 = 0 then (some (0, p0.2)) else ((zf_R_readNew Z m (p0.2.1 252 0) p0.2).bind fun p1 => (if p1.1 = 0 then (some (0, p1.2)) else ((zf_R_readNumber Z m 10 99 p1.2).bind fun p2 => ((zf_R_noted Z m (Z 0 6 (p0.2.1 252 0)) p2.1 p2.2).bind fun p3 => (if p3.1 = 0 then (some (0, p3.2)) else ((zf_R_readNumber Z m 1 99 p3.2).bind fun p4 => ((zf_R_noted Z m (Z 0 15 (p0.2.1 252 0)) p4.1 p4.2).bind fun p5 => (if p5.1 = 0 then (some (0, p5.2)) else (some (1, wI p5.2 252 0 (Z 0 (p5.2.1 252 0) 1))))))))))))) := rfl
set_option maxHeartbeats 1000000 in
set_option maxRecDepth 100000 in
theorem zf_R_readLine_eq (Z : mZ) (m : Nat) (s : mS) : zf_R_readLine Z m s = ((zf_R_isWord Z m 0 s).bind fun p0 => (if p0.1 = 0 then ((zf_R_isWord Z m 1 p0.2).bind fun p1 => (if p1.1 = 0 then ((zf_R_isWord Z m 2 p1.2).bind fun p2 => (if p2.1 = 0 then ((zf_R_isWord Z m 19 p2.2).bind fun p3 => (if p3.1 = 0 then ((zf_R_isWord Z m 3 p3.2).bind fun p4 => (if p4.1 = 0 then ((zf_R_isWord Z m 4 p4.2).bind fun p5 => (if p5.1 = 0 then ((zf_R_isWord Z m 5 p5.2).bind fun p6 => (if p6.1 = 0 then ((zf_R_bad Z m 1 p6.2).bind fun p7 => (if p7.1 = 0 ∨ p7.1 = 1 then some (p7.1, p7.2) else none)) else ((zf_R_readAir Z m p6.2).bind fun p7 => (if p7.1 = 0 ∨ p7.1 = 1 then some (p7.1, p7.2) else none)))) else ((zf_R_readFrost Z m p5.2).bind fun p6 => (if p6.1 = 0 ∨ p6.1 = 1 then some (p6.1, p6.2) else none)))) else ((zf_R_readAsks Z m p4.2).bind fun p5 => (if p5.1 = 0 ∨ p5.1 = 1 then some (p5.1, p5.2) else none)))) else ((zf_R_readKin Z m p3.2).bind fun p4 => (if p4.1 = 0 ∨ p4.1 = 1 then some (p4.1, p4.2) else none)))) else ((zf_R_readDead Z m p2.2).bind fun p3 => (if p3.1 = 0 ∨ p3.1 = 1 then some (p3.1, p3.2) else none)))) else ((zf_R_readPlot Z m p1.2).bind fun p2 => (if p2.1 = 0 ∨ p2.1 = 1 then some (p2.1, p2.2) else none)))) else ((zf_R_readBox Z m p0.2).bind fun p1 => (if p1.1 = 0 ∨ p1.1 = 1 then some (p1.1, p1.2) else none)))) := rfl
set_option maxHeartbeats 1000000 in
set_option maxRecDepth 100000 in
theorem zf_R_isSign_eq (Z : mZ) (m : Nat) (a1 : Int) (s : mS) : zf_R_isSign Z m a1 s = (if s.1 249 7 = 4 then (if s.1 249 9 = a1 then (some (1, s)) else (some (0, s))) else (some (0, s))) := rfl
set_option maxHeartbeats 1000000 in
set_option maxRecDepth 100000 in
theorem zf_R_readEnd_eq (Z : mZ) (m : Nat) (s : mS) : zf_R_readEnd Z m s = ((zf_R_isSign Z m 59 s).bind fun p0 => (if p0.1 = 0 then ((zf_R_bad Z m 1 p0.2).bind fun p1 => (if p1.1 = 0 ∨ p1.1 = 1 then some (p1.1, p1.2) else none)) else ((zf_R_go Z m p0.2).bind fun p1 => (some (1, p1.2))))) := rfl
set_option maxHeartbeats 1000000 in
set_option maxRecDepth 100000 in
theorem zf_R_comeb_eq (Z : mZ) (m : Nat) (s : mS) : zf_R_comeb Z m s = (zl_R_comeb_L2 Z m m 0 s) := rfl
set_option maxHeartbeats 1000000 in
set_option maxRecDepth 100000 in
theorem zl_R_comeb_L2_eq (Z : mZ) (m : Nat) (n : Nat) (x1 : Int) (s : mS) : zl_R_comeb_L2 Z m (n + 1) x1 s = (if x1 < s.1 251 2 then (inR (Z 0 164 x1) 466 (if s.1 251 (Z 0 164 x1).toNat = 0 then (inR (Z 0 41 x1) 466 (if s.1 251 (Z 0 41 x1).toNat = s.1 251 85 then (inR (Z 0 164 x1) 466 (zl_R_comeb_L2 Z m n (Z 0 x1 1) (wI s 251 (Z 0 164 x1).toNat 1))) else (zl_R_comeb_L2 Z m n (Z 0 x1 1) s))) else (zl_R_comeb_L2 Z m n (Z 0 x1 1) s))) else (some (0, s))) := rfl
set_option maxHeartbeats 1000000 in
set_option maxRecDepth 100000 in
theorem zf_R_startSo_eq (Z : mZ) (m : Nat) (s : mS) : zf_R_startSo Z m s = (zl_R_startSo_L3 Z m m 85 s) := rfl
set_option maxHeartbeats 1000000 in
set_option maxRecDepth 100000 in
theorem zl_R_startSo_L3_eq (Z : mZ) (m : Nat) (n : Nat) (x1 : Int) (s : mS) : zl_R_startSo_L3 Z m (n + 1) x1 s = (if x1 < 466 then (inR x1 466 (zl_R_startSo_L3 Z m n (Z 0 x1 1) (wI s 251 x1.toNat 0))) else (zl_R_startSo_L25 Z m n 0 s)) := rfl
set_option maxHeartbeats 1000000 in
set_option maxRecDepth 100000 in
theorem zl_R_startSo_L25_eq (Z : mZ) (m : Nat) (n : Nat) (x1 : Int) (s : mS) : zl_R_startSo_L25 Z m (n + 1) x1 s = (if x1 < 9 then (inR (Z 0 95 x1) 466 (zl_R_startSo_L25 Z m n (Z 0 x1 1) (wI s 251 (Z 0 95 x1).toNat (-1)))) else (zl_R_startSo_L49 Z m n 0 s)) := rfl
set_option maxHeartbeats 1000000 in
set_option maxRecDepth 100000 in
theorem zl_R_startSo_L49_eq (Z : mZ) (m : Nat) (n : Nat) (x1 : Int) (s : mS) : zl_R_startSo_L49 Z m (n + 1) x1 s = (if x1 < 36 then (inR (Z 0 113 x1) 466 (zl_R_startSo_L49 Z m n (Z 0 x1 1) (wI s 251 (Z 0 113 x1).toNat (-1)))) else (zl_R_startSo_L73 Z m n 0 s)) := rfl
set_option maxHeartbeats 1000000 in
set_option maxRecDepth 100000 in
theorem zl_R_startSo_L73_eq (Z : mZ) (m : Nat) (n : Nat) (x1 : Int) (s : mS) : zl_R_startSo_L73 Z m (n + 1) x1 s = (if x1 < 5 then (inR (Z 0 154 x1) 466 (zl_R_startSo_L73 Z m n (Z 0 x1 1) (wI s 251 (Z 0 154 x1).toNat (-1)))) else (zl_R_startSo_L97 Z m n 0 s)) := rfl
set_option maxHeartbeats 1000000 in
set_option maxRecDepth 100000 in
theorem zl_R_startSo_L97_eq (Z : mZ) (m : Nat) (n : Nat) (x1 : Int) (s : mS) : zl_R_startSo_L97 Z m (n + 1) x1 s = (if x1 < 12 then (inR (Z 0 176 x1) 466 (inR (Z 0 188 x1) 466 (zl_R_startSo_L97 Z m n (Z 0 x1 1) (wI (wI s 251 (Z 0 176 x1).toNat (-1)) 251 (Z 0 188 x1).toNat (-1))))) else ((zf_R_comeb Z m s).bind fun p0 => (some (0, p0.2)))) := rfl
set_option maxHeartbeats 1000000 in
set_option maxRecDepth 100000 in
theorem zf_R_vestry_eq (Z : mZ) (m : Nat) (s : mS) : zf_R_vestry Z m s = ((zf_R_begin Z m 900 s).bind fun p0 => (zl_R_vestry_L9 Z m m 0 p0.2)) := rfl
set_option maxHeartbeats 1000000 in
set_option maxRecDepth 100000 in
theorem zl_R_vestry_L9_eq (Z : mZ) (m : Nat) (n : Nat) (x1 : Int) (s : mS) : zl_R_vestry_L9 Z m (n + 1) x1 s = (if x1 < 85 then (inR x1 85 (zl_R_vestry_L9 Z m n (Z 0 x1 1) (wI s 252 x1.toNat 0))) else (zl_R_vestry_L42 Z m n 0 (wI (wI s 252 5 1) 249 24 0))) := rfl
set_option maxHeartbeats 1000000 in
set_option maxRecDepth 100000 in
theorem zl_R_vestry_L42_eq (Z : mZ) (m : Nat) (n : Nat) (x1 : Int) (s : mS) : zl_R_vestry_L42 Z m (n + 1) x1 s = (if s.1 249 7 = 0 then (zl_R_vestry_L78 Z m n x1 0 s) else ((zf_R_readLine Z m s).bind fun p0 => (if p0.1 = 0 then (some (Z 1 (-1) (p0.2.1 249 11), p0.2)) else ((zf_R_readEnd Z m p0.2).bind fun p1 => (if p1.1 = 0 then (some (Z 1 (-1) (p1.2.1 249 11), p1.2)) else (zl_R_vestry_L42 Z m n (Z 0 x1 1) p1.2)))))) := rfl
set_option maxHeartbeats 1000000 in
set_option maxRecDepth 100000 in
theorem zl_R_vestry_L78_eq (Z : mZ) (m : Nat) (n : Nat) (x1 : Int) (x2 : Int) (s : mS) : zl_R_vestry_L78 Z m (n + 1) x1 x2 s = (if x2 < 85 then (inR x2 85 (inR x2 466 (zl_R_vestry_L78 Z m n x1 (Z 0 x2 1) (wI s 251 x2.toNat (s.1 252 x2.toNat))))) else (zl_R_vestry_L104 Z m n x1 0 s)) := rfl
set_option maxHeartbeats 1000000 in
set_option maxRecDepth 100000 in
theorem zl_R_vestry_L104_eq (Z : mZ) (m : Nat) (n : Nat) (x1 : Int) (x2 : Int) (s : mS) : zl_R_vestry_L104 Z m (n + 1) x1 x2 s = (if x2 < 26 then (inR x2 26 (inR x2 26 (zl_R_vestry_L104 Z m n x1 (Z 0 x2 1) (wJ s 257 x2.toNat (s.2 258 x2.toNat))))) else ((zf_R_startSo Z m s).bind fun p0 => (some (x1, wI p0.2 249 25 0)))) := rfl
set_option maxHeartbeats 1000000 in
set_option maxRecDepth 100000 in
theorem zf_R_fault_eq (Z : mZ) (m : Nat) (s : mS) : zf_R_fault Z m s = (some ((wI s 249 0 0).1 249 10, wI s 249 0 0)) := rfl
set_option maxHeartbeats 1000000 in
set_option maxRecDepth 100000 in
theorem zf_R_isBox_eq (Z : mZ) (m : Nat) (a1 : Int) (s : mS) : zf_R_isBox Z m a1 s = ((zf_R_isIn Z m a1 0 (Z 1 (s.1 251 0) 1) s).bind fun p0 => (if p0.1 = 0 ∨ p0.1 = 1 then some (p0.1, p0.2) else none)) := rfl
set_option maxHeartbeats 1000000 in
set_option maxRecDepth 100000 in
theorem zf_R_isFree_eq (Z : mZ) (m : Nat) (a1 : Int) (s : mS) : zf_R_isFree Z m a1 s = (inR (Z 0 95 a1) 466 (if s.1 251 (Z 0 95 a1).toNat = (-1) then (inR (Z 0 104 a1) 466 (if s.1 251 (Z 0 104 a1).toNat = 0 then (some (1, s)) else (some (0, s)))) else (some (0, s)))) := rfl
set_option maxHeartbeats 1000000 in
set_option maxRecDepth 100000 in
theorem zf_R_box_eq (Z : mZ) (m : Nat) (a1 : Int) (a2 : Int) (s : mS) : zf_R_box Z m a1 a2 s = ((zf_R_isBox Z m a1 (wI s 249 0 0)).bind fun p0 => (if p0.1 = 0 then (some ((-1), p0.2)) else (if a2 = 0 then (inR (Z 0 6 a1) 466 (some (p0.2.1 251 (Z 0 6 a1).toNat, p0.2))) else (if a2 = 1 then (inR (Z 0 15 a1) 466 (some (p0.2.1 251 (Z 0 15 a1).toNat, p0.2))) else (if a2 = 2 then (inR (Z 0 86 a1) 466 (some (p0.2.1 251 (Z 0 86 a1).toNat, p0.2))) else (if a2 = 3 then (inR (Z 0 95 a1) 466 (some (p0.2.1 251 (Z 0 95 a1).toNat, p0.2))) else (if a2 = 4 then ((zf_R_isFree Z m a1 p0.2).bind fun p1 => (if p1.1 = 0 then (some (0, p1.2)) else (some (1, p1.2)))) else (if a2 = 5 then (inR (Z 0 104 a1) 466 (some (p0.2.1 251 (Z 0 104 a1).toNat, p0.2))) else (some ((-1), p0.2)))))))))) := rfl
set_option maxHeartbeats 1000000 in
set_option maxRecDepth 100000 in
theorem zf_R_isPlot_eq (Z : mZ) (m : Nat) (a1 : Int) (s : mS) : zf_R_isPlot Z m a1 s = ((zf_R_isIn Z m a1 0 (Z 1 (s.1 251 1) 1) s).bind fun p0 => (if p0.1 = 0 ∨ p0.1 = 1 then some (p0.1, p0.2) else none)) := rfl
set_option maxHeartbeats 1000000 in
set_option maxRecDepth 100000 in
theorem zf_R_plot_eq (Z : mZ) (m : Nat) (a1 : Int) (a2 : Int) (s : mS) : zf_R_plot Z m a1 a2 s = ((zf_R_isPlot Z m a1 (wI s 249 0 0)).bind fun p0 => (if p0.1 = 0 then (some ((-1), p0.2)) else (if a2 = 0 then (inR (Z 0 24 a1) 466 (some (p0.2.1 251 (Z 0 24 a1).toNat, p0.2))) else (if a2 = 1 then (inR (Z 0 154 a1) 466 (some (p0.2.1 251 (Z 0 154 a1).toNat, p0.2))) else (if a2 = 2 then (inR (Z 0 149 a1) 466 (some (p0.2.1 251 (Z 0 149 a1).toNat, p0.2))) else (if a2 = 3 then (inR (Z 0 159 a1) 466 (some (p0.2.1 251 (Z 0 159 a1).toNat, p0.2))) else (some ((-1), p0.2)))))))) := rfl
set_option maxHeartbeats 1000000 in
set_option maxRecDepth 100000 in
theorem zf_R_isDead_eq (Z : mZ) (m : Nat) (a1 : Int) (s : mS) : zf_R_isDead Z m a1 s = ((zf_R_isIn Z m a1 0 (Z 1 (s.1 251 2) 1) s).bind fun p0 => (if p0.1 = 0 ∨ p0.1 = 1 then some (p0.1, p0.2) else none)) := rfl
set_option maxHeartbeats 1000000 in
set_option maxRecDepth 100000 in
theorem zf_R_refuse_eq (Z : mZ) (m : Nat) (s : mS) : zf_R_refuse Z m s = (some (0, wI s 249 0 1)) := rfl
set_option maxHeartbeats 1000000 in
set_option maxRecDepth 100000 in
theorem zf_R_dead_eq (Z : mZ) (m : Nat) (a1 : Int) (a2 : Int) (s : mS) : zf_R_dead Z m a1 a2 s = ((zf_R_isDead Z m a1 (wI s 249 0 0)).bind fun p0 => (if p0.1 = 0 then ((zf_R_refuse Z m p0.2).bind fun p1 => (some (p1.1, p1.2))) else (if a2 = 0 then (inR (Z 0 29 a1) 466 (some (p0.2.1 251 (Z 0 29 a1).toNat, p0.2))) else (if a2 = 1 then (inR (Z 0 164 a1) 466 (some (p0.2.1 251 (Z 0 164 a1).toNat, p0.2))) else (if a2 = 2 then (inR (Z 0 176 a1) 466 (some (p0.2.1 251 (Z 0 176 a1).toNat, p0.2))) else (if a2 = 3 then (inR (Z 0 188 a1) 466 (some (p0.2.1 251 (Z 0 188 a1).toNat, p0.2))) else (if a2 = 4 then (inR (Z 0 200 a1) 466 (some (p0.2.1 251 (Z 0 200 a1).toNat, p0.2))) else (if a2 = 5 then (inR (Z 0 212 a1) 466 (some (p0.2.1 251 (Z 0 212 a1).toNat, p0.2))) else (if a2 = 6 then (inR (Z 0 53 a1) 466 (some (p0.2.1 251 (Z 0 53 a1).toNat, p0.2))) else (if a2 = 7 then (inR (Z 0 65 a1) 466 (some (Z 1 (p0.2.1 251 (Z 0 65 a1).toNat) 1, p0.2))) else ((zf_R_refuse Z m p0.2).bind fun p1 => (some (p1.1, p1.2))))))))))))) := rfl
set_option maxHeartbeats 1000000 in
set_option maxRecDepth 100000 in
theorem zf_R_isFrost_eq (Z : mZ) (m : Nat) (a1 : Int) (s : mS) : zf_R_isFrost Z m a1 s = (zl_R_isFrost_L2 Z m m a1 0 s) := rfl
set_option maxHeartbeats 1000000 in
set_option maxRecDepth 100000 in
theorem zl_R_isFrost_L2_eq (Z : mZ) (m : Nat) (n : Nat) (x1 : Int) (x2 : Int) (s : mS) : zl_R_isFrost_L2 Z m (n + 1) x1 x2 s = (if x2 < s.1 251 4 then (inR (Z 0 77 x2) 466 (inR (Z 0 81 x2) 466 ((zf_R_isIn Z m (Z 1 x1 (s.1 251 (Z 0 77 x2).toNat)) 0 (Z 1 (s.1 251 (Z 0 81 x2).toNat) 1) s).bind fun p0 => (if p0.1 = 0 then (zl_R_isFrost_L2 Z m n x1 (Z 0 x2 1) p0.2) else (some (1, p0.2)))))) else (some (0, s))) := rfl
set_option maxHeartbeats 1000000 in
set_option maxRecDepth 100000 in
theorem zf_R_those_eq (Z : mZ) (m : Nat) (a1 : Int) (s : mS) : zf_R_those Z m a1 s = (zl_R_those_L4 Z m m a1 0 0 s) := rfl
set_option maxHeartbeats 1000000 in
set_option maxRecDepth 100000 in
theorem zl_R_those_L4_eq (Z : mZ) (m : Nat) (n : Nat) (x1 : Int) (x2 : Int) (x3 : Int) (s : mS) : zl_R_those_L4 Z m (n + 1) x1 x2 x3 s = (if x3 < s.1 251 2 then (inR (Z 0 164 x3) 466 (if s.1 251 (Z 0 164 x3).toNat = x1 then (zl_R_those_L4 Z m n x1 (Z 4 x2 (Z 6 1 x3)) (Z 0 x3 1) s) else (zl_R_those_L4 Z m n x1 x2 (Z 0 x3 1) s))) else (some (x2, s))) := rfl
set_option maxHeartbeats 1000000 in
set_option maxRecDepth 100000 in
theorem zf_R_now_eq (Z : mZ) (m : Nat) (a1 : Int) (s : mS) : zf_R_now Z m a1 s = (if a1 = 0 then (some ((wI s 249 0 0).1 251 85, wI s 249 0 0)) else (if a1 = 1 then ((zf_R_those Z m (Z 1 a1 1) (wI s 249 0 0)).bind fun p0 => (some (p0.1, p0.2))) else (if a1 = 2 then ((zf_R_those Z m (Z 1 a1 1) (wI s 249 0 0)).bind fun p0 => (some (p0.1, p0.2))) else (if a1 = 3 then ((zf_R_those Z m (Z 1 a1 1) (wI s 249 0 0)).bind fun p0 => (some (p0.1, p0.2))) else (if a1 = 4 then ((zf_R_those Z m (Z 1 a1 1) (wI s 249 0 0)).bind fun p0 => (some (p0.1, p0.2))) else (if a1 = 5 then (zl_R_now_L74 Z m m 0 0 (wI s 249 0 0)) else (if a1 = 6 then (zl_R_now_L108 Z m m 0 0 (wI s 249 0 0)) else (if a1 = 7 then ((zf_R_isFrost Z m ((wI s 249 0 0).1 251 85) (wI s 249 0 0)).bind fun p0 => (if p0.1 = 0 then (some (0, p0.2)) else (some (1, p0.2)))) else (some ((-1), wI s 249 0 0)))))))))) := rfl
set_option maxHeartbeats 1000000 in
set_option maxRecDepth 100000 in
theorem zl_R_now_L108_eq (Z : mZ) (m : Nat) (n : Nat) (x2 : Int) (x3 : Int) (s : mS) : zl_R_now_L108 Z m (n + 1) x2 x3 s = (if x3 < s.1 251 1 then (inR (Z 0 149 x3) 466 (if s.1 251 (Z 0 149 x3).toNat = 0 then (zl_R_now_L108 Z m n (Z 4 x2 (Z 6 1 x3)) (Z 0 x3 1) s) else (zl_R_now_L108 Z m n x2 (Z 0 x3 1) s))) else (some (x2, s))) := rfl
set_option maxHeartbeats 1000000 in
set_option maxRecDepth 100000 in
theorem zl_R_now_L74_eq (Z : mZ) (m : Nat) (n : Nat) (x2 : Int) (x3 : Int) (s : mS) : zl_R_now_L74 Z m (n + 1) x2 x3 s = (if x3 < s.1 251 0 then ((zf_R_isFree Z m x3 s).bind fun p0 => (if p0.1 = 0 then (zl_R_now_L74 Z m n x2 (Z 0 x3 1) p0.2) else (zl_R_now_L74 Z m n (Z 4 x2 (Z 6 1 x3)) (Z 0 x3 1) p0.2))) else (some (x2, s))) := rfl
set_option maxHeartbeats 1000000 in
set_option maxRecDepth 100000 in
theorem zf_R_had_eq (Z : mZ) (m : Nat) (a1 : Int) (a2 : Int) (s : mS) : zf_R_had Z m a1 a2 s = ((zf_R_isBox Z m a1 (wI s 249 0 0)).bind fun p0 => (if p0.1 = 0 then (some ((-1), p0.2)) else ((zf_R_isIn Z m a2 0 3 p0.2).bind fun p1 => (if p1.1 = 0 then (some ((-1), p1.2)) else (inR (Z 0 (Z 0 113 (Z 2 4 a1)) a2) 466 (some (p1.2.1 251 (Z 0 (Z 0 113 (Z 2 4 a1)) a2).toNat, p1.2))))))) := rfl
set_option maxHeartbeats 1000000 in
set_option maxRecDepth 100000 in
theorem zf_R_fits_eq (Z : mZ) (m : Nat) (a1 : Int) (a2 : Int) (s : mS) : zf_R_fits Z m a1 a2 s = (inR (Z 0 29 a1) 466 (inR (Z 0 6 a2) 466 (if s.1 251 (Z 0 6 a2).toNat < s.1 251 (Z 0 29 a1).toNat then (some (0, s)) else (some (1, s))))) := rfl
set_option maxHeartbeats 1000000 in
set_option maxRecDepth 100000 in
theorem zf_R_whySwap_eq (Z : mZ) (m : Nat) (a1 : Int) (a2 : Int) (s : mS) : zf_R_whySwap Z m a1 a2 s = (inR (Z 0 164 a1) 466 (if s.1 251 (Z 0 164 a1).toNat = 2 then (inR (Z 0 164 a2) 466 (if s.1 251 (Z 0 164 a2).toNat = 2 then (inR (Z 0 176 a2) 466 ((zf_R_fits Z m a1 (s.1 251 (Z 0 176 a2).toNat) s).bind fun p0 => (if p0.1 = 0 then (some (2, p0.2)) else (inR (Z 0 176 a1) 466 ((zf_R_fits Z m a2 (p0.2.1 251 (Z 0 176 a1).toNat) p0.2).bind fun p1 => (if p1.1 = 0 then (some (2, p1.2)) else (some (0, p1.2)))))))) else (some (1, s)))) else (some (1, s)))) := rfl
set_option maxHeartbeats 1000000 in
set_option maxRecDepth 100000 in
theorem zf_R_isByKin_eq (Z : mZ) (m : Nat) (a1 : Int) (a2 : Int) (s : mS) : zf_R_isByKin Z m a1 a2 s = (inR (Z 0 154 a2) 466 (if s.1 251 (Z 0 154 a2).toNat = (-1) then (some (0, s)) else (inR (Z 0 53 a1) 466 (inR (Z 0 154 a2) 466 ((zf_R_has Z m (s.1 251 (Z 0 53 a1).toNat) (s.1 251 (Z 0 154 a2).toNat) s).bind fun p0 => (if p0.1 = 0 then (some (0, p0.2)) else (some (1, p0.2)))))))) := rfl
set_option maxHeartbeats 1000000 in
set_option maxRecDepth 100000 in
theorem zf_R_whyLay_eq (Z : mZ) (m : Nat) (a1 : Int) (a2 : Int) (s : mS) : zf_R_whyLay Z m a1 a2 s = (inR (Z 0 164 a1) 466 (if s.1 251 (Z 0 164 a1).toNat = 2 then ((zf_R_isFrost Z m (s.1 251 85) s).bind fun p0 => (if p0.1 = 0 then (inR (Z 0 149 a2) 466 (if 0 < p0.2.1 251 (Z 0 149 a2).toNat then (some (3, p0.2)) else ((zf_R_isByKin Z m a1 a2 p0.2).bind fun p1 => (if p1.1 = 0 then (some (0, p1.2)) else (some (4, p1.2)))))) else (some (2, p0.2)))) else (some (1, s)))) := rfl
set_option maxHeartbeats 1000000 in
set_option maxRecDepth 100000 in
theorem zf_R_whyLend_eq (Z : mZ) (m : Nat) (a1 : Int) (a2 : Int) (s : mS) : zf_R_whyLend Z m a1 a2 s = (inR (Z 0 164 a1) 466 (if s.1 251 (Z 0 164 a1).toNat = 1 then ((zf_R_isFree Z m a2 s).bind fun p0 => (if p0.1 = 0 then (some (2, p0.2)) else ((zf_R_fits Z m a1 a2 p0.2).bind fun p1 => (if p1.1 = 0 then (some (3, p1.2)) else (inR (Z 0 86 a2) 466 (inR (Z 0 15 a2) 466 (if p1.2.1 251 (Z 0 86 a2).toNat = p1.2.1 251 (Z 0 15 a2).toNat then (some (4, p1.2)) else (some (0, p1.2))))))))) else (some (1, s)))) := rfl
set_option maxHeartbeats 1000000 in
set_option maxRecDepth 100000 in
theorem zf_R_why_eq (Z : mZ) (m : Nat) (a1 : Int) (a2 : Int) (a3 : Int) (s : mS) : zf_R_why Z m a1 a2 a3 s = (if a1 = 0 then ((zf_R_whyLend Z m a2 a3 s).bind fun p0 => (some (p0.1, p0.2))) else (if a1 = 1 then ((zf_R_whyLay Z m a2 a3 s).bind fun p0 => (some (p0.1, p0.2))) else (if a1 = 2 then ((zf_R_whySwap Z m a2 a3 s).bind fun p0 => (some (p0.1, p0.2))) else (inR (Z 0 86 a2) 466 (if s.1 251 (Z 0 86 a2).toNat = 0 then (some (1, s)) else (inR (Z 0 95 a2) 466 (if s.1 251 (Z 0 95 a2).toNat = (-1) then (some (0, s)) else (some (2, s))))))))) := rfl
set_option maxHeartbeats 1000000 in
set_option maxRecDepth 100000 in
theorem zf_R_save_249_254_eq (Z : mZ) (m : Nat) (a2 : Int) (s : mS) : zf_R_save_249_254 Z m a2 s = (zl_R_save_249_254_L2 Z m m a2 0 s) := rfl
set_option maxHeartbeats 1000000 in
set_option maxRecDepth 100000 in
theorem zl_R_save_249_254_L2_eq (Z : mZ) (m : Nat) (n : Nat) (x2 : Int) (x3 : Int) (s : mS) : zl_R_save_249_254_L2 Z m (n + 1) x2 x3 s = (if x3 < 139 then (inR (Z 0 85 x3) 466 (inR (Z 0 x2 x3) 1112 (zl_R_save_249_254_L2 Z m n x2 (Z 0 x3 1) (wI s 254 (Z 0 x2 x3).toNat (s.1 251 (Z 0 85 x3).toNat))))) else (some (0, s))) := rfl
set_option maxHeartbeats 1000000 in
set_option maxRecDepth 100000 in
theorem zf_R_save_249_256_eq (Z : mZ) (m : Nat) (a2 : Int) (s : mS) : zf_R_save_249_256 Z m a2 s = (zl_R_save_249_256_L2 Z m m a2 0 s) := rfl
set_option maxHeartbeats 1000000 in
set_option maxRecDepth 100000 in
theorem zl_R_save_249_256_L2_eq (Z : mZ) (m : Nat) (n : Nat) (x2 : Int) (x3 : Int) (s : mS) : zl_R_save_249_256_L2 Z m (n + 1) x2 x3 s = (if x3 < 139 then (inR (Z 0 85 x3) 466 (inR (Z 0 x2 x3) 139 (zl_R_save_249_256_L2 Z m n x2 (Z 0 x3 1) (wI s 256 (Z 0 x2 x3).toNat (s.1 251 (Z 0 85 x3).toNat))))) else (some (0, s))) := rfl
set_option maxHeartbeats 1000000 in
set_option maxRecDepth 100000 in
theorem zf_R_save_249_255_eq (Z : mZ) (m : Nat) (a2 : Int) (s : mS) : zf_R_save_249_255 Z m a2 s = (zl_R_save_249_255_L2 Z m m a2 0 s) := rfl
set_option maxHeartbeats 1000000 in
set_option maxRecDepth 100000 in
theorem zl_R_save_249_255_L2_eq (Z : mZ) (m : Nat) (n : Nat) (x2 : Int) (x3 : Int) (s : mS) : zl_R_save_249_255_L2 Z m (n + 1) x2 x3 s = (if x3 < 139 then (inR (Z 0 85 x3) 466 (inR (Z 0 x2 x3) 139 (zl_R_save_249_255_L2 Z m n x2 (Z 0 x3 1) (wI s 255 (Z 0 x2 x3).toNat (s.1 251 (Z 0 85 x3).toNat))))) else (some (0, s))) := rfl
set_option maxHeartbeats 1000000 in
set_option maxRecDepth 100000 in
theorem zf_R_snap_eq (Z : mZ) (m : Nat) (s : mS) : zf_R_snap Z m s = (if s.1 249 25 = 8 then (zl_R_snap_L11 Z m m 0 s) else ((zf_R_save_249_254 Z m (Z 2 139 (s.1 249 25)) s).bind fun p0 => (some (0, wI p0.2 249 25 (Z 0 (p0.2.1 249 25) 1))))) := rfl
set_option maxHeartbeats 1000000 in
set_option maxRecDepth 100000 in
theorem zl_R_snap_L11_eq (Z : mZ) (m : Nat) (n : Nat) (x1 : Int) (s : mS) : zl_R_snap_L11 Z m (n + 1) x1 s = (if x1 < 973 then (inR (Z 0 x1 139) 1112 (inR x1 1112 (zl_R_snap_L11 Z m n (Z 0 x1 1) (wI s 254 x1.toNat (s.1 254 (Z 0 x1 139).toNat))))) else ((zf_R_save_249_254 Z m (Z 2 139 ((wI s 249 25 (Z 1 (s.1 249 25) 1)).1 249 25)) (wI s 249 25 (Z 1 (s.1 249 25) 1))).bind fun p0 => (some (0, wI p0.2 249 25 (Z 0 (p0.2.1 249 25) 1))))) := rfl
set_option maxHeartbeats 1000000 in
set_option maxRecDepth 100000 in
theorem zf_R_lies_eq (Z : mZ) (m : Nat) (a1 : Int) (a2 : Int) (s : mS) : zf_R_lies Z m a1 a2 s = (inR (Z 0 176 a1) 466 (inR (Z 0 95 a2) 466 (some (0, wI (wI s 251 (Z 0 176 a1).toNat a2) 251 (Z 0 95 a2).toNat a1)))) := rfl
set_option maxHeartbeats 1000000 in
set_option maxRecDepth 100000 in
theorem zf_R_lays_eq (Z : mZ) (m : Nat) (a1 : Int) (a2 : Int) (s : mS) : zf_R_lays Z m a1 a2 s = (inR (Z 0 176 a1) 466 (inR (Z 0 164 a1) 466 (inR (Z 0 176 a1) 466 (inR (Z 0 95 (s.1 251 (Z 0 176 a1).toNat)) 466 (inR (Z 0 104 (s.1 251 (Z 0 176 a1).toNat)) 466 (inR (Z 0 188 a1) 466 (inR (Z 0 154 a2) 466 (inR (Z 0 24 a2) 466 (inR (Z 0 149 a2) 466 (inR (Z 0 159 a2) 466 (inR (Z 0 159 a2) 466 (some (0, wI (wI (wI (wI (wI (wI (wI (wI s 251 (Z 0 164 a1).toNat 3) 251 (Z 0 176 a1).toNat (-1)) 251 (Z 0 95 (s.1 251 (Z 0 176 a1).toNat)).toNat (-1)) 251 (Z 0 104 (s.1 251 (Z 0 176 a1).toNat)).toNat ((wI (wI (wI s 251 (Z 0 164 a1).toNat 3) 251 (Z 0 176 a1).toNat (-1)) 251 (Z 0 95 (s.1 251 (Z 0 176 a1).toNat)).toNat (-1)).1 251 5)) 251 (Z 0 188 a1).toNat a2) 251 (Z 0 154 a2).toNat a1) 251 (Z 0 149 a2).toNat ((wI (wI (wI (wI (wI (wI s 251 (Z 0 164 a1).toNat 3) 251 (Z 0 176 a1).toNat (-1)) 251 (Z 0 95 (s.1 251 (Z 0 176 a1).toNat)).toNat (-1)) 251 (Z 0 104 (s.1 251 (Z 0 176 a1).toNat)).toNat ((wI (wI (wI s 251 (Z 0 164 a1).toNat 3) 251 (Z 0 176 a1).toNat (-1)) 251 (Z 0 95 (s.1 251 (Z 0 176 a1).toNat)).toNat (-1)).1 251 5)) 251 (Z 0 188 a1).toNat a2) 251 (Z 0 154 a2).toNat a1).1 251 (Z 0 24 a2).toNat)) 251 (Z 0 159 a2).toNat (Z 0 ((wI (wI (wI (wI (wI (wI (wI s 251 (Z 0 164 a1).toNat 3) 251 (Z 0 176 a1).toNat (-1)) 251 (Z 0 95 (s.1 251 (Z 0 176 a1).toNat)).toNat (-1)) 251 (Z 0 104 (s.1 251 (Z 0 176 a1).toNat)).toNat ((wI (wI (wI s 251 (Z 0 164 a1).toNat 3) 251 (Z 0 176 a1).toNat (-1)) 251 (Z 0 95 (s.1 251 (Z 0 176 a1).toNat)).toNat (-1)).1 251 5)) 251 (Z 0 188 a1).toNat a2) 251 (Z 0 154 a2).toNat a1) 251 (Z 0 149 a2).toNat ((wI (wI (wI (wI (wI (wI s 251 (Z 0 164 a1).toNat 3) 251 (Z 0 176 a1).toNat (-1)) 251 (Z 0 95 (s.1 251 (Z 0 176 a1).toNat)).toNat (-1)) 251 (Z 0 104 (s.1 251 (Z 0 176 a1).toNat)).toNat ((wI (wI (wI s 251 (Z 0 164 a1).toNat 3) 251 (Z 0 176 a1).toNat (-1)) 251 (Z 0 95 (s.1 251 (Z 0 176 a1).toNat)).toNat (-1)).1 251 5)) 251 (Z 0 188 a1).toNat a2) 251 (Z 0 154 a2).toNat a1).1 251 (Z 0 24 a2).toNat)).1 251 (Z 0 159 a2).toNat) 1)))))))))))))) := rfl
set_option maxHeartbeats 1000000 in
set_option maxRecDepth 100000 in
theorem zf_R_lends_eq (Z : mZ) (m : Nat) (a1 : Int) (a2 : Int) (s : mS) : zf_R_lends Z m a1 a2 s = (inR (Z 0 164 a1) 466 (inR (Z 0 86 a2) 466 (inR (Z 0 86 a2) 466 ((zf_R_lies Z m a1 a2 (wI (wI s 251 (Z 0 164 a1).toNat 2) 251 (Z 0 86 a2).toNat (Z 0 ((wI s 251 (Z 0 164 a1).toNat 2).1 251 (Z 0 86 a2).toNat) 1))).bind fun p0 => (zl_R_lends_L32 Z m m a1 a2 3 p0.2))))) := rfl
set_option maxHeartbeats 1000000 in
set_option maxRecDepth 100000 in
theorem zl_R_lends_L32_eq (Z : mZ) (m : Nat) (n : Nat) (x1 : Int) (x2 : Int) (x3 : Int) (s : mS) : zl_R_lends_L32 Z m (n + 1) x1 x2 x3 s = (if 0 < x3 then (inR (Z 1 (Z 0 (Z 0 113 (Z 2 4 x2)) x3) 1) 466 (inR (Z 0 (Z 0 113 (Z 2 4 x2)) x3) 466 (zl_R_lends_L32 Z m n x1 x2 (Z 0 x3 (-1)) (wI s 251 (Z 0 (Z 0 113 (Z 2 4 x2)) x3).toNat (s.1 251 (Z 1 (Z 0 (Z 0 113 (Z 2 4 x2)) x3) 1).toNat))))) else (inR (Z 0 113 (Z 2 4 x2)) 466 (some (0, wI s 251 (Z 0 113 (Z 2 4 x2)).toNat x1)))) := rfl
set_option maxHeartbeats 1000000 in
set_option maxRecDepth 100000 in
theorem zf_R_live_eq (Z : mZ) (m : Nat) (a1 : Int) (a2 : Int) (a3 : Int) (s : mS) : zf_R_live Z m a1 a2 a3 s = (if a1 = 0 then ((zf_R_lends Z m a2 a3 s).bind fun p0 => (some (0, p0.2))) else (if a1 = 1 then ((zf_R_lays Z m a2 a3 s).bind fun p0 => (some (0, p0.2))) else (if a1 = 2 then (inR (Z 0 176 a2) 466 (inR (Z 0 176 a3) 466 ((zf_R_lies Z m a2 (s.1 251 (Z 0 176 a3).toNat) s).bind fun p0 => ((zf_R_lies Z m a3 (s.1 251 (Z 0 176 a2).toNat) p0.2).bind fun p1 => (some (0, p1.2)))))) else (inR (Z 0 86 a2) 466 (some (0, wI s 251 (Z 0 86 a2).toNat 0)))))) := rfl
set_option maxHeartbeats 1000000 in
set_option maxRecDepth 100000 in
theorem zf_R_act_eq (Z : mZ) (m : Nat) (a1 : Int) (a2 : Int) (a3 : Int) (a4 : Int) (s : mS) : zf_R_act Z m a1 a2 a3 a4 s = (if a4 = 0 then (some ((-1), s)) else ((zf_R_why Z m a1 a2 a3 s).bind fun p0 => (if p0.1 = 0 then ((zf_R_snap Z m p0.2).bind fun p1 => ((zf_R_live Z m a1 a2 a3 p1.2).bind fun p2 => (some (0, p2.2)))) else (some (p0.1, p0.2))))) := rfl
set_option maxHeartbeats 1000000 in
set_option maxRecDepth 100000 in
theorem zf_R_lend_eq (Z : mZ) (m : Nat) (a1 : Int) (a2 : Int) (s : mS) : zf_R_lend Z m a1 a2 s = ((zf_R_isDead Z m a1 (wI s 249 0 0)).bind fun p0 => (if p0.1 = 0 then ((zf_R_act Z m 0 a1 a2 0 p0.2).bind fun p1 => (some (p1.1, p1.2))) else ((zf_R_isBox Z m a2 p0.2).bind fun p1 => (if p1.1 = 0 then ((zf_R_act Z m 0 a1 a2 0 p1.2).bind fun p2 => (some (p2.1, p2.2))) else ((zf_R_act Z m 0 a1 a2 1 p1.2).bind fun p2 => (some (p2.1, p2.2))))))) := rfl
set_option maxHeartbeats 1000000 in
set_option maxRecDepth 100000 in
theorem zf_R_lay_eq (Z : mZ) (m : Nat) (a1 : Int) (a2 : Int) (s : mS) : zf_R_lay Z m a1 a2 s = ((zf_R_isDead Z m a1 (wI s 249 0 0)).bind fun p0 => (if p0.1 = 0 then ((zf_R_act Z m 1 a1 a2 0 p0.2).bind fun p1 => (some (p1.1, p1.2))) else ((zf_R_isPlot Z m a2 p0.2).bind fun p1 => (if p1.1 = 0 then ((zf_R_act Z m 1 a1 a2 0 p1.2).bind fun p2 => (some (p2.1, p2.2))) else ((zf_R_act Z m 1 a1 a2 1 p1.2).bind fun p2 => (some (p2.1, p2.2))))))) := rfl
set_option maxHeartbeats 1000000 in
set_option maxRecDepth 100000 in
theorem zf_R_swap_eq (Z : mZ) (m : Nat) (a1 : Int) (a2 : Int) (s : mS) : zf_R_swap Z m a1 a2 s = ((zf_R_isDead Z m a1 (wI s 249 0 0)).bind fun p0 => (if p0.1 = 0 then ((zf_R_act Z m 2 a1 a2 0 p0.2).bind fun p1 => (some (p1.1, p1.2))) else ((zf_R_isDead Z m a2 p0.2).bind fun p1 => (if p1.1 = 0 then ((zf_R_act Z m 2 a1 a2 0 p1.2).bind fun p2 => (some (p2.1, p2.2))) else (if a1 = a2 then ((zf_R_act Z m 2 a1 a2 0 p1.2).bind fun p2 => (some (p2.1, p2.2))) else ((zf_R_act Z m 2 a1 a2 1 p1.2).bind fun p2 => (some (p2.1, p2.2)))))))) := rfl
set_option maxHeartbeats 1000000 in
set_option maxRecDepth 100000 in
theorem zf_R_mend_eq (Z : mZ) (m : Nat) (a1 : Int) (s : mS) : zf_R_mend Z m a1 s = ((zf_R_isBox Z m a1 (wI s 249 0 0)).bind fun p0 => ((zf_R_act Z m 3 a1 0 p0.1 p0.2).bind fun p1 => (some (p1.1, p1.2)))) := rfl
set_option maxHeartbeats 1000000 in
set_option maxRecDepth 100000 in
theorem zf_R_comeBack_249_254_eq (Z : mZ) (m : Nat) (a2 : Int) (s : mS) : zf_R_comeBack_249_254 Z m a2 s = (zl_R_comeBack_249_254_L2 Z m m a2 0 s) := rfl
set_option maxHeartbeats 1000000 in
set_option maxRecDepth 100000 in
theorem zl_R_comeBack_249_254_L2_eq (Z : mZ) (m : Nat) (n : Nat) (x2 : Int) (x3 : Int) (s : mS) : zl_R_comeBack_249_254_L2 Z m (n + 1) x2 x3 s = (if x3 < 139 then (inR (Z 0 x2 x3) 1112 (inR (Z 0 85 x3) 466 (zl_R_comeBack_249_254_L2 Z m n x2 (Z 0 x3 1) (wI s 251 (Z 0 85 x3).toNat (s.1 254 (Z 0 x2 x3).toNat))))) else (some (0, s))) := rfl
set_option maxHeartbeats 1000000 in
set_option maxRecDepth 100000 in
theorem zf_R_comeBack_249_256_eq (Z : mZ) (m : Nat) (a2 : Int) (s : mS) : zf_R_comeBack_249_256 Z m a2 s = (zl_R_comeBack_249_256_L2 Z m m a2 0 s) := rfl
set_option maxHeartbeats 1000000 in
set_option maxRecDepth 100000 in
theorem zl_R_comeBack_249_256_L2_eq (Z : mZ) (m : Nat) (n : Nat) (x2 : Int) (x3 : Int) (s : mS) : zl_R_comeBack_249_256_L2 Z m (n + 1) x2 x3 s = (if x3 < 139 then (inR (Z 0 x2 x3) 139 (inR (Z 0 85 x3) 466 (zl_R_comeBack_249_256_L2 Z m n x2 (Z 0 x3 1) (wI s 251 (Z 0 85 x3).toNat (s.1 256 (Z 0 x2 x3).toNat))))) else (some (0, s))) := rfl
set_option maxHeartbeats 1000000 in
set_option maxRecDepth 100000 in
theorem zf_R_comeBack_249_255_eq (Z : mZ) (m : Nat) (a2 : Int) (s : mS) : zf_R_comeBack_249_255 Z m a2 s = (zl_R_comeBack_249_255_L2 Z m m a2 0 s) := rfl
set_option maxHeartbeats 1000000 in
set_option maxRecDepth 100000 in
theorem zl_R_comeBack_249_255_L2_eq (Z : mZ) (m : Nat) (n : Nat) (x2 : Int) (x3 : Int) (s : mS) : zl_R_comeBack_249_255_L2 Z m (n + 1) x2 x3 s = (if x3 < 139 then (inR (Z 0 x2 x3) 139 (inR (Z 0 85 x3) 466 (zl_R_comeBack_249_255_L2 Z m n x2 (Z 0 x3 1) (wI s 251 (Z 0 85 x3).toNat (s.1 255 (Z 0 x2 x3).toNat))))) else (some (0, s))) := rfl
