/-! ===== written by gen_fun.py: do not edit ===== -/
set_option maxHeartbeats 1000000 in
set_option maxRecDepth 100000 in
theorem zf_X_ringFrom_eq (Z : mZ) (m : Nat) (a1 : Int) (a2 : Int) (s : mS) : zf_X_ringFrom Z m a1 a2 s = (inR a1 12 (zl_X_ringFrom_L19 Z m m a2 (s.1 26 a1.toNat) a1 0 s)) := rfl
set_option maxHeartbeats 1000000 in
set_option maxRecDepth 100000 in
theorem zl_X_ringFrom_L19_eq (Z : mZ) (m : Nat) (n : Nat) (x2 : Int) (x3 : Int) (x4 : Int) (x5 : Int) (s : mS) : zl_X_ringFrom_L19 Z m (n + 1) x2 x3 x4 x5 s = (if x5 < 12 then (if x2 = 0 then (zl_X_ringFrom_L39 Z m n x2 x3 x4 x5 s) else (inR x5 12 (zl_X_ringFrom_L39 Z m n x2 x3 x4 x5 (wI s 246 x5.toNat x4)))) else (some ((-1), s))) := rfl
set_option maxHeartbeats 1000000 in
set_option maxRecDepth 100000 in
theorem zl_X_ringFrom_L39_eq (Z : mZ) (m : Nat) (n : Nat) (x2 : Int) (x3 : Int) (x4 : Int) (x5 : Int) (s : mS) : zl_X_ringFrom_L39 Z m (n + 1) x2 x3 x4 x5 s = (inR x4 12 ((zf_X_isBox Z m (s.1 14 x4.toNat) s).bind fun p0 => (if p0.1 = 0 then (some ((-1), p0.2)) else (inR x4 12 (inR (s.1 14 x4.toNat) 9 (if p0.2.1 6 (s.1 14 x4.toNat).toNat < p0.2.1 11 x4.toNat then (some ((-1), p0.2)) else (if s.1 14 x4.toNat = x3 then (some (Z 0 x5 1, p0.2)) else (inR (s.1 14 x4.toNat) 9 ((zf_X_isDead Z m (p0.2.1 19 (s.1 14 x4.toNat).toNat) p0.2).bind fun p1 => (if p1.1 = 0 then (some ((-1), p1.2)) else (zl_X_ringFrom_L19 Z m n x2 x3 (p0.2.1 19 (s.1 14 x4.toNat).toNat) (Z 0 x5 1) p1.2))))))))))) := rfl
set_option maxHeartbeats 1000000 in
set_option maxRecDepth 100000 in
theorem zf_X_ring_eq (Z : mZ) (m : Nat) (a1 : Int) (s : mS) : zf_X_ring Z m a1 s = ((zf_X_isDead Z m a1 s).bind fun p0 => (if p0.1 = 0 then (some ((-1), p0.2)) else (inR a1 12 (if p0.2.1 25 a1.toNat = 2 then ((zf_X_ringFrom Z m a1 0 p0.2).bind fun p1 => (if p1.1 = (-1) then (some (p1.1, p1.2)) else ((zf_X_ringFrom Z m a1 1 p1.2).bind fun p2 => (some (p1.1, wI p2.2 0 15 p1.1))))) else (some ((-1), p0.2)))))) := rfl
set_option maxHeartbeats 1000000 in
set_option maxRecDepth 100000 in
theorem zf_X_ringAt_eq (Z : mZ) (m : Nat) (a1 : Int) (s : mS) : zf_X_ringAt Z m a1 s = (if a1 < 0 then (some ((-1), s)) else (if a1 < s.1 0 15 then (inR a1 12 (some (s.1 246 a1.toNat, s))) else (some ((-1), s)))) := rfl
set_option maxHeartbeats 1000000 in
set_option maxRecDepth 100000 in
theorem zf_Vs_allDead_eq (Z : mZ) (m : Nat) (s : mS) : zf_Vs_allDead Z m s = (some (Z 1 (Z 6 1 (s.1 4 2)) 1, s)) := rfl
set_option maxHeartbeats 1000000 in
set_option maxRecDepth 100000 in
theorem zf_Tp_byteOf_eq (Z : mZ) (m : Nat) (a1 : Int) (s : mS) : zf_Tp_byteOf Z m a1 s = (if a1 < 0 then (some (0, s)) else (if a1 < 940 then (inR a1 940 (some (Z 3 (s.1 2 a1.toNat) 255, s))) else (some (0, s)))) := rfl
set_option maxHeartbeats 1000000 in
set_option maxRecDepth 100000 in
theorem zf_X_numberOf_eq (Z : mZ) (m : Nat) (a1 : Int) (a2 : Int) (s : mS) : zf_X_numberOf Z m a1 a2 s = (if a1 = 0 then (inR a2 12 (some (s.1 11 a2.toNat, s))) else (if a1 = 1 then (inR a2 12 (some (s.1 28 a2.toNat, s))) else (if a1 = 2 then (inR a2 12 (if s.1 26 a2.toNat = (-1) then (some (255, s)) else (inR a2 12 (some (s.1 26 a2.toNat, s))))) else (inR a2 12 (if s.1 27 a2.toNat = (-1) then (some (255, s)) else (inR a2 12 (some (s.1 27 a2.toNat, s)))))))) := rfl
set_option maxHeartbeats 1000000 in
set_option maxRecDepth 100000 in
theorem zf_X_thoseWith_eq (Z : mZ) (m : Nat) (a1 : Int) (a2 : Int) (s : mS) : zf_X_thoseWith Z m a1 a2 s = (zl_X_thoseWith_L5 Z m m a1 a2 0 0 s) := rfl
set_option maxHeartbeats 1000000 in
set_option maxRecDepth 100000 in
theorem zl_X_thoseWith_L5_eq (Z : mZ) (m : Nat) (n : Nat) (x1 : Int) (x2 : Int) (x3 : Int) (x4 : Int) (s : mS) : zl_X_thoseWith_L5 Z m (n + 1) x1 x2 x3 x4 s = (if x4 < s.1 4 2 then ((zf_X_numberOf Z m x1 x4 s).bind fun p0 => (if p0.1 = x2 then (zl_X_thoseWith_L5 Z m n x1 x2 (Z 4 x3 (Z 6 1 x4)) (Z 0 x4 1) p0.2) else (zl_X_thoseWith_L5 Z m n x1 x2 x3 (Z 0 x4 1) p0.2))) else (some (x3, s))) := rfl
set_option maxHeartbeats 1000000 in
set_option maxRecDepth 100000 in
theorem zf_Ji_bitCount_eq (Z : mZ) (m : Nat) (a0 : Int) (s : mS) : zf_Ji_bitCount Z m a0 s = (some (Z 3 (Z 0 (Z 0 (Z 3 (Z 0 (Z 0 (Z 3 (Z 1 a0 (Z 3 (Z 8 a0 1) 1431655765)) 858993459) (Z 3 (Z 8 (Z 1 a0 (Z 3 (Z 8 a0 1) 1431655765)) 2) 858993459)) (Z 8 (Z 0 (Z 3 (Z 1 a0 (Z 3 (Z 8 a0 1) 1431655765)) 858993459) (Z 3 (Z 8 (Z 1 a0 (Z 3 (Z 8 a0 1) 1431655765)) 2) 858993459)) 4)) 252645135) (Z 8 (Z 3 (Z 0 (Z 0 (Z 3 (Z 1 a0 (Z 3 (Z 8 a0 1) 1431655765)) 858993459) (Z 3 (Z 8 (Z 1 a0 (Z 3 (Z 8 a0 1) 1431655765)) 2) 858993459)) (Z 8 (Z 0 (Z 3 (Z 1 a0 (Z 3 (Z 8 a0 1) 1431655765)) 858993459) (Z 3 (Z 8 (Z 1 a0 (Z 3 (Z 8 a0 1) 1431655765)) 2) 858993459)) 4)) 252645135) 8)) (Z 8 (Z 0 (Z 3 (Z 0 (Z 0 (Z 3 (Z 1 a0 (Z 3 (Z 8 a0 1) 1431655765)) 858993459) (Z 3 (Z 8 (Z 1 a0 (Z 3 (Z 8 a0 1) 1431655765)) 2) 858993459)) (Z 8 (Z 0 (Z 3 (Z 1 a0 (Z 3 (Z 8 a0 1) 1431655765)) 858993459) (Z 3 (Z 8 (Z 1 a0 (Z 3 (Z 8 a0 1) 1431655765)) 2) 858993459)) 4)) 252645135) (Z 8 (Z 3 (Z 0 (Z 0 (Z 3 (Z 1 a0 (Z 3 (Z 8 a0 1) 1431655765)) 858993459) (Z 3 (Z 8 (Z 1 a0 (Z 3 (Z 8 a0 1) 1431655765)) 2) 858993459)) (Z 8 (Z 0 (Z 3 (Z 1 a0 (Z 3 (Z 8 a0 1) 1431655765)) 858993459) (Z 3 (Z 8 (Z 1 a0 (Z 3 (Z 8 a0 1) 1431655765)) 2) 858993459)) 4)) 252645135) 8)) 16)) 63, s)) := rfl
set_option maxHeartbeats 1000000 in
set_option maxRecDepth 100000 in
theorem zf_X_greatestAlike_eq (Z : mZ) (m : Nat) (a1 : Int) (a2 : Int) (s : mS) : zf_X_greatestAlike Z m a1 a2 s = (zl_X_greatestAlike_L5 Z m m a1 a2 0 0 s) := rfl
set_option maxHeartbeats 1000000 in
set_option maxRecDepth 100000 in
theorem zl_X_greatestAlike_L5_eq (Z : mZ) (m : Nat) (n : Nat) (x1 : Int) (x2 : Int) (x3 : Int) (x4 : Int) (s : mS) : zl_X_greatestAlike_L5 Z m (n + 1) x1 x2 x3 x4 s = (if x4 < s.1 4 2 then (if Z 3 (Z 7 x2 x4) 1 = 0 then (zl_X_greatestAlike_L5 Z m n x1 x2 x3 (Z 0 x4 1) s) else ((zf_X_numberOf Z m x1 x4 s).bind fun p0 => ((zf_X_thoseWith Z m x1 p0.1 p0.2).bind fun p1 => ((zf_Ji_bitCount Z m (Z 3 x2 p1.1) p1.2).bind fun p2 => ((zf_Jm_max Z m x3 p2.1 p2.2).bind fun p3 => (zl_X_greatestAlike_L5 Z m n x1 x2 p3.1 (Z 0 x4 1) p3.2)))))) else (some (x3, s))) := rfl
set_option maxHeartbeats 1000000 in
set_option maxRecDepth 100000 in
theorem zf_X_bestToAsk_eq (Z : mZ) (m : Nat) (a1 : Int) (s : mS) : zf_X_bestToAsk Z m a1 s = (zl_X_bestToAsk_L8 Z m m a1 (-1) 13 0 s) := rfl
set_option maxHeartbeats 1000000 in
set_option maxRecDepth 100000 in
theorem zl_X_bestToAsk_L8_eq (Z : mZ) (m : Nat) (n : Nat) (x1 : Int) (x2 : Int) (x3 : Int) (x4 : Int) (s : mS) : zl_X_bestToAsk_L8 Z m (n + 1) x1 x2 x3 x4 s = (if x4 < 4 then ((zf_X_greatestAlike Z m x4 x1 s).bind fun p0 => (if p0.1 < x3 then (zl_X_bestToAsk_L8 Z m n x1 x4 p0.1 (Z 0 x4 1) p0.2) else (zl_X_bestToAsk_L8 Z m n x1 x2 x3 (Z 0 x4 1) p0.2))) else (some (x2, s))) := rfl
set_option maxHeartbeats 1000000 in
set_option maxRecDepth 100000 in
theorem zf_X_who_eq (Z : mZ) (m : Nat) (s : mS) : zf_X_who Z m s = (if s.1 1 1 < 2 then (some ((-1), wI s 1 1 0)) else (if 12 < s.1 1 1 then (some ((-1), wI s 1 1 0)) else (if Z 10 (s.1 1 1) 2 = 0 then ((zf_Vs_allDead Z m (wI s 1 1 0)).bind fun p0 => (zl_X_who_L48 Z m m (s.1 1 1) p0.1 0 p0.2)) else (some ((-1), wI s 1 1 0))))) := rfl
set_option maxHeartbeats 1000000 in
set_option maxRecDepth 100000 in
theorem zl_X_who_L48_eq (Z : mZ) (m : Nat) (n : Nat) (x1 : Int) (x2 : Int) (x3 : Int) (s : mS) : zl_X_who_L48 Z m (n + 1) x1 x2 x3 s = (if x3 < x1 then ((zf_Tp_byteOf Z m x3 s).bind fun p0 => (if 3 < p0.1 then (some ((-1), p0.2)) else ((zf_Tp_byteOf Z m (Z 0 x3 1) p0.2).bind fun p1 => ((zf_X_thoseWith Z m p0.1 p1.1 p1.2).bind fun p2 => (zl_X_who_L48 Z m n x1 (Z 3 x2 p2.1) (Z 0 x3 2) p2.2))))) else (if x2 = 0 then (some (x2, s)) else ((zf_X_bestToAsk Z m x2 s).bind fun p0 => (some (x2, wI p0.2 0 16 p0.1))))) := rfl
set_option maxHeartbeats 1000000 in
set_option maxRecDepth 100000 in
theorem zf_X_ask_eq (Z : mZ) (m : Nat) (s : mS) : zf_X_ask Z m s = (some (s.1 0 16, s)) := rfl
set_option maxHeartbeats 1000000 in
set_option maxRecDepth 100000 in
theorem zf_Vs_kinOfAny_eq (Z : mZ) (m : Nat) (a1 : Int) (s : mS) : zf_Vs_kinOfAny Z m a1 s = (zl_Vs_kinOfAny_L4 Z m m a1 0 0 s) := rfl
set_option maxHeartbeats 1000000 in
set_option maxRecDepth 100000 in
theorem zl_Vs_kinOfAny_L4_eq (Z : mZ) (m : Nat) (n : Nat) (x1 : Int) (x2 : Int) (x3 : Int) (s : mS) : zl_Vs_kinOfAny_L4 Z m (n + 1) x1 x2 x3 s = (if x3 < s.1 4 2 then (if Z 3 (Z 7 x1 x3) 1 = 0 then (zl_Vs_kinOfAny_L4 Z m n x1 x2 (Z 0 x3 1) s) else (inR x3 12 (zl_Vs_kinOfAny_L4 Z m n x1 (Z 4 x2 (s.1 13 x3.toNat)) (Z 0 x3 1) s))) else (some (x2, s))) := rfl
set_option maxHeartbeats 1000000 in
set_option maxRecDepth 100000 in
theorem zf_X_near_eq (Z : mZ) (m : Nat) (a1 : Int) (a2 : Int) (s : mS) : zf_X_near Z m a1 a2 s = ((zf_X_isDead Z m a1 s).bind fun p0 => (if p0.1 = 0 then (some ((-1), p0.2)) else ((zf_X_isDead Z m a2 p0.2).bind fun p1 => (if p1.1 = 0 then (some ((-1), p1.2)) else (zl_X_near_L25 Z m m a2 (Z 6 1 a1) 0 p1.2))))) := rfl
set_option maxHeartbeats 1000000 in
set_option maxRecDepth 100000 in
theorem zl_X_near_L25_eq (Z : mZ) (m : Nat) (n : Nat) (x2 : Int) (x3 : Int) (x4 : Int) (s : mS) : zl_X_near_L25 Z m (n + 1) x2 x3 x4 s = (if x4 < 12 then (if Z 3 (Z 7 x3 x2) 1 = 0 then ((zf_Vs_kinOfAny Z m x3 s).bind fun p0 => (zl_X_near_L25 Z m n x2 (Z 4 x3 p0.1) (Z 0 x4 1) p0.2)) else (some (x4, s))) else (some ((-1), s))) := rfl
set_option maxHeartbeats 1000000 in
set_option maxRecDepth 100000 in
theorem zf_X_had_eq (Z : mZ) (m : Nat) (a1 : Int) (a2 : Int) (s : mS) : zf_X_had Z m a1 a2 s = ((zf_X_isBox Z m a1 s).bind fun p0 => (if p0.1 = 0 then (some ((-1), p0.2)) else (if a2 < 0 then (some ((-1), p0.2)) else (if a2 < 4 then (inR (Z 0 (Z 2 a1 4) a2) 36 (some (p0.2.1 21 (Z 0 (Z 2 a1 4) a2).toNat, p0.2))) else (some ((-1), p0.2)))))) := rfl
set_option maxHeartbeats 1000000 in
set_option maxRecDepth 100000 in
theorem zf_X_longest_eq (Z : mZ) (m : Nat) (s : mS) : zf_X_longest Z m s = (zl_X_longest_L6 Z m m 0 (-1) 0 s) := rfl
set_option maxHeartbeats 1000000 in
set_option maxRecDepth 100000 in
theorem zl_X_longest_L6_eq (Z : mZ) (m : Nat) (n : Nat) (x1 : Int) (x2 : Int) (x3 : Int) (s : mS) : zl_X_longest_L6 Z m (n + 1) x1 x2 x3 s = (if x3 < s.1 4 2 then (inR x3 12 (if x1 < s.1 28 x3.toNat then (inR x3 12 (zl_X_longest_L6 Z m n (s.1 28 x3.toNat) x3 (Z 0 x3 1) s)) else (zl_X_longest_L6 Z m n x1 x2 (Z 0 x3 1) s))) else (some (x2, s))) := rfl
set_option maxHeartbeats 1000000 in
set_option maxRecDepth 100000 in
theorem zf_X_tagByte_eq (Z : mZ) (m : Nat) (a1 : Int) (s : mS) : zf_X_tagByte Z m a1 s = (if s.1 0 17 < 32 then (inR (s.1 0 17) 32 (some (0, wI (wI s 247 (s.1 0 17).toNat (Z 22 (Z 22 a1 0) 0)) 0 17 (Z 0 ((wI s 247 (s.1 0 17).toNat (Z 22 (Z 22 a1 0) 0)).1 0 17) 1)))) else (some (0, s))) := rfl
set_option maxHeartbeats 1000000 in
set_option maxRecDepth 100000 in
theorem zf_X_tagName_eq (Z : mZ) (m : Nat) (a1 : Int) (s : mS) : zf_X_tagName Z m a1 s = (zl_X_tagName_L3 Z m m a1 48 s) := rfl
set_option maxHeartbeats 1000000 in
set_option maxRecDepth 100000 in
theorem zl_X_tagName_L3_eq (Z : mZ) (m : Nat) (n : Nat) (x1 : Int) (x3 : Int) (s : mS) : zl_X_tagName_L3 Z m (n + 1) x1 x3 s = (if x3 < 0 then (some (0, s)) else (if Z 21 (Z 14 (Z 17 x1 x3) 255) 0 = 0 then (zl_X_tagName_L3 Z m n x1 (Z 0 x3 (-8)) s) else ((zf_X_tagByte Z m (Z 21 (Z 14 (Z 17 x1 x3) 255) 0) s).bind fun p0 => (zl_X_tagName_L3 Z m n x1 (Z 0 x3 (-8)) p0.2)))) := rfl
set_option maxHeartbeats 1000000 in
set_option maxRecDepth 100000 in
theorem zf_X_tagText_0_1200_eq (Z : mZ) (m : Nat) (s : mS) : zf_X_tagText_0_1200 Z m s = (zl_X_tagText_0_1200_L2 Z m m 0 s) := rfl
set_option maxHeartbeats 1000000 in
set_option maxRecDepth 100000 in
theorem zl_X_tagText_0_1200_L2_eq (Z : mZ) (m : Nat) (n : Nat) (x2 : Int) (s : mS) : zl_X_tagText_0_1200_L2 Z m (n + 1) x2 s = ((zf_Js_length_1200 Z m s).bind fun p0 => (if x2 < p0.1 then ((zf_Js_charAt_1200 Z m x2 p0.2).bind fun p1 => ((zf_X_tagByte Z m p1.1 p1.2).bind fun p2 => (zl_X_tagText_0_1200_L2 Z m n (Z 0 x2 1) p2.2))) else (some (0, p0.2)))) := rfl
set_option maxHeartbeats 1000000 in
set_option maxRecDepth 100000 in
theorem zf_X_tagText_0_1201_eq (Z : mZ) (m : Nat) (s : mS) : zf_X_tagText_0_1201 Z m s = (zl_X_tagText_0_1201_L2 Z m m 0 s) := rfl
set_option maxHeartbeats 1000000 in
set_option maxRecDepth 100000 in
theorem zl_X_tagText_0_1201_L2_eq (Z : mZ) (m : Nat) (n : Nat) (x2 : Int) (s : mS) : zl_X_tagText_0_1201_L2 Z m (n + 1) x2 s = ((zf_Js_length_1201 Z m s).bind fun p0 => (if x2 < p0.1 then ((zf_Js_charAt_1201 Z m x2 p0.2).bind fun p1 => ((zf_X_tagByte Z m p1.1 p1.2).bind fun p2 => (zl_X_tagText_0_1201_L2 Z m n (Z 0 x2 1) p2.2))) else (some (0, p0.2)))) := rfl
set_option maxHeartbeats 1000000 in
set_option maxRecDepth 100000 in
theorem zf_X_tagText_0_1202_eq (Z : mZ) (m : Nat) (s : mS) : zf_X_tagText_0_1202 Z m s = (zl_X_tagText_0_1202_L2 Z m m 0 s) := rfl
set_option maxHeartbeats 1000000 in
set_option maxRecDepth 100000 in
theorem zl_X_tagText_0_1202_L2_eq (Z : mZ) (m : Nat) (n : Nat) (x2 : Int) (s : mS) : zl_X_tagText_0_1202_L2 Z m (n + 1) x2 s = ((zf_Js_length_1202 Z m s).bind fun p0 => (if x2 < p0.1 then ((zf_Js_charAt_1202 Z m x2 p0.2).bind fun p1 => ((zf_X_tagByte Z m p1.1 p1.2).bind fun p2 => (zl_X_tagText_0_1202_L2 Z m n (Z 0 x2 1) p2.2))) else (some (0, p0.2)))) := rfl
set_option maxHeartbeats 1000000 in
set_option maxRecDepth 100000 in
theorem zf_X_tagText_0_1203_eq (Z : mZ) (m : Nat) (s : mS) : zf_X_tagText_0_1203 Z m s = (zl_X_tagText_0_1203_L2 Z m m 0 s) := rfl
set_option maxHeartbeats 1000000 in
set_option maxRecDepth 100000 in
theorem zl_X_tagText_0_1203_L2_eq (Z : mZ) (m : Nat) (n : Nat) (x2 : Int) (s : mS) : zl_X_tagText_0_1203_L2 Z m (n + 1) x2 s = ((zf_Js_length_1203 Z m s).bind fun p0 => (if x2 < p0.1 then ((zf_Js_charAt_1203 Z m x2 p0.2).bind fun p1 => ((zf_X_tagByte Z m p1.1 p1.2).bind fun p2 => (zl_X_tagText_0_1203_L2 Z m n (Z 0 x2 1) p2.2))) else (some (0, p0.2)))) := rfl
set_option maxHeartbeats 1000000 in
set_option maxRecDepth 100000 in
theorem zf_X_tag_eq (Z : mZ) (m : Nat) (a1 : Int) (s : mS) : zf_X_tag Z m a1 s = ((zf_X_isDead Z m a1 s).bind fun p0 => (if p0.1 = 0 then (some ((-1), p0.2)) else (inR a1 12 ((zf_X_tagName Z m ((wI p0.2 0 17 0).2 10 a1.toNat) (wI p0.2 0 17 0)).bind fun p1 => (inR a1 12 (inR a1 12 (inR a1 12 (if p1.2.1 25 a1.toNat = 0 then ((zf_X_tagText_0_1200 Z m p1.2).bind fun p2 => (some (p2.2.1 0 17, p2.2))) else (if p1.2.1 25 a1.toNat = 1 then ((zf_X_tagText_0_1201 Z m p1.2).bind fun p2 => (some (p2.2.1 0 17, p2.2))) else (if p1.2.1 25 a1.toNat = 2 then ((zf_X_isBox Z m (p1.2.1 26 a1.toNat) p1.2).bind fun p2 => (if p2.1 = 0 then (zl_X_tag_L139 Z m m (p1.2.1 25 a1.toNat) (p1.2.1 27 a1.toNat) p2.2) else ((zf_X_tagText_0_1202 Z m p2.2).bind fun p3 => (inR (p1.2.1 26 a1.toNat) 9 ((zf_X_tagName Z m (p3.2.2 5 (p1.2.1 26 a1.toNat).toNat) p3.2).bind fun p4 => (some (p4.2.1 0 17, p4.2))))))) else (zl_X_tag_L139 Z m m (p1.2.1 25 a1.toNat) (p1.2.1 27 a1.toNat) p1.2))))))))))) := rfl
set_option maxHeartbeats 1000000 in
set_option maxRecDepth 100000 in
theorem zl_X_tag_L139_eq (Z : mZ) (m : Nat) (n : Nat) (x2 : Int) (x4 : Int) (s : mS) : zl_X_tag_L139 Z m (n + 1) x2 x4 s = (if x2 = 3 then ((zf_X_isPlot Z m x4 s).bind fun p0 => (if p0.1 = 0 then (some (p0.2.1 0 17, p0.2)) else ((zf_X_tagText_0_1203 Z m p0.2).bind fun p1 => (inR x4 5 ((zf_X_tagName Z m (p1.2.2 8 x4.toNat) p1.2).bind fun p2 => (some (p2.2.1 0 17, p2.2))))))) else (some (s.1 0 17, s))) := rfl
set_option maxHeartbeats 1000000 in
set_option maxRecDepth 100000 in
theorem zf_X_byteAt_eq (Z : mZ) (m : Nat) (a1 : Int) (s : mS) : zf_X_byteAt Z m a1 s = (if a1 < 0 then (some ((-1), s)) else (if a1 < s.1 0 17 then (inR a1 32 (some (Z 3 (s.1 247 a1.toNat) 255, s))) else (some ((-1), s)))) := rfl
set_option maxHeartbeats 1000000 in
set_option maxRecDepth 100000 in
theorem zf_Dr_draw_eq (Z : mZ) (m : Nat) (a1 : Int) (s : mS) : zf_Dr_draw Z m a1 s = (if a1 < 1 then (some (0, wI s 245 0 (Z 0 (Z 2 (s.1 245 0) 1103515245) 12345))) else (if a1 = 0 then none else (some (Z 10 (Z 8 ((wI s 245 0 (Z 0 (Z 2 (s.1 245 0) 1103515245) 12345)).1 245 0) 8) a1, wI s 245 0 (Z 0 (Z 2 (s.1 245 0) 1103515245) 12345))))) := rfl
set_option maxHeartbeats 1000000 in
set_option maxRecDepth 100000 in
theorem zf_Dr_actOnce_245_4_17_eq (Z : mZ) (m : Nat) (s : mS) : zf_Dr_actOnce_245_4_17 Z m s = ((zf_Dr_draw Z m 8 s).bind fun p0 => (if 2 < p0.1 then (if p0.1 = 3 then (zl_Dr_actOnce_245_4_17_L65 Z m m p0.1 p0.2) else (if p0.1 = 4 then (zl_Dr_actOnce_245_4_17_L65 Z m m p0.1 p0.2) else (if p0.1 = 5 then (if 0 < p0.2.1 4 0 then ((zf_Dr_draw Z m (p0.2.1 4 0) p0.2).bind fun p1 => ((zf_St_mendIt_17 Z m p1.1 p1.2).bind fun p2 => (some (0, p2.2)))) else (zl_Dr_actOnce_245_4_17_L136 Z m m p0.1 p0.2)) else (zl_Dr_actOnce_245_4_17_L136 Z m m p0.1 p0.2)))) else (if 0 < p0.2.1 4 2 then (if 0 < p0.2.1 4 0 then ((zf_Dr_draw Z m (p0.2.1 4 2) p0.2).bind fun p1 => ((zf_Dr_draw Z m (p1.2.1 4 0) p1.2).bind fun p2 => ((zf_St_lendHim_17_4 Z m p1.1 p2.1 p2.2).bind fun p3 => (some (0, p3.2))))) else (if p0.1 = 3 then (zl_Dr_actOnce_245_4_17_L65 Z m m p0.1 p0.2) else (if p0.1 = 4 then (zl_Dr_actOnce_245_4_17_L65 Z m m p0.1 p0.2) else (if p0.1 = 5 then (if 0 < p0.2.1 4 0 then ((zf_Dr_draw Z m (p0.2.1 4 0) p0.2).bind fun p1 => ((zf_St_mendIt_17 Z m p1.1 p1.2).bind fun p2 => (some (0, p2.2)))) else (zl_Dr_actOnce_245_4_17_L136 Z m m p0.1 p0.2)) else (zl_Dr_actOnce_245_4_17_L136 Z m m p0.1 p0.2))))) else (if p0.1 = 3 then (zl_Dr_actOnce_245_4_17_L65 Z m m p0.1 p0.2) else (if p0.1 = 4 then (zl_Dr_actOnce_245_4_17_L65 Z m m p0.1 p0.2) else (if p0.1 = 5 then (if 0 < p0.2.1 4 0 then ((zf_Dr_draw Z m (p0.2.1 4 0) p0.2).bind fun p1 => ((zf_St_mendIt_17 Z m p1.1 p1.2).bind fun p2 => (some (0, p2.2)))) else (zl_Dr_actOnce_245_4_17_L136 Z m m p0.1 p0.2)) else (zl_Dr_actOnce_245_4_17_L136 Z m m p0.1 p0.2))))))) := rfl
set_option maxHeartbeats 1000000 in
set_option maxRecDepth 100000 in
theorem zl_Dr_actOnce_245_4_17_L65_eq (Z : mZ) (m : Nat) (n : Nat) (x3 : Int) (s : mS) : zl_Dr_actOnce_245_4_17_L65 Z m (n + 1) x3 s = (if 0 < s.1 4 2 then (if 0 < s.1 4 1 then ((zf_Dr_draw Z m (s.1 4 2) s).bind fun p0 => ((zf_Dr_draw Z m (p0.2.1 4 1) p0.2).bind fun p1 => ((zf_St_layHim_17_4 Z m p0.1 p1.1 p1.2).bind fun p2 => (some (0, p2.2))))) else (if x3 = 5 then (if 0 < s.1 4 0 then ((zf_Dr_draw Z m (s.1 4 0) s).bind fun p0 => ((zf_St_mendIt_17 Z m p0.1 p0.2).bind fun p1 => (some (0, p1.2)))) else (zl_Dr_actOnce_245_4_17_L136 Z m n x3 s)) else (zl_Dr_actOnce_245_4_17_L136 Z m n x3 s))) else (if x3 = 5 then (if 0 < s.1 4 0 then ((zf_Dr_draw Z m (s.1 4 0) s).bind fun p0 => ((zf_St_mendIt_17 Z m p0.1 p0.2).bind fun p1 => (some (0, p1.2)))) else (zl_Dr_actOnce_245_4_17_L136 Z m n x3 s)) else (zl_Dr_actOnce_245_4_17_L136 Z m n x3 s))) := rfl
set_option maxHeartbeats 1000000 in
set_option maxRecDepth 100000 in
theorem zl_Dr_actOnce_245_4_17_L136_eq (Z : mZ) (m : Nat) (n : Nat) (x3 : Int) (s : mS) : zl_Dr_actOnce_245_4_17_L136 Z m (n + 1) x3 s = (if x3 = 6 then (if 0 < s.1 4 2 then ((zf_Dr_draw Z m (s.1 4 2) s).bind fun p0 => ((zf_Dr_draw Z m (p0.2.1 4 2) p0.2).bind fun p1 => (if p0.1 = p1.1 then (some (0, p1.2)) else ((zf_St_swapThem_17_4 Z m p0.1 p1.1 p1.2).bind fun p2 => (some (0, p2.2)))))) else (some (0, s))) else (some (0, s))) := rfl
set_option maxHeartbeats 1000000 in
set_option maxRecDepth 100000 in
theorem zf_Dr_actOnce_245_4_206_eq (Z : mZ) (m : Nat) (s : mS) : zf_Dr_actOnce_245_4_206 Z m s = ((zf_Dr_draw Z m 8 s).bind fun p0 => (if 2 < p0.1 then (if p0.1 = 3 then (zl_Dr_actOnce_245_4_206_L65 Z m m p0.1 p0.2) else (if p0.1 = 4 then (zl_Dr_actOnce_245_4_206_L65 Z m m p0.1 p0.2) else (if p0.1 = 5 then (if 0 < p0.2.1 4 0 then ((zf_Dr_draw Z m (p0.2.1 4 0) p0.2).bind fun p1 => ((zf_St_mendIt_206 Z m p1.1 p1.2).bind fun p2 => (some (0, p2.2)))) else (zl_Dr_actOnce_245_4_206_L136 Z m m p0.1 p0.2)) else (zl_Dr_actOnce_245_4_206_L136 Z m m p0.1 p0.2)))) else (if 0 < p0.2.1 4 2 then (if 0 < p0.2.1 4 0 then ((zf_Dr_draw Z m (p0.2.1 4 2) p0.2).bind fun p1 => ((zf_Dr_draw Z m (p1.2.1 4 0) p1.2).bind fun p2 => ((zf_St_lendHim_206_4 Z m p1.1 p2.1 p2.2).bind fun p3 => (some (0, p3.2))))) else (if p0.1 = 3 then (zl_Dr_actOnce_245_4_206_L65 Z m m p0.1 p0.2) else (if p0.1 = 4 then (zl_Dr_actOnce_245_4_206_L65 Z m m p0.1 p0.2) else (if p0.1 = 5 then (if 0 < p0.2.1 4 0 then ((zf_Dr_draw Z m (p0.2.1 4 0) p0.2).bind fun p1 => ((zf_St_mendIt_206 Z m p1.1 p1.2).bind fun p2 => (some (0, p2.2)))) else (zl_Dr_actOnce_245_4_206_L136 Z m m p0.1 p0.2)) else (zl_Dr_actOnce_245_4_206_L136 Z m m p0.1 p0.2))))) else (if p0.1 = 3 then (zl_Dr_actOnce_245_4_206_L65 Z m m p0.1 p0.2) else (if p0.1 = 4 then (zl_Dr_actOnce_245_4_206_L65 Z m m p0.1 p0.2) else (if p0.1 = 5 then (if 0 < p0.2.1 4 0 then ((zf_Dr_draw Z m (p0.2.1 4 0) p0.2).bind fun p1 => ((zf_St_mendIt_206 Z m p1.1 p1.2).bind fun p2 => (some (0, p2.2)))) else (zl_Dr_actOnce_245_4_206_L136 Z m m p0.1 p0.2)) else (zl_Dr_actOnce_245_4_206_L136 Z m m p0.1 p0.2))))))) := rfl
set_option maxHeartbeats 1000000 in
set_option maxRecDepth 100000 in
theorem zl_Dr_actOnce_245_4_206_L65_eq (Z : mZ) (m : Nat) (n : Nat) (x3 : Int) (s : mS) : zl_Dr_actOnce_245_4_206_L65 Z m (n + 1) x3 s = (if 0 < s.1 4 2 then (if 0 < s.1 4 1 then ((zf_Dr_draw Z m (s.1 4 2) s).bind fun p0 => ((zf_Dr_draw Z m (p0.2.1 4 1) p0.2).bind fun p1 => ((zf_St_layHim_206_4 Z m p0.1 p1.1 p1.2).bind fun p2 => (some (0, p2.2))))) else (if x3 = 5 then (if 0 < s.1 4 0 then ((zf_Dr_draw Z m (s.1 4 0) s).bind fun p0 => ((zf_St_mendIt_206 Z m p0.1 p0.2).bind fun p1 => (some (0, p1.2)))) else (zl_Dr_actOnce_245_4_206_L136 Z m n x3 s)) else (zl_Dr_actOnce_245_4_206_L136 Z m n x3 s))) else (if x3 = 5 then (if 0 < s.1 4 0 then ((zf_Dr_draw Z m (s.1 4 0) s).bind fun p0 => ((zf_St_mendIt_206 Z m p0.1 p0.2).bind fun p1 => (some (0, p1.2)))) else (zl_Dr_actOnce_245_4_206_L136 Z m n x3 s)) else (zl_Dr_actOnce_245_4_206_L136 Z m n x3 s))) := rfl
set_option maxHeartbeats 1000000 in
set_option maxRecDepth 100000 in
theorem zl_Dr_actOnce_245_4_206_L136_eq (Z : mZ) (m : Nat) (n : Nat) (x3 : Int) (s : mS) : zl_Dr_actOnce_245_4_206_L136 Z m (n + 1) x3 s = (if x3 = 6 then (if 0 < s.1 4 2 then ((zf_Dr_draw Z m (s.1 4 2) s).bind fun p0 => ((zf_Dr_draw Z m (p0.2.1 4 2) p0.2).bind fun p1 => (if p0.1 = p1.1 then (some (0, p1.2)) else ((zf_St_swapThem_206_4 Z m p0.1 p1.1 p1.2).bind fun p2 => (some (0, p2.2)))))) else (some (0, s))) else (some (0, s))) := rfl
set_option maxHeartbeats 1000000 in
set_option maxRecDepth 100000 in
theorem zf_Dr_live_245_4_17_eq (Z : mZ) (m : Nat) (a1 : Int) (a2 : Int) (s : mS) : zf_Dr_live_245_4_17 Z m a1 a2 s = (zl_Dr_live_245_4_17_L8 Z m m a1 0 (wI s 245 0 a2)) := rfl
set_option maxHeartbeats 1000000 in
set_option maxRecDepth 100000 in
theorem zl_Dr_live_245_4_17_L8_eq (Z : mZ) (m : Nat) (n : Nat) (x1 : Int) (x5 : Int) (s : mS) : zl_Dr_live_245_4_17_L8 Z m (n + 1) x1 x5 s = (if x5 < x1 then (if s.1 17 0 < 400 then ((zf_Dr_actOnce_245_4_17 Z m s).bind fun p0 => ((zf_St_passDays_17_4 Z m 1 p0.2).bind fun p1 => (zl_Dr_live_245_4_17_L8 Z m n x1 (Z 0 x5 1) p1.2))) else (some (x5, s))) else (some (x5, s))) := rfl
set_option maxHeartbeats 1000000 in
set_option maxRecDepth 100000 in
theorem zf_Dr_live_245_4_206_eq (Z : mZ) (m : Nat) (a1 : Int) (a2 : Int) (s : mS) : zf_Dr_live_245_4_206 Z m a1 a2 s = (zl_Dr_live_245_4_206_L8 Z m m a1 0 (wI s 245 0 a2)) := rfl
set_option maxHeartbeats 1000000 in
set_option maxRecDepth 100000 in
theorem zl_Dr_live_245_4_206_L8_eq (Z : mZ) (m : Nat) (n : Nat) (x1 : Int) (x5 : Int) (s : mS) : zl_Dr_live_245_4_206_L8 Z m (n + 1) x1 x5 s = (if x5 < x1 then (if s.1 206 0 < 400 then ((zf_Dr_actOnce_245_4_206 Z m s).bind fun p0 => ((zf_St_passDays_206_4 Z m 1 p0.2).bind fun p1 => (zl_Dr_live_245_4_206_L8 Z m n x1 (Z 0 x5 1) p1.2))) else (some (x5, s))) else (some (x5, s))) := rfl
set_option maxHeartbeats 1000000 in
set_option maxRecDepth 100000 in
theorem zf_X_drawn_eq (Z : mZ) (m : Nat) (a1 : Int) (a2 : Int) (s : mS) : zf_X_drawn Z m a1 a2 s = (if a1 < 1 then (some ((-1), s)) else (if 60 < a1 then (some ((-1), s)) else ((zf_St_copyOf_206_17 Z m s).bind fun p0 => ((zf_Dr_live_245_4_17 Z m a1 a2 p0.2).bind fun p1 => ((zf_X_wentBy Z m p1.1 p1.2).bind fun p2 => (some (p2.1, p2.2))))))) := rfl
set_option maxHeartbeats 1000000 in
set_option maxRecDepth 100000 in
theorem zf_X_odds_eq (Z : mZ) (m : Nat) (a1 : Int) (a2 : Int) (a3 : Int) (s : mS) : zf_X_odds Z m a1 a2 a3 s = ((zf_X_isDead Z m a1 s).bind fun p0 => (if p0.1 = 0 then (some ((-1), p0.2)) else (if a2 < 1 then (some ((-1), p0.2)) else (if 30 < a2 then (some ((-1), p0.2)) else (zl_X_odds_L27 Z m m a1 a2 a3 0 0 p0.2))))) := rfl
set_option maxHeartbeats 1000000 in
set_option maxRecDepth 100000 in
theorem zl_X_odds_L27_eq (Z : mZ) (m : Nat) (n : Nat) (x1 : Int) (x2 : Int) (x3 : Int) (x4 : Int) (x5 : Int) (s : mS) : zl_X_odds_L27 Z m (n + 1) x1 x2 x3 x4 x5 s = (if x5 < x2 then ((zf_St_copyOf_206_17 Z m s).bind fun p0 => ((zf_Dr_live_245_4_206 Z m 20 (Z 0 x3 x5) p0.2).bind fun p1 => (inR x1 12 (if p1.2.1 214 x1.toNat = 3 then (zl_X_odds_L27 Z m n x1 x2 x3 (Z 0 x4 1) (Z 0 x5 1) p1.2) else (zl_X_odds_L27 Z m n x1 x2 x3 x4 (Z 0 x5 1) p1.2))))) else (some (x4, s))) := rfl
set_option maxHeartbeats 1000000 in
set_option maxRecDepth 100000 in
theorem zf_Bk_actOf_eq (Z : mZ) (m : Nat) (s : mS) : zf_Bk_actOf Z m s = (if encW (s.1 1 3) = none then (some ((-1), s)) else (onS (encW (s.1 1 3)) fun t0 => (if gIn 1 t0 = true then ((zf_Je_ordinal Z m t0 s).bind fun p1 => (inR p1.1 24 (if swM p1.1.toNat = 8 then (some (0, p1.2)) else (if swM p1.1.toNat = 9 then (some (1, p1.2)) else (if swM p1.1.toNat = 10 then (some (2, p1.2)) else (if swM p1.1.toNat = 11 then (some (3, p1.2)) else (if swM p1.1.toNat = 12 then (some (4, p1.2)) else (some ((-1), p1.2))))))))) else none))) := rfl
set_option maxHeartbeats 1000000 in
set_option maxRecDepth 100000 in
theorem zf_Bk_readOther_eq (Z : mZ) (m : Nat) (s : mS) : zf_Bk_readOther Z m s = ((zf_Vs_seeDead_4_1 Z m s).bind fun p0 => (inR (s.1 237 0) 40 (inR ((wI p0.2 240 (s.1 237 0).toNat p0.1).1 237 0) 40 (if (wI p0.2 240 (s.1 237 0).toNat p0.1).1 240 ((wI p0.2 240 (s.1 237 0).toNat p0.1).1 237 0).toNat = (-1) then (some (0, wI p0.2 240 (s.1 237 0).toNat p0.1)) else (inR ((wI p0.2 240 (s.1 237 0).toNat p0.1).1 237 0) 40 (inR ((wI p0.2 240 (s.1 237 0).toNat p0.1).1 237 0) 40 (if (wI p0.2 240 (s.1 237 0).toNat p0.1).1 240 ((wI p0.2 240 (s.1 237 0).toNat p0.1).1 237 0).toNat = (wI p0.2 240 (s.1 237 0).toNat p0.1).1 239 ((wI p0.2 240 (s.1 237 0).toNat p0.1).1 237 0).toNat then ((zf_Tp_fail Z m 3 (wI p0.2 240 (s.1 237 0).toNat p0.1)).bind fun p1 => (if p1.1 = 0 ∨ p1.1 = 1 then some (p1.1, p1.2) else none)) else ((zf_Tp_advance Z m (wI p0.2 240 (s.1 237 0).toNat p0.1)).bind fun p1 => (some (1, p1.2)))))))))) := rfl
set_option maxHeartbeats 1000000 in
set_option maxRecDepth 100000 in
theorem zf_Vs_takePlot_eq (Z : mZ) (m : Nat) (s : mS) : zf_Vs_takePlot Z m s = ((zf_Vs_see_1_8 Z m (s.1 4 1) s).bind fun p0 => (if p0.1 = (-1) then (some (p0.1, p0.2)) else ((zf_Tp_advance Z m p0.2).bind fun p1 => (some (p0.1, p1.2))))) := rfl
set_option maxHeartbeats 1000000 in
set_option maxRecDepth 100000 in
theorem zf_Bk_readLine_eq (Z : mZ) (m : Nat) (s : mS) : zf_Bk_readLine Z m s = ((zf_Bk_actOf Z m s).bind fun p0 => (if p0.1 = (-1) then ((zf_Tp_fail Z m 1 p0.2).bind fun p1 => (if p1.1 = 0 ∨ p1.1 = 1 then some (p1.1, p1.2) else none)) else (if p0.2.1 237 0 < 40 then ((zf_Tp_advance Z m p0.2).bind fun p1 => (inR (p1.2.1 237 0) 40 (if p0.1 = 4 then ((zf_Tp_takeNumber Z m 1 60 (wI p1.2 238 (p1.2.1 237 0).toNat p0.1)).bind fun p2 => (inR ((wI p1.2 238 (p1.2.1 237 0).toNat p0.1).1 237 0) 40 (inR ((wI p2.2 239 ((wI p1.2 238 (p1.2.1 237 0).toNat p0.1).1 237 0).toNat p2.1).1 237 0) 40 (if (wI p2.2 239 ((wI p1.2 238 (p1.2.1 237 0).toNat p0.1).1 237 0).toNat p2.1).1 239 ((wI p2.2 239 ((wI p1.2 238 (p1.2.1 237 0).toNat p0.1).1 237 0).toNat p2.1).1 237 0).toNat = (-1) then (some (0, wI p2.2 239 ((wI p1.2 238 (p1.2.1 237 0).toNat p0.1).1 237 0).toNat p2.1)) else (some (1, wI p2.2 239 ((wI p1.2 238 (p1.2.1 237 0).toNat p0.1).1 237 0).toNat p2.1)))))) else (if p0.1 = 3 then ((zf_Vs_takeBox_4_1 Z m (wI p1.2 238 (p1.2.1 237 0).toNat p0.1)).bind fun p2 => (zl_Bk_readLine_L111 Z m m p0.1 ((wI p1.2 238 (p1.2.1 237 0).toNat p0.1).1 237 0) p2.1 p2.2)) else ((zf_Vs_takeDead_4_1 Z m (wI p1.2 238 (p1.2.1 237 0).toNat p0.1)).bind fun p2 => (zl_Bk_readLine_L111 Z m m p0.1 ((wI p1.2 238 (p1.2.1 237 0).toNat p0.1).1 237 0) p2.1 p2.2)))))) else ((zf_Tp_fail Z m 4 p0.2).bind fun p1 => (if p1.1 = 0 ∨ p1.1 = 1 then some (p1.1, p1.2) else none))))) := rfl
set_option maxHeartbeats 1000000 in
set_option maxRecDepth 100000 in
theorem zl_Bk_readLine_L111_eq (Z : mZ) (m : Nat) (n : Nat) (x3 : Int) (y1 : Int) (y2 : Int) (s : mS) : zl_Bk_readLine_L111 Z m (n + 1) x3 y1 y2 s = (inR y1 40 (inR ((wI s 239 y1.toNat y2).1 237 0) 40 (if (wI s 239 y1.toNat y2).1 239 ((wI s 239 y1.toNat y2).1 237 0).toNat = (-1) then (inR ((wI s 239 y1.toNat y2).1 237 0) 40 (if (wI s 239 y1.toNat y2).1 239 ((wI s 239 y1.toNat y2).1 237 0).toNat = (-1) then (some (0, wI s 239 y1.toNat y2)) else (some (1, wI s 239 y1.toNat y2)))) else (if x3 = 3 then (inR ((wI s 239 y1.toNat y2).1 237 0) 40 (if (wI s 239 y1.toNat y2).1 239 ((wI s 239 y1.toNat y2).1 237 0).toNat = (-1) then (some (0, wI s 239 y1.toNat y2)) else (some (1, wI s 239 y1.toNat y2)))) else (if x3 = 2 then ((zf_Bk_readOther Z m (wI s 239 y1.toNat y2)).bind fun p0 => (if p0.1 = 0 ∨ p0.1 = 1 then some (p0.1, p0.2) else none)) else (if x3 = 0 then ((zf_Vs_takeBox_4_1 Z m (wI s 239 y1.toNat y2)).bind fun p0 => (inR ((wI s 239 y1.toNat y2).1 237 0) 40 (inR ((wI p0.2 240 ((wI s 239 y1.toNat y2).1 237 0).toNat p0.1).1 237 0) 40 (if (wI p0.2 240 ((wI s 239 y1.toNat y2).1 237 0).toNat p0.1).1 240 ((wI p0.2 240 ((wI s 239 y1.toNat y2).1 237 0).toNat p0.1).1 237 0).toNat = (-1) then (some (0, wI p0.2 240 ((wI s 239 y1.toNat y2).1 237 0).toNat p0.1)) else (some (1, wI p0.2 240 ((wI s 239 y1.toNat y2).1 237 0).toNat p0.1)))))) else ((zf_Vs_takePlot Z m (wI s 239 y1.toNat y2)).bind fun p0 => (inR ((wI s 239 y1.toNat y2).1 237 0) 40 (inR ((wI p0.2 240 ((wI s 239 y1.toNat y2).1 237 0).toNat p0.1).1 237 0) 40 (if (wI p0.2 240 ((wI s 239 y1.toNat y2).1 237 0).toNat p0.1).1 240 ((wI p0.2 240 ((wI s 239 y1.toNat y2).1 237 0).toNat p0.1).1 237 0).toNat = (-1) then (some (0, wI p0.2 240 ((wI s 239 y1.toNat y2).1 237 0).toNat p0.1)) else (some (1, wI p0.2 240 ((wI s 239 y1.toNat y2).1 237 0).toNat p0.1)))))))))))) := rfl
set_option maxHeartbeats 1000000 in
set_option maxRecDepth 100000 in
theorem zf_Bk_readFrom_eq (Z : mZ) (m : Nat) (s : mS) : zf_Bk_readFrom Z m s = (zl_Bk_readFrom_L7 Z m m 0 (wI s 237 0 0)) := rfl
set_option maxHeartbeats 1000000 in
set_option maxRecDepth 100000 in
theorem zl_Bk_readFrom_L7_eq (Z : mZ) (m : Nat) (n : Nat) (x3 : Int) (s : mS) : zl_Bk_readFrom_L7 Z m (n + 1) x3 s = (if x3 < 940 then (if s.1 1 2 = 0 then (some (0, s)) else ((zf_Bk_readLine Z m s).bind fun p0 => (if p0.1 = 0 then (some (0, p0.2)) else ((zf_Tp_takeSign Z m 59 p0.2).bind fun p1 => (if p1.1 = 0 then (some (0, p1.2)) else (zl_Bk_readFrom_L7 Z m n (Z 0 x3 1) (wI p1.2 237 0 (Z 0 (p1.2.1 237 0) 1)))))))) else (some (0, s))) := rfl
set_option maxHeartbeats 1000000 in
set_option maxRecDepth 100000 in
theorem zf_Bk_liveAct_eq (Z : mZ) (m : Nat) (a1 : Int) (s : mS) : zf_Bk_liveAct Z m a1 s = (inR a1 40 (if s.1 238 a1.toNat = 0 then (inR a1 40 (inR a1 40 ((zf_St_lendHim_206_4 Z m (s.1 239 a1.toNat) (s.1 240 a1.toNat) s).bind fun p0 => (some (p0.1, p0.2))))) else (if s.1 238 a1.toNat = 1 then (inR a1 40 (inR a1 40 ((zf_St_layHim_206_4 Z m (s.1 239 a1.toNat) (s.1 240 a1.toNat) s).bind fun p0 => (some (p0.1, p0.2))))) else (if s.1 238 a1.toNat = 2 then (inR a1 40 (inR a1 40 ((zf_St_swapThem_206_4 Z m (s.1 239 a1.toNat) (s.1 240 a1.toNat) s).bind fun p0 => (some (p0.1, p0.2))))) else (if s.1 238 a1.toNat = 3 then (inR a1 40 ((zf_St_mendIt_206 Z m (s.1 239 a1.toNat) s).bind fun p0 => (some (p0.1, p0.2)))) else (inR a1 40 (if 400 < Z 0 (s.1 206 0) (s.1 239 a1.toNat) then (some (1, s)) else (inR a1 40 ((zf_St_passDays_206_4 Z m (s.1 239 a1.toNat) s).bind fun p0 => (some (0, p0.2))))))))))) := rfl
set_option maxHeartbeats 1000000 in
set_option maxRecDepth 100000 in
theorem zf_Bk_liveLine_eq (Z : mZ) (m : Nat) (a1 : Int) (s : mS) : zf_Bk_liveLine Z m a1 s = (if a1 < 0 then (some (0, s)) else (if a1 < s.1 237 0 then ((zf_Bk_liveAct Z m a1 s).bind fun p0 => (if p0.1 = 0 then (some (0, p0.2)) else (inR a1 40 (some (Z 0 (Z 2 10 (p0.2.1 238 a1.toNat)) p0.1, p0.2))))) else (some (0, s)))) := rfl
set_option maxHeartbeats 1000000 in
set_option maxRecDepth 100000 in
theorem zf_X_judge_eq (Z : mZ) (m : Nat) (s : mS) : zf_X_judge Z m s = (zl_X_judge_L4 Z m m 0 0 s) := rfl
set_option maxHeartbeats 1000000 in
set_option maxRecDepth 100000 in
theorem zl_X_judge_L4_eq (Z : mZ) (m : Nat) (n : Nat) (x1 : Int) (x2 : Int) (s : mS) : zl_X_judge_L4 Z m (n + 1) x1 x2 s = (if x2 < s.1 237 0 then (if x1 = 0 then ((zf_Bk_liveLine Z m x2 s).bind fun p0 => (if p0.1 = 0 then (zl_X_judge_L4 Z m n p0.1 (Z 0 x2 1) p0.2) else (zl_X_judge_L4 Z m n p0.1 x2 p0.2))) else (zl_X_judge_L49 Z m n x1 x2 s)) else (zl_X_judge_L49 Z m n x1 x2 s)) := rfl
set_option maxHeartbeats 1000000 in
set_option maxRecDepth 100000 in
theorem zl_X_judge_L49_eq (Z : mZ) (m : Nat) (n : Nat) (x1 : Int) (x2 : Int) (s : mS) : zl_X_judge_L49 Z m (n + 1) x1 x2 s = ((zf_St_bitsOf_206_4 Z m 3 (wI (wI (wI s 248 0 x1) 248 1 x2) 248 2 ((wI (wI s 248 0 x1) 248 1 x2).1 206 0))).bind fun p0 => (some (x2, wI (wI p0.2 248 3 p0.1) 0 18 1))) := rfl
set_option maxHeartbeats 1000000 in
set_option maxRecDepth 100000 in
theorem zf_X_book_eq (Z : mZ) (m : Nat) (a1 : Int) (s : mS) : zf_X_book Z m a1 s = (if a1 < 0 then (some ((-1000), s)) else (if 1 < a1 then (some ((-1000), s)) else ((zf_Tp_open Z m 400 s).bind fun p0 => ((zf_Bk_readFrom Z m p0.2).bind fun p1 => (if (wI p1.2 0 13 (p1.2.1 1 6)).1 0 13 = 0 then ((zf_St_copyOf_206_17 Z m (wI p1.2 0 13 (p1.2.1 1 6))).bind fun p2 => ((zf_X_judge Z m p2.2).bind fun p3 => (if a1 = 1 then (if 0 < p3.1 then ((zf_Ps_keep_100_17 Z m p3.2).bind fun p4 => ((zf_St_copyOf_17_206 Z m p4.2).bind fun p5 => (if p3.1 < p5.2.1 237 0 then (some (p3.1, p5.2)) else (some ((-1), p5.2))))) else (if p3.1 < p3.2.1 237 0 then (some (p3.1, p3.2)) else (some ((-1), p3.2)))) else (if p3.1 < p3.2.1 237 0 then (some (p3.1, p3.2)) else (some ((-1), p3.2)))))) else (some (Z 1 (-2) ((wI p1.2 0 13 (p1.2.1 1 6)).1 1 7), wI p1.2 0 13 (p1.2.1 1 6)))))))) := rfl
set_option maxHeartbeats 1000000 in
set_option maxRecDepth 100000 in
theorem zf_X_told_eq (Z : mZ) (m : Nat) (a1 : Int) (s : mS) : zf_X_told Z m a1 s = (if s.1 0 18 = 0 then (some ((-1), s)) else (if a1 < 0 then (some ((-1), s)) else (if a1 < 4 then (inR a1 4 (some (s.1 248 a1.toNat, s))) else (some ((-1), s))))) := rfl
set_option maxHeartbeats 1000000 in
set_option maxRecDepth 100000 in
theorem zf_Sn_beginsOne_eq (Z : mZ) (m : Nat) (q0 : Option Nat) (s : mS) : zf_Sn_beginsOne Z m q0 s = (if q0 = none then (some (0, s)) else (onS q0 fun t0 => (if gIn 1 t0 = true then ((zf_Je_ordinal Z m t0 s).bind fun p1 => (inR p1.1 24 (if swM p1.1.toNat = 4 then (some (1, p1.2)) else (if swM p1.1.toNat = 5 then (some (0, p1.2)) else (if swM p1.1.toNat = 6 then (some (0, p1.2)) else (if swM p1.1.toNat = 7 then (some (0, p1.2)) else (if swM p1.1.toNat = 8 then (some (0, p1.2)) else (if swM p1.1.toNat = 9 then (some (0, p1.2)) else (if swM p1.1.toNat = 10 then (some (0, p1.2)) else (if swM p1.1.toNat = 11 then (some (0, p1.2)) else (if swM p1.1.toNat = 12 then (some (0, p1.2)) else (if swM p1.1.toNat = 13 then (some (1, p1.2)) else (if swM p1.1.toNat = 14 then (some (1, p1.2)) else (if swM p1.1.toNat = 15 then (some (1, p1.2)) else (if swM p1.1.toNat = 16 then (some (1, p1.2)) else (if swM p1.1.toNat = 17 then (some (1, p1.2)) else (if swM p1.1.toNat = 18 then (some (1, p1.2)) else (if swM p1.1.toNat = 19 then (some (1, p1.2)) else (if swM p1.1.toNat = 20 then (some (1, p1.2)) else (if swM p1.1.toNat = 21 then (some (1, p1.2)) else (if swM p1.1.toNat = 22 then (some (1, p1.2)) else (some (0, p1.2))))))))))))))))))))))) else none))) := rfl
set_option maxHeartbeats 1000000 in
set_option maxRecDepth 100000 in
theorem zf_Sn_put_eq (Z : mZ) (m : Nat) (a1 : Int) (a2 : Int) (a3 : Int) (s : mS) : zf_Sn_put Z m a1 a2 a3 s = (if s.1 232 1 < 40 then (inR (s.1 232 1) 40 (inR ((wI s 233 (s.1 232 1).toNat a1).1 232 1) 40 (inR ((wI (wI s 233 (s.1 232 1).toNat a1) 234 ((wI s 233 (s.1 232 1).toNat a1).1 232 1).toNat a2).1 232 1) 40 (some (1, wI (wI (wI (wI s 233 (s.1 232 1).toNat a1) 234 ((wI s 233 (s.1 232 1).toNat a1).1 232 1).toNat a2) 235 ((wI (wI s 233 (s.1 232 1).toNat a1) 234 ((wI s 233 (s.1 232 1).toNat a1).1 232 1).toNat a2).1 232 1).toNat a3) 232 1 (Z 0 ((wI (wI (wI s 233 (s.1 232 1).toNat a1) 234 ((wI s 233 (s.1 232 1).toNat a1).1 232 1).toNat a2) 235 ((wI (wI s 233 (s.1 232 1).toNat a1) 234 ((wI s 233 (s.1 232 1).toNat a1).1 232 1).toNat a2).1 232 1).toNat a3).1 232 1) 1)))))) else (some (1, s))) := rfl
set_option maxHeartbeats 1000000 in
set_option maxRecDepth 100000 in
theorem zf_Sn_partOf_eq (Z : mZ) (m : Nat) (q0 : Option Nat) (s : mS) : zf_Sn_partOf Z m q0 s = (bsel (refOk q0 && refOk (some 1019)) (if q0 = (some 1019) then (some (4, s)) else (bsel (refOk q0 && refOk (some 1003)) (if q0 = (some 1003) then (some (5, s)) else (bsel (refOk q0 && refOk (some 1020)) (if q0 = (some 1020) then (some (6, s)) else (bsel (refOk q0 && refOk (some 1021)) (if q0 = (some 1021) then (some (7, s)) else (bsel (refOk q0 && refOk (some 1022)) (if q0 = (some 1022) then (some (8, s)) else (bsel (refOk q0 && refOk (some 1023)) (if q0 = (some 1023) then (some (9, s)) else (some (3, s))) none)) none)) none)) none)) none)) none) := rfl
set_option maxHeartbeats 1000000 in
set_option maxRecDepth 100000 in
theorem zf_Sn_howOf_eq (Z : mZ) (m : Nat) (q0 : Option Nat) (s : mS) : zf_Sn_howOf Z m q0 s = (bsel (refOk q0 && refOk (some 1015)) (if q0 = (some 1015) then (some (0, s)) else (bsel (refOk q0 && refOk (some 1016)) (if q0 = (some 1016) then (some (1, s)) else (bsel (refOk q0 && refOk (some 1017)) (if q0 = (some 1017) then (some (2, s)) else (some (3, s))) none)) none)) none) := rfl
set_option maxHeartbeats 1000000 in
set_option maxRecDepth 100000 in
theorem zf_Sn_readPlain_eq (Z : mZ) (m : Nat) (q1 : Option Nat) (s : mS) : zf_Sn_readPlain Z m q1 s = ((zf_Sn_partOf Z m q1 s).bind fun p0 => (if p0.1 = 3 then ((zf_Sn_howOf Z m q1 p0.2).bind fun p1 => ((zf_Sn_put Z m 3 0 p1.1 p1.2).bind fun p2 => (if p2.1 = 0 ∨ p2.1 = 1 then some (p2.1, p2.2) else none))) else (if p0.1 = 4 then (zl_Sn_readPlain_L35 Z m m p0.1 p0.2) else (if p0.1 = 5 then (zl_Sn_readPlain_L35 Z m m p0.1 p0.2) else (if p0.2.1 1 2 = 60 then ((zf_Tp_advance Z m p0.2).bind fun p1 => ((zf_Tp_takeNumber Z m 0 999 p1.2).bind fun p2 => (if p2.1 = (-1) then (some (0, p2.2)) else ((zf_Sn_put Z m p0.1 (p0.2.1 1 2) p2.1 p2.2).bind fun p3 => (if p3.1 = 0 then (some (0, p3.2)) else (some (1, p3.2))))))) else (if p0.2.1 1 2 = 61 then ((zf_Tp_advance Z m p0.2).bind fun p1 => ((zf_Tp_takeNumber Z m 0 999 p1.2).bind fun p2 => (if p2.1 = (-1) then (some (0, p2.2)) else ((zf_Sn_put Z m p0.1 (p0.2.1 1 2) p2.1 p2.2).bind fun p3 => (if p3.1 = 0 then (some (0, p3.2)) else (some (1, p3.2))))))) else (if p0.2.1 1 2 = 62 then ((zf_Tp_advance Z m p0.2).bind fun p1 => ((zf_Tp_takeNumber Z m 0 999 p1.2).bind fun p2 => (if p2.1 = (-1) then (some (0, p2.2)) else ((zf_Sn_put Z m p0.1 (p0.2.1 1 2) p2.1 p2.2).bind fun p3 => (if p3.1 = 0 then (some (0, p3.2)) else (some (1, p3.2))))))) else ((zf_Tp_fail Z m 1 p0.2).bind fun p1 => (if p1.1 = 0 ∨ p1.1 = 1 then some (p1.1, p1.2) else none))))))))) := rfl
set_option maxHeartbeats 1000000 in
set_option maxRecDepth 100000 in
theorem zl_Sn_readPlain_L35_eq (Z : mZ) (m : Nat) (n : Nat) (x4 : Int) (s : mS) : zl_Sn_readPlain_L35 Z m (n + 1) x4 s = (if x4 = 4 then ((zf_Vs_takeBox_4_1 Z m s).bind fun p0 => (if p0.1 = (-1) then (some (0, p0.2)) else ((zf_Sn_put Z m x4 0 p0.1 p0.2).bind fun p1 => (if p1.1 = 0 then (some (0, p1.2)) else (some (1, p1.2)))))) else ((zf_Vs_takeDead_4_1 Z m s).bind fun p0 => (if p0.1 = (-1) then (some (0, p0.2)) else ((zf_Sn_put Z m x4 0 p0.1 p0.2).bind fun p1 => (if p1.1 = 0 then (some (0, p1.2)) else (some (1, p1.2))))))) := rfl
set_option maxHeartbeats 1000000 in
set_option maxRecDepth 100000 in
theorem zf_Tp_isWord_1_1013_eq (Z : mZ) (m : Nat) (s : mS) : zf_Tp_isWord_1_1013 Z m s = (bsel (refOk (encW (s.1 1 3)) && refOk (some 1013)) (if (encW (s.1 1 3)) = (some 1013) then (some (1, s)) else (some (0, s))) none) := rfl
set_option maxHeartbeats 1000000 in
set_option maxRecDepth 100000 in
theorem zf_Tp_isWord_1_1012_eq (Z : mZ) (m : Nat) (s : mS) : zf_Tp_isWord_1_1012 Z m s = (bsel (refOk (encW (s.1 1 3)) && refOk (some 1012)) (if (encW (s.1 1 3)) = (some 1012) then (some (1, s)) else (some (0, s))) none) := rfl
set_option maxHeartbeats 1000000 in
set_option maxRecDepth 100000 in
theorem zf_Sn_readCond_eq (Z : mZ) (m : Nat) (d : Nat) (a3 : Int) (s : mS) : zf_Sn_readCond Z m (d + 1) a3 s = ((zf_Sn_readEach Z m d a3 s).bind fun p0 => (if p0.1 = 0 then (some (0, p0.2)) else (zl_Sn_readCond_L15 Z m d m a3 0 p0.2))) := rfl
set_option maxHeartbeats 1000000 in
set_option maxRecDepth 100000 in
theorem zl_Sn_readCond_L15_eq (Z : mZ) (m : Nat) (d : Nat) (n : Nat) (x3 : Int) (x4 : Int) (s : mS) : zl_Sn_readCond_L15 Z m d (n + 1) x3 x4 s = (if x4 < 20 then ((zf_Tp_isWord_1_1012 Z m s).bind fun p0 => (if p0.1 = 0 then (some (1, p0.2)) else ((zf_Tp_advance Z m p0.2).bind fun p1 => ((zf_Sn_readEach Z m d x3 p1.2).bind fun p2 => (if p2.1 = 0 then (some (0, p2.2)) else ((zf_Sn_put Z m 2 0 0 p2.2).bind fun p3 => (if p3.1 = 0 then (some (0, p3.2)) else (zl_Sn_readCond_L15 Z m d n x3 (Z 0 x4 1) p3.2)))))))) else (some (1, s))) := rfl
set_option maxHeartbeats 1000000 in
set_option maxRecDepth 100000 in
theorem zf_Sn_readEach_eq (Z : mZ) (m : Nat) (d : Nat) (a3 : Int) (s : mS) : zf_Sn_readEach Z m (d + 1) a3 s = ((zf_Sn_readOne Z m d a3 s).bind fun p0 => (if p0.1 = 0 then (some (0, p0.2)) else (zl_Sn_readEach_L15 Z m d m a3 0 p0.2))) := rfl
set_option maxHeartbeats 1000000 in
set_option maxRecDepth 100000 in
theorem zl_Sn_readEach_L15_eq (Z : mZ) (m : Nat) (d : Nat) (n : Nat) (x3 : Int) (x4 : Int) (s : mS) : zl_Sn_readEach_L15 Z m d (n + 1) x3 x4 s = (if x4 < 20 then ((zf_Tp_isWord_1_1013 Z m s).bind fun p0 => (if p0.1 = 0 then (some (1, p0.2)) else ((zf_Tp_advance Z m p0.2).bind fun p1 => ((zf_Sn_readOne Z m d x3 p1.2).bind fun p2 => (if p2.1 = 0 then (some (0, p2.2)) else ((zf_Sn_put Z m 1 0 0 p2.2).bind fun p3 => (if p3.1 = 0 then (some (0, p3.2)) else (zl_Sn_readEach_L15 Z m d n x3 (Z 0 x4 1) p3.2)))))))) else (some (1, s))) := rfl
set_option maxHeartbeats 1000000 in
set_option maxRecDepth 100000 in
theorem zf_Sn_readOne_eq (Z : mZ) (m : Nat) (d : Nat) (a3 : Int) (s : mS) : zf_Sn_readOne Z m (d + 1) a3 s = (if s.1 1 2 = 40 then (zl_Sn_readOne_L41 Z m d m a3 (encW (s.1 1 3)) 1 s) else ((zf_Sn_beginsOne Z m (encW (s.1 1 3)) s).bind fun p0 => (if p0.1 = 0 then ((zf_Tp_fail Z m 1 p0.2).bind fun p1 => (if p1.1 = 0 ∨ p1.1 = 1 then some (p1.1, p1.2) else none)) else (zl_Sn_readOne_L41 Z m d m a3 (encW (s.1 1 3)) 0 p0.2)))) := rfl
set_option maxHeartbeats 1000000 in
set_option maxRecDepth 100000 in
theorem zl_Sn_readOne_L41_eq (Z : mZ) (m : Nat) (d : Nat) (n : Nat) (x3 : Int) (q4 : Option Nat) (x5 : Int) (s : mS) : zl_Sn_readOne_L41 Z m d (n + 1) x3 q4 x5 s = (if s.1 232 0 < 20 then (if 8 < x3 then ((zf_Tp_fail Z m 4 s).bind fun p0 => (if p0.1 = 0 ∨ p0.1 = 1 then some (p0.1, p0.2) else none)) else ((zf_Tp_advance Z m (wI s 232 0 (Z 0 (s.1 232 0) 1))).bind fun p0 => (if x5 = 0 then (bsel (refOk q4 && refOk (some 1014)) (if q4 = (some 1014) then ((zf_Sn_readOne Z m d (Z 0 x3 1) p0.2).bind fun p1 => (if p1.1 = 0 then (some (0, p1.2)) else ((zf_Sn_put Z m 0 0 0 p1.2).bind fun p2 => (if p2.1 = 0 then (some (0, p2.2)) else (some (1, p2.2)))))) else ((zf_Sn_readPlain Z m q4 p0.2).bind fun p1 => (if p1.1 = 0 ∨ p1.1 = 1 then some (p1.1, p1.2) else none))) none) else ((zf_Sn_readCond Z m d (Z 0 x3 1) p0.2).bind fun p1 => (if p1.1 = 0 then (some (0, p1.2)) else ((zf_Tp_takeSign Z m 41 p1.2).bind fun p2 => (if p2.1 = 0 then (some (0, p2.2)) else (some (1, p2.2))))))))) else ((zf_Tp_fail Z m 4 s).bind fun p0 => (if p0.1 = 0 ∨ p0.1 = 1 then some (p0.1, p0.2) else none))) := rfl
set_option maxHeartbeats 1000000 in
set_option maxRecDepth 100000 in
theorem zf_Sn_copyOf_30_232_eq (Z : mZ) (m : Nat) (s : mS) : zf_Sn_copyOf_30_232 Z m s = (some (0, cpyI (cpyI (cpyI (wI (wI s 30 0 (s.1 232 0)) 30 1 ((wI s 30 0 (s.1 232 0)).1 232 1)) 233 0 31 0 40) 234 0 32 0 40) 235 0 33 0 40)) := rfl
set_option maxHeartbeats 1000000 in
set_option maxRecDepth 100000 in
theorem zf_Sn_copyOf_63_30_eq (Z : mZ) (m : Nat) (s : mS) : zf_Sn_copyOf_63_30 Z m s = (some (0, cpyI (cpyI (cpyI (wI (wI s 63 0 (s.1 30 0)) 63 1 ((wI s 63 0 (s.1 30 0)).1 30 1)) 31 0 64 0 40) 32 0 65 0 40) 33 0 66 0 40)) := rfl
set_option maxHeartbeats 1000000 in
set_option maxRecDepth 100000 in
theorem zf_Sn_copyOf_95_30_eq (Z : mZ) (m : Nat) (s : mS) : zf_Sn_copyOf_95_30 Z m s = (some (0, cpyI (cpyI (cpyI (wI (wI s 95 0 (s.1 30 0)) 95 1 ((wI s 95 0 (s.1 30 0)).1 30 1)) 31 0 96 0 40) 32 0 97 0 40) 33 0 98 0 40)) := rfl
set_option maxHeartbeats 1000000 in
set_option maxRecDepth 100000 in
theorem zf_Sn_copyOf_30_63_eq (Z : mZ) (m : Nat) (s : mS) : zf_Sn_copyOf_30_63 Z m s = (some (0, cpyI (cpyI (cpyI (wI (wI s 30 0 (s.1 63 0)) 30 1 ((wI s 30 0 (s.1 63 0)).1 63 1)) 64 0 31 0 40) 65 0 32 0 40) 66 0 33 0 40)) := rfl
set_option maxHeartbeats 1000000 in
set_option maxRecDepth 100000 in
theorem zf_Sn_copyOf_30_95_eq (Z : mZ) (m : Nat) (s : mS) : zf_Sn_copyOf_30_95 Z m s = (some (0, cpyI (cpyI (cpyI (wI (wI s 30 0 (s.1 95 0)) 30 1 ((wI s 30 0 (s.1 95 0)).1 95 1)) 96 0 31 0 40) 97 0 32 0 40) 98 0 33 0 40)) := rfl
set_option maxHeartbeats 1000000 in
set_option maxRecDepth 100000 in
theorem zf_X_sentence_eq (Z : mZ) (m : Nat) (s : mS) : zf_X_sentence Z m s = ((zf_Tp_open Z m 200 s).bind fun p0 => ((zf_Sn_wipe_232 Z m p0.2).bind fun p1 => ((zf_Sn_readCond Z m 64 1 p1.2).bind fun p2 => (if p2.1 = 0 then (if (wI p2.2 0 13 (p2.2.1 1 6)).1 0 13 = 0 then ((zf_Sn_copyOf_30_232 Z m (wI p2.2 0 13 (p2.2.1 1 6))).bind fun p3 => (some (p3.2.1 30 0, p3.2))) else (some (Z 1 (-1) ((wI p2.2 0 13 (p2.2.1 1 6)).1 1 7), wI p2.2 0 13 (p2.2.1 1 6)))) else (if p2.2.1 1 2 = 0 then (if (wI p2.2 0 13 (p2.2.1 1 6)).1 0 13 = 0 then ((zf_Sn_copyOf_30_232 Z m (wI p2.2 0 13 (p2.2.1 1 6))).bind fun p3 => (some (p3.2.1 30 0, p3.2))) else (some (Z 1 (-1) ((wI p2.2 0 13 (p2.2.1 1 6)).1 1 7), wI p2.2 0 13 (p2.2.1 1 6)))) else ((zf_Tp_fail Z m 1 p2.2).bind fun p3 => (if (wI p3.2 0 13 (p3.2.1 1 6)).1 0 13 = 0 then ((zf_Sn_copyOf_30_232 Z m (wI p3.2 0 13 (p3.2.1 1 6))).bind fun p4 => (some (p4.2.1 30 0, p4.2))) else (some (Z 1 (-1) ((wI p3.2 0 13 (p3.2.1 1 6)).1 1 7), wI p3.2 0 13 (p3.2.1 1 6)))))))))) := rfl
set_option maxHeartbeats 1000000 in
set_option maxRecDepth 100000 in
theorem zf_Sn_compares_eq (Z : mZ) (m : Nat) (a1 : Int) (a2 : Int) (s : mS) : zf_Sn_compares Z m a1 a2 s = (inR a2 40 (if s.1 32 a2.toNat = 60 then (inR a2 40 (if a1 < s.1 33 a2.toNat then (some (1, s)) else (some (0, s)))) else (inR a2 40 (if s.1 32 a2.toNat = 61 then (inR a2 40 (if a1 = s.1 33 a2.toNat then (some (1, s)) else (some (0, s)))) else (inR a2 40 (if s.1 33 a2.toNat < a1 then (some (1, s)) else (some (0, s)))))))) := rfl
set_option maxHeartbeats 1000000 in
set_option maxRecDepth 100000 in
theorem zf_Sn_isSo_eq (Z : mZ) (m : Nat) (a1 : Int) (a2 : Int) (s : mS) : zf_Sn_isSo Z m a1 a2 s = (inR a1 40 (if s.1 31 a1.toNat = 3 then (inR a2 12 (inR a1 40 (if s.1 25 a2.toNat = s.1 33 a1.toNat then (some (1, s)) else (some (0, s))))) else (if s.1 31 a1.toNat = 4 then (inR a2 12 (inR a1 40 (if s.1 26 a2.toNat = s.1 33 a1.toNat then (some (1, s)) else (some (0, s))))) else (if s.1 31 a1.toNat = 5 then (inR a1 40 ((zf_Vs_areKin_4 Z m a2 (s.1 33 a1.toNat) s).bind fun p0 => (if p0.1 = 0 ∨ p0.1 = 1 then some (p0.1, p0.2) else none))) else (if s.1 31 a1.toNat = 6 then (inR a2 12 ((zf_Sn_compares Z m (s.1 11 a2.toNat) a1 s).bind fun p0 => (if p0.1 = 0 ∨ p0.1 = 1 then some (p0.1, p0.2) else none))) else (if s.1 31 a1.toNat = 7 then (inR a2 12 ((zf_Sn_compares Z m (s.1 28 a2.toNat) a1 s).bind fun p0 => (if p0.1 = 0 ∨ p0.1 = 1 then some (p0.1, p0.2) else none))) else (if s.1 31 a1.toNat = 8 then (inR a2 12 ((zf_Sn_compares Z m (s.1 29 a2.toNat) a1 s).bind fun p0 => (if p0.1 = 0 ∨ p0.1 = 1 then some (p0.1, p0.2) else none))) else ((zf_Sn_compares Z m a2 a1 s).bind fun p0 => (if p0.1 = 0 ∨ p0.1 = 1 then some (p0.1, p0.2) else none))))))))) := rfl
set_option maxHeartbeats 1000000 in
set_option maxRecDepth 100000 in
theorem zf_Sn_thoseBy_eq (Z : mZ) (m : Nat) (a1 : Int) (s : mS) : zf_Sn_thoseBy Z m a1 s = (zl_Sn_thoseBy_L6 Z m m a1 0 0 s) := rfl
set_option maxHeartbeats 1000000 in
set_option maxRecDepth 100000 in
theorem zl_Sn_thoseBy_L6_eq (Z : mZ) (m : Nat) (n : Nat) (x1 : Int) (x4 : Int) (x5 : Int) (s : mS) : zl_Sn_thoseBy_L6 Z m (n + 1) x1 x4 x5 s = (if x5 < s.1 4 2 then ((zf_Sn_isSo Z m x1 x5 s).bind fun p0 => (if p0.1 = 0 then (zl_Sn_thoseBy_L6 Z m n x1 x4 (Z 0 x5 1) p0.2) else (zl_Sn_thoseBy_L6 Z m n x1 (Z 4 x4 (Z 6 1 x5)) (Z 0 x5 1) p0.2))) else (some (x4, s))) := rfl
set_option maxHeartbeats 1000000 in
set_option maxRecDepth 100000 in
theorem zf_Sn_saidOf_eq (Z : mZ) (m : Nat) (s : mS) : zf_Sn_saidOf Z m s = (zl_Sn_saidOf_L5 Z m m 0 0 s) := rfl
set_option maxHeartbeats 1000000 in
set_option maxRecDepth 100000 in
theorem zl_Sn_saidOf_L5_eq (Z : mZ) (m : Nat) (n : Nat) (x3 : Int) (x4 : Int) (s : mS) : zl_Sn_saidOf_L5 Z m (n + 1) x3 x4 s = (if x4 < s.1 30 1 then (inR x4 40 (if s.1 31 x4.toNat = 0 then (if 0 < x3 then (inR (Z 1 x3 1) 40 ((zf_Vs_allDead Z m s).bind fun p0 => (inR (Z 1 x3 1) 40 (zl_Sn_saidOf_L5 Z m n x3 (Z 0 x4 1) (wI p0.2 34 (Z 1 x3 1).toNat (Z 5 (s.1 34 (Z 1 x3 1).toNat) p0.1)))))) else (zl_Sn_saidOf_L46 Z m n x3 x4 s)) else (zl_Sn_saidOf_L46 Z m n x3 x4 s))) else (if 0 < x3 then (some (s.1 34 0, s)) else (some (0, s)))) := rfl
set_option maxHeartbeats 1000000 in
set_option maxRecDepth 100000 in
theorem zl_Sn_saidOf_L46_eq (Z : mZ) (m : Nat) (n : Nat) (x3 : Int) (x4 : Int) (s : mS) : zl_Sn_saidOf_L46 Z m (n + 1) x3 x4 s = (inR x4 40 (if s.1 31 x4.toNat = 1 then (if 1 < x3 then (inR (Z 1 (Z 0 x3 (-1)) 1) 40 (inR (Z 0 x3 (-1)) 40 (inR (Z 1 (Z 0 x3 (-1)) 1) 40 (zl_Sn_saidOf_L5 Z m n (Z 0 x3 (-1)) (Z 0 x4 1) (wI s 34 (Z 1 (Z 0 x3 (-1)) 1).toNat (Z 3 (s.1 34 (Z 1 (Z 0 x3 (-1)) 1).toNat) (s.1 34 (Z 0 x3 (-1)).toNat))))))) else (zl_Sn_saidOf_L85 Z m n x3 x4 s)) else (zl_Sn_saidOf_L85 Z m n x3 x4 s))) := rfl
set_option maxHeartbeats 1000000 in
set_option maxRecDepth 100000 in
theorem zl_Sn_saidOf_L85_eq (Z : mZ) (m : Nat) (n : Nat) (x3 : Int) (x4 : Int) (s : mS) : zl_Sn_saidOf_L85 Z m (n + 1) x3 x4 s = (inR x4 40 (if s.1 31 x4.toNat = 2 then (if 1 < x3 then (inR (Z 1 (Z 0 x3 (-1)) 1) 40 (inR (Z 0 x3 (-1)) 40 (inR (Z 1 (Z 0 x3 (-1)) 1) 40 (zl_Sn_saidOf_L5 Z m n (Z 0 x3 (-1)) (Z 0 x4 1) (wI s 34 (Z 1 (Z 0 x3 (-1)) 1).toNat (Z 4 (s.1 34 (Z 1 (Z 0 x3 (-1)) 1).toNat) (s.1 34 (Z 0 x3 (-1)).toNat))))))) else (inR x4 40 (if 2 < s.1 31 x4.toNat then ((zf_Sn_thoseBy Z m x4 s).bind fun p0 => (inR x3 40 (zl_Sn_saidOf_L5 Z m n (Z 0 x3 1) (Z 0 x4 1) (wI p0.2 34 x3.toNat p0.1)))) else (zl_Sn_saidOf_L5 Z m n x3 (Z 0 x4 1) s)))) else (inR x4 40 (if 2 < s.1 31 x4.toNat then ((zf_Sn_thoseBy Z m x4 s).bind fun p0 => (inR x3 40 (zl_Sn_saidOf_L5 Z m n (Z 0 x3 1) (Z 0 x4 1) (wI p0.2 34 x3.toNat p0.1)))) else (zl_Sn_saidOf_L5 Z m n x3 (Z 0 x4 1) s))))) := rfl
set_option maxHeartbeats 1000000 in
set_option maxRecDepth 100000 in
theorem zf_X_said_eq (Z : mZ) (m : Nat) (a1 : Int) (s : mS) : zf_X_said Z m a1 s = (if s.1 30 0 = 0 then (some ((-1), s)) else (if a1 < (-1) then (some ((-1), s)) else ((zf_Sn_saidOf Z m s).bind fun p0 => (if a1 = (-1) then ((zf_Ji_bitCount Z m p0.1 p0.2).bind fun p1 => (some (p1.1, p1.2))) else (zl_X_said_L60 Z m m a1 p0.1 0 0 p0.2))))) := rfl
set_option maxHeartbeats 1000000 in
set_option maxRecDepth 100000 in
theorem zl_X_said_L60_eq (Z : mZ) (m : Nat) (n : Nat) (x1 : Int) (x2 : Int) (x3 : Int) (x4 : Int) (s : mS) : zl_X_said_L60 Z m (n + 1) x1 x2 x3 x4 s = (if x4 < 12 then (if Z 3 (Z 7 x2 x4) 1 = 0 then (zl_X_said_L60 Z m n x1 x2 x3 (Z 0 x4 1) s) else (if x3 = x1 then (some (x4, s)) else (zl_X_said_L60 Z m n x1 x2 (Z 0 x3 1) (Z 0 x4 1) s))) else (some ((-1), s))) := rfl
set_option maxHeartbeats 1000000 in
set_option maxRecDepth 100000 in
theorem zf_Wd_copyOf_36_3_eq (Z : mZ) (m : Nat) (s : mS) : zf_Wd_copyOf_36_3 Z m s = ((zf_Vs_copyOf_37_4 Z m s).bind fun p0 => ((zf_St_copyOf_50_17 Z m p0.2).bind fun p1 => ((zf_Sn_copyOf_63_30 Z m p1.2).bind fun p2 => (some (0, p2.2))))) := rfl
set_option maxHeartbeats 1000000 in
set_option maxRecDepth 100000 in
theorem zf_Wd_copyOf_68_3_eq (Z : mZ) (m : Nat) (s : mS) : zf_Wd_copyOf_68_3 Z m s = ((zf_Vs_copyOf_69_4 Z m s).bind fun p0 => ((zf_St_copyOf_82_17 Z m p0.2).bind fun p1 => ((zf_Sn_copyOf_95_30 Z m p1.2).bind fun p2 => (some (0, p2.2))))) := rfl
set_option maxHeartbeats 1000000 in
set_option maxRecDepth 100000 in
theorem zf_Wd_copyOf_3_36_eq (Z : mZ) (m : Nat) (s : mS) : zf_Wd_copyOf_3_36 Z m s = ((zf_Vs_copyOf_4_37 Z m s).bind fun p0 => ((zf_St_copyOf_17_50 Z m p0.2).bind fun p1 => ((zf_Sn_copyOf_30_63 Z m p1.2).bind fun p2 => (some (0, p2.2))))) := rfl
set_option maxHeartbeats 1000000 in
set_option maxRecDepth 100000 in
theorem zf_Wd_copyOf_3_68_eq (Z : mZ) (m : Nat) (s : mS) : zf_Wd_copyOf_3_68 Z m s = ((zf_Vs_copyOf_4_69 Z m s).bind fun p0 => ((zf_St_copyOf_17_82 Z m p0.2).bind fun p1 => ((zf_Sn_copyOf_30_95 Z m p1.2).bind fun p2 => (some (0, p2.2))))) := rfl
set_option maxHeartbeats 1000000 in
set_option maxRecDepth 100000 in
theorem zf_X_image_eq (Z : mZ) (m : Nat) (a1 : Int) (s : mS) : zf_X_image Z m a1 s = (if a1 < 0 then (some (0, s)) else (if a1 < 2 then (inR a1 2 (zl_X_image_L17 Z m m a1 (R0f 35 a1.toNat) s)) else (some (0, s)))) := rfl
set_option maxHeartbeats 1000000 in
set_option maxRecDepth 100000 in
theorem zl_X_image_L17_eq0 (Z : mZ) (m : Nat) (n : Nat) (x1 : Int) (s : mS) : zl_X_image_L17 Z m (n + 1) x1 (some 36) s = ((zf_Wd_copyOf_36_3 Z m s).bind fun p0 => (inR x1 2 (zl_X_image_L30 Z m n (R0f 35 x1.toNat) p0.2))) := rfl
set_option maxHeartbeats 1000000 in
set_option maxRecDepth 100000 in
theorem zl_X_image_L17_eq1 (Z : mZ) (m : Nat) (n : Nat) (x1 : Int) (s : mS) : zl_X_image_L17 Z m (n + 1) x1 (some 68) s = ((zf_Wd_copyOf_68_3 Z m s).bind fun p0 => (inR x1 2 (zl_X_image_L30 Z m n (R0f 35 x1.toNat) p0.2))) := rfl
set_option maxHeartbeats 1000000 in
set_option maxRecDepth 100000 in
theorem zl_X_image_L30_eq0 (Z : mZ) (m : Nat) (n : Nat) (s : mS) : zl_X_image_L30 Z m (n + 1) (some 36) s = (some (1, wI s 36 3 1)) := rfl
set_option maxHeartbeats 1000000 in
set_option maxRecDepth 100000 in
theorem zl_X_image_L30_eq1 (Z : mZ) (m : Nat) (n : Nat) (s : mS) : zl_X_image_L30 Z m (n + 1) (some 68) s = (some (1, wI s 68 3 1)) := rfl
set_option maxHeartbeats 1000000 in
set_option maxRecDepth 100000 in
theorem zf_X_restore_eq (Z : mZ) (m : Nat) (a1 : Int) (s : mS) : zf_X_restore Z m a1 s = (if a1 < 0 then (some (0, s)) else (if a1 < 2 then (inR a1 2 (zl_X_restore_L15 Z m m a1 (R0f 35 a1.toNat) s)) else (some (0, s)))) := rfl
set_option maxHeartbeats 1000000 in
set_option maxRecDepth 100000 in
theorem zl_X_restore_L15_eq0 (Z : mZ) (m : Nat) (n : Nat) (x1 : Int) (s : mS) : zl_X_restore_L15 Z m (n + 1) x1 (some 36) s = (if s.1 36 3 = 0 then (some (0, s)) else (inR x1 2 (zl_X_restore_L33 Z m n (R0f 35 x1.toNat) s))) := rfl
set_option maxHeartbeats 1000000 in
set_option maxRecDepth 100000 in
theorem zl_X_restore_L15_eq1 (Z : mZ) (m : Nat) (n : Nat) (x1 : Int) (s : mS) : zl_X_restore_L15 Z m (n + 1) x1 (some 68) s = (if s.1 68 3 = 0 then (some (0, s)) else (inR x1 2 (zl_X_restore_L33 Z m n (R0f 35 x1.toNat) s))) := rfl
set_option maxHeartbeats 1000000 in
set_option maxRecDepth 100000 in
theorem zl_X_restore_L33_eq0 (Z : mZ) (m : Nat) (n : Nat) (s : mS) : zl_X_restore_L33 Z m (n + 1) (some 36) s = ((zf_Wd_copyOf_3_36 Z m s).bind fun p0 => ((zf_Ps_forget Z m p0.2).bind fun p1 => (some (1, p1.2)))) := rfl
set_option maxHeartbeats 1000000 in
set_option maxRecDepth 100000 in
theorem zl_X_restore_L33_eq1 (Z : mZ) (m : Nat) (n : Nat) (s : mS) : zl_X_restore_L33 Z m (n + 1) (some 68) s = ((zf_Wd_copyOf_3_68 Z m s).bind fun p0 => ((zf_Ps_forget Z m p0.2).bind fun p1 => (some (1, p1.2)))) := rfl
set_option maxHeartbeats 1000000 in
set_option maxRecDepth 100000 in
theorem zf_X_count_eq (Z : mZ) (m : Nat) (a1 : Int) (s : mS) : zf_X_count Z m a1 s = (if a1 = 0 then (some (s.1 4 0, s)) else (if a1 = 1 then (some (s.1 4 1, s)) else (if a1 = 2 then (some (s.1 4 2, s)) else (if a1 = 3 then (some (s.1 4 3, s)) else (if a1 = 4 then (some (s.1 4 4, s)) else (if a1 = 5 then (some (s.1 4 5, s)) else (if a1 = 6 then (some (s.1 1 1, s)) else (some ((-1), s))))))))) := rfl
set_option maxHeartbeats 1000000 in
set_option maxRecDepth 100000 in
theorem zf_X_dead_eq (Z : mZ) (m : Nat) (a1 : Int) (a2 : Int) (s : mS) : zf_X_dead Z m a1 a2 s = ((zf_X_isDead Z m a1 s).bind fun p0 => (if p0.1 = 0 then (zl_X_dead_L8 Z m m p0.2) else (if a2 = 0 then (inR a1 12 (some (p0.2.1 11 a1.toNat, p0.2))) else (if a2 = 1 then (inR a1 12 (some (p0.2.1 25 a1.toNat, p0.2))) else (if a2 = 2 then (inR a1 12 (some (p0.2.1 26 a1.toNat, p0.2))) else (if a2 = 3 then (inR a1 12 (some (p0.2.1 27 a1.toNat, p0.2))) else (if a2 = 4 then (inR a1 12 (some (p0.2.1 28 a1.toNat, p0.2))) else (if a2 = 5 then (inR a1 12 (some (p0.2.1 29 a1.toNat, p0.2))) else (if a2 = 6 then (inR a1 12 (some (p0.2.1 13 a1.toNat, p0.2))) else (if a2 = 7 then (inR a1 12 (some (p0.2.1 14 a1.toNat, p0.2))) else (zl_X_dead_L146 Z m m p0.2))))))))))) := rfl
set_option maxHeartbeats 1000000 in
set_option maxRecDepth 100000 in
theorem zl_X_dead_L8_eq (Z : mZ) (m : Nat) (n : Nat) (s : mS) : zl_X_dead_L8 Z m (n + 1) s = none := rfl
