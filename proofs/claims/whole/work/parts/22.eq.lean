/-! ===== written by gen_fun.py: do not edit ===== -/
set_option maxRecDepth 100000 in
set_option maxHeartbeats 1000000 in
theorem f_St_copyOf_141_17_eq (m : Nat) (s : mS) : f_St_copyOf_141_17 m s = some (0, cpyI (cpyI (cpyI (cpyI (cpyI (cpyI (cpyI (cpyI (cpyI (cpyI (cpyI (cpyI (wI s 141 0 (s.1 17 0)) 18 0 142 0 9) 19 0 143 0 9) 20 0 144 0 9) 21 0 145 0 36) 22 0 146 0 5) 23 0 147 0 5) 24 0 148 0 5) 25 0 149 0 12) 26 0 150 0 12) 27 0 151 0 12) 28 0 152 0 12) 29 0 153 0 12) := rfl
set_option maxRecDepth 100000 in
set_option maxHeartbeats 1000000 in
theorem f_St_copyOf_154_17_eq (m : Nat) (s : mS) : f_St_copyOf_154_17 m s = some (0, cpyI (cpyI (cpyI (cpyI (cpyI (cpyI (cpyI (cpyI (cpyI (cpyI (cpyI (cpyI (wI s 154 0 (s.1 17 0)) 18 0 155 0 9) 19 0 156 0 9) 20 0 157 0 9) 21 0 158 0 36) 22 0 159 0 5) 23 0 160 0 5) 24 0 161 0 5) 25 0 162 0 12) 26 0 163 0 12) 27 0 164 0 12) 28 0 165 0 12) 29 0 166 0 12) := rfl
set_option maxRecDepth 100000 in
set_option maxHeartbeats 1000000 in
theorem f_St_copyOf_167_17_eq (m : Nat) (s : mS) : f_St_copyOf_167_17 m s = some (0, cpyI (cpyI (cpyI (cpyI (cpyI (cpyI (cpyI (cpyI (cpyI (cpyI (cpyI (cpyI (wI s 167 0 (s.1 17 0)) 18 0 168 0 9) 19 0 169 0 9) 20 0 170 0 9) 21 0 171 0 36) 22 0 172 0 5) 23 0 173 0 5) 24 0 174 0 5) 25 0 175 0 12) 26 0 176 0 12) 27 0 177 0 12) 28 0 178 0 12) 29 0 179 0 12) := rfl
set_option maxRecDepth 100000 in
set_option maxHeartbeats 1000000 in
theorem f_St_copyOf_180_17_eq (m : Nat) (s : mS) : f_St_copyOf_180_17 m s = some (0, cpyI (cpyI (cpyI (cpyI (cpyI (cpyI (cpyI (cpyI (cpyI (cpyI (cpyI (cpyI (wI s 180 0 (s.1 17 0)) 18 0 181 0 9) 19 0 182 0 9) 20 0 183 0 9) 21 0 184 0 36) 22 0 185 0 5) 23 0 186 0 5) 24 0 187 0 5) 25 0 188 0 12) 26 0 189 0 12) 27 0 190 0 12) 28 0 191 0 12) 29 0 192 0 12) := rfl
set_option maxRecDepth 100000 in
set_option maxHeartbeats 1000000 in
theorem f_St_copyOf_193_17_eq (m : Nat) (s : mS) : f_St_copyOf_193_17 m s = some (0, cpyI (cpyI (cpyI (cpyI (cpyI (cpyI (cpyI (cpyI (cpyI (cpyI (cpyI (cpyI (wI s 193 0 (s.1 17 0)) 18 0 194 0 9) 19 0 195 0 9) 20 0 196 0 9) 21 0 197 0 36) 22 0 198 0 5) 23 0 199 0 5) 24 0 200 0 5) 25 0 201 0 12) 26 0 202 0 12) 27 0 203 0 12) 28 0 204 0 12) 29 0 205 0 12) := rfl
set_option maxRecDepth 100000 in
set_option maxHeartbeats 1000000 in
theorem f_St_copyOf_17_206_eq (m : Nat) (s : mS) : f_St_copyOf_17_206 m s = some (0, cpyI (cpyI (cpyI (cpyI (cpyI (cpyI (cpyI (cpyI (cpyI (cpyI (cpyI (cpyI (wI s 17 0 (s.1 206 0)) 207 0 18 0 9) 208 0 19 0 9) 209 0 20 0 9) 210 0 21 0 36) 211 0 22 0 5) 212 0 23 0 5) 213 0 24 0 5) 214 0 25 0 12) 215 0 26 0 12) 216 0 27 0 12) 217 0 28 0 12) 218 0 29 0 12) := rfl
set_option maxRecDepth 100000 in
set_option maxHeartbeats 1000000 in
theorem f_St_copyOf_50_17_eq (m : Nat) (s : mS) : f_St_copyOf_50_17 m s = some (0, cpyI (cpyI (cpyI (cpyI (cpyI (cpyI (cpyI (cpyI (cpyI (cpyI (cpyI (cpyI (wI s 50 0 (s.1 17 0)) 18 0 51 0 9) 19 0 52 0 9) 20 0 53 0 9) 21 0 54 0 36) 22 0 55 0 5) 23 0 56 0 5) 24 0 57 0 5) 25 0 58 0 12) 26 0 59 0 12) 27 0 60 0 12) 28 0 61 0 12) 29 0 62 0 12) := rfl
set_option maxRecDepth 100000 in
set_option maxHeartbeats 1000000 in
theorem f_St_copyOf_82_17_eq (m : Nat) (s : mS) : f_St_copyOf_82_17 m s = some (0, cpyI (cpyI (cpyI (cpyI (cpyI (cpyI (cpyI (cpyI (cpyI (cpyI (cpyI (cpyI (wI s 82 0 (s.1 17 0)) 18 0 83 0 9) 19 0 84 0 9) 20 0 85 0 9) 21 0 86 0 36) 22 0 87 0 5) 23 0 88 0 5) 24 0 89 0 5) 25 0 90 0 12) 26 0 91 0 12) 27 0 92 0 12) 28 0 93 0 12) 29 0 94 0 12) := rfl
set_option maxRecDepth 100000 in
set_option maxHeartbeats 1000000 in
theorem f_St_copyOf_17_50_eq (m : Nat) (s : mS) : f_St_copyOf_17_50 m s = some (0, cpyI (cpyI (cpyI (cpyI (cpyI (cpyI (cpyI (cpyI (cpyI (cpyI (cpyI (cpyI (wI s 17 0 (s.1 50 0)) 51 0 18 0 9) 52 0 19 0 9) 53 0 20 0 9) 54 0 21 0 36) 55 0 22 0 5) 56 0 23 0 5) 57 0 24 0 5) 58 0 25 0 12) 59 0 26 0 12) 60 0 27 0 12) 61 0 28 0 12) 62 0 29 0 12) := rfl
set_option maxRecDepth 100000 in
set_option maxHeartbeats 1000000 in
theorem f_St_copyOf_17_82_eq (m : Nat) (s : mS) : f_St_copyOf_17_82 m s = some (0, cpyI (cpyI (cpyI (cpyI (cpyI (cpyI (cpyI (cpyI (cpyI (cpyI (cpyI (cpyI (wI s 17 0 (s.1 82 0)) 83 0 18 0 9) 84 0 19 0 9) 85 0 20 0 9) 86 0 21 0 36) 87 0 22 0 5) 88 0 23 0 5) 89 0 24 0 5) 90 0 25 0 12) 91 0 26 0 12) 92 0 27 0 12) 93 0 28 0 12) 94 0 29 0 12) := rfl
set_option maxRecDepth 100000 in
set_option maxHeartbeats 1000000 in
theorem f_St_whyNotLent_17_4_eq (m : Nat) (a1 : Int) (a2 : Int) (s : mS) : f_St_whyNotLent_17_4 m a1 a2 s = (inR a1 12 (if s.1 25 a1.toNat = 1 then ((f_St_boxFree_17 m a2 s).bind fun p0 => (if p0.1 = 0 then some (2, p0.2) else (inR a1 12 (inR a2 9 (if p0.2.1 6 a2.toNat < p0.2.1 11 a1.toNat then some (3, p0.2) else (inR a2 9 (inR a2 9 (if p0.2.1 18 a2.toNat < p0.2.1 7 a2.toNat then some (0, p0.2) else some (4, p0.2))))))))) else some (1, s))) := rfl
set_option maxRecDepth 100000 in
set_option maxHeartbeats 1000000 in
theorem f_St_whyNotLent_206_4_eq (m : Nat) (a1 : Int) (a2 : Int) (s : mS) : f_St_whyNotLent_206_4 m a1 a2 s = (inR a1 12 (if s.1 214 a1.toNat = 1 then ((f_St_boxFree_206 m a2 s).bind fun p0 => (if p0.1 = 0 then some (2, p0.2) else (inR a1 12 (inR a2 9 (if p0.2.1 6 a2.toNat < p0.2.1 11 a1.toNat then some (3, p0.2) else (inR a2 9 (inR a2 9 (if p0.2.1 207 a2.toNat < p0.2.1 7 a2.toNat then some (0, p0.2) else some (4, p0.2))))))))) else some (1, s))) := rfl
set_option maxRecDepth 100000 in
set_option maxHeartbeats 1000000 in
theorem f_St_lendHim_17_4_eq (m : Nat) (a1 : Int) (a2 : Int) (s : mS) : f_St_lendHim_17_4 m a1 a2 s = ((f_St_whyNotLent_17_4 m a1 a2 s).bind fun p0 => (if p0.1 = 0 then (inR a1 12 (inR a1 12 (inR a2 9 (inR a2 9 (inR a2 9 (l_St_lendHim_17_4_L51 m m a1 a2 3 (wI (wI (wI (wI p0.2 25 a1.toNat 2) 26 a1.toNat a2) 19 a2.toNat a1) 18 a2.toNat (w32 (((wI (wI (wI p0.2 25 a1.toNat 2) 26 a1.toNat a2) 19 a2.toNat a1).1 18 a2.toNat) + 1))))))))) else some (p0.1, p0.2))) := rfl
set_option maxRecDepth 100000 in
set_option maxHeartbeats 1000000 in
theorem l_St_lendHim_17_4_L51_eq (m : Nat) (n : Nat) (x1 : Int) (x2 : Int) (x5 : Int) (s : mS) : l_St_lendHim_17_4_L51 m (n + 1) x1 x2 x5 s = (if 0 < x5 then (inR (w32 ((w32 ((w32 (x2 * 4)) + x5)) - 1)) 36 (inR (w32 ((w32 (x2 * 4)) + x5)) 36 (l_St_lendHim_17_4_L51 m n x1 x2 (w32 (x5 + (-1))) (wI s 21 (w32 ((w32 (x2 * 4)) + x5)).toNat (s.1 21 (w32 ((w32 ((w32 (x2 * 4)) + x5)) - 1)).toNat))))) else (inR (w32 (x2 * 4)) 36 some (0, wI s 21 (w32 (x2 * 4)).toNat x1))) := rfl
set_option maxRecDepth 100000 in
set_option maxHeartbeats 1000000 in
theorem f_St_lendHim_206_4_eq (m : Nat) (a1 : Int) (a2 : Int) (s : mS) : f_St_lendHim_206_4 m a1 a2 s = ((f_St_whyNotLent_206_4 m a1 a2 s).bind fun p0 => (if p0.1 = 0 then (inR a1 12 (inR a1 12 (inR a2 9 (inR a2 9 (inR a2 9 (l_St_lendHim_206_4_L51 m m a1 a2 3 (wI (wI (wI (wI p0.2 214 a1.toNat 2) 215 a1.toNat a2) 208 a2.toNat a1) 207 a2.toNat (w32 (((wI (wI (wI p0.2 214 a1.toNat 2) 215 a1.toNat a2) 208 a2.toNat a1).1 207 a2.toNat) + 1))))))))) else some (p0.1, p0.2))) := rfl
set_option maxRecDepth 100000 in
set_option maxHeartbeats 1000000 in
theorem l_St_lendHim_206_4_L51_eq (m : Nat) (n : Nat) (x1 : Int) (x2 : Int) (x5 : Int) (s : mS) : l_St_lendHim_206_4_L51 m (n + 1) x1 x2 x5 s = (if 0 < x5 then (inR (w32 ((w32 ((w32 (x2 * 4)) + x5)) - 1)) 36 (inR (w32 ((w32 (x2 * 4)) + x5)) 36 (l_St_lendHim_206_4_L51 m n x1 x2 (w32 (x5 + (-1))) (wI s 210 (w32 ((w32 (x2 * 4)) + x5)).toNat (s.1 210 (w32 ((w32 ((w32 (x2 * 4)) + x5)) - 1)).toNat))))) else (inR (w32 (x2 * 4)) 36 some (0, wI s 210 (w32 (x2 * 4)).toNat x1))) := rfl
set_option maxRecDepth 100000 in
set_option maxHeartbeats 1000000 in
theorem f_Ps_keep_100_206_eq (m : Nat) (s : mS) : f_Ps_keep_100_206 m s = (inR (Int.tmod (w32 ((s.1 100 1) + (s.1 100 2))) 8) 8 (l_Ps_keep_100_206_L17 m m (R0f 101 (Int.tmod (w32 ((s.1 100 1) + (s.1 100 2))) 8).toNat) s)) := rfl
set_option maxRecDepth 100000 in
set_option maxHeartbeats 1000000 in
theorem l_Ps_keep_100_206_L17_eq0 (m : Nat) (n : Nat) (s : mS) : l_Ps_keep_100_206_L17 m (n + 1) (some 102) s = ((f_St_copyOf_102_206 m s).bind fun p0 => (if p0.2.1 100 2 < 8 then some (0, wI p0.2 100 2 (w32 ((p0.2.1 100 2) + 1))) else some (0, wI p0.2 100 1 (Int.tmod (w32 ((p0.2.1 100 1) + 1)) 8)))) := rfl
set_option maxRecDepth 100000 in
set_option maxHeartbeats 1000000 in
theorem l_Ps_keep_100_206_L17_eq1 (m : Nat) (n : Nat) (s : mS) : l_Ps_keep_100_206_L17 m (n + 1) (some 115) s = ((f_St_copyOf_115_206 m s).bind fun p0 => (if p0.2.1 100 2 < 8 then some (0, wI p0.2 100 2 (w32 ((p0.2.1 100 2) + 1))) else some (0, wI p0.2 100 1 (Int.tmod (w32 ((p0.2.1 100 1) + 1)) 8)))) := rfl
set_option maxRecDepth 100000 in
set_option maxHeartbeats 1000000 in
theorem l_Ps_keep_100_206_L17_eq2 (m : Nat) (n : Nat) (s : mS) : l_Ps_keep_100_206_L17 m (n + 1) (some 128) s = ((f_St_copyOf_128_206 m s).bind fun p0 => (if p0.2.1 100 2 < 8 then some (0, wI p0.2 100 2 (w32 ((p0.2.1 100 2) + 1))) else some (0, wI p0.2 100 1 (Int.tmod (w32 ((p0.2.1 100 1) + 1)) 8)))) := rfl
set_option maxRecDepth 100000 in
set_option maxHeartbeats 1000000 in
theorem l_Ps_keep_100_206_L17_eq3 (m : Nat) (n : Nat) (s : mS) : l_Ps_keep_100_206_L17 m (n + 1) (some 141) s = ((f_St_copyOf_141_206 m s).bind fun p0 => (if p0.2.1 100 2 < 8 then some (0, wI p0.2 100 2 (w32 ((p0.2.1 100 2) + 1))) else some (0, wI p0.2 100 1 (Int.tmod (w32 ((p0.2.1 100 1) + 1)) 8)))) := rfl
set_option maxRecDepth 100000 in
set_option maxHeartbeats 1000000 in
theorem l_Ps_keep_100_206_L17_eq4 (m : Nat) (n : Nat) (s : mS) : l_Ps_keep_100_206_L17 m (n + 1) (some 154) s = ((f_St_copyOf_154_206 m s).bind fun p0 => (if p0.2.1 100 2 < 8 then some (0, wI p0.2 100 2 (w32 ((p0.2.1 100 2) + 1))) else some (0, wI p0.2 100 1 (Int.tmod (w32 ((p0.2.1 100 1) + 1)) 8)))) := rfl
set_option maxRecDepth 100000 in
set_option maxHeartbeats 1000000 in
theorem l_Ps_keep_100_206_L17_eq5 (m : Nat) (n : Nat) (s : mS) : l_Ps_keep_100_206_L17 m (n + 1) (some 167) s = ((f_St_copyOf_167_206 m s).bind fun p0 => (if p0.2.1 100 2 < 8 then some (0, wI p0.2 100 2 (w32 ((p0.2.1 100 2) + 1))) else some (0, wI p0.2 100 1 (Int.tmod (w32 ((p0.2.1 100 1) + 1)) 8)))) := rfl
set_option maxRecDepth 100000 in
set_option maxHeartbeats 1000000 in
theorem l_Ps_keep_100_206_L17_eq6 (m : Nat) (n : Nat) (s : mS) : l_Ps_keep_100_206_L17 m (n + 1) (some 180) s = ((f_St_copyOf_180_206 m s).bind fun p0 => (if p0.2.1 100 2 < 8 then some (0, wI p0.2 100 2 (w32 ((p0.2.1 100 2) + 1))) else some (0, wI p0.2 100 1 (Int.tmod (w32 ((p0.2.1 100 1) + 1)) 8)))) := rfl
set_option maxRecDepth 100000 in
set_option maxHeartbeats 1000000 in
theorem l_Ps_keep_100_206_L17_eq7 (m : Nat) (n : Nat) (s : mS) : l_Ps_keep_100_206_L17 m (n + 1) (some 193) s = ((f_St_copyOf_193_206 m s).bind fun p0 => (if p0.2.1 100 2 < 8 then some (0, wI p0.2 100 2 (w32 ((p0.2.1 100 2) + 1))) else some (0, wI p0.2 100 1 (Int.tmod (w32 ((p0.2.1 100 1) + 1)) 8)))) := rfl
set_option maxRecDepth 100000 in
set_option maxHeartbeats 1000000 in
theorem f_Ps_keep_100_17_eq (m : Nat) (s : mS) : f_Ps_keep_100_17 m s = (inR (Int.tmod (w32 ((s.1 100 1) + (s.1 100 2))) 8) 8 (l_Ps_keep_100_17_L17 m m (R0f 101 (Int.tmod (w32 ((s.1 100 1) + (s.1 100 2))) 8).toNat) s)) := rfl
set_option maxRecDepth 100000 in
set_option maxHeartbeats 1000000 in
theorem l_Ps_keep_100_17_L17_eq0 (m : Nat) (n : Nat) (s : mS) : l_Ps_keep_100_17_L17 m (n + 1) (some 102) s = ((f_St_copyOf_102_17 m s).bind fun p0 => (if p0.2.1 100 2 < 8 then some (0, wI p0.2 100 2 (w32 ((p0.2.1 100 2) + 1))) else some (0, wI p0.2 100 1 (Int.tmod (w32 ((p0.2.1 100 1) + 1)) 8)))) := rfl
set_option maxRecDepth 100000 in
set_option maxHeartbeats 1000000 in
theorem l_Ps_keep_100_17_L17_eq1 (m : Nat) (n : Nat) (s : mS) : l_Ps_keep_100_17_L17 m (n + 1) (some 115) s = ((f_St_copyOf_115_17 m s).bind fun p0 => (if p0.2.1 100 2 < 8 then some (0, wI p0.2 100 2 (w32 ((p0.2.1 100 2) + 1))) else some (0, wI p0.2 100 1 (Int.tmod (w32 ((p0.2.1 100 1) + 1)) 8)))) := rfl
set_option maxRecDepth 100000 in
set_option maxHeartbeats 1000000 in
theorem l_Ps_keep_100_17_L17_eq2 (m : Nat) (n : Nat) (s : mS) : l_Ps_keep_100_17_L17 m (n + 1) (some 128) s = ((f_St_copyOf_128_17 m s).bind fun p0 => (if p0.2.1 100 2 < 8 then some (0, wI p0.2 100 2 (w32 ((p0.2.1 100 2) + 1))) else some (0, wI p0.2 100 1 (Int.tmod (w32 ((p0.2.1 100 1) + 1)) 8)))) := rfl
set_option maxRecDepth 100000 in
set_option maxHeartbeats 1000000 in
theorem l_Ps_keep_100_17_L17_eq3 (m : Nat) (n : Nat) (s : mS) : l_Ps_keep_100_17_L17 m (n + 1) (some 141) s = ((f_St_copyOf_141_17 m s).bind fun p0 => (if p0.2.1 100 2 < 8 then some (0, wI p0.2 100 2 (w32 ((p0.2.1 100 2) + 1))) else some (0, wI p0.2 100 1 (Int.tmod (w32 ((p0.2.1 100 1) + 1)) 8)))) := rfl
set_option maxRecDepth 100000 in
set_option maxHeartbeats 1000000 in
theorem l_Ps_keep_100_17_L17_eq4 (m : Nat) (n : Nat) (s : mS) : l_Ps_keep_100_17_L17 m (n + 1) (some 154) s = ((f_St_copyOf_154_17 m s).bind fun p0 => (if p0.2.1 100 2 < 8 then some (0, wI p0.2 100 2 (w32 ((p0.2.1 100 2) + 1))) else some (0, wI p0.2 100 1 (Int.tmod (w32 ((p0.2.1 100 1) + 1)) 8)))) := rfl
set_option maxRecDepth 100000 in
set_option maxHeartbeats 1000000 in
theorem l_Ps_keep_100_17_L17_eq5 (m : Nat) (n : Nat) (s : mS) : l_Ps_keep_100_17_L17 m (n + 1) (some 167) s = ((f_St_copyOf_167_17 m s).bind fun p0 => (if p0.2.1 100 2 < 8 then some (0, wI p0.2 100 2 (w32 ((p0.2.1 100 2) + 1))) else some (0, wI p0.2 100 1 (Int.tmod (w32 ((p0.2.1 100 1) + 1)) 8)))) := rfl
set_option maxRecDepth 100000 in
set_option maxHeartbeats 1000000 in
theorem l_Ps_keep_100_17_L17_eq6 (m : Nat) (n : Nat) (s : mS) : l_Ps_keep_100_17_L17 m (n + 1) (some 180) s = ((f_St_copyOf_180_17 m s).bind fun p0 => (if p0.2.1 100 2 < 8 then some (0, wI p0.2 100 2 (w32 ((p0.2.1 100 2) + 1))) else some (0, wI p0.2 100 1 (Int.tmod (w32 ((p0.2.1 100 1) + 1)) 8)))) := rfl
set_option maxRecDepth 100000 in
set_option maxHeartbeats 1000000 in
theorem l_Ps_keep_100_17_L17_eq7 (m : Nat) (n : Nat) (s : mS) : l_Ps_keep_100_17_L17 m (n + 1) (some 193) s = ((f_St_copyOf_193_17 m s).bind fun p0 => (if p0.2.1 100 2 < 8 then some (0, wI p0.2 100 2 (w32 ((p0.2.1 100 2) + 1))) else some (0, wI p0.2 100 1 (Int.tmod (w32 ((p0.2.1 100 1) + 1)) 8)))) := rfl
set_option maxRecDepth 100000 in
set_option maxHeartbeats 1000000 in
theorem f_X_done_eq (m : Nat) (a1 : Int) (s : mS) : f_X_done m a1 s = (if a1 = 0 then ((f_Ps_keep_100_206 m s).bind fun p0 => some (a1, p0.2)) else some (a1, s)) := rfl
set_option maxRecDepth 100000 in
set_option maxHeartbeats 1000000 in
theorem f_X_lend_eq (m : Nat) (a1 : Int) (a2 : Int) (s : mS) : f_X_lend m a1 a2 s = ((f_X_isDead m a1 s).bind fun p0 => (if p0.1 = 0 then some ((-1), p0.2) else ((f_X_isBox m a2 p0.2).bind fun p1 => (if p1.1 = 0 then some ((-1), p1.2) else ((f_St_copyOf_206_17 m p1.2).bind fun p2 => ((f_St_lendHim_17_4 m a1 a2 p2.2).bind fun p3 => ((f_X_done m p3.1 p3.2).bind fun p4 => some (p4.1, p4.2)))))))) := rfl
set_option maxRecDepth 100000 in
set_option maxHeartbeats 1000000 in
theorem f_St_layHim_17_4_eq (m : Nat) (a1 : Int) (a2 : Int) (s : mS) : f_St_layHim_17_4 m a1 a2 s = (inR a1 12 (inR a1 12 (if s.1 25 a1.toNat = 2 then (if s.1 26 a1.toNat = (-1) then some (1, s) else ((f_Vs_frostOn m (s.1 17 0) s).bind fun p0 => (if p0.1 = 0 then ((f_St_plotFree_17 m a2 p0.2).bind fun p1 => (if p1.1 = 0 then some (3, p1.2) else (inR a2 5 ((f_Vs_areKin_4 m a1 (p1.2.1 22 a2.toNat) p1.2).bind fun p2 => (if p2.1 = 0 then (inR a1 12 (inR a1 12 (inR a1 12 (inR a2 5 (inR a2 5 (inR a2 5 (inR a2 5 (inR a2 5 (inR (s.1 26 a1.toNat) 9 (inR (s.1 26 a1.toNat) 9 some (0, wI (wI (wI (wI (wI (wI (wI (wI p2.2 25 a1.toNat 3) 26 a1.toNat (-1)) 27 a1.toNat a2) 22 a2.toNat a1) 24 a2.toNat (w32 (((wI (wI (wI (wI p2.2 25 a1.toNat 3) 26 a1.toNat (-1)) 27 a1.toNat a2) 22 a2.toNat a1).1 24 a2.toNat) + 1))) 23 a2.toNat (w32 (((wI (wI (wI (wI (wI p2.2 25 a1.toNat 3) 26 a1.toNat (-1)) 27 a1.toNat a2) 22 a2.toNat a1) 24 a2.toNat (w32 (((wI (wI (wI (wI p2.2 25 a1.toNat 3) 26 a1.toNat (-1)) 27 a1.toNat a2) 22 a2.toNat a1).1 24 a2.toNat) + 1))).1 17 0) + ((wI (wI (wI (wI (wI p2.2 25 a1.toNat 3) 26 a1.toNat (-1)) 27 a1.toNat a2) 22 a2.toNat a1) 24 a2.toNat (w32 (((wI (wI (wI (wI p2.2 25 a1.toNat 3) 26 a1.toNat (-1)) 27 a1.toNat a2) 22 a2.toNat a1).1 24 a2.toNat) + 1))).1 9 a2.toNat)))) 19 (s.1 26 a1.toNat).toNat (-1)) 20 (s.1 26 a1.toNat).toNat (w32 (((wI (wI (wI (wI (wI (wI (wI p2.2 25 a1.toNat 3) 26 a1.toNat (-1)) 27 a1.toNat a2) 22 a2.toNat a1) 24 a2.toNat (w32 (((wI (wI (wI (wI p2.2 25 a1.toNat 3) 26 a1.toNat (-1)) 27 a1.toNat a2) 22 a2.toNat a1).1 24 a2.toNat) + 1))) 23 a2.toNat (w32 (((wI (wI (wI (wI (wI p2.2 25 a1.toNat 3) 26 a1.toNat (-1)) 27 a1.toNat a2) 22 a2.toNat a1) 24 a2.toNat (w32 (((wI (wI (wI (wI p2.2 25 a1.toNat 3) 26 a1.toNat (-1)) 27 a1.toNat a2) 22 a2.toNat a1).1 24 a2.toNat) + 1))).1 17 0) + ((wI (wI (wI (wI (wI p2.2 25 a1.toNat 3) 26 a1.toNat (-1)) 27 a1.toNat a2) 22 a2.toNat a1) 24 a2.toNat (w32 (((wI (wI (wI (wI p2.2 25 a1.toNat 3) 26 a1.toNat (-1)) 27 a1.toNat a2) 22 a2.toNat a1).1 24 a2.toNat) + 1))).1 9 a2.toNat)))) 19 (s.1 26 a1.toNat).toNat (-1)).1 17 0) + ((wI (wI (wI (wI (wI (wI (wI p2.2 25 a1.toNat 3) 26 a1.toNat (-1)) 27 a1.toNat a2) 22 a2.toNat a1) 24 a2.toNat (w32 (((wI (wI (wI (wI p2.2 25 a1.toNat 3) 26 a1.toNat (-1)) 27 a1.toNat a2) 22 a2.toNat a1).1 24 a2.toNat) + 1))) 23 a2.toNat (w32 (((wI (wI (wI (wI (wI p2.2 25 a1.toNat 3) 26 a1.toNat (-1)) 27 a1.toNat a2) 22 a2.toNat a1) 24 a2.toNat (w32 (((wI (wI (wI (wI p2.2 25 a1.toNat 3) 26 a1.toNat (-1)) 27 a1.toNat a2) 22 a2.toNat a1).1 24 a2.toNat) + 1))).1 17 0) + ((wI (wI (wI (wI (wI p2.2 25 a1.toNat 3) 26 a1.toNat (-1)) 27 a1.toNat a2) 22 a2.toNat a1) 24 a2.toNat (w32 (((wI (wI (wI (wI p2.2 25 a1.toNat 3) 26 a1.toNat (-1)) 27 a1.toNat a2) 22 a2.toNat a1).1 24 a2.toNat) + 1))).1 9 a2.toNat)))) 19 (s.1 26 a1.toNat).toNat (-1)).1 4 5)))))))))))))) else some (4, p2.2)))))) else some (2, p0.2)))) else some (1, s)))) := rfl
set_option maxRecDepth 100000 in
set_option maxHeartbeats 1000000 in
theorem f_St_layHim_206_4_eq (m : Nat) (a1 : Int) (a2 : Int) (s : mS) : f_St_layHim_206_4 m a1 a2 s = (inR a1 12 (inR a1 12 (if s.1 214 a1.toNat = 2 then (if s.1 215 a1.toNat = (-1) then some (1, s) else ((f_Vs_frostOn m (s.1 206 0) s).bind fun p0 => (if p0.1 = 0 then ((f_St_plotFree_206 m a2 p0.2).bind fun p1 => (if p1.1 = 0 then some (3, p1.2) else (inR a2 5 ((f_Vs_areKin_4 m a1 (p1.2.1 211 a2.toNat) p1.2).bind fun p2 => (if p2.1 = 0 then (inR a1 12 (inR a1 12 (inR a1 12 (inR a2 5 (inR a2 5 (inR a2 5 (inR a2 5 (inR a2 5 (inR (s.1 215 a1.toNat) 9 (inR (s.1 215 a1.toNat) 9 some (0, wI (wI (wI (wI (wI (wI (wI (wI p2.2 214 a1.toNat 3) 215 a1.toNat (-1)) 216 a1.toNat a2) 211 a2.toNat a1) 213 a2.toNat (w32 (((wI (wI (wI (wI p2.2 214 a1.toNat 3) 215 a1.toNat (-1)) 216 a1.toNat a2) 211 a2.toNat a1).1 213 a2.toNat) + 1))) 212 a2.toNat (w32 (((wI (wI (wI (wI (wI p2.2 214 a1.toNat 3) 215 a1.toNat (-1)) 216 a1.toNat a2) 211 a2.toNat a1) 213 a2.toNat (w32 (((wI (wI (wI (wI p2.2 214 a1.toNat 3) 215 a1.toNat (-1)) 216 a1.toNat a2) 211 a2.toNat a1).1 213 a2.toNat) + 1))).1 206 0) + ((wI (wI (wI (wI (wI p2.2 214 a1.toNat 3) 215 a1.toNat (-1)) 216 a1.toNat a2) 211 a2.toNat a1) 213 a2.toNat (w32 (((wI (wI (wI (wI p2.2 214 a1.toNat 3) 215 a1.toNat (-1)) 216 a1.toNat a2) 211 a2.toNat a1).1 213 a2.toNat) + 1))).1 9 a2.toNat)))) 208 (s.1 215 a1.toNat).toNat (-1)) 209 (s.1 215 a1.toNat).toNat (w32 (((wI (wI (wI (wI (wI (wI (wI p2.2 214 a1.toNat 3) 215 a1.toNat (-1)) 216 a1.toNat a2) 211 a2.toNat a1) 213 a2.toNat (w32 (((wI (wI (wI (wI p2.2 214 a1.toNat 3) 215 a1.toNat (-1)) 216 a1.toNat a2) 211 a2.toNat a1).1 213 a2.toNat) + 1))) 212 a2.toNat (w32 (((wI (wI (wI (wI (wI p2.2 214 a1.toNat 3) 215 a1.toNat (-1)) 216 a1.toNat a2) 211 a2.toNat a1) 213 a2.toNat (w32 (((wI (wI (wI (wI p2.2 214 a1.toNat 3) 215 a1.toNat (-1)) 216 a1.toNat a2) 211 a2.toNat a1).1 213 a2.toNat) + 1))).1 206 0) + ((wI (wI (wI (wI (wI p2.2 214 a1.toNat 3) 215 a1.toNat (-1)) 216 a1.toNat a2) 211 a2.toNat a1) 213 a2.toNat (w32 (((wI (wI (wI (wI p2.2 214 a1.toNat 3) 215 a1.toNat (-1)) 216 a1.toNat a2) 211 a2.toNat a1).1 213 a2.toNat) + 1))).1 9 a2.toNat)))) 208 (s.1 215 a1.toNat).toNat (-1)).1 206 0) + ((wI (wI (wI (wI (wI (wI (wI p2.2 214 a1.toNat 3) 215 a1.toNat (-1)) 216 a1.toNat a2) 211 a2.toNat a1) 213 a2.toNat (w32 (((wI (wI (wI (wI p2.2 214 a1.toNat 3) 215 a1.toNat (-1)) 216 a1.toNat a2) 211 a2.toNat a1).1 213 a2.toNat) + 1))) 212 a2.toNat (w32 (((wI (wI (wI (wI (wI p2.2 214 a1.toNat 3) 215 a1.toNat (-1)) 216 a1.toNat a2) 211 a2.toNat a1) 213 a2.toNat (w32 (((wI (wI (wI (wI p2.2 214 a1.toNat 3) 215 a1.toNat (-1)) 216 a1.toNat a2) 211 a2.toNat a1).1 213 a2.toNat) + 1))).1 206 0) + ((wI (wI (wI (wI (wI p2.2 214 a1.toNat 3) 215 a1.toNat (-1)) 216 a1.toNat a2) 211 a2.toNat a1) 213 a2.toNat (w32 (((wI (wI (wI (wI p2.2 214 a1.toNat 3) 215 a1.toNat (-1)) 216 a1.toNat a2) 211 a2.toNat a1).1 213 a2.toNat) + 1))).1 9 a2.toNat)))) 208 (s.1 215 a1.toNat).toNat (-1)).1 4 5)))))))))))))) else some (4, p2.2)))))) else some (2, p0.2)))) else some (1, s)))) := rfl
set_option maxRecDepth 100000 in
set_option maxHeartbeats 1000000 in
theorem f_X_lay_eq (m : Nat) (a1 : Int) (a2 : Int) (s : mS) : f_X_lay m a1 a2 s = ((f_X_isDead m a1 s).bind fun p0 => (if p0.1 = 0 then some ((-1), p0.2) else ((f_X_isPlot m a2 p0.2).bind fun p1 => (if p1.1 = 0 then some ((-1), p1.2) else ((f_St_copyOf_206_17 m p1.2).bind fun p2 => ((f_St_layHim_17_4 m a1 a2 p2.2).bind fun p3 => ((f_X_done m p3.1 p3.2).bind fun p4 => some (p4.1, p4.2)))))))) := rfl
set_option maxRecDepth 100000 in
set_option maxHeartbeats 1000000 in
theorem f_St_swapThem_17_4_eq (m : Nat) (a1 : Int) (a2 : Int) (s : mS) : f_St_swapThem_17_4 m a1 a2 s = (inR a1 12 (inR a2 12 (inR a1 12 (if s.1 25 a1.toNat = 2 then (inR a2 12 (if s.1 25 a2.toNat = 2 then (if s.1 26 a1.toNat = (-1) then some (1, s) else (if s.1 26 a2.toNat = (-1) then some (1, s) else (inR a1 12 (inR (s.1 26 a2.toNat) 9 (if s.1 6 (s.1 26 a2.toNat).toNat < s.1 11 a1.toNat then some (2, s) else (inR a2 12 (inR (s.1 26 a1.toNat) 9 (if s.1 6 (s.1 26 a1.toNat).toNat < s.1 11 a2.toNat then some (2, s) else (inR a1 12 (inR (s.1 26 a2.toNat) 9 (inR a2 12 (inR (s.1 26 a1.toNat) 9 some (0, wI (wI (wI (wI s 26 a1.toNat (s.1 26 a2.toNat)) 19 (s.1 26 a2.toNat).toNat a1) 26 a2.toNat (s.1 26 a1.toNat)) 19 (s.1 26 a1.toNat).toNat a2))))))))))))) else some (1, s))) else some (1, s))))) := rfl
set_option maxRecDepth 100000 in
set_option maxHeartbeats 1000000 in
theorem f_St_swapThem_206_4_eq (m : Nat) (a1 : Int) (a2 : Int) (s : mS) : f_St_swapThem_206_4 m a1 a2 s = (inR a1 12 (inR a2 12 (inR a1 12 (if s.1 214 a1.toNat = 2 then (inR a2 12 (if s.1 214 a2.toNat = 2 then (if s.1 215 a1.toNat = (-1) then some (1, s) else (if s.1 215 a2.toNat = (-1) then some (1, s) else (inR a1 12 (inR (s.1 215 a2.toNat) 9 (if s.1 6 (s.1 215 a2.toNat).toNat < s.1 11 a1.toNat then some (2, s) else (inR a2 12 (inR (s.1 215 a1.toNat) 9 (if s.1 6 (s.1 215 a1.toNat).toNat < s.1 11 a2.toNat then some (2, s) else (inR a1 12 (inR (s.1 215 a2.toNat) 9 (inR a2 12 (inR (s.1 215 a1.toNat) 9 some (0, wI (wI (wI (wI s 215 a1.toNat (s.1 215 a2.toNat)) 208 (s.1 215 a2.toNat).toNat a1) 215 a2.toNat (s.1 215 a1.toNat)) 208 (s.1 215 a1.toNat).toNat a2))))))))))))) else some (1, s))) else some (1, s))))) := rfl
set_option maxRecDepth 100000 in
set_option maxHeartbeats 1000000 in
theorem f_X_swap_eq (m : Nat) (a1 : Int) (a2 : Int) (s : mS) : f_X_swap m a1 a2 s = ((f_X_isDead m a1 s).bind fun p0 => (if p0.1 = 0 then some ((-1), p0.2) else ((f_X_isDead m a2 p0.2).bind fun p1 => (if p1.1 = 0 then some ((-1), p1.2) else (if a1 = a2 then some ((-1), p1.2) else ((f_St_copyOf_206_17 m p1.2).bind fun p2 => ((f_St_swapThem_17_4 m a1 a2 p2.2).bind fun p3 => ((f_X_done m p3.1 p3.2).bind fun p4 => some (p4.1, p4.2))))))))) := rfl
set_option maxRecDepth 100000 in
set_option maxHeartbeats 1000000 in
theorem f_St_mendIt_17_eq (m : Nat) (a1 : Int) (s : mS) : f_St_mendIt_17 m a1 s = (inR a1 9 (if s.1 18 a1.toNat = 0 then some (1, s) else (inR a1 9 (if s.1 19 a1.toNat = (-1) then (inR a1 9 some (0, wI s 18 a1.toNat 0)) else some (2, s))))) := rfl
set_option maxRecDepth 100000 in
set_option maxHeartbeats 1000000 in
theorem f_St_mendIt_206_eq (m : Nat) (a1 : Int) (s : mS) : f_St_mendIt_206 m a1 s = (inR a1 9 (if s.1 207 a1.toNat = 0 then some (1, s) else (inR a1 9 (if s.1 208 a1.toNat = (-1) then (inR a1 9 some (0, wI s 207 a1.toNat 0)) else some (2, s))))) := rfl
set_option maxRecDepth 100000 in
set_option maxHeartbeats 1000000 in
theorem f_X_mend_eq (m : Nat) (a1 : Int) (s : mS) : f_X_mend m a1 s = ((f_X_isBox m a1 s).bind fun p0 => (if p0.1 = 0 then some ((-1), p0.2) else ((f_St_copyOf_206_17 m p0.2).bind fun p1 => ((f_St_mendIt_17 m a1 p1.2).bind fun p2 => ((f_X_done m p2.1 p2.2).bind fun p3 => some (p3.1, p3.2)))))) := rfl
set_option maxRecDepth 100000 in
set_option maxHeartbeats 1000000 in
theorem f_St_passDays_17_4_eq (m : Nat) (a1 : Int) (s : mS) : f_St_passDays_17_4 m a1 s = (l_St_passDays_17_4_L2 m m a1 0 s) := rfl
set_option maxRecDepth 100000 in
set_option maxHeartbeats 1000000 in
theorem l_St_passDays_17_4_L2_eq (m : Nat) (n : Nat) (x1 : Int) (x3 : Int) (s : mS) : l_St_passDays_17_4_L2 m (n + 1) x1 x3 s = (if x3 < x1 then (if s.1 17 0 < 400 then (l_St_passDays_17_4_L20 m n x1 x3 0 s) else some (x3, s)) else some (x3, s)) := rfl
set_option maxRecDepth 100000 in
set_option maxHeartbeats 1000000 in
theorem l_St_passDays_17_4_L20_eq (m : Nat) (n : Nat) (x1 : Int) (x3 : Int) (x4 : Int) (s : mS) : l_St_passDays_17_4_L20 m (n + 1) x1 x3 x4 s = (if x4 < s.1 4 2 then (inR x4 12 (inR x4 12 (if s.1 25 x4.toNat = 1 then (inR x4 12 (inR x4 12 (inR x4 12 (if (wI s 28 x4.toNat (w32 ((s.1 28 x4.toNat) + 1))).1 25 x4.toNat = 2 then (inR x4 12 (l_St_passDays_17_4_L20 m n x1 x3 (w32 (x4 + 1)) (wI (wI s 28 x4.toNat (w32 ((s.1 28 x4.toNat) + 1))) 29 x4.toNat (w32 (((wI s 28 x4.toNat (w32 ((s.1 28 x4.toNat) + 1))).1 29 x4.toNat) + 1))))) else (inR x4 12 (l_St_passDays_17_4_L20 m n x1 x3 (w32 (x4 + 1)) (wI (wI s 28 x4.toNat (w32 ((s.1 28 x4.toNat) + 1))) 29 x4.toNat (w32 (((wI s 28 x4.toNat (w32 ((s.1 28 x4.toNat) + 1))).1 29 x4.toNat) + 0))))))))) else (inR x4 12 (inR x4 12 (inR x4 12 (if (wI s 28 x4.toNat (w32 ((s.1 28 x4.toNat) + 0))).1 25 x4.toNat = 2 then (inR x4 12 (l_St_passDays_17_4_L20 m n x1 x3 (w32 (x4 + 1)) (wI (wI s 28 x4.toNat (w32 ((s.1 28 x4.toNat) + 0))) 29 x4.toNat (w32 (((wI s 28 x4.toNat (w32 ((s.1 28 x4.toNat) + 0))).1 29 x4.toNat) + 1))))) else (inR x4 12 (l_St_passDays_17_4_L20 m n x1 x3 (w32 (x4 + 1)) (wI (wI s 28 x4.toNat (w32 ((s.1 28 x4.toNat) + 0))) 29 x4.toNat (w32 (((wI s 28 x4.toNat (w32 ((s.1 28 x4.toNat) + 0))).1 29 x4.toNat) + 0)))))))))))) else ((f_St_arrive_17_4 m (wI s 17 0 (w32 ((s.1 17 0) + 1)))).bind fun p0 => (l_St_passDays_17_4_L2 m n x1 (w32 (x3 + 1)) p0.2))) := rfl
set_option maxRecDepth 100000 in
set_option maxHeartbeats 1000000 in
theorem f_St_passDays_206_4_eq (m : Nat) (a1 : Int) (s : mS) : f_St_passDays_206_4 m a1 s = (l_St_passDays_206_4_L2 m m a1 0 s) := rfl
set_option maxRecDepth 100000 in
set_option maxHeartbeats 1000000 in
theorem l_St_passDays_206_4_L2_eq (m : Nat) (n : Nat) (x1 : Int) (x3 : Int) (s : mS) : l_St_passDays_206_4_L2 m (n + 1) x1 x3 s = (if x3 < x1 then (if s.1 206 0 < 400 then (l_St_passDays_206_4_L20 m n x1 x3 0 s) else some (x3, s)) else some (x3, s)) := rfl
set_option maxRecDepth 100000 in
set_option maxHeartbeats 1000000 in
theorem l_St_passDays_206_4_L20_eq (m : Nat) (n : Nat) (x1 : Int) (x3 : Int) (x4 : Int) (s : mS) : l_St_passDays_206_4_L20 m (n + 1) x1 x3 x4 s = (if x4 < s.1 4 2 then (inR x4 12 (inR x4 12 (if s.1 214 x4.toNat = 1 then (inR x4 12 (inR x4 12 (inR x4 12 (if (wI s 217 x4.toNat (w32 ((s.1 217 x4.toNat) + 1))).1 214 x4.toNat = 2 then (inR x4 12 (l_St_passDays_206_4_L20 m n x1 x3 (w32 (x4 + 1)) (wI (wI s 217 x4.toNat (w32 ((s.1 217 x4.toNat) + 1))) 218 x4.toNat (w32 (((wI s 217 x4.toNat (w32 ((s.1 217 x4.toNat) + 1))).1 218 x4.toNat) + 1))))) else (inR x4 12 (l_St_passDays_206_4_L20 m n x1 x3 (w32 (x4 + 1)) (wI (wI s 217 x4.toNat (w32 ((s.1 217 x4.toNat) + 1))) 218 x4.toNat (w32 (((wI s 217 x4.toNat (w32 ((s.1 217 x4.toNat) + 1))).1 218 x4.toNat) + 0))))))))) else (inR x4 12 (inR x4 12 (inR x4 12 (if (wI s 217 x4.toNat (w32 ((s.1 217 x4.toNat) + 0))).1 214 x4.toNat = 2 then (inR x4 12 (l_St_passDays_206_4_L20 m n x1 x3 (w32 (x4 + 1)) (wI (wI s 217 x4.toNat (w32 ((s.1 217 x4.toNat) + 0))) 218 x4.toNat (w32 (((wI s 217 x4.toNat (w32 ((s.1 217 x4.toNat) + 0))).1 218 x4.toNat) + 1))))) else (inR x4 12 (l_St_passDays_206_4_L20 m n x1 x3 (w32 (x4 + 1)) (wI (wI s 217 x4.toNat (w32 ((s.1 217 x4.toNat) + 0))) 218 x4.toNat (w32 (((wI s 217 x4.toNat (w32 ((s.1 217 x4.toNat) + 0))).1 218 x4.toNat) + 0)))))))))))) else ((f_St_arrive_206_4 m (wI s 206 0 (w32 ((s.1 206 0) + 1)))).bind fun p0 => (l_St_passDays_206_4_L2 m n x1 (w32 (x3 + 1)) p0.2))) := rfl
set_option maxRecDepth 100000 in
set_option maxHeartbeats 1000000 in
theorem f_X_wentBy_eq (m : Nat) (a1 : Int) (s : mS) : f_X_wentBy m a1 s = (if 0 < a1 then ((f_Ps_keep_100_206 m s).bind fun p0 => some (a1, p0.2)) else some (a1, s)) := rfl
set_option maxRecDepth 100000 in
set_option maxHeartbeats 1000000 in
theorem f_X_days_eq (m : Nat) (a1 : Int) (s : mS) : f_X_days m a1 s = (if a1 < 1 then some ((-1), s) else (if 60 < a1 then some ((-1), s) else ((f_St_copyOf_206_17 m s).bind fun p0 => ((f_St_passDays_17_4 m a1 p0.2).bind fun p1 => ((f_X_wentBy m p1.1 p1.2).bind fun p2 => some (p2.1, p2.2)))))) := rfl
set_option maxRecDepth 100000 in
set_option maxHeartbeats 1000000 in
theorem f_Ps_backTo_eq (m : Nat) (s : mS) : f_Ps_backTo m s = (if s.1 100 2 = 0 then some ((-1), s) else (inR (Int.tmod (w32 (((wI s 100 2 (w32 ((s.1 100 2) - 1))).1 100 1) + ((wI s 100 2 (w32 ((s.1 100 2) - 1))).1 100 2))) 8) 8 (l_Ps_backTo_L37 m m (R0f 101 (Int.tmod (w32 (((wI s 100 2 (w32 ((s.1 100 2) - 1))).1 100 1) + ((wI s 100 2 (w32 ((s.1 100 2) - 1))).1 100 2))) 8).toNat) (wI s 100 2 (w32 ((s.1 100 2) - 1)))))) := rfl
set_option maxRecDepth 100000 in
set_option maxHeartbeats 1000000 in
theorem l_Ps_backTo_L37_eq0 (m : Nat) (n : Nat) (s : mS) : l_Ps_backTo_L37 m (n + 1) (some 102) s = ((f_St_copyOf_17_102 m s).bind fun p0 => some (p0.2.1 100 2, p0.2)) := rfl
set_option maxRecDepth 100000 in
set_option maxHeartbeats 1000000 in
theorem l_Ps_backTo_L37_eq1 (m : Nat) (n : Nat) (s : mS) : l_Ps_backTo_L37 m (n + 1) (some 115) s = ((f_St_copyOf_17_115 m s).bind fun p0 => some (p0.2.1 100 2, p0.2)) := rfl
set_option maxRecDepth 100000 in
set_option maxHeartbeats 1000000 in
theorem l_Ps_backTo_L37_eq2 (m : Nat) (n : Nat) (s : mS) : l_Ps_backTo_L37 m (n + 1) (some 128) s = ((f_St_copyOf_17_128 m s).bind fun p0 => some (p0.2.1 100 2, p0.2)) := rfl
set_option maxRecDepth 100000 in
set_option maxHeartbeats 1000000 in
theorem l_Ps_backTo_L37_eq3 (m : Nat) (n : Nat) (s : mS) : l_Ps_backTo_L37 m (n + 1) (some 141) s = ((f_St_copyOf_17_141 m s).bind fun p0 => some (p0.2.1 100 2, p0.2)) := rfl
set_option maxRecDepth 100000 in
set_option maxHeartbeats 1000000 in
theorem l_Ps_backTo_L37_eq4 (m : Nat) (n : Nat) (s : mS) : l_Ps_backTo_L37 m (n + 1) (some 154) s = ((f_St_copyOf_17_154 m s).bind fun p0 => some (p0.2.1 100 2, p0.2)) := rfl
set_option maxRecDepth 100000 in
set_option maxHeartbeats 1000000 in
theorem l_Ps_backTo_L37_eq5 (m : Nat) (n : Nat) (s : mS) : l_Ps_backTo_L37 m (n + 1) (some 167) s = ((f_St_copyOf_17_167 m s).bind fun p0 => some (p0.2.1 100 2, p0.2)) := rfl
set_option maxRecDepth 100000 in
set_option maxHeartbeats 1000000 in
theorem l_Ps_backTo_L37_eq6 (m : Nat) (n : Nat) (s : mS) : l_Ps_backTo_L37 m (n + 1) (some 180) s = ((f_St_copyOf_17_180 m s).bind fun p0 => some (p0.2.1 100 2, p0.2)) := rfl
set_option maxRecDepth 100000 in
set_option maxHeartbeats 1000000 in
theorem l_Ps_backTo_L37_eq7 (m : Nat) (n : Nat) (s : mS) : l_Ps_backTo_L37 m (n + 1) (some 193) s = ((f_St_copyOf_17_193 m s).bind fun p0 => some (p0.2.1 100 2, p0.2)) := rfl
set_option maxRecDepth 100000 in
set_option maxHeartbeats 1000000 in
theorem f_X_undo_eq (m : Nat) (s : mS) : f_X_undo m s = ((f_Ps_backTo m s).bind fun p0 => some (p0.1, p0.2)) := rfl
set_option maxRecDepth 100000 in
set_option maxHeartbeats 1000000 in
theorem f_Mt_finds_eq (m : Nat) (d : Nat) (a1 : Int) (a2 : Int) (s : mS) : f_Mt_finds m (d + 1) a1 a2 s = (if a1 < 0 then some (0, s) else (if a1 < 12 then (if 9 < a2 then some (0, s) else (l_Mt_finds_L20 m d m a1 a2 0 s)) else some (0, s))) := rfl
set_option maxRecDepth 100000 in
set_option maxHeartbeats 1000000 in
theorem l_Mt_finds_L20_eq (m : Nat) (d : Nat) (n : Nat) (x1 : Int) (x2 : Int) (x3 : Int) (s : mS) : l_Mt_finds_L20 m d (n + 1) x1 x2 x3 s = (if x3 < 9 then (inR x1 12 (if band (bshr (s.1 243 x1.toNat) x3) 1 = 0 then (l_Mt_finds_L20 m d n x1 x2 (w32 (x3 + 1)) s) else (if band (bshr (s.1 241 3) x3) 1 = 0 then (inR x3 9 (if (wI s 241 3 (bor (s.1 241 3) (bshl 1 x3))).1 244 x3.toNat = (-1) then (inR x3 9 some (1, wI (wI s 241 3 (bor (s.1 241 3) (bshl 1 x3))) 244 x3.toNat x1)) else (inR x3 9 ((f_Mt_finds m d ((wI s 241 3 (bor (s.1 241 3) (bshl 1 x3))).1 244 x3.toNat) (w32 (x2 + 1)) (wI s 241 3 (bor (s.1 241 3) (bshl 1 x3)))).bind fun p0 => (if p0.1 = 0 then (l_Mt_finds_L20 m d n x1 x2 (w32 (x3 + 1)) p0.2) else (inR x3 9 some (1, wI p0.2 244 x3.toNat x1))))))) else (l_Mt_finds_L20 m d n x1 x2 (w32 (x3 + 1)) s)))) else some (0, s)) := rfl
set_option maxRecDepth 100000 in
set_option maxHeartbeats 1000000 in
theorem f_Mt_mostFrom_eq (m : Nat) (a1 : Int) (a2 : Int) (s : mS) : f_Mt_mostFrom m a1 a2 s = ((f_Ja_fill_244 m (-1) s).bind fun p0 => (l_Mt_mostFrom_L13 m m a2 0 a1 p0.2)) := rfl
set_option maxRecDepth 100000 in
set_option maxHeartbeats 1000000 in
theorem l_Mt_mostFrom_L13_eq (m : Nat) (n : Nat) (x2 : Int) (x3 : Int) (x4 : Int) (s : mS) : l_Mt_mostFrom_L13 m (n + 1) x2 x3 x4 s = (if x4 < 12 then ((f_Mt_finds m 64 x4 0 (wI s 241 3 x2)).bind fun p0 => (if p0.1 = 0 then (l_Mt_mostFrom_L13 m n x2 x3 (w32 (x4 + 1)) p0.2) else (l_Mt_mostFrom_L13 m n x2 (w32 (x3 + 1)) (w32 (x4 + 1)) p0.2))) else some (x3, s)) := rfl
set_option maxRecDepth 100000 in
set_option maxHeartbeats 1000000 in
theorem f_Mt_chooseFirst_eq (m : Nat) (a1 : Int) (s : mS) : f_Mt_chooseFirst m a1 s = (l_Mt_chooseFirst_L7 m m a1 0 0 s) := rfl
set_option maxRecDepth 100000 in
set_option maxHeartbeats 1000000 in
theorem l_Mt_chooseFirst_L7_eq (m : Nat) (n : Nat) (x2 : Int) (x3 : Int) (x4 : Int) (s : mS) : l_Mt_chooseFirst_L7 m (n + 1) x2 x3 x4 s = (if x4 < 12 then (inR x4 12 (l_Mt_chooseFirst_L25 m n x2 x3 x4 0 (wI s 242 x4.toNat (-1)))) else some (0, s)) := rfl
set_option maxRecDepth 100000 in
set_option maxHeartbeats 1000000 in
theorem l_Mt_chooseFirst_L25_eq (m : Nat) (n : Nat) (x2 : Int) (x3 : Int) (x4 : Int) (x5 : Int) (s : mS) : l_Mt_chooseFirst_L25 m (n + 1) x2 x3 x4 x5 s = (if x5 < 9 then (inR x4 12 (if s.1 242 x4.toNat = (-1) then (inR x4 12 (if band (band (s.1 243 x4.toNat) (bshl 1 x5)) (bxor x3 (-1)) = 0 then (l_Mt_chooseFirst_L25 m n x2 x3 x4 (w32 (x5 + 1)) s) else ((f_Mt_mostFrom m (w32 (x4 + 1)) (bor x3 (bshl 1 x5)) s).bind fun p0 => (if w32 (p0.1 + 1) = x2 then (inR x4 12 (l_Mt_chooseFirst_L25 m n (w32 (x2 + (-1))) (bor x3 (bshl 1 x5)) x4 (w32 (x5 + 1)) (wI p0.2 242 x4.toNat x5))) else (l_Mt_chooseFirst_L25 m n x2 x3 x4 (w32 (x5 + 1)) p0.2))))) else (l_Mt_chooseFirst_L7 m n x2 x3 (w32 (x4 + 1)) s))) else (l_Mt_chooseFirst_L7 m n x2 x3 (w32 (x4 + 1)) s)) := rfl
set_option maxRecDepth 100000 in
set_option maxHeartbeats 1000000 in
theorem f_Mt_find_eq (m : Nat) (s : mS) : f_Mt_find m s = (l_Mt_find_L2 m m 0 s) := rfl
set_option maxRecDepth 100000 in
set_option maxHeartbeats 1000000 in
theorem l_Mt_find_L2_eq (m : Nat) (n : Nat) (x3 : Int) (s : mS) : l_Mt_find_L2 m (n + 1) x3 s = (if x3 < 12 then (inR x3 12 (l_Mt_find_L18 m n x3 0 (wI s 243 x3.toNat 0))) else ((f_Mt_mostFrom m 0 0 s).bind fun p0 => ((f_Mt_chooseFirst m p0.1 p0.2).bind fun p1 => some (p0.1, p1.2)))) := rfl
set_option maxRecDepth 100000 in
set_option maxHeartbeats 1000000 in
theorem l_Mt_find_L18_eq (m : Nat) (n : Nat) (x3 : Int) (x4 : Int) (s : mS) : l_Mt_find_L18 m (n + 1) x3 x4 s = (if x3 < s.1 4 2 then (if x4 < s.1 4 0 then ((f_St_whyNotLent_17_4 m x3 x4 s).bind fun p0 => (if p0.1 = 0 then (inR x3 12 (inR x3 12 (l_Mt_find_L18 m n x3 (w32 (x4 + 1)) (wI p0.2 243 x3.toNat (bor (p0.2.1 243 x3.toNat) (bshl 1 x4)))))) else (l_Mt_find_L18 m n x3 (w32 (x4 + 1)) p0.2))) else (l_Mt_find_L2 m n (w32 (x3 + 1)) s)) else (l_Mt_find_L2 m n (w32 (x3 + 1)) s)) := rfl
set_option maxRecDepth 100000 in
set_option maxHeartbeats 1000000 in
theorem f_X_match_eq (m : Nat) (s : mS) : f_X_match m s = ((f_Mt_find m s).bind fun p0 => some (p0.1, p0.2)) := rfl
set_option maxRecDepth 100000 in
set_option maxHeartbeats 1000000 in
theorem f_X_matchOf_eq (m : Nat) (a1 : Int) (s : mS) : f_X_matchOf m a1 s = (if a1 < 0 then some ((-1), s) else (if a1 < 12 then (inR a1 12 some (s.1 242 a1.toNat, s)) else some ((-1), s))) := rfl
set_option maxRecDepth 100000 in
set_option maxHeartbeats 1000000 in
theorem f_X_plotBehind_eq (m : Nat) (a1 : Int) (a2 : Int) (s : mS) : f_X_plotBehind m a1 a2 s = ((f_Vs_frostOn m (w32 ((s.1 17 0) + a2)) s).bind fun p0 => (if p0.1 = 0 then (l_X_plotBehind_L32 m m a1 (w32 ((s.1 17 0) + a2)) 0 p0.2) else some ((-1), p0.2))) := rfl
set_option maxRecDepth 100000 in
set_option maxHeartbeats 1000000 in
theorem l_X_plotBehind_L32_eq (m : Nat) (n : Nat) (x1 : Int) (x3 : Int) (x4 : Int) (s : mS) : l_X_plotBehind_L32 m (n + 1) x1 x3 x4 s = (if x4 < s.1 4 1 then (inR x4 5 (if x3 < s.1 23 x4.toNat then (l_X_plotBehind_L32 m n x1 x3 (w32 (x4 + 1)) s) else (inR x4 5 ((f_Vs_areKin_4 m x1 (s.1 22 x4.toNat) s).bind fun p0 => (if p0.1 = 0 then some (x4, p0.2) else (l_X_plotBehind_L32 m n x1 x3 (w32 (x4 + 1)) p0.2)))))) else some ((-1), s)) := rfl
set_option maxRecDepth 100000 in
set_option maxHeartbeats 1000000 in
theorem f_X_soon_eq (m : Nat) (a1 : Int) (s : mS) : f_X_soon m a1 s = ((f_X_isDead m a1 s).bind fun p0 => (if p0.1 = 0 then some ((-1), p0.2) else (inR a1 12 (if p0.2.1 25 a1.toNat = 2 then (l_X_soon_L28 m m a1 0 p0.2) else some ((-1), p0.2))))) := rfl
set_option maxRecDepth 100000 in
set_option maxHeartbeats 1000000 in
theorem l_X_soon_L28_eq (m : Nat) (n : Nat) (x1 : Int) (x2 : Int) (s : mS) : l_X_soon_L28 m (n + 1) x1 x2 s = (if 300 < x2 then some ((-1), s) else ((f_X_plotBehind m x1 x2 s).bind fun p0 => (if p0.1 = (-1) then (l_X_soon_L28 m n x1 (w32 (x2 + 1)) p0.2) else some (x2, wI p0.2 0 14 p0.1)))) := rfl
set_option maxRecDepth 100000 in
set_option maxHeartbeats 1000000 in
theorem f_X_soonIn_eq (m : Nat) (s : mS) : f_X_soonIn m s = some (s.1 0 14, s) := rfl
set_option maxRecDepth 100000 in
set_option maxHeartbeats 1000000 in
theorem f_X_crowd_eq (m : Nat) (a1 : Int) (s : mS) : f_X_crowd m a1 s = (if a1 < 0 then some ((-1), s) else (if 99 < a1 then some ((-1), s) else (l_X_crowd_L16 m m a1 0 0 s))) := rfl
set_option maxRecDepth 100000 in
set_option maxHeartbeats 1000000 in
theorem l_X_crowd_L16_eq (m : Nat) (n : Nat) (x1 : Int) (x2 : Int) (x3 : Int) (s : mS) : l_X_crowd_L16 m (n + 1) x1 x2 x3 s = (if x3 < s.1 4 2 then (inR x3 12 (if s.1 25 x3.toNat = 1 then (l_X_crowd_L16 m n x1 (w32 (x2 + 1)) (w32 (x3 + 1)) s) else (if s.1 25 x3.toNat = 0 then (inR x3 12 (if w32 ((s.1 17 0) + x1) < s.1 12 x3.toNat then (l_X_crowd_L16 m n x1 x2 (w32 (x3 + 1)) s) else (l_X_crowd_L16 m n x1 (w32 (x2 + 1)) (w32 (x3 + 1)) s))) else (l_X_crowd_L16 m n x1 x2 (w32 (x3 + 1)) s)))) else some (x2, s)) := rfl
set_option maxRecDepth 100000 in
set_option maxHeartbeats 1000000 in
theorem f_X_outOn_eq (m : Nat) (a1 : Int) (a2 : Int) (s : mS) : f_X_outOn m a1 a2 s = (l_X_outOn_L5 m m a1 a2 0 0 s) := rfl
set_option maxRecDepth 100000 in
set_option maxHeartbeats 1000000 in
theorem l_X_outOn_L5_eq (m : Nat) (n : Nat) (x1 : Int) (x2 : Int) (x3 : Int) (x4 : Int) (s : mS) : l_X_outOn_L5 m (n + 1) x1 x2 x3 x4 s = (if x4 < s.1 4 2 then (inR x4 12 (if s.1 25 x4.toNat = 0 then (inR x4 12 (if s.1 25 x4.toNat = 3 then (l_X_outOn_L5 m n x1 x2 x3 (w32 (x4 + 1)) s) else (if x1 < s.1 12 x4.toNat then (l_X_outOn_L5 m n x1 x2 x3 (w32 (x4 + 1)) s) else (if x1 < w32 ((s.1 12 x4.toNat) + x2) then (l_X_outOn_L5 m n x1 x2 (w32 (x3 + 1)) (w32 (x4 + 1)) s) else (l_X_outOn_L5 m n x1 x2 x3 (w32 (x4 + 1)) s))))) else (if s.1 25 x4.toNat = 3 then (l_X_outOn_L5 m n x1 x2 x3 (w32 (x4 + 1)) s) else (if x1 < s.1 17 0 then (l_X_outOn_L5 m n x1 x2 x3 (w32 (x4 + 1)) s) else (if x1 < w32 ((s.1 17 0) + x2) then (l_X_outOn_L5 m n x1 x2 (w32 (x3 + 1)) (w32 (x4 + 1)) s) else (l_X_outOn_L5 m n x1 x2 x3 (w32 (x4 + 1)) s)))))) else some (x3, s)) := rfl
set_option maxRecDepth 100000 in
set_option maxHeartbeats 1000000 in
theorem f_X_need_eq (m : Nat) (a1 : Int) (a2 : Int) (s : mS) : f_X_need m a1 a2 s = (if a1 < 0 then some ((-1), s) else (if 99 < a1 then some ((-1), s) else (if a2 < 1 then some ((-1), s) else (if 60 < a2 then some ((-1), s) else (l_X_need_L28 m m a1 a2 0 0 s))))) := rfl
set_option maxRecDepth 100000 in
set_option maxHeartbeats 1000000 in
theorem l_X_need_L28_eq (m : Nat) (n : Nat) (x1 : Int) (x2 : Int) (x3 : Int) (x4 : Int) (s : mS) : l_X_need_L28 m (n + 1) x1 x2 x3 x4 s = (if x1 < x4 then some (x3, s) else ((f_X_outOn m (w32 ((s.1 17 0) + x4)) (w32 (x2 + (s.1 4 5))) s).bind fun p0 => ((f_Jm_max m x3 p0.1 p0.2).bind fun p1 => (l_X_need_L28 m n x1 x2 p1.1 (w32 (x4 + 1)) p1.2)))) := rfl
set_option maxRecDepth 100000 in
set_option maxHeartbeats 1000000 in
theorem f_X_ringFrom_eq (m : Nat) (a1 : Int) (a2 : Int) (s : mS) : f_X_ringFrom m a1 a2 s = (inR a1 12 (l_X_ringFrom_L19 m m a2 (s.1 26 a1.toNat) a1 0 s)) := rfl
set_option maxRecDepth 100000 in
set_option maxHeartbeats 1000000 in
theorem l_X_ringFrom_L19_eq (m : Nat) (n : Nat) (x2 : Int) (x3 : Int) (x4 : Int) (x5 : Int) (s : mS) : l_X_ringFrom_L19 m (n + 1) x2 x3 x4 x5 s = (if x5 < 12 then (if x2 = 0 then (l_X_ringFrom_L39 m n x2 x3 x4 x5 s) else (inR x5 12 (l_X_ringFrom_L39 m n x2 x3 x4 x5 (wI s 246 x5.toNat x4)))) else some ((-1), s)) := rfl
set_option maxRecDepth 100000 in
set_option maxHeartbeats 1000000 in
theorem l_X_ringFrom_L39_eq (m : Nat) (n : Nat) (x2 : Int) (x3 : Int) (x4 : Int) (x5 : Int) (s : mS) : l_X_ringFrom_L39 m (n + 1) x2 x3 x4 x5 s = (inR x4 12 ((f_X_isBox m (s.1 14 x4.toNat) s).bind fun p0 => (if p0.1 = 0 then some ((-1), p0.2) else (inR x4 12 (inR (s.1 14 x4.toNat) 9 (if p0.2.1 6 (s.1 14 x4.toNat).toNat < p0.2.1 11 x4.toNat then some ((-1), p0.2) else (if s.1 14 x4.toNat = x3 then some (w32 (x5 + 1), p0.2) else (inR (s.1 14 x4.toNat) 9 ((f_X_isDead m (p0.2.1 19 (s.1 14 x4.toNat).toNat) p0.2).bind fun p1 => (if p1.1 = 0 then some ((-1), p1.2) else (l_X_ringFrom_L19 m n x2 x3 (p0.2.1 19 (s.1 14 x4.toNat).toNat) (w32 (x5 + 1)) p1.2))))))))))) := rfl
set_option maxRecDepth 100000 in
set_option maxHeartbeats 1000000 in
theorem f_X_ring_eq (m : Nat) (a1 : Int) (s : mS) : f_X_ring m a1 s = ((f_X_isDead m a1 s).bind fun p0 => (if p0.1 = 0 then some ((-1), p0.2) else (inR a1 12 (if p0.2.1 25 a1.toNat = 2 then ((f_X_ringFrom m a1 0 p0.2).bind fun p1 => (if p1.1 = (-1) then some (p1.1, p1.2) else ((f_X_ringFrom m a1 1 p1.2).bind fun p2 => some (p1.1, wI p2.2 0 15 p1.1)))) else some ((-1), p0.2))))) := rfl
set_option maxRecDepth 100000 in
set_option maxHeartbeats 1000000 in
theorem f_X_ringAt_eq (m : Nat) (a1 : Int) (s : mS) : f_X_ringAt m a1 s = (if a1 < 0 then some ((-1), s) else (if a1 < s.1 0 15 then (inR a1 12 some (s.1 246 a1.toNat, s)) else some ((-1), s))) := rfl
set_option maxRecDepth 100000 in
set_option maxHeartbeats 1000000 in
theorem f_Vs_allDead_eq (m : Nat) (s : mS) : f_Vs_allDead m s = some (w32 ((bshl 1 (s.1 4 2)) - 1), s) := rfl
set_option maxRecDepth 100000 in
set_option maxHeartbeats 1000000 in
theorem f_Tp_byteOf_eq (m : Nat) (a1 : Int) (s : mS) : f_Tp_byteOf m a1 s = (if a1 < 0 then some (0, s) else (if a1 < 940 then (inR a1 940 some (band (s.1 2 a1.toNat) 255, s)) else some (0, s))) := rfl
set_option maxRecDepth 100000 in
set_option maxHeartbeats 1000000 in
theorem f_X_numberOf_eq (m : Nat) (a1 : Int) (a2 : Int) (s : mS) : f_X_numberOf m a1 a2 s = (if a1 = 0 then (inR a2 12 some (s.1 11 a2.toNat, s)) else (if a1 = 1 then (inR a2 12 some (s.1 28 a2.toNat, s)) else (if a1 = 2 then (inR a2 12 (if s.1 26 a2.toNat = (-1) then some (255, s) else (inR a2 12 some (s.1 26 a2.toNat, s)))) else (inR a2 12 (if s.1 27 a2.toNat = (-1) then some (255, s) else (inR a2 12 some (s.1 27 a2.toNat, s))))))) := rfl
set_option maxRecDepth 100000 in
set_option maxHeartbeats 1000000 in
theorem f_X_thoseWith_eq (m : Nat) (a1 : Int) (a2 : Int) (s : mS) : f_X_thoseWith m a1 a2 s = (l_X_thoseWith_L5 m m a1 a2 0 0 s) := rfl
set_option maxRecDepth 100000 in
set_option maxHeartbeats 1000000 in
theorem l_X_thoseWith_L5_eq (m : Nat) (n : Nat) (x1 : Int) (x2 : Int) (x3 : Int) (x4 : Int) (s : mS) : l_X_thoseWith_L5 m (n + 1) x1 x2 x3 x4 s = (if x4 < s.1 4 2 then ((f_X_numberOf m x1 x4 s).bind fun p0 => (if p0.1 = x2 then (l_X_thoseWith_L5 m n x1 x2 (bor x3 (bshl 1 x4)) (w32 (x4 + 1)) p0.2) else (l_X_thoseWith_L5 m n x1 x2 x3 (w32 (x4 + 1)) p0.2))) else some (x3, s)) := rfl
set_option maxRecDepth 100000 in
set_option maxHeartbeats 1000000 in
theorem f_Ji_bitCount_eq (m : Nat) (a0 : Int) (s : mS) : f_Ji_bitCount m a0 s = some (band (w32 ((w32 ((band (w32 ((w32 ((band (w32 (a0 - (band (bushr a0 1) 1431655765))) 858993459) + (band (bushr (w32 (a0 - (band (bushr a0 1) 1431655765))) 2) 858993459))) + (bushr (w32 ((band (w32 (a0 - (band (bushr a0 1) 1431655765))) 858993459) + (band (bushr (w32 (a0 - (band (bushr a0 1) 1431655765))) 2) 858993459))) 4))) 252645135) + (bushr (band (w32 ((w32 ((band (w32 (a0 - (band (bushr a0 1) 1431655765))) 858993459) + (band (bushr (w32 (a0 - (band (bushr a0 1) 1431655765))) 2) 858993459))) + (bushr (w32 ((band (w32 (a0 - (band (bushr a0 1) 1431655765))) 858993459) + (band (bushr (w32 (a0 - (band (bushr a0 1) 1431655765))) 2) 858993459))) 4))) 252645135) 8))) + (bushr (w32 ((band (w32 ((w32 ((band (w32 (a0 - (band (bushr a0 1) 1431655765))) 858993459) + (band (bushr (w32 (a0 - (band (bushr a0 1) 1431655765))) 2) 858993459))) + (bushr (w32 ((band (w32 (a0 - (band (bushr a0 1) 1431655765))) 858993459) + (band (bushr (w32 (a0 - (band (bushr a0 1) 1431655765))) 2) 858993459))) 4))) 252645135) + (bushr (band (w32 ((w32 ((band (w32 (a0 - (band (bushr a0 1) 1431655765))) 858993459) + (band (bushr (w32 (a0 - (band (bushr a0 1) 1431655765))) 2) 858993459))) + (bushr (w32 ((band (w32 (a0 - (band (bushr a0 1) 1431655765))) 858993459) + (band (bushr (w32 (a0 - (band (bushr a0 1) 1431655765))) 2) 858993459))) 4))) 252645135) 8))) 16))) 63, s) := rfl
set_option maxRecDepth 100000 in
set_option maxHeartbeats 1000000 in
theorem f_X_greatestAlike_eq (m : Nat) (a1 : Int) (a2 : Int) (s : mS) : f_X_greatestAlike m a1 a2 s = (l_X_greatestAlike_L5 m m a1 a2 0 0 s) := rfl
set_option maxRecDepth 100000 in
set_option maxHeartbeats 1000000 in
theorem l_X_greatestAlike_L5_eq (m : Nat) (n : Nat) (x1 : Int) (x2 : Int) (x3 : Int) (x4 : Int) (s : mS) : l_X_greatestAlike_L5 m (n + 1) x1 x2 x3 x4 s = (if x4 < s.1 4 2 then (if band (bshr x2 x4) 1 = 0 then (l_X_greatestAlike_L5 m n x1 x2 x3 (w32 (x4 + 1)) s) else ((f_X_numberOf m x1 x4 s).bind fun p0 => ((f_X_thoseWith m x1 p0.1 p0.2).bind fun p1 => ((f_Ji_bitCount m (band x2 p1.1) p1.2).bind fun p2 => ((f_Jm_max m x3 p2.1 p2.2).bind fun p3 => (l_X_greatestAlike_L5 m n x1 x2 p3.1 (w32 (x4 + 1)) p3.2)))))) else some (x3, s)) := rfl
set_option maxRecDepth 100000 in
set_option maxHeartbeats 1000000 in
theorem f_X_bestToAsk_eq (m : Nat) (a1 : Int) (s : mS) : f_X_bestToAsk m a1 s = (l_X_bestToAsk_L8 m m a1 (-1) 13 0 s) := rfl
set_option maxRecDepth 100000 in
set_option maxHeartbeats 1000000 in
theorem l_X_bestToAsk_L8_eq (m : Nat) (n : Nat) (x1 : Int) (x2 : Int) (x3 : Int) (x4 : Int) (s : mS) : l_X_bestToAsk_L8 m (n + 1) x1 x2 x3 x4 s = (if x4 < 4 then ((f_X_greatestAlike m x4 x1 s).bind fun p0 => (if p0.1 < x3 then (l_X_bestToAsk_L8 m n x1 x4 p0.1 (w32 (x4 + 1)) p0.2) else (l_X_bestToAsk_L8 m n x1 x2 x3 (w32 (x4 + 1)) p0.2))) else some (x2, s)) := rfl
set_option maxRecDepth 100000 in
set_option maxHeartbeats 1000000 in
theorem f_X_who_eq (m : Nat) (s : mS) : f_X_who m s = (if s.1 1 1 < 2 then some ((-1), wI s 1 1 0) else (if 12 < s.1 1 1 then some ((-1), wI s 1 1 0) else (if Int.tmod (s.1 1 1) 2 = 0 then ((f_Vs_allDead m (wI s 1 1 0)).bind fun p0 => (l_X_who_L48 m m (s.1 1 1) p0.1 0 p0.2)) else some ((-1), wI s 1 1 0)))) := rfl
set_option maxRecDepth 100000 in
set_option maxHeartbeats 1000000 in
theorem l_X_who_L48_eq (m : Nat) (n : Nat) (x1 : Int) (x2 : Int) (x3 : Int) (s : mS) : l_X_who_L48 m (n + 1) x1 x2 x3 s = (if x3 < x1 then ((f_Tp_byteOf m x3 s).bind fun p0 => (if 3 < p0.1 then some ((-1), p0.2) else ((f_Tp_byteOf m (w32 (x3 + 1)) p0.2).bind fun p1 => ((f_X_thoseWith m p0.1 p1.1 p1.2).bind fun p2 => (l_X_who_L48 m n x1 (band x2 p2.1) (w32 (x3 + 2)) p2.2))))) else (if x2 = 0 then some (x2, s) else ((f_X_bestToAsk m x2 s).bind fun p0 => some (x2, wI p0.2 0 16 p0.1)))) := rfl
set_option maxRecDepth 100000 in
set_option maxHeartbeats 1000000 in
theorem f_X_ask_eq (m : Nat) (s : mS) : f_X_ask m s = some (s.1 0 16, s) := rfl
set_option maxRecDepth 100000 in
set_option maxHeartbeats 1000000 in
theorem f_Vs_kinOfAny_eq (m : Nat) (a1 : Int) (s : mS) : f_Vs_kinOfAny m a1 s = (l_Vs_kinOfAny_L4 m m a1 0 0 s) := rfl
set_option maxRecDepth 100000 in
set_option maxHeartbeats 1000000 in
theorem l_Vs_kinOfAny_L4_eq (m : Nat) (n : Nat) (x1 : Int) (x2 : Int) (x3 : Int) (s : mS) : l_Vs_kinOfAny_L4 m (n + 1) x1 x2 x3 s = (if x3 < s.1 4 2 then (if band (bshr x1 x3) 1 = 0 then (l_Vs_kinOfAny_L4 m n x1 x2 (w32 (x3 + 1)) s) else (inR x3 12 (l_Vs_kinOfAny_L4 m n x1 (bor x2 (s.1 13 x3.toNat)) (w32 (x3 + 1)) s))) else some (x2, s)) := rfl
set_option maxRecDepth 100000 in
set_option maxHeartbeats 1000000 in
theorem f_X_near_eq (m : Nat) (a1 : Int) (a2 : Int) (s : mS) : f_X_near m a1 a2 s = ((f_X_isDead m a1 s).bind fun p0 => (if p0.1 = 0 then some ((-1), p0.2) else ((f_X_isDead m a2 p0.2).bind fun p1 => (if p1.1 = 0 then some ((-1), p1.2) else (l_X_near_L25 m m a2 (bshl 1 a1) 0 p1.2))))) := rfl
set_option maxRecDepth 100000 in
set_option maxHeartbeats 1000000 in
theorem l_X_near_L25_eq (m : Nat) (n : Nat) (x2 : Int) (x3 : Int) (x4 : Int) (s : mS) : l_X_near_L25 m (n + 1) x2 x3 x4 s = (if x4 < 12 then (if band (bshr x3 x2) 1 = 0 then ((f_Vs_kinOfAny m x3 s).bind fun p0 => (l_X_near_L25 m n x2 (bor x3 p0.1) (w32 (x4 + 1)) p0.2)) else some (x4, s)) else some ((-1), s)) := rfl
set_option maxRecDepth 100000 in
set_option maxHeartbeats 1000000 in
theorem f_X_had_eq (m : Nat) (a1 : Int) (a2 : Int) (s : mS) : f_X_had m a1 a2 s = ((f_X_isBox m a1 s).bind fun p0 => (if p0.1 = 0 then some ((-1), p0.2) else (if a2 < 0 then some ((-1), p0.2) else (if a2 < 4 then (inR (w32 ((w32 (a1 * 4)) + a2)) 36 some (p0.2.1 21 (w32 ((w32 (a1 * 4)) + a2)).toNat, p0.2)) else some ((-1), p0.2))))) := rfl
set_option maxRecDepth 100000 in
set_option maxHeartbeats 1000000 in
theorem f_X_longest_eq (m : Nat) (s : mS) : f_X_longest m s = (l_X_longest_L6 m m 0 (-1) 0 s) := rfl
set_option maxRecDepth 100000 in
set_option maxHeartbeats 1000000 in
theorem l_X_longest_L6_eq (m : Nat) (n : Nat) (x1 : Int) (x2 : Int) (x3 : Int) (s : mS) : l_X_longest_L6 m (n + 1) x1 x2 x3 s = (if x3 < s.1 4 2 then (inR x3 12 (if x1 < s.1 28 x3.toNat then (inR x3 12 (l_X_longest_L6 m n (s.1 28 x3.toNat) x3 (w32 (x3 + 1)) s)) else (l_X_longest_L6 m n x1 x2 (w32 (x3 + 1)) s))) else some (x2, s)) := rfl
set_option maxRecDepth 100000 in
set_option maxHeartbeats 1000000 in
theorem f_X_tagByte_eq (m : Nat) (a1 : Int) (s : mS) : f_X_tagByte m a1 s = (if s.1 0 17 < 32 then (inR (s.1 0 17) 32 some (0, wI (wI s 247 (s.1 0 17).toNat (b8 (b8 a1))) 0 17 (w32 (((wI s 247 (s.1 0 17).toNat (b8 (b8 a1))).1 0 17) + 1)))) else some (0, s)) := rfl
set_option maxRecDepth 100000 in
set_option maxHeartbeats 1000000 in
theorem f_X_tagName_eq (m : Nat) (a1 : Int) (s : mS) : f_X_tagName m a1 s = (l_X_tagName_L3 m m a1 48 s) := rfl
set_option maxRecDepth 100000 in
set_option maxHeartbeats 1000000 in
theorem l_X_tagName_L3_eq (m : Nat) (n : Nat) (x1 : Int) (x3 : Int) (s : mS) : l_X_tagName_L3 m (n + 1) x1 x3 s = (if x3 < 0 then some (0, s) else (if w32 (lband (lbushr x1 x3) 255) = 0 then (l_X_tagName_L3 m n x1 (w32 (x3 + (-8))) s) else ((f_X_tagByte m (w32 (lband (lbushr x1 x3) 255)) s).bind fun p0 => (l_X_tagName_L3 m n x1 (w32 (x3 + (-8))) p0.2)))) := rfl
set_option maxRecDepth 100000 in
set_option maxHeartbeats 1000000 in
theorem f_X_tagText_0_1200_eq (m : Nat) (s : mS) : f_X_tagText_0_1200 m s = (l_X_tagText_0_1200_L2 m m 0 s) := rfl
set_option maxRecDepth 100000 in
set_option maxHeartbeats 1000000 in
theorem l_X_tagText_0_1200_L2_eq (m : Nat) (n : Nat) (x2 : Int) (s : mS) : l_X_tagText_0_1200_L2 m (n + 1) x2 s = ((f_Js_length_1200 m s).bind fun p0 => (if x2 < p0.1 then ((f_Js_charAt_1200 m x2 p0.2).bind fun p1 => ((f_X_tagByte m p1.1 p1.2).bind fun p2 => (l_X_tagText_0_1200_L2 m n (w32 (x2 + 1)) p2.2))) else some (0, p0.2))) := rfl
set_option maxRecDepth 100000 in
set_option maxHeartbeats 1000000 in
theorem f_X_tagText_0_1201_eq (m : Nat) (s : mS) : f_X_tagText_0_1201 m s = (l_X_tagText_0_1201_L2 m m 0 s) := rfl
set_option maxRecDepth 100000 in
set_option maxHeartbeats 1000000 in
theorem l_X_tagText_0_1201_L2_eq (m : Nat) (n : Nat) (x2 : Int) (s : mS) : l_X_tagText_0_1201_L2 m (n + 1) x2 s = ((f_Js_length_1201 m s).bind fun p0 => (if x2 < p0.1 then ((f_Js_charAt_1201 m x2 p0.2).bind fun p1 => ((f_X_tagByte m p1.1 p1.2).bind fun p2 => (l_X_tagText_0_1201_L2 m n (w32 (x2 + 1)) p2.2))) else some (0, p0.2))) := rfl
set_option maxRecDepth 100000 in
set_option maxHeartbeats 1000000 in
theorem f_X_tagText_0_1202_eq (m : Nat) (s : mS) : f_X_tagText_0_1202 m s = (l_X_tagText_0_1202_L2 m m 0 s) := rfl
set_option maxRecDepth 100000 in
set_option maxHeartbeats 1000000 in
theorem l_X_tagText_0_1202_L2_eq (m : Nat) (n : Nat) (x2 : Int) (s : mS) : l_X_tagText_0_1202_L2 m (n + 1) x2 s = ((f_Js_length_1202 m s).bind fun p0 => (if x2 < p0.1 then ((f_Js_charAt_1202 m x2 p0.2).bind fun p1 => ((f_X_tagByte m p1.1 p1.2).bind fun p2 => (l_X_tagText_0_1202_L2 m n (w32 (x2 + 1)) p2.2))) else some (0, p0.2))) := rfl
set_option maxRecDepth 100000 in
set_option maxHeartbeats 1000000 in
theorem f_X_tagText_0_1203_eq (m : Nat) (s : mS) : f_X_tagText_0_1203 m s = (l_X_tagText_0_1203_L2 m m 0 s) := rfl
set_option maxRecDepth 100000 in
set_option maxHeartbeats 1000000 in
theorem l_X_tagText_0_1203_L2_eq (m : Nat) (n : Nat) (x2 : Int) (s : mS) : l_X_tagText_0_1203_L2 m (n + 1) x2 s = ((f_Js_length_1203 m s).bind fun p0 => (if x2 < p0.1 then ((f_Js_charAt_1203 m x2 p0.2).bind fun p1 => ((f_X_tagByte m p1.1 p1.2).bind fun p2 => (l_X_tagText_0_1203_L2 m n (w32 (x2 + 1)) p2.2))) else some (0, p0.2))) := rfl
set_option maxRecDepth 100000 in
set_option maxHeartbeats 1000000 in
theorem f_X_tag_eq (m : Nat) (a1 : Int) (s : mS) : f_X_tag m a1 s = ((f_X_isDead m a1 s).bind fun p0 => (if p0.1 = 0 then some ((-1), p0.2) else (inR a1 12 ((f_X_tagName m ((wI p0.2 0 17 0).2 10 a1.toNat) (wI p0.2 0 17 0)).bind fun p1 => (inR a1 12 (inR a1 12 (inR a1 12 (if p1.2.1 25 a1.toNat = 0 then ((f_X_tagText_0_1200 m p1.2).bind fun p2 => some (p2.2.1 0 17, p2.2)) else (if p1.2.1 25 a1.toNat = 1 then ((f_X_tagText_0_1201 m p1.2).bind fun p2 => some (p2.2.1 0 17, p2.2)) else (if p1.2.1 25 a1.toNat = 2 then ((f_X_isBox m (p1.2.1 26 a1.toNat) p1.2).bind fun p2 => (if p2.1 = 0 then (l_X_tag_L139 m m (p1.2.1 25 a1.toNat) (p1.2.1 27 a1.toNat) p2.2) else ((f_X_tagText_0_1202 m p2.2).bind fun p3 => (inR (p1.2.1 26 a1.toNat) 9 ((f_X_tagName m (p3.2.2 5 (p1.2.1 26 a1.toNat).toNat) p3.2).bind fun p4 => some (p4.2.1 0 17, p4.2)))))) else (l_X_tag_L139 m m (p1.2.1 25 a1.toNat) (p1.2.1 27 a1.toNat) p1.2))))))))))) := rfl
set_option maxRecDepth 100000 in
set_option maxHeartbeats 1000000 in
theorem l_X_tag_L139_eq (m : Nat) (n : Nat) (x2 : Int) (x4 : Int) (s : mS) : l_X_tag_L139 m (n + 1) x2 x4 s = (if x2 = 3 then ((f_X_isPlot m x4 s).bind fun p0 => (if p0.1 = 0 then some (p0.2.1 0 17, p0.2) else ((f_X_tagText_0_1203 m p0.2).bind fun p1 => (inR x4 5 ((f_X_tagName m (p1.2.2 8 x4.toNat) p1.2).bind fun p2 => some (p2.2.1 0 17, p2.2)))))) else some (s.1 0 17, s)) := rfl
set_option maxRecDepth 100000 in
set_option maxHeartbeats 1000000 in
theorem f_X_byteAt_eq (m : Nat) (a1 : Int) (s : mS) : f_X_byteAt m a1 s = (if a1 < 0 then some ((-1), s) else (if a1 < s.1 0 17 then (inR a1 32 some (band (s.1 247 a1.toNat) 255, s)) else some ((-1), s))) := rfl
set_option maxRecDepth 100000 in
set_option maxHeartbeats 1000000 in
theorem f_Dr_draw_eq (m : Nat) (a1 : Int) (s : mS) : f_Dr_draw m a1 s = (if a1 < 1 then some (0, wI s 245 0 (w32 ((w32 ((s.1 245 0) * 1103515245)) + 12345))) else (if a1 = 0 then none else some (Int.tmod (bushr ((wI s 245 0 (w32 ((w32 ((s.1 245 0) * 1103515245)) + 12345))).1 245 0) 8) a1, wI s 245 0 (w32 ((w32 ((s.1 245 0) * 1103515245)) + 12345))))) := rfl
set_option maxRecDepth 100000 in
set_option maxHeartbeats 1000000 in
theorem f_Dr_actOnce_245_4_17_eq (m : Nat) (s : mS) : f_Dr_actOnce_245_4_17 m s = ((f_Dr_draw m 8 s).bind fun p0 => (if 2 < p0.1 then (if p0.1 = 3 then (l_Dr_actOnce_245_4_17_L65 m m p0.1 p0.2) else (if p0.1 = 4 then (l_Dr_actOnce_245_4_17_L65 m m p0.1 p0.2) else (if p0.1 = 5 then (if 0 < p0.2.1 4 0 then ((f_Dr_draw m (p0.2.1 4 0) p0.2).bind fun p1 => ((f_St_mendIt_17 m p1.1 p1.2).bind fun p2 => some (0, p2.2))) else (l_Dr_actOnce_245_4_17_L136 m m p0.1 p0.2)) else (l_Dr_actOnce_245_4_17_L136 m m p0.1 p0.2)))) else (if 0 < p0.2.1 4 2 then (if 0 < p0.2.1 4 0 then ((f_Dr_draw m (p0.2.1 4 2) p0.2).bind fun p1 => ((f_Dr_draw m (p1.2.1 4 0) p1.2).bind fun p2 => ((f_St_lendHim_17_4 m p1.1 p2.1 p2.2).bind fun p3 => some (0, p3.2)))) else (if p0.1 = 3 then (l_Dr_actOnce_245_4_17_L65 m m p0.1 p0.2) else (if p0.1 = 4 then (l_Dr_actOnce_245_4_17_L65 m m p0.1 p0.2) else (if p0.1 = 5 then (if 0 < p0.2.1 4 0 then ((f_Dr_draw m (p0.2.1 4 0) p0.2).bind fun p1 => ((f_St_mendIt_17 m p1.1 p1.2).bind fun p2 => some (0, p2.2))) else (l_Dr_actOnce_245_4_17_L136 m m p0.1 p0.2)) else (l_Dr_actOnce_245_4_17_L136 m m p0.1 p0.2))))) else (if p0.1 = 3 then (l_Dr_actOnce_245_4_17_L65 m m p0.1 p0.2) else (if p0.1 = 4 then (l_Dr_actOnce_245_4_17_L65 m m p0.1 p0.2) else (if p0.1 = 5 then (if 0 < p0.2.1 4 0 then ((f_Dr_draw m (p0.2.1 4 0) p0.2).bind fun p1 => ((f_St_mendIt_17 m p1.1 p1.2).bind fun p2 => some (0, p2.2))) else (l_Dr_actOnce_245_4_17_L136 m m p0.1 p0.2)) else (l_Dr_actOnce_245_4_17_L136 m m p0.1 p0.2))))))) := rfl
set_option maxRecDepth 100000 in
set_option maxHeartbeats 1000000 in
theorem l_Dr_actOnce_245_4_17_L65_eq (m : Nat) (n : Nat) (x3 : Int) (s : mS) : l_Dr_actOnce_245_4_17_L65 m (n + 1) x3 s = (if 0 < s.1 4 2 then (if 0 < s.1 4 1 then ((f_Dr_draw m (s.1 4 2) s).bind fun p0 => ((f_Dr_draw m (p0.2.1 4 1) p0.2).bind fun p1 => ((f_St_layHim_17_4 m p0.1 p1.1 p1.2).bind fun p2 => some (0, p2.2)))) else (if x3 = 5 then (if 0 < s.1 4 0 then ((f_Dr_draw m (s.1 4 0) s).bind fun p0 => ((f_St_mendIt_17 m p0.1 p0.2).bind fun p1 => some (0, p1.2))) else (l_Dr_actOnce_245_4_17_L136 m n x3 s)) else (l_Dr_actOnce_245_4_17_L136 m n x3 s))) else (if x3 = 5 then (if 0 < s.1 4 0 then ((f_Dr_draw m (s.1 4 0) s).bind fun p0 => ((f_St_mendIt_17 m p0.1 p0.2).bind fun p1 => some (0, p1.2))) else (l_Dr_actOnce_245_4_17_L136 m n x3 s)) else (l_Dr_actOnce_245_4_17_L136 m n x3 s))) := rfl
set_option maxRecDepth 100000 in
set_option maxHeartbeats 1000000 in
theorem l_Dr_actOnce_245_4_17_L136_eq (m : Nat) (n : Nat) (x3 : Int) (s : mS) : l_Dr_actOnce_245_4_17_L136 m (n + 1) x3 s = (if x3 = 6 then (if 0 < s.1 4 2 then ((f_Dr_draw m (s.1 4 2) s).bind fun p0 => ((f_Dr_draw m (p0.2.1 4 2) p0.2).bind fun p1 => (if p0.1 = p1.1 then some (0, p1.2) else ((f_St_swapThem_17_4 m p0.1 p1.1 p1.2).bind fun p2 => some (0, p2.2))))) else some (0, s)) else some (0, s)) := rfl
set_option maxRecDepth 100000 in
set_option maxHeartbeats 1000000 in
theorem f_Dr_actOnce_245_4_206_eq (m : Nat) (s : mS) : f_Dr_actOnce_245_4_206 m s = ((f_Dr_draw m 8 s).bind fun p0 => (if 2 < p0.1 then (if p0.1 = 3 then (l_Dr_actOnce_245_4_206_L65 m m p0.1 p0.2) else (if p0.1 = 4 then (l_Dr_actOnce_245_4_206_L65 m m p0.1 p0.2) else (if p0.1 = 5 then (if 0 < p0.2.1 4 0 then ((f_Dr_draw m (p0.2.1 4 0) p0.2).bind fun p1 => ((f_St_mendIt_206 m p1.1 p1.2).bind fun p2 => some (0, p2.2))) else (l_Dr_actOnce_245_4_206_L136 m m p0.1 p0.2)) else (l_Dr_actOnce_245_4_206_L136 m m p0.1 p0.2)))) else (if 0 < p0.2.1 4 2 then (if 0 < p0.2.1 4 0 then ((f_Dr_draw m (p0.2.1 4 2) p0.2).bind fun p1 => ((f_Dr_draw m (p1.2.1 4 0) p1.2).bind fun p2 => ((f_St_lendHim_206_4 m p1.1 p2.1 p2.2).bind fun p3 => some (0, p3.2)))) else (if p0.1 = 3 then (l_Dr_actOnce_245_4_206_L65 m m p0.1 p0.2) else (if p0.1 = 4 then (l_Dr_actOnce_245_4_206_L65 m m p0.1 p0.2) else (if p0.1 = 5 then (if 0 < p0.2.1 4 0 then ((f_Dr_draw m (p0.2.1 4 0) p0.2).bind fun p1 => ((f_St_mendIt_206 m p1.1 p1.2).bind fun p2 => some (0, p2.2))) else (l_Dr_actOnce_245_4_206_L136 m m p0.1 p0.2)) else (l_Dr_actOnce_245_4_206_L136 m m p0.1 p0.2))))) else (if p0.1 = 3 then (l_Dr_actOnce_245_4_206_L65 m m p0.1 p0.2) else (if p0.1 = 4 then (l_Dr_actOnce_245_4_206_L65 m m p0.1 p0.2) else (if p0.1 = 5 then (if 0 < p0.2.1 4 0 then ((f_Dr_draw m (p0.2.1 4 0) p0.2).bind fun p1 => ((f_St_mendIt_206 m p1.1 p1.2).bind fun p2 => some (0, p2.2))) else (l_Dr_actOnce_245_4_206_L136 m m p0.1 p0.2)) else (l_Dr_actOnce_245_4_206_L136 m m p0.1 p0.2))))))) := rfl
set_option maxRecDepth 100000 in
set_option maxHeartbeats 1000000 in
theorem l_Dr_actOnce_245_4_206_L65_eq (m : Nat) (n : Nat) (x3 : Int) (s : mS) : l_Dr_actOnce_245_4_206_L65 m (n + 1) x3 s = (if 0 < s.1 4 2 then (if 0 < s.1 4 1 then ((f_Dr_draw m (s.1 4 2) s).bind fun p0 => ((f_Dr_draw m (p0.2.1 4 1) p0.2).bind fun p1 => ((f_St_layHim_206_4 m p0.1 p1.1 p1.2).bind fun p2 => some (0, p2.2)))) else (if x3 = 5 then (if 0 < s.1 4 0 then ((f_Dr_draw m (s.1 4 0) s).bind fun p0 => ((f_St_mendIt_206 m p0.1 p0.2).bind fun p1 => some (0, p1.2))) else (l_Dr_actOnce_245_4_206_L136 m n x3 s)) else (l_Dr_actOnce_245_4_206_L136 m n x3 s))) else (if x3 = 5 then (if 0 < s.1 4 0 then ((f_Dr_draw m (s.1 4 0) s).bind fun p0 => ((f_St_mendIt_206 m p0.1 p0.2).bind fun p1 => some (0, p1.2))) else (l_Dr_actOnce_245_4_206_L136 m n x3 s)) else (l_Dr_actOnce_245_4_206_L136 m n x3 s))) := rfl
set_option maxRecDepth 100000 in
set_option maxHeartbeats 1000000 in
theorem l_Dr_actOnce_245_4_206_L136_eq (m : Nat) (n : Nat) (x3 : Int) (s : mS) : l_Dr_actOnce_245_4_206_L136 m (n + 1) x3 s = (if x3 = 6 then (if 0 < s.1 4 2 then ((f_Dr_draw m (s.1 4 2) s).bind fun p0 => ((f_Dr_draw m (p0.2.1 4 2) p0.2).bind fun p1 => (if p0.1 = p1.1 then some (0, p1.2) else ((f_St_swapThem_206_4 m p0.1 p1.1 p1.2).bind fun p2 => some (0, p2.2))))) else some (0, s)) else some (0, s)) := rfl
set_option maxRecDepth 100000 in
set_option maxHeartbeats 1000000 in
theorem f_Dr_live_245_4_17_eq (m : Nat) (a1 : Int) (a2 : Int) (s : mS) : f_Dr_live_245_4_17 m a1 a2 s = (l_Dr_live_245_4_17_L8 m m a1 0 (wI s 245 0 a2)) := rfl
set_option maxRecDepth 100000 in
set_option maxHeartbeats 1000000 in
theorem l_Dr_live_245_4_17_L8_eq (m : Nat) (n : Nat) (x1 : Int) (x5 : Int) (s : mS) : l_Dr_live_245_4_17_L8 m (n + 1) x1 x5 s = (if x5 < x1 then (if s.1 17 0 < 400 then ((f_Dr_actOnce_245_4_17 m s).bind fun p0 => ((f_St_passDays_17_4 m 1 p0.2).bind fun p1 => (l_Dr_live_245_4_17_L8 m n x1 (w32 (x5 + p1.1)) p1.2))) else some (x5, s)) else some (x5, s)) := rfl
set_option maxRecDepth 100000 in
set_option maxHeartbeats 1000000 in
theorem f_Dr_live_245_4_206_eq (m : Nat) (a1 : Int) (a2 : Int) (s : mS) : f_Dr_live_245_4_206 m a1 a2 s = (l_Dr_live_245_4_206_L8 m m a1 0 (wI s 245 0 a2)) := rfl
set_option maxRecDepth 100000 in
set_option maxHeartbeats 1000000 in
theorem l_Dr_live_245_4_206_L8_eq (m : Nat) (n : Nat) (x1 : Int) (x5 : Int) (s : mS) : l_Dr_live_245_4_206_L8 m (n + 1) x1 x5 s = (if x5 < x1 then (if s.1 206 0 < 400 then ((f_Dr_actOnce_245_4_206 m s).bind fun p0 => ((f_St_passDays_206_4 m 1 p0.2).bind fun p1 => (l_Dr_live_245_4_206_L8 m n x1 (w32 (x5 + p1.1)) p1.2))) else some (x5, s)) else some (x5, s)) := rfl
set_option maxRecDepth 100000 in
set_option maxHeartbeats 1000000 in
theorem f_X_drawn_eq (m : Nat) (a1 : Int) (a2 : Int) (s : mS) : f_X_drawn m a1 a2 s = (if a1 < 1 then some ((-1), s) else (if 60 < a1 then some ((-1), s) else ((f_St_copyOf_206_17 m s).bind fun p0 => ((f_Dr_live_245_4_17 m a1 a2 p0.2).bind fun p1 => ((f_X_wentBy m p1.1 p1.2).bind fun p2 => some (p2.1, p2.2)))))) := rfl
set_option maxRecDepth 100000 in
set_option maxHeartbeats 1000000 in
theorem f_X_odds_eq (m : Nat) (a1 : Int) (a2 : Int) (a3 : Int) (s : mS) : f_X_odds m a1 a2 a3 s = ((f_X_isDead m a1 s).bind fun p0 => (if p0.1 = 0 then some ((-1), p0.2) else (if a2 < 1 then some ((-1), p0.2) else (if 30 < a2 then some ((-1), p0.2) else (l_X_odds_L27 m m a1 a2 a3 0 0 p0.2))))) := rfl
set_option maxRecDepth 100000 in
set_option maxHeartbeats 1000000 in
theorem l_X_odds_L27_eq (m : Nat) (n : Nat) (x1 : Int) (x2 : Int) (x3 : Int) (x4 : Int) (x5 : Int) (s : mS) : l_X_odds_L27 m (n + 1) x1 x2 x3 x4 x5 s = (if x5 < x2 then ((f_St_copyOf_206_17 m s).bind fun p0 => ((f_Dr_live_245_4_206 m 20 (w32 (x3 + x5)) p0.2).bind fun p1 => (inR x1 12 (if p1.2.1 214 x1.toNat = 3 then (l_X_odds_L27 m n x1 x2 x3 (w32 (x4 + 1)) (w32 (x5 + 1)) p1.2) else (l_X_odds_L27 m n x1 x2 x3 x4 (w32 (x5 + 1)) p1.2))))) else some (x4, s)) := rfl
set_option maxRecDepth 100000 in
set_option maxHeartbeats 1000000 in
theorem f_Bk_actOf_eq (m : Nat) (s : mS) : f_Bk_actOf m s = (if encW (s.1 1 3) = none then some ((-1), s) else (onS (encW (s.1 1 3)) fun t0 => (if gIn 1 t0 = true then ((f_Je_ordinal m t0 s).bind fun p1 => (inR p1.1 24 (if swM p1.1.toNat = 8 then some (0, p1.2) else (if swM p1.1.toNat = 9 then some (1, p1.2) else (if swM p1.1.toNat = 10 then some (2, p1.2) else (if swM p1.1.toNat = 11 then some (3, p1.2) else (if swM p1.1.toNat = 12 then some (4, p1.2) else some ((-1), p1.2)))))))) else none))) := rfl
set_option maxRecDepth 100000 in
set_option maxHeartbeats 1000000 in
theorem f_Bk_readOther_eq (m : Nat) (s : mS) : f_Bk_readOther m s = ((f_Vs_seeDead_4_1 m s).bind fun p0 => (inR (s.1 237 0) 40 (inR ((wI p0.2 240 (s.1 237 0).toNat p0.1).1 237 0) 40 (if (wI p0.2 240 (s.1 237 0).toNat p0.1).1 240 ((wI p0.2 240 (s.1 237 0).toNat p0.1).1 237 0).toNat = (-1) then some (0, wI p0.2 240 (s.1 237 0).toNat p0.1) else (inR ((wI p0.2 240 (s.1 237 0).toNat p0.1).1 237 0) 40 (inR ((wI p0.2 240 (s.1 237 0).toNat p0.1).1 237 0) 40 (if (wI p0.2 240 (s.1 237 0).toNat p0.1).1 240 ((wI p0.2 240 (s.1 237 0).toNat p0.1).1 237 0).toNat = (wI p0.2 240 (s.1 237 0).toNat p0.1).1 239 ((wI p0.2 240 (s.1 237 0).toNat p0.1).1 237 0).toNat then ((f_Tp_fail m 3 (wI p0.2 240 (s.1 237 0).toNat p0.1)).bind fun p1 => (if p1.1 = 0 ∨ p1.1 = 1 then some (p1.1, p1.2) else none)) else ((f_Tp_advance m (wI p0.2 240 (s.1 237 0).toNat p0.1)).bind fun p1 => some (1, p1.2))))))))) := rfl
set_option maxRecDepth 100000 in
set_option maxHeartbeats 1000000 in
theorem f_Vs_takePlot_eq (m : Nat) (s : mS) : f_Vs_takePlot m s = ((f_Vs_see_1_8 m (s.1 4 1) s).bind fun p0 => (if p0.1 = (-1) then some (p0.1, p0.2) else ((f_Tp_advance m p0.2).bind fun p1 => some (p0.1, p1.2)))) := rfl
