/-! ===== written by gen_fun.py: do not edit ===== -/
set_option maxHeartbeats 1000000 in
set_option maxRecDepth 100000 in
theorem zf_St_freeBoxes_eq (Z : mZ) (m : Nat) (s : mS) : zf_St_freeBoxes Z m s = (zl_St_freeBoxes_L4 Z m m 0 0 s) := rfl
set_option maxHeartbeats 1000000 in
set_option maxRecDepth 100000 in
theorem zl_St_freeBoxes_L4_eq (Z : mZ) (m : Nat) (n : Nat) (x2 : Int) (x3 : Int) (s : mS) : zl_St_freeBoxes_L4 Z m (n + 1) x2 x3 s = (if x3 < s.1 4 0 then ((zf_St_boxFree_17 Z m x3 s).bind fun p0 => (if p0.1 = 0 then (zl_St_freeBoxes_L4 Z m n x2 (Z 0 x3 1) p0.2) else (zl_St_freeBoxes_L4 Z m n (Z 4 x2 (Z 6 1 x3)) (Z 0 x3 1) p0.2))) else (some (x2, s))) := rfl
set_option maxHeartbeats 1000000 in
set_option maxRecDepth 100000 in
theorem zf_St_bitsOf_17_4_eq (Z : mZ) (m : Nat) (a1 : Int) (s : mS) : zf_St_bitsOf_17_4 Z m a1 s = (zl_St_bitsOf_17_4_L5 Z m m a1 0 0 s) := rfl
set_option maxHeartbeats 1000000 in
set_option maxRecDepth 100000 in
theorem zl_St_bitsOf_17_4_L5_eq (Z : mZ) (m : Nat) (n : Nat) (x1 : Int) (x3 : Int) (x4 : Int) (s : mS) : zl_St_bitsOf_17_4_L5 Z m (n + 1) x1 x3 x4 s = (if x4 < s.1 4 2 then (inR x4 12 (if s.1 25 x4.toNat = x1 then (zl_St_bitsOf_17_4_L5 Z m n x1 (Z 4 x3 (Z 6 1 x4)) (Z 0 x4 1) s) else (zl_St_bitsOf_17_4_L5 Z m n x1 x3 (Z 0 x4 1) s))) else (some (x3, s))) := rfl
set_option maxHeartbeats 1000000 in
set_option maxRecDepth 100000 in
theorem zf_St_bitsOf_206_4_eq (Z : mZ) (m : Nat) (a1 : Int) (s : mS) : zf_St_bitsOf_206_4 Z m a1 s = (zl_St_bitsOf_206_4_L5 Z m m a1 0 0 s) := rfl
set_option maxHeartbeats 1000000 in
set_option maxRecDepth 100000 in
theorem zl_St_bitsOf_206_4_L5_eq (Z : mZ) (m : Nat) (n : Nat) (x1 : Int) (x3 : Int) (x4 : Int) (s : mS) : zl_St_bitsOf_206_4_L5 Z m (n + 1) x1 x3 x4 s = (if x4 < s.1 4 2 then (inR x4 12 (if s.1 214 x4.toNat = x1 then (zl_St_bitsOf_206_4_L5 Z m n x1 (Z 4 x3 (Z 6 1 x4)) (Z 0 x4 1) s) else (zl_St_bitsOf_206_4_L5 Z m n x1 x3 (Z 0 x4 1) s))) else (some (x3, s))) := rfl
set_option maxHeartbeats 1000000 in
set_option maxRecDepth 100000 in
theorem zf_X_now_eq (Z : mZ) (m : Nat) (a1 : Int) (s : mS) : zf_X_now Z m a1 s = (if a1 = 0 then (some (s.1 17 0, s)) else (if a1 = 1 then ((zf_St_bitsOf_17_4 Z m 0 s).bind fun p0 => (some (p0.1, p0.2))) else (if a1 = 2 then ((zf_St_bitsOf_17_4 Z m 1 s).bind fun p0 => (some (p0.1, p0.2))) else (if a1 = 3 then ((zf_St_bitsOf_17_4 Z m 2 s).bind fun p0 => (some (p0.1, p0.2))) else (if a1 = 4 then ((zf_St_bitsOf_17_4 Z m 3 s).bind fun p0 => (some (p0.1, p0.2))) else (if a1 = 5 then ((zf_St_freeBoxes Z m s).bind fun p0 => (some (p0.1, p0.2))) else (if a1 = 6 then ((zf_St_freePlots Z m s).bind fun p0 => (some (p0.1, p0.2))) else (if a1 = 7 then ((zf_Vs_frostOn Z m (s.1 17 0) s).bind fun p0 => (if p0.1 = 0 then (some (0, p0.2)) else (some (1, p0.2)))) else (some ((-1), s)))))))))) := rfl
set_option maxHeartbeats 1000000 in
set_option maxRecDepth 100000 in
theorem zf_X_isDead_eq (Z : mZ) (m : Nat) (a1 : Int) (s : mS) : zf_X_isDead Z m a1 s = (if a1 < 0 then (some (0, s)) else (if a1 < s.1 4 2 then (some (1, s)) else (some (0, s)))) := rfl
set_option maxHeartbeats 1000000 in
set_option maxRecDepth 100000 in
theorem zf_St_copyOf_206_17_eq (Z : mZ) (m : Nat) (s : mS) : zf_St_copyOf_206_17 Z m s = (some (0, cpyI (cpyI (cpyI (cpyI (cpyI (cpyI (cpyI (cpyI (cpyI (cpyI (cpyI (cpyI (wI s 206 0 (s.1 17 0)) 18 0 207 0 9) 19 0 208 0 9) 20 0 209 0 9) 21 0 210 0 36) 22 0 211 0 5) 23 0 212 0 5) 24 0 213 0 5) 25 0 214 0 12) 26 0 215 0 12) 27 0 216 0 12) 28 0 217 0 12) 29 0 218 0 12)) := rfl
set_option maxHeartbeats 1000000 in
set_option maxRecDepth 100000 in
theorem zf_St_copyOf_102_206_eq (Z : mZ) (m : Nat) (s : mS) : zf_St_copyOf_102_206 Z m s = (some (0, cpyI (cpyI (cpyI (cpyI (cpyI (cpyI (cpyI (cpyI (cpyI (cpyI (cpyI (cpyI (wI s 102 0 (s.1 206 0)) 207 0 103 0 9) 208 0 104 0 9) 209 0 105 0 9) 210 0 106 0 36) 211 0 107 0 5) 212 0 108 0 5) 213 0 109 0 5) 214 0 110 0 12) 215 0 111 0 12) 216 0 112 0 12) 217 0 113 0 12) 218 0 114 0 12)) := rfl
set_option maxHeartbeats 1000000 in
set_option maxRecDepth 100000 in
theorem zf_St_copyOf_115_206_eq (Z : mZ) (m : Nat) (s : mS) : zf_St_copyOf_115_206 Z m s = (some (0, cpyI (cpyI (cpyI (cpyI (cpyI (cpyI (cpyI (cpyI (cpyI (cpyI (cpyI (cpyI (wI s 115 0 (s.1 206 0)) 207 0 116 0 9) 208 0 117 0 9) 209 0 118 0 9) 210 0 119 0 36) 211 0 120 0 5) 212 0 121 0 5) 213 0 122 0 5) 214 0 123 0 12) 215 0 124 0 12) 216 0 125 0 12) 217 0 126 0 12) 218 0 127 0 12)) := rfl
set_option maxHeartbeats 1000000 in
set_option maxRecDepth 100000 in
theorem zf_St_copyOf_128_206_eq (Z : mZ) (m : Nat) (s : mS) : zf_St_copyOf_128_206 Z m s = (some (0, cpyI (cpyI (cpyI (cpyI (cpyI (cpyI (cpyI (cpyI (cpyI (cpyI (cpyI (cpyI (wI s 128 0 (s.1 206 0)) 207 0 129 0 9) 208 0 130 0 9) 209 0 131 0 9) 210 0 132 0 36) 211 0 133 0 5) 212 0 134 0 5) 213 0 135 0 5) 214 0 136 0 12) 215 0 137 0 12) 216 0 138 0 12) 217 0 139 0 12) 218 0 140 0 12)) := rfl
set_option maxHeartbeats 1000000 in
set_option maxRecDepth 100000 in
theorem zf_St_copyOf_141_206_eq (Z : mZ) (m : Nat) (s : mS) : zf_St_copyOf_141_206 Z m s = (some (0, cpyI (cpyI (cpyI (cpyI (cpyI (cpyI (cpyI (cpyI (cpyI (cpyI (cpyI (cpyI (wI s 141 0 (s.1 206 0)) 207 0 142 0 9) 208 0 143 0 9) 209 0 144 0 9) 210 0 145 0 36) 211 0 146 0 5) 212 0 147 0 5) 213 0 148 0 5) 214 0 149 0 12) 215 0 150 0 12) 216 0 151 0 12) 217 0 152 0 12) 218 0 153 0 12)) := rfl
set_option maxHeartbeats 1000000 in
set_option maxRecDepth 100000 in
theorem zf_St_copyOf_154_206_eq (Z : mZ) (m : Nat) (s : mS) : zf_St_copyOf_154_206 Z m s = (some (0, cpyI (cpyI (cpyI (cpyI (cpyI (cpyI (cpyI (cpyI (cpyI (cpyI (cpyI (cpyI (wI s 154 0 (s.1 206 0)) 207 0 155 0 9) 208 0 156 0 9) 209 0 157 0 9) 210 0 158 0 36) 211 0 159 0 5) 212 0 160 0 5) 213 0 161 0 5) 214 0 162 0 12) 215 0 163 0 12) 216 0 164 0 12) 217 0 165 0 12) 218 0 166 0 12)) := rfl
set_option maxHeartbeats 1000000 in
set_option maxRecDepth 100000 in
theorem zf_St_copyOf_167_206_eq (Z : mZ) (m : Nat) (s : mS) : zf_St_copyOf_167_206 Z m s = (some (0, cpyI (cpyI (cpyI (cpyI (cpyI (cpyI (cpyI (cpyI (cpyI (cpyI (cpyI (cpyI (wI s 167 0 (s.1 206 0)) 207 0 168 0 9) 208 0 169 0 9) 209 0 170 0 9) 210 0 171 0 36) 211 0 172 0 5) 212 0 173 0 5) 213 0 174 0 5) 214 0 175 0 12) 215 0 176 0 12) 216 0 177 0 12) 217 0 178 0 12) 218 0 179 0 12)) := rfl
set_option maxHeartbeats 1000000 in
set_option maxRecDepth 100000 in
theorem zf_St_copyOf_180_206_eq (Z : mZ) (m : Nat) (s : mS) : zf_St_copyOf_180_206 Z m s = (some (0, cpyI (cpyI (cpyI (cpyI (cpyI (cpyI (cpyI (cpyI (cpyI (cpyI (cpyI (cpyI (wI s 180 0 (s.1 206 0)) 207 0 181 0 9) 208 0 182 0 9) 209 0 183 0 9) 210 0 184 0 36) 211 0 185 0 5) 212 0 186 0 5) 213 0 187 0 5) 214 0 188 0 12) 215 0 189 0 12) 216 0 190 0 12) 217 0 191 0 12) 218 0 192 0 12)) := rfl
set_option maxHeartbeats 1000000 in
set_option maxRecDepth 100000 in
theorem zf_St_copyOf_193_206_eq (Z : mZ) (m : Nat) (s : mS) : zf_St_copyOf_193_206 Z m s = (some (0, cpyI (cpyI (cpyI (cpyI (cpyI (cpyI (cpyI (cpyI (cpyI (cpyI (cpyI (cpyI (wI s 193 0 (s.1 206 0)) 207 0 194 0 9) 208 0 195 0 9) 209 0 196 0 9) 210 0 197 0 36) 211 0 198 0 5) 212 0 199 0 5) 213 0 200 0 5) 214 0 201 0 12) 215 0 202 0 12) 216 0 203 0 12) 217 0 204 0 12) 218 0 205 0 12)) := rfl
set_option maxHeartbeats 1000000 in
set_option maxRecDepth 100000 in
theorem zf_St_copyOf_17_102_eq (Z : mZ) (m : Nat) (s : mS) : zf_St_copyOf_17_102 Z m s = (some (0, cpyI (cpyI (cpyI (cpyI (cpyI (cpyI (cpyI (cpyI (cpyI (cpyI (cpyI (cpyI (wI s 17 0 (s.1 102 0)) 103 0 18 0 9) 104 0 19 0 9) 105 0 20 0 9) 106 0 21 0 36) 107 0 22 0 5) 108 0 23 0 5) 109 0 24 0 5) 110 0 25 0 12) 111 0 26 0 12) 112 0 27 0 12) 113 0 28 0 12) 114 0 29 0 12)) := rfl
set_option maxHeartbeats 1000000 in
set_option maxRecDepth 100000 in
theorem zf_St_copyOf_17_115_eq (Z : mZ) (m : Nat) (s : mS) : zf_St_copyOf_17_115 Z m s = (some (0, cpyI (cpyI (cpyI (cpyI (cpyI (cpyI (cpyI (cpyI (cpyI (cpyI (cpyI (cpyI (wI s 17 0 (s.1 115 0)) 116 0 18 0 9) 117 0 19 0 9) 118 0 20 0 9) 119 0 21 0 36) 120 0 22 0 5) 121 0 23 0 5) 122 0 24 0 5) 123 0 25 0 12) 124 0 26 0 12) 125 0 27 0 12) 126 0 28 0 12) 127 0 29 0 12)) := rfl
set_option maxHeartbeats 1000000 in
set_option maxRecDepth 100000 in
theorem zf_St_copyOf_17_128_eq (Z : mZ) (m : Nat) (s : mS) : zf_St_copyOf_17_128 Z m s = (some (0, cpyI (cpyI (cpyI (cpyI (cpyI (cpyI (cpyI (cpyI (cpyI (cpyI (cpyI (cpyI (wI s 17 0 (s.1 128 0)) 129 0 18 0 9) 130 0 19 0 9) 131 0 20 0 9) 132 0 21 0 36) 133 0 22 0 5) 134 0 23 0 5) 135 0 24 0 5) 136 0 25 0 12) 137 0 26 0 12) 138 0 27 0 12) 139 0 28 0 12) 140 0 29 0 12)) := rfl
set_option maxHeartbeats 1000000 in
set_option maxRecDepth 100000 in
theorem zf_St_copyOf_17_141_eq (Z : mZ) (m : Nat) (s : mS) : zf_St_copyOf_17_141 Z m s = (some (0, cpyI (cpyI (cpyI (cpyI (cpyI (cpyI (cpyI (cpyI (cpyI (cpyI (cpyI (cpyI (wI s 17 0 (s.1 141 0)) 142 0 18 0 9) 143 0 19 0 9) 144 0 20 0 9) 145 0 21 0 36) 146 0 22 0 5) 147 0 23 0 5) 148 0 24 0 5) 149 0 25 0 12) 150 0 26 0 12) 151 0 27 0 12) 152 0 28 0 12) 153 0 29 0 12)) := rfl
set_option maxHeartbeats 1000000 in
set_option maxRecDepth 100000 in
theorem zf_St_copyOf_17_154_eq (Z : mZ) (m : Nat) (s : mS) : zf_St_copyOf_17_154 Z m s = (some (0, cpyI (cpyI (cpyI (cpyI (cpyI (cpyI (cpyI (cpyI (cpyI (cpyI (cpyI (cpyI (wI s 17 0 (s.1 154 0)) 155 0 18 0 9) 156 0 19 0 9) 157 0 20 0 9) 158 0 21 0 36) 159 0 22 0 5) 160 0 23 0 5) 161 0 24 0 5) 162 0 25 0 12) 163 0 26 0 12) 164 0 27 0 12) 165 0 28 0 12) 166 0 29 0 12)) := rfl
set_option maxHeartbeats 1000000 in
set_option maxRecDepth 100000 in
theorem zf_St_copyOf_17_167_eq (Z : mZ) (m : Nat) (s : mS) : zf_St_copyOf_17_167 Z m s = (some (0, cpyI (cpyI (cpyI (cpyI (cpyI (cpyI (cpyI (cpyI (cpyI (cpyI (cpyI (cpyI (wI s 17 0 (s.1 167 0)) 168 0 18 0 9) 169 0 19 0 9) 170 0 20 0 9) 171 0 21 0 36) 172 0 22 0 5) 173 0 23 0 5) 174 0 24 0 5) 175 0 25 0 12) 176 0 26 0 12) 177 0 27 0 12) 178 0 28 0 12) 179 0 29 0 12)) := rfl
set_option maxHeartbeats 1000000 in
set_option maxRecDepth 100000 in
theorem zf_St_copyOf_17_180_eq (Z : mZ) (m : Nat) (s : mS) : zf_St_copyOf_17_180 Z m s = (some (0, cpyI (cpyI (cpyI (cpyI (cpyI (cpyI (cpyI (cpyI (cpyI (cpyI (cpyI (cpyI (wI s 17 0 (s.1 180 0)) 181 0 18 0 9) 182 0 19 0 9) 183 0 20 0 9) 184 0 21 0 36) 185 0 22 0 5) 186 0 23 0 5) 187 0 24 0 5) 188 0 25 0 12) 189 0 26 0 12) 190 0 27 0 12) 191 0 28 0 12) 192 0 29 0 12)) := rfl
set_option maxHeartbeats 1000000 in
set_option maxRecDepth 100000 in
theorem zf_St_copyOf_17_193_eq (Z : mZ) (m : Nat) (s : mS) : zf_St_copyOf_17_193 Z m s = (some (0, cpyI (cpyI (cpyI (cpyI (cpyI (cpyI (cpyI (cpyI (cpyI (cpyI (cpyI (cpyI (wI s 17 0 (s.1 193 0)) 194 0 18 0 9) 195 0 19 0 9) 196 0 20 0 9) 197 0 21 0 36) 198 0 22 0 5) 199 0 23 0 5) 200 0 24 0 5) 201 0 25 0 12) 202 0 26 0 12) 203 0 27 0 12) 204 0 28 0 12) 205 0 29 0 12)) := rfl
set_option maxHeartbeats 1000000 in
set_option maxRecDepth 100000 in
theorem zf_St_copyOf_102_17_eq (Z : mZ) (m : Nat) (s : mS) : zf_St_copyOf_102_17 Z m s = (some (0, cpyI (cpyI (cpyI (cpyI (cpyI (cpyI (cpyI (cpyI (cpyI (cpyI (cpyI (cpyI (wI s 102 0 (s.1 17 0)) 18 0 103 0 9) 19 0 104 0 9) 20 0 105 0 9) 21 0 106 0 36) 22 0 107 0 5) 23 0 108 0 5) 24 0 109 0 5) 25 0 110 0 12) 26 0 111 0 12) 27 0 112 0 12) 28 0 113 0 12) 29 0 114 0 12)) := rfl
set_option maxHeartbeats 1000000 in
set_option maxRecDepth 100000 in
theorem zf_St_copyOf_115_17_eq (Z : mZ) (m : Nat) (s : mS) : zf_St_copyOf_115_17 Z m s = (some (0, cpyI (cpyI (cpyI (cpyI (cpyI (cpyI (cpyI (cpyI (cpyI (cpyI (cpyI (cpyI (wI s 115 0 (s.1 17 0)) 18 0 116 0 9) 19 0 117 0 9) 20 0 118 0 9) 21 0 119 0 36) 22 0 120 0 5) 23 0 121 0 5) 24 0 122 0 5) 25 0 123 0 12) 26 0 124 0 12) 27 0 125 0 12) 28 0 126 0 12) 29 0 127 0 12)) := rfl
set_option maxHeartbeats 1000000 in
set_option maxRecDepth 100000 in
theorem zf_St_copyOf_128_17_eq (Z : mZ) (m : Nat) (s : mS) : zf_St_copyOf_128_17 Z m s = (some (0, cpyI (cpyI (cpyI (cpyI (cpyI (cpyI (cpyI (cpyI (cpyI (cpyI (cpyI (cpyI (wI s 128 0 (s.1 17 0)) 18 0 129 0 9) 19 0 130 0 9) 20 0 131 0 9) 21 0 132 0 36) 22 0 133 0 5) 23 0 134 0 5) 24 0 135 0 5) 25 0 136 0 12) 26 0 137 0 12) 27 0 138 0 12) 28 0 139 0 12) 29 0 140 0 12)) := rfl
set_option maxHeartbeats 1000000 in
set_option maxRecDepth 100000 in
theorem zf_St_copyOf_141_17_eq (Z : mZ) (m : Nat) (s : mS) : zf_St_copyOf_141_17 Z m s = (some (0, cpyI (cpyI (cpyI (cpyI (cpyI (cpyI (cpyI (cpyI (cpyI (cpyI (cpyI (cpyI (wI s 141 0 (s.1 17 0)) 18 0 142 0 9) 19 0 143 0 9) 20 0 144 0 9) 21 0 145 0 36) 22 0 146 0 5) 23 0 147 0 5) 24 0 148 0 5) 25 0 149 0 12) 26 0 150 0 12) 27 0 151 0 12) 28 0 152 0 12) 29 0 153 0 12)) := rfl
set_option maxHeartbeats 1000000 in
set_option maxRecDepth 100000 in
theorem zf_St_copyOf_154_17_eq (Z : mZ) (m : Nat) (s : mS) : zf_St_copyOf_154_17 Z m s = (some (0, cpyI (cpyI (cpyI (cpyI (cpyI (cpyI (cpyI (cpyI (cpyI (cpyI (cpyI (cpyI (wI s 154 0 (s.1 17 0)) 18 0 155 0 9) 19 0 156 0 9) 20 0 157 0 9) 21 0 158 0 36) 22 0 159 0 5) 23 0 160 0 5) 24 0 161 0 5) 25 0 162 0 12) 26 0 163 0 12) 27 0 164 0 12) 28 0 165 0 12) 29 0 166 0 12)) := rfl
set_option maxHeartbeats 1000000 in
set_option maxRecDepth 100000 in
theorem zf_St_copyOf_167_17_eq (Z : mZ) (m : Nat) (s : mS) : zf_St_copyOf_167_17 Z m s = (some (0, cpyI (cpyI (cpyI (cpyI (cpyI (cpyI (cpyI (cpyI (cpyI (cpyI (cpyI (cpyI (wI s 167 0 (s.1 17 0)) 18 0 168 0 9) 19 0 169 0 9) 20 0 170 0 9) 21 0 171 0 36) 22 0 172 0 5) 23 0 173 0 5) 24 0 174 0 5) 25 0 175 0 12) 26 0 176 0 12) 27 0 177 0 12) 28 0 178 0 12) 29 0 179 0 12)) := rfl
set_option maxHeartbeats 1000000 in
set_option maxRecDepth 100000 in
theorem zf_St_copyOf_180_17_eq (Z : mZ) (m : Nat) (s : mS) : zf_St_copyOf_180_17 Z m s = (some (0, cpyI (cpyI (cpyI (cpyI (cpyI (cpyI (cpyI (cpyI (cpyI (cpyI (cpyI (cpyI (wI s 180 0 (s.1 17 0)) 18 0 181 0 9) 19 0 182 0 9) 20 0 183 0 9) 21 0 184 0 36) 22 0 185 0 5) 23 0 186 0 5) 24 0 187 0 5) 25 0 188 0 12) 26 0 189 0 12) 27 0 190 0 12) 28 0 191 0 12) 29 0 192 0 12)) := rfl
set_option maxHeartbeats 1000000 in
set_option maxRecDepth 100000 in
theorem zf_St_copyOf_193_17_eq (Z : mZ) (m : Nat) (s : mS) : zf_St_copyOf_193_17 Z m s = (some (0, cpyI (cpyI (cpyI (cpyI (cpyI (cpyI (cpyI (cpyI (cpyI (cpyI (cpyI (cpyI (wI s 193 0 (s.1 17 0)) 18 0 194 0 9) 19 0 195 0 9) 20 0 196 0 9) 21 0 197 0 36) 22 0 198 0 5) 23 0 199 0 5) 24 0 200 0 5) 25 0 201 0 12) 26 0 202 0 12) 27 0 203 0 12) 28 0 204 0 12) 29 0 205 0 12)) := rfl
set_option maxHeartbeats 1000000 in
set_option maxRecDepth 100000 in
theorem zf_St_copyOf_17_206_eq (Z : mZ) (m : Nat) (s : mS) : zf_St_copyOf_17_206 Z m s = (some (0, cpyI (cpyI (cpyI (cpyI (cpyI (cpyI (cpyI (cpyI (cpyI (cpyI (cpyI (cpyI (wI s 17 0 (s.1 206 0)) 207 0 18 0 9) 208 0 19 0 9) 209 0 20 0 9) 210 0 21 0 36) 211 0 22 0 5) 212 0 23 0 5) 213 0 24 0 5) 214 0 25 0 12) 215 0 26 0 12) 216 0 27 0 12) 217 0 28 0 12) 218 0 29 0 12)) := rfl
set_option maxHeartbeats 1000000 in
set_option maxRecDepth 100000 in
theorem zf_St_copyOf_50_17_eq (Z : mZ) (m : Nat) (s : mS) : zf_St_copyOf_50_17 Z m s = (some (0, cpyI (cpyI (cpyI (cpyI (cpyI (cpyI (cpyI (cpyI (cpyI (cpyI (cpyI (cpyI (wI s 50 0 (s.1 17 0)) 18 0 51 0 9) 19 0 52 0 9) 20 0 53 0 9) 21 0 54 0 36) 22 0 55 0 5) 23 0 56 0 5) 24 0 57 0 5) 25 0 58 0 12) 26 0 59 0 12) 27 0 60 0 12) 28 0 61 0 12) 29 0 62 0 12)) := rfl
set_option maxHeartbeats 1000000 in
set_option maxRecDepth 100000 in
theorem zf_St_copyOf_82_17_eq (Z : mZ) (m : Nat) (s : mS) : zf_St_copyOf_82_17 Z m s = (some (0, cpyI (cpyI (cpyI (cpyI (cpyI (cpyI (cpyI (cpyI (cpyI (cpyI (cpyI (cpyI (wI s 82 0 (s.1 17 0)) 18 0 83 0 9) 19 0 84 0 9) 20 0 85 0 9) 21 0 86 0 36) 22 0 87 0 5) 23 0 88 0 5) 24 0 89 0 5) 25 0 90 0 12) 26 0 91 0 12) 27 0 92 0 12) 28 0 93 0 12) 29 0 94 0 12)) := rfl
set_option maxHeartbeats 1000000 in
set_option maxRecDepth 100000 in
theorem zf_St_copyOf_17_50_eq (Z : mZ) (m : Nat) (s : mS) : zf_St_copyOf_17_50 Z m s = (some (0, cpyI (cpyI (cpyI (cpyI (cpyI (cpyI (cpyI (cpyI (cpyI (cpyI (cpyI (cpyI (wI s 17 0 (s.1 50 0)) 51 0 18 0 9) 52 0 19 0 9) 53 0 20 0 9) 54 0 21 0 36) 55 0 22 0 5) 56 0 23 0 5) 57 0 24 0 5) 58 0 25 0 12) 59 0 26 0 12) 60 0 27 0 12) 61 0 28 0 12) 62 0 29 0 12)) := rfl
set_option maxHeartbeats 1000000 in
set_option maxRecDepth 100000 in
theorem zf_St_copyOf_17_82_eq (Z : mZ) (m : Nat) (s : mS) : zf_St_copyOf_17_82 Z m s = (some (0, cpyI (cpyI (cpyI (cpyI (cpyI (cpyI (cpyI (cpyI (cpyI (cpyI (cpyI (cpyI (wI s 17 0 (s.1 82 0)) 83 0 18 0 9) 84 0 19 0 9) 85 0 20 0 9) 86 0 21 0 36) 87 0 22 0 5) 88 0 23 0 5) 89 0 24 0 5) 90 0 25 0 12) 91 0 26 0 12) 92 0 27 0 12) 93 0 28 0 12) 94 0 29 0 12)) := rfl
set_option maxHeartbeats 1000000 in
set_option maxRecDepth 100000 in
theorem zf_St_whyNotLent_17_4_eq (Z : mZ) (m : Nat) (a1 : Int) (a2 : Int) (s : mS) : zf_St_whyNotLent_17_4 Z m a1 a2 s = (inR a1 12 (if s.1 25 a1.toNat = 1 then ((zf_St_boxFree_17 Z m a2 s).bind fun p0 => (if p0.1 = 0 then (some (2, p0.2)) else (inR a1 12 (inR a2 9 (if p0.2.1 6 a2.toNat < p0.2.1 11 a1.toNat then (some (3, p0.2)) else (inR a2 9 (inR a2 9 (if p0.2.1 18 a2.toNat < p0.2.1 7 a2.toNat then (some (0, p0.2)) else (some (4, p0.2)))))))))) else (some (1, s)))) := rfl
set_option maxHeartbeats 1000000 in
set_option maxRecDepth 100000 in
theorem zf_St_whyNotLent_206_4_eq (Z : mZ) (m : Nat) (a1 : Int) (a2 : Int) (s : mS) : zf_St_whyNotLent_206_4 Z m a1 a2 s = (inR a1 12 (if s.1 214 a1.toNat = 1 then ((zf_St_boxFree_206 Z m a2 s).bind fun p0 => (if p0.1 = 0 then (some (2, p0.2)) else (inR a1 12 (inR a2 9 (if p0.2.1 6 a2.toNat < p0.2.1 11 a1.toNat then (some (3, p0.2)) else (inR a2 9 (inR a2 9 (if p0.2.1 207 a2.toNat < p0.2.1 7 a2.toNat then (some (0, p0.2)) else (some (4, p0.2)))))))))) else (some (1, s)))) := rfl
set_option maxHeartbeats 1000000 in
set_option maxRecDepth 100000 in
theorem zf_St_lendHim_17_4_eq (Z : mZ) (m : Nat) (a1 : Int) (a2 : Int) (s : mS) : zf_St_lendHim_17_4 Z m a1 a2 s = ((zf_St_whyNotLent_17_4 Z m a1 a2 s).bind fun p0 => (if p0.1 = 0 then (inR a1 12 (inR a1 12 (inR a2 9 (inR a2 9 (inR a2 9 (zl_St_lendHim_17_4_L51 Z m m a1 a2 3 (wI (wI (wI (wI p0.2 25 a1.toNat 2) 26 a1.toNat a2) 19 a2.toNat a1) 18 a2.toNat (Z 0 ((wI (wI (wI p0.2 25 a1.toNat 2) 26 a1.toNat a2) 19 a2.toNat a1).1 18 a2.toNat) 1)))))))) else (some (p0.1, p0.2)))) := rfl
set_option maxHeartbeats 1000000 in
set_option maxRecDepth 100000 in
theorem zl_St_lendHim_17_4_L51_eq (Z : mZ) (m : Nat) (n : Nat) (x1 : Int) (x2 : Int) (x5 : Int) (s : mS) : zl_St_lendHim_17_4_L51 Z m (n + 1) x1 x2 x5 s = (if 0 < x5 then (inR (Z 1 (Z 0 (Z 2 x2 4) x5) 1) 36 (inR (Z 0 (Z 2 x2 4) x5) 36 (zl_St_lendHim_17_4_L51 Z m n x1 x2 (Z 0 x5 (-1)) (wI s 21 (Z 0 (Z 2 x2 4) x5).toNat (s.1 21 (Z 1 (Z 0 (Z 2 x2 4) x5) 1).toNat))))) else (inR (Z 2 x2 4) 36 (some (0, wI s 21 (Z 2 x2 4).toNat x1)))) := rfl
set_option maxHeartbeats 1000000 in
set_option maxRecDepth 100000 in
theorem zf_St_lendHim_206_4_eq (Z : mZ) (m : Nat) (a1 : Int) (a2 : Int) (s : mS) : zf_St_lendHim_206_4 Z m a1 a2 s = ((zf_St_whyNotLent_206_4 Z m a1 a2 s).bind fun p0 => (if p0.1 = 0 then (inR a1 12 (inR a1 12 (inR a2 9 (inR a2 9 (inR a2 9 (zl_St_lendHim_206_4_L51 Z m m a1 a2 3 (wI (wI (wI (wI p0.2 214 a1.toNat 2) 215 a1.toNat a2) 208 a2.toNat a1) 207 a2.toNat (Z 0 ((wI (wI (wI p0.2 214 a1.toNat 2) 215 a1.toNat a2) 208 a2.toNat a1).1 207 a2.toNat) 1)))))))) else (some (p0.1, p0.2)))) := rfl
set_option maxHeartbeats 1000000 in
set_option maxRecDepth 100000 in
theorem zl_St_lendHim_206_4_L51_eq (Z : mZ) (m : Nat) (n : Nat) (x1 : Int) (x2 : Int) (x5 : Int) (s : mS) : zl_St_lendHim_206_4_L51 Z m (n + 1) x1 x2 x5 s = (if 0 < x5 then (inR (Z 1 (Z 0 (Z 2 x2 4) x5) 1) 36 (inR (Z 0 (Z 2 x2 4) x5) 36 (zl_St_lendHim_206_4_L51 Z m n x1 x2 (Z 0 x5 (-1)) (wI s 210 (Z 0 (Z 2 x2 4) x5).toNat (s.1 210 (Z 1 (Z 0 (Z 2 x2 4) x5) 1).toNat))))) else (inR (Z 2 x2 4) 36 (some (0, wI s 210 (Z 2 x2 4).toNat x1)))) := rfl
set_option maxHeartbeats 1000000 in
set_option maxRecDepth 100000 in
theorem zf_Ps_keep_100_206_eq (Z : mZ) (m : Nat) (s : mS) : zf_Ps_keep_100_206 Z m s = (inR (Z 10 (Z 0 (s.1 100 1) (s.1 100 2)) 8) 8 (zl_Ps_keep_100_206_L17 Z m m (R0f 101 (Z 10 (Z 0 (s.1 100 1) (s.1 100 2)) 8).toNat) s)) := rfl
set_option maxHeartbeats 1000000 in
set_option maxRecDepth 100000 in
theorem zl_Ps_keep_100_206_L17_eq0 (Z : mZ) (m : Nat) (n : Nat) (s : mS) : zl_Ps_keep_100_206_L17 Z m (n + 1) (some 102) s = ((zf_St_copyOf_102_206 Z m s).bind fun p0 => (if p0.2.1 100 2 < 8 then (some (0, wI p0.2 100 2 (Z 0 (p0.2.1 100 2) 1))) else (some (0, wI p0.2 100 1 (Z 10 (Z 0 (p0.2.1 100 1) 1) 8))))) := rfl
set_option maxHeartbeats 1000000 in
set_option maxRecDepth 100000 in
theorem zl_Ps_keep_100_206_L17_eq1 (Z : mZ) (m : Nat) (n : Nat) (s : mS) : zl_Ps_keep_100_206_L17 Z m (n + 1) (some 115) s = ((zf_St_copyOf_115_206 Z m s).bind fun p0 => (if p0.2.1 100 2 < 8 then (some (0, wI p0.2 100 2 (Z 0 (p0.2.1 100 2) 1))) else (some (0, wI p0.2 100 1 (Z 10 (Z 0 (p0.2.1 100 1) 1) 8))))) := rfl
set_option maxHeartbeats 1000000 in
set_option maxRecDepth 100000 in
theorem zl_Ps_keep_100_206_L17_eq2 (Z : mZ) (m : Nat) (n : Nat) (s : mS) : zl_Ps_keep_100_206_L17 Z m (n + 1) (some 128) s = ((zf_St_copyOf_128_206 Z m s).bind fun p0 => (if p0.2.1 100 2 < 8 then (some (0, wI p0.2 100 2 (Z 0 (p0.2.1 100 2) 1))) else (some (0, wI p0.2 100 1 (Z 10 (Z 0 (p0.2.1 100 1) 1) 8))))) := rfl
set_option maxHeartbeats 1000000 in
set_option maxRecDepth 100000 in
theorem zl_Ps_keep_100_206_L17_eq3 (Z : mZ) (m : Nat) (n : Nat) (s : mS) : zl_Ps_keep_100_206_L17 Z m (n + 1) (some 141) s = ((zf_St_copyOf_141_206 Z m s).bind fun p0 => (if p0.2.1 100 2 < 8 then (some (0, wI p0.2 100 2 (Z 0 (p0.2.1 100 2) 1))) else (some (0, wI p0.2 100 1 (Z 10 (Z 0 (p0.2.1 100 1) 1) 8))))) := rfl
set_option maxHeartbeats 1000000 in
set_option maxRecDepth 100000 in
theorem zl_Ps_keep_100_206_L17_eq4 (Z : mZ) (m : Nat) (n : Nat) (s : mS) : zl_Ps_keep_100_206_L17 Z m (n + 1) (some 154) s = ((zf_St_copyOf_154_206 Z m s).bind fun p0 => (if p0.2.1 100 2 < 8 then (some (0, wI p0.2 100 2 (Z 0 (p0.2.1 100 2) 1))) else (some (0, wI p0.2 100 1 (Z 10 (Z 0 (p0.2.1 100 1) 1) 8))))) := rfl
set_option maxHeartbeats 1000000 in
set_option maxRecDepth 100000 in
theorem zl_Ps_keep_100_206_L17_eq5 (Z : mZ) (m : Nat) (n : Nat) (s : mS) : zl_Ps_keep_100_206_L17 Z m (n + 1) (some 167) s = ((zf_St_copyOf_167_206 Z m s).bind fun p0 => (if p0.2.1 100 2 < 8 then (some (0, wI p0.2 100 2 (Z 0 (p0.2.1 100 2) 1))) else (some (0, wI p0.2 100 1 (Z 10 (Z 0 (p0.2.1 100 1) 1) 8))))) := rfl
set_option maxHeartbeats 1000000 in
set_option maxRecDepth 100000 in
theorem zl_Ps_keep_100_206_L17_eq6 (Z : mZ) (m : Nat) (n : Nat) (s : mS) : zl_Ps_keep_100_206_L17 Z m (n + 1) (some 180) s = ((zf_St_copyOf_180_206 Z m s).bind fun p0 => (if p0.2.1 100 2 < 8 then (some (0, wI p0.2 100 2 (Z 0 (p0.2.1 100 2) 1))) else (some (0, wI p0.2 100 1 (Z 10 (Z 0 (p0.2.1 100 1) 1) 8))))) := rfl
set_option maxHeartbeats 1000000 in
set_option maxRecDepth 100000 in
theorem zl_Ps_keep_100_206_L17_eq7 (Z : mZ) (m : Nat) (n : Nat) (s : mS) : zl_Ps_keep_100_206_L17 Z m (n + 1) (some 193) s = ((zf_St_copyOf_193_206 Z m s).bind fun p0 => (if p0.2.1 100 2 < 8 then (some (0, wI p0.2 100 2 (Z 0 (p0.2.1 100 2) 1))) else (some (0, wI p0.2 100 1 (Z 10 (Z 0 (p0.2.1 100 1) 1) 8))))) := rfl
set_option maxHeartbeats 1000000 in
set_option maxRecDepth 100000 in
theorem zf_Ps_keep_100_17_eq (Z : mZ) (m : Nat) (s : mS) : zf_Ps_keep_100_17 Z m s = (inR (Z 10 (Z 0 (s.1 100 1) (s.1 100 2)) 8) 8 (zl_Ps_keep_100_17_L17 Z m m (R0f 101 (Z 10 (Z 0 (s.1 100 1) (s.1 100 2)) 8).toNat) s)) := rfl
set_option maxHeartbeats 1000000 in
set_option maxRecDepth 100000 in
theorem zl_Ps_keep_100_17_L17_eq0 (Z : mZ) (m : Nat) (n : Nat) (s : mS) : zl_Ps_keep_100_17_L17 Z m (n + 1) (some 102) s = ((zf_St_copyOf_102_17 Z m s).bind fun p0 => (if p0.2.1 100 2 < 8 then (some (0, wI p0.2 100 2 (Z 0 (p0.2.1 100 2) 1))) else (some (0, wI p0.2 100 1 (Z 10 (Z 0 (p0.2.1 100 1) 1) 8))))) := rfl
set_option maxHeartbeats 1000000 in
set_option maxRecDepth 100000 in
theorem zl_Ps_keep_100_17_L17_eq1 (Z : mZ) (m : Nat) (n : Nat) (s : mS) : zl_Ps_keep_100_17_L17 Z m (n + 1) (some 115) s = ((zf_St_copyOf_115_17 Z m s).bind fun p0 => (if p0.2.1 100 2 < 8 then (some (0, wI p0.2 100 2 (Z 0 (p0.2.1 100 2) 1))) else (some (0, wI p0.2 100 1 (Z 10 (Z 0 (p0.2.1 100 1) 1) 8))))) := rfl
set_option maxHeartbeats 1000000 in
set_option maxRecDepth 100000 in
theorem zl_Ps_keep_100_17_L17_eq2 (Z : mZ) (m : Nat) (n : Nat) (s : mS) : zl_Ps_keep_100_17_L17 Z m (n + 1) (some 128) s = ((zf_St_copyOf_128_17 Z m s).bind fun p0 => (if p0.2.1 100 2 < 8 then (some (0, wI p0.2 100 2 (Z 0 (p0.2.1 100 2) 1))) else (some (0, wI p0.2 100 1 (Z 10 (Z 0 (p0.2.1 100 1) 1) 8))))) := rfl
set_option maxHeartbeats 1000000 in
set_option maxRecDepth 100000 in
theorem zl_Ps_keep_100_17_L17_eq3 (Z : mZ) (m : Nat) (n : Nat) (s : mS) : zl_Ps_keep_100_17_L17 Z m (n + 1) (some 141) s = ((zf_St_copyOf_141_17 Z m s).bind fun p0 => (if p0.2.1 100 2 < 8 then (some (0, wI p0.2 100 2 (Z 0 (p0.2.1 100 2) 1))) else (some (0, wI p0.2 100 1 (Z 10 (Z 0 (p0.2.1 100 1) 1) 8))))) := rfl
set_option maxHeartbeats 1000000 in
set_option maxRecDepth 100000 in
theorem zl_Ps_keep_100_17_L17_eq4 (Z : mZ) (m : Nat) (n : Nat) (s : mS) : zl_Ps_keep_100_17_L17 Z m (n + 1) (some 154) s = ((zf_St_copyOf_154_17 Z m s).bind fun p0 => (if p0.2.1 100 2 < 8 then (some (0, wI p0.2 100 2 (Z 0 (p0.2.1 100 2) 1))) else (some (0, wI p0.2 100 1 (Z 10 (Z 0 (p0.2.1 100 1) 1) 8))))) := rfl
set_option maxHeartbeats 1000000 in
set_option maxRecDepth 100000 in
theorem zl_Ps_keep_100_17_L17_eq5 (Z : mZ) (m : Nat) (n : Nat) (s : mS) : zl_Ps_keep_100_17_L17 Z m (n + 1) (some 167) s = ((zf_St_copyOf_167_17 Z m s).bind fun p0 => (if p0.2.1 100 2 < 8 then (some (0, wI p0.2 100 2 (Z 0 (p0.2.1 100 2) 1))) else (some (0, wI p0.2 100 1 (Z 10 (Z 0 (p0.2.1 100 1) 1) 8))))) := rfl
set_option maxHeartbeats 1000000 in
set_option maxRecDepth 100000 in
theorem zl_Ps_keep_100_17_L17_eq6 (Z : mZ) (m : Nat) (n : Nat) (s : mS) : zl_Ps_keep_100_17_L17 Z m (n + 1) (some 180) s = ((zf_St_copyOf_180_17 Z m s).bind fun p0 => (if p0.2.1 100 2 < 8 then (some (0, wI p0.2 100 2 (Z 0 (p0.2.1 100 2) 1))) else (some (0, wI p0.2 100 1 (Z 10 (Z 0 (p0.2.1 100 1) 1) 8))))) := rfl
set_option maxHeartbeats 1000000 in
set_option maxRecDepth 100000 in
theorem zl_Ps_keep_100_17_L17_eq7 (Z : mZ) (m : Nat) (n : Nat) (s : mS) : zl_Ps_keep_100_17_L17 Z m (n + 1) (some 193) s = ((zf_St_copyOf_193_17 Z m s).bind fun p0 => (if p0.2.1 100 2 < 8 then (some (0, wI p0.2 100 2 (Z 0 (p0.2.1 100 2) 1))) else (some (0, wI p0.2 100 1 (Z 10 (Z 0 (p0.2.1 100 1) 1) 8))))) := rfl
set_option maxHeartbeats 1000000 in
set_option maxRecDepth 100000 in
theorem zf_X_done_eq (Z : mZ) (m : Nat) (a1 : Int) (s : mS) : zf_X_done Z m a1 s = (if a1 = 0 then ((zf_Ps_keep_100_206 Z m s).bind fun p0 => (some (a1, p0.2))) else (some (a1, s))) := rfl
set_option maxHeartbeats 1000000 in
set_option maxRecDepth 100000 in
theorem zf_X_lend_eq (Z : mZ) (m : Nat) (a1 : Int) (a2 : Int) (s : mS) : zf_X_lend Z m a1 a2 s = ((zf_X_isDead Z m a1 s).bind fun p0 => (if p0.1 = 0 then (some ((-1), p0.2)) else ((zf_X_isBox Z m a2 p0.2).bind fun p1 => (if p1.1 = 0 then (some ((-1), p1.2)) else ((zf_St_copyOf_206_17 Z m p1.2).bind fun p2 => ((zf_St_lendHim_17_4 Z m a1 a2 p2.2).bind fun p3 => ((zf_X_done Z m p3.1 p3.2).bind fun p4 => (some (p4.1, p4.2))))))))) := rfl
set_option maxHeartbeats 1000000 in
set_option maxRecDepth 100000 in
theorem zf_St_layHim_17_4_eq (Z : mZ) (m : Nat) (a1 : Int) (a2 : Int) (s : mS) : zf_St_layHim_17_4 Z m a1 a2 s = (inR a1 12 (inR a1 12 (if s.1 25 a1.toNat = 2 then (if s.1 26 a1.toNat = (-1) then (some (1, s)) else ((zf_Vs_frostOn Z m (s.1 17 0) s).bind fun p0 => (if p0.1 = 0 then ((zf_St_plotFree_17 Z m a2 p0.2).bind fun p1 => (if p1.1 = 0 then (some (3, p1.2)) else (inR a2 5 ((zf_Vs_areKin_4 Z m a1 (p1.2.1 22 a2.toNat) p1.2).bind fun p2 => (if p2.1 = 0 then (inR a1 12 (inR a1 12 (inR a1 12 (inR a2 5 (inR a2 5 (inR a2 5 (inR a2 5 (inR a2 5 (inR (s.1 26 a1.toNat) 9 (inR (s.1 26 a1.toNat) 9 (some (0, wI (wI (wI (wI (wI (wI (wI (wI p2.2 25 a1.toNat 3) 26 a1.toNat (-1)) 27 a1.toNat a2) 22 a2.toNat a1) 24 a2.toNat (Z 0 ((wI (wI (wI (wI p2.2 25 a1.toNat 3) 26 a1.toNat (-1)) 27 a1.toNat a2) 22 a2.toNat a1).1 24 a2.toNat) 1)) 23 a2.toNat (Z 0 ((wI (wI (wI (wI (wI p2.2 25 a1.toNat 3) 26 a1.toNat (-1)) 27 a1.toNat a2) 22 a2.toNat a1) 24 a2.toNat (Z 0 ((wI (wI (wI (wI p2.2 25 a1.toNat 3) 26 a1.toNat (-1)) 27 a1.toNat a2) 22 a2.toNat a1).1 24 a2.toNat) 1)).1 17 0) ((wI (wI (wI (wI (wI p2.2 25 a1.toNat 3) 26 a1.toNat (-1)) 27 a1.toNat a2) 22 a2.toNat a1) 24 a2.toNat (Z 0 ((wI (wI (wI (wI p2.2 25 a1.toNat 3) 26 a1.toNat (-1)) 27 a1.toNat a2) 22 a2.toNat a1).1 24 a2.toNat) 1)).1 9 a2.toNat))) 19 (s.1 26 a1.toNat).toNat (-1)) 20 (s.1 26 a1.toNat).toNat (Z 0 ((wI (wI (wI (wI (wI (wI (wI p2.2 25 a1.toNat 3) 26 a1.toNat (-1)) 27 a1.toNat a2) 22 a2.toNat a1) 24 a2.toNat (Z 0 ((wI (wI (wI (wI p2.2 25 a1.toNat 3) 26 a1.toNat (-1)) 27 a1.toNat a2) 22 a2.toNat a1).1 24 a2.toNat) 1)) 23 a2.toNat (Z 0 ((wI (wI (wI (wI (wI p2.2 25 a1.toNat 3) 26 a1.toNat (-1)) 27 a1.toNat a2) 22 a2.toNat a1) 24 a2.toNat (Z 0 ((wI (wI (wI (wI p2.2 25 a1.toNat 3) 26 a1.toNat (-1)) 27 a1.toNat a2) 22 a2.toNat a1).1 24 a2.toNat) 1)).1 17 0) ((wI (wI (wI (wI (wI p2.2 25 a1.toNat 3) 26 a1.toNat (-1)) 27 a1.toNat a2) 22 a2.toNat a1) 24 a2.toNat (Z 0 ((wI (wI (wI (wI p2.2 25 a1.toNat 3) 26 a1.toNat (-1)) 27 a1.toNat a2) 22 a2.toNat a1).1 24 a2.toNat) 1)).1 9 a2.toNat))) 19 (s.1 26 a1.toNat).toNat (-1)).1 17 0) ((wI (wI (wI (wI (wI (wI (wI p2.2 25 a1.toNat 3) 26 a1.toNat (-1)) 27 a1.toNat a2) 22 a2.toNat a1) 24 a2.toNat (Z 0 ((wI (wI (wI (wI p2.2 25 a1.toNat 3) 26 a1.toNat (-1)) 27 a1.toNat a2) 22 a2.toNat a1).1 24 a2.toNat) 1)) 23 a2.toNat (Z 0 ((wI (wI (wI (wI (wI p2.2 25 a1.toNat 3) 26 a1.toNat (-1)) 27 a1.toNat a2) 22 a2.toNat a1) 24 a2.toNat (Z 0 ((wI (wI (wI (wI p2.2 25 a1.toNat 3) 26 a1.toNat (-1)) 27 a1.toNat a2) 22 a2.toNat a1).1 24 a2.toNat) 1)).1 17 0) ((wI (wI (wI (wI (wI p2.2 25 a1.toNat 3) 26 a1.toNat (-1)) 27 a1.toNat a2) 22 a2.toNat a1) 24 a2.toNat (Z 0 ((wI (wI (wI (wI p2.2 25 a1.toNat 3) 26 a1.toNat (-1)) 27 a1.toNat a2) 22 a2.toNat a1).1 24 a2.toNat) 1)).1 9 a2.toNat))) 19 (s.1 26 a1.toNat).toNat (-1)).1 4 5)))))))))))))) else (some (4, p2.2))))))) else (some (2, p0.2))))) else (some (1, s))))) := rfl
set_option maxHeartbeats 1000000 in
set_option maxRecDepth 100000 in
theorem zf_St_layHim_206_4_eq (Z : mZ) (m : Nat) (a1 : Int) (a2 : Int) (s : mS) : zf_St_layHim_206_4 Z m a1 a2 s = (inR a1 12 (inR a1 12 (if s.1 214 a1.toNat = 2 then (if s.1 215 a1.toNat = (-1) then (some (1, s)) else ((zf_Vs_frostOn Z m (s.1 206 0) s).bind fun p0 => (if p0.1 = 0 then ((zf_St_plotFree_206 Z m a2 p0.2).bind fun p1 => (if p1.1 = 0 then (some (3, p1.2)) else (inR a2 5 ((zf_Vs_areKin_4 Z m a1 (p1.2.1 211 a2.toNat) p1.2).bind fun p2 => (if p2.1 = 0 then (inR a1 12 (inR a1 12 (inR a1 12 (inR a2 5 (inR a2 5 (inR a2 5 (inR a2 5 (inR a2 5 (inR (s.1 215 a1.toNat) 9 (inR (s.1 215 a1.toNat) 9 (some (0, wI (wI (wI (wI (wI (wI (wI (wI p2.2 214 a1.toNat 3) 215 a1.toNat (-1)) 216 a1.toNat a2) 211 a2.toNat a1) 213 a2.toNat (Z 0 ((wI (wI (wI (wI p2.2 214 a1.toNat 3) 215 a1.toNat (-1)) 216 a1.toNat a2) 211 a2.toNat a1).1 213 a2.toNat) 1)) 212 a2.toNat (Z 0 ((wI (wI (wI (wI (wI p2.2 214 a1.toNat 3) 215 a1.toNat (-1)) 216 a1.toNat a2) 211 a2.toNat a1) 213 a2.toNat (Z 0 ((wI (wI (wI (wI p2.2 214 a1.toNat 3) 215 a1.toNat (-1)) 216 a1.toNat a2) 211 a2.toNat a1).1 213 a2.toNat) 1)).1 206 0) ((wI (wI (wI (wI (wI p2.2 214 a1.toNat 3) 215 a1.toNat (-1)) 216 a1.toNat a2) 211 a2.toNat a1) 213 a2.toNat (Z 0 ((wI (wI (wI (wI p2.2 214 a1.toNat 3) 215 a1.toNat (-1)) 216 a1.toNat a2) 211 a2.toNat a1).1 213 a2.toNat) 1)).1 9 a2.toNat))) 208 (s.1 215 a1.toNat).toNat (-1)) 209 (s.1 215 a1.toNat).toNat (Z 0 ((wI (wI (wI (wI (wI (wI (wI p2.2 214 a1.toNat 3) 215 a1.toNat (-1)) 216 a1.toNat a2) 211 a2.toNat a1) 213 a2.toNat (Z 0 ((wI (wI (wI (wI p2.2 214 a1.toNat 3) 215 a1.toNat (-1)) 216 a1.toNat a2) 211 a2.toNat a1).1 213 a2.toNat) 1)) 212 a2.toNat (Z 0 ((wI (wI (wI (wI (wI p2.2 214 a1.toNat 3) 215 a1.toNat (-1)) 216 a1.toNat a2) 211 a2.toNat a1) 213 a2.toNat (Z 0 ((wI (wI (wI (wI p2.2 214 a1.toNat 3) 215 a1.toNat (-1)) 216 a1.toNat a2) 211 a2.toNat a1).1 213 a2.toNat) 1)).1 206 0) ((wI (wI (wI (wI (wI p2.2 214 a1.toNat 3) 215 a1.toNat (-1)) 216 a1.toNat a2) 211 a2.toNat a1) 213 a2.toNat (Z 0 ((wI (wI (wI (wI p2.2 214 a1.toNat 3) 215 a1.toNat (-1)) 216 a1.toNat a2) 211 a2.toNat a1).1 213 a2.toNat) 1)).1 9 a2.toNat))) 208 (s.1 215 a1.toNat).toNat (-1)).1 206 0) ((wI (wI (wI (wI (wI (wI (wI p2.2 214 a1.toNat 3) 215 a1.toNat (-1)) 216 a1.toNat a2) 211 a2.toNat a1) 213 a2.toNat (Z 0 ((wI (wI (wI (wI p2.2 214 a1.toNat 3) 215 a1.toNat (-1)) 216 a1.toNat a2) 211 a2.toNat a1).1 213 a2.toNat) 1)) 212 a2.toNat (Z 0 ((wI (wI (wI (wI (wI p2.2 214 a1.toNat 3) 215 a1.toNat (-1)) 216 a1.toNat a2) 211 a2.toNat a1) 213 a2.toNat (Z 0 ((wI (wI (wI (wI p2.2 214 a1.toNat 3) 215 a1.toNat (-1)) 216 a1.toNat a2) 211 a2.toNat a1).1 213 a2.toNat) 1)).1 206 0) ((wI (wI (wI (wI (wI p2.2 214 a1.toNat 3) 215 a1.toNat (-1)) 216 a1.toNat a2) 211 a2.toNat a1) 213 a2.toNat (Z 0 ((wI (wI (wI (wI p2.2 214 a1.toNat 3) 215 a1.toNat (-1)) 216 a1.toNat a2) 211 a2.toNat a1).1 213 a2.toNat) 1)).1 9 a2.toNat))) 208 (s.1 215 a1.toNat).toNat (-1)).1 4 5)))))))))))))) else (some (4, p2.2))))))) else (some (2, p0.2))))) else (some (1, s))))) := rfl
set_option maxHeartbeats 1000000 in
set_option maxRecDepth 100000 in
theorem zf_X_lay_eq (Z : mZ) (m : Nat) (a1 : Int) (a2 : Int) (s : mS) : zf_X_lay Z m a1 a2 s = ((zf_X_isDead Z m a1 s).bind fun p0 => (if p0.1 = 0 then (some ((-1), p0.2)) else ((zf_X_isPlot Z m a2 p0.2).bind fun p1 => (if p1.1 = 0 then (some ((-1), p1.2)) else ((zf_St_copyOf_206_17 Z m p1.2).bind fun p2 => ((zf_St_layHim_17_4 Z m a1 a2 p2.2).bind fun p3 => ((zf_X_done Z m p3.1 p3.2).bind fun p4 => (some (p4.1, p4.2))))))))) := rfl
set_option maxHeartbeats 1000000 in
set_option maxRecDepth 100000 in
theorem zf_St_swapThem_17_4_eq (Z : mZ) (m : Nat) (a1 : Int) (a2 : Int) (s : mS) : zf_St_swapThem_17_4 Z m a1 a2 s = (inR a1 12 (inR a2 12 (inR a1 12 (if s.1 25 a1.toNat = 2 then (inR a2 12 (if s.1 25 a2.toNat = 2 then (if s.1 26 a1.toNat = (-1) then (some (1, s)) else (if s.1 26 a2.toNat = (-1) then (some (1, s)) else (inR a1 12 (inR (s.1 26 a2.toNat) 9 (if s.1 6 (s.1 26 a2.toNat).toNat < s.1 11 a1.toNat then (some (2, s)) else (inR a2 12 (inR (s.1 26 a1.toNat) 9 (if s.1 6 (s.1 26 a1.toNat).toNat < s.1 11 a2.toNat then (some (2, s)) else (inR a1 12 (inR (s.1 26 a2.toNat) 9 (inR a2 12 (inR (s.1 26 a1.toNat) 9 (some (0, wI (wI (wI (wI s 26 a1.toNat (s.1 26 a2.toNat)) 19 (s.1 26 a2.toNat).toNat a1) 26 a2.toNat (s.1 26 a1.toNat)) 19 (s.1 26 a1.toNat).toNat a2)))))))))))))) else (some (1, s)))) else (some (1, s)))))) := rfl
set_option maxHeartbeats 1000000 in
set_option maxRecDepth 100000 in
theorem zf_St_swapThem_206_4_eq (Z : mZ) (m : Nat) (a1 : Int) (a2 : Int) (s : mS) : zf_St_swapThem_206_4 Z m a1 a2 s = (inR a1 12 (inR a2 12 (inR a1 12 (if s.1 214 a1.toNat = 2 then (inR a2 12 (if s.1 214 a2.toNat = 2 then (if s.1 215 a1.toNat = (-1) then (some (1, s)) else (if s.1 215 a2.toNat = (-1) then (some (1, s)) else (inR a1 12 (inR (s.1 215 a2.toNat) 9 (if s.1 6 (s.1 215 a2.toNat).toNat < s.1 11 a1.toNat then (some (2, s)) else (inR a2 12 (inR (s.1 215 a1.toNat) 9 (if s.1 6 (s.1 215 a1.toNat).toNat < s.1 11 a2.toNat then (some (2, s)) else (inR a1 12 (inR (s.1 215 a2.toNat) 9 (inR a2 12 (inR (s.1 215 a1.toNat) 9 (some (0, wI (wI (wI (wI s 215 a1.toNat (s.1 215 a2.toNat)) 208 (s.1 215 a2.toNat).toNat a1) 215 a2.toNat (s.1 215 a1.toNat)) 208 (s.1 215 a1.toNat).toNat a2)))))))))))))) else (some (1, s)))) else (some (1, s)))))) := rfl
set_option maxHeartbeats 1000000 in
set_option maxRecDepth 100000 in
theorem zf_X_swap_eq (Z : mZ) (m : Nat) (a1 : Int) (a2 : Int) (s : mS) : zf_X_swap Z m a1 a2 s = ((zf_X_isDead Z m a1 s).bind fun p0 => (if p0.1 = 0 then (some ((-1), p0.2)) else ((zf_X_isDead Z m a2 p0.2).bind fun p1 => (if p1.1 = 0 then (some ((-1), p1.2)) else (if a1 = a2 then (some ((-1), p1.2)) else ((zf_St_copyOf_206_17 Z m p1.2).bind fun p2 => ((zf_St_swapThem_17_4 Z m a1 a2 p2.2).bind fun p3 => ((zf_X_done Z m p3.1 p3.2).bind fun p4 => (some (p4.1, p4.2)))))))))) := rfl
set_option maxHeartbeats 1000000 in
set_option maxRecDepth 100000 in
theorem zf_St_mendIt_17_eq (Z : mZ) (m : Nat) (a1 : Int) (s : mS) : zf_St_mendIt_17 Z m a1 s = (inR a1 9 (if s.1 18 a1.toNat = 0 then (some (1, s)) else (inR a1 9 (if s.1 19 a1.toNat = (-1) then (inR a1 9 (some (0, wI s 18 a1.toNat 0))) else (some (2, s)))))) := rfl
set_option maxHeartbeats 1000000 in
set_option maxRecDepth 100000 in
theorem zf_St_mendIt_206_eq (Z : mZ) (m : Nat) (a1 : Int) (s : mS) : zf_St_mendIt_206 Z m a1 s = (inR a1 9 (if s.1 207 a1.toNat = 0 then (some (1, s)) else (inR a1 9 (if s.1 208 a1.toNat = (-1) then (inR a1 9 (some (0, wI s 207 a1.toNat 0))) else (some (2, s)))))) := rfl
set_option maxHeartbeats 1000000 in
set_option maxRecDepth 100000 in
theorem zf_X_mend_eq (Z : mZ) (m : Nat) (a1 : Int) (s : mS) : zf_X_mend Z m a1 s = ((zf_X_isBox Z m a1 s).bind fun p0 => (if p0.1 = 0 then (some ((-1), p0.2)) else ((zf_St_copyOf_206_17 Z m p0.2).bind fun p1 => ((zf_St_mendIt_17 Z m a1 p1.2).bind fun p2 => ((zf_X_done Z m p2.1 p2.2).bind fun p3 => (some (p3.1, p3.2))))))) := rfl
set_option maxHeartbeats 1000000 in
set_option maxRecDepth 100000 in
theorem zf_St_passDays_17_4_eq (Z : mZ) (m : Nat) (a1 : Int) (s : mS) : zf_St_passDays_17_4 Z m a1 s = (zl_St_passDays_17_4_L2 Z m m a1 0 s) := rfl
set_option maxHeartbeats 1000000 in
set_option maxRecDepth 100000 in
theorem zl_St_passDays_17_4_L2_eq (Z : mZ) (m : Nat) (n : Nat) (x1 : Int) (x3 : Int) (s : mS) : zl_St_passDays_17_4_L2 Z m (n + 1) x1 x3 s = (if x3 < x1 then (if s.1 17 0 < 400 then (zl_St_passDays_17_4_L20 Z m n x1 x3 0 s) else (some (x3, s))) else (some (x3, s))) := rfl
set_option maxHeartbeats 1000000 in
set_option maxRecDepth 100000 in
theorem zl_St_passDays_17_4_L20_eq (Z : mZ) (m : Nat) (n : Nat) (x1 : Int) (x3 : Int) (x4 : Int) (s : mS) : zl_St_passDays_17_4_L20 Z m (n + 1) x1 x3 x4 s = (if x4 < s.1 4 2 then (inR x4 12 (inR x4 12 (if s.1 25 x4.toNat = 1 then (inR x4 12 (inR x4 12 (inR x4 12 (if (wI s 28 x4.toNat (Z 0 (s.1 28 x4.toNat) 1)).1 25 x4.toNat = 2 then (inR x4 12 (zl_St_passDays_17_4_L20 Z m n x1 x3 (Z 0 x4 1) (wI (wI s 28 x4.toNat (Z 0 (s.1 28 x4.toNat) 1)) 29 x4.toNat (Z 0 ((wI s 28 x4.toNat (Z 0 (s.1 28 x4.toNat) 1)).1 29 x4.toNat) 1)))) else (inR x4 12 (zl_St_passDays_17_4_L20 Z m n x1 x3 (Z 0 x4 1) (wI (wI s 28 x4.toNat (Z 0 (s.1 28 x4.toNat) 1)) 29 x4.toNat (Z 0 ((wI s 28 x4.toNat (Z 0 (s.1 28 x4.toNat) 1)).1 29 x4.toNat) 0)))))))) else (inR x4 12 (inR x4 12 (inR x4 12 (if (wI s 28 x4.toNat (Z 0 (s.1 28 x4.toNat) 0)).1 25 x4.toNat = 2 then (inR x4 12 (zl_St_passDays_17_4_L20 Z m n x1 x3 (Z 0 x4 1) (wI (wI s 28 x4.toNat (Z 0 (s.1 28 x4.toNat) 0)) 29 x4.toNat (Z 0 ((wI s 28 x4.toNat (Z 0 (s.1 28 x4.toNat) 0)).1 29 x4.toNat) 1)))) else (inR x4 12 (zl_St_passDays_17_4_L20 Z m n x1 x3 (Z 0 x4 1) (wI (wI s 28 x4.toNat (Z 0 (s.1 28 x4.toNat) 0)) 29 x4.toNat (Z 0 ((wI s 28 x4.toNat (Z 0 (s.1 28 x4.toNat) 0)).1 29 x4.toNat) 0))))))))))) else ((zf_St_arrive_17_4 Z m (wI s 17 0 (Z 0 (s.1 17 0) 1))).bind fun p0 => (zl_St_passDays_17_4_L2 Z m n x1 (Z 0 x3 1) p0.2))) := rfl
set_option maxHeartbeats 1000000 in
set_option maxRecDepth 100000 in
theorem zf_St_passDays_206_4_eq (Z : mZ) (m : Nat) (a1 : Int) (s : mS) : zf_St_passDays_206_4 Z m a1 s = (zl_St_passDays_206_4_L2 Z m m a1 0 s) := rfl
set_option maxHeartbeats 1000000 in
set_option maxRecDepth 100000 in
theorem zl_St_passDays_206_4_L2_eq (Z : mZ) (m : Nat) (n : Nat) (x1 : Int) (x3 : Int) (s : mS) : zl_St_passDays_206_4_L2 Z m (n + 1) x1 x3 s = (if x3 < x1 then (if s.1 206 0 < 400 then (zl_St_passDays_206_4_L20 Z m n x1 x3 0 s) else (some (x3, s))) else (some (x3, s))) := rfl
set_option maxHeartbeats 1000000 in
set_option maxRecDepth 100000 in
theorem zl_St_passDays_206_4_L20_eq (Z : mZ) (m : Nat) (n : Nat) (x1 : Int) (x3 : Int) (x4 : Int) (s : mS) : zl_St_passDays_206_4_L20 Z m (n + 1) x1 x3 x4 s = (if x4 < s.1 4 2 then (inR x4 12 (inR x4 12 (if s.1 214 x4.toNat = 1 then (inR x4 12 (inR x4 12 (inR x4 12 (if (wI s 217 x4.toNat (Z 0 (s.1 217 x4.toNat) 1)).1 214 x4.toNat = 2 then (inR x4 12 (zl_St_passDays_206_4_L20 Z m n x1 x3 (Z 0 x4 1) (wI (wI s 217 x4.toNat (Z 0 (s.1 217 x4.toNat) 1)) 218 x4.toNat (Z 0 ((wI s 217 x4.toNat (Z 0 (s.1 217 x4.toNat) 1)).1 218 x4.toNat) 1)))) else (inR x4 12 (zl_St_passDays_206_4_L20 Z m n x1 x3 (Z 0 x4 1) (wI (wI s 217 x4.toNat (Z 0 (s.1 217 x4.toNat) 1)) 218 x4.toNat (Z 0 ((wI s 217 x4.toNat (Z 0 (s.1 217 x4.toNat) 1)).1 218 x4.toNat) 0)))))))) else (inR x4 12 (inR x4 12 (inR x4 12 (if (wI s 217 x4.toNat (Z 0 (s.1 217 x4.toNat) 0)).1 214 x4.toNat = 2 then (inR x4 12 (zl_St_passDays_206_4_L20 Z m n x1 x3 (Z 0 x4 1) (wI (wI s 217 x4.toNat (Z 0 (s.1 217 x4.toNat) 0)) 218 x4.toNat (Z 0 ((wI s 217 x4.toNat (Z 0 (s.1 217 x4.toNat) 0)).1 218 x4.toNat) 1)))) else (inR x4 12 (zl_St_passDays_206_4_L20 Z m n x1 x3 (Z 0 x4 1) (wI (wI s 217 x4.toNat (Z 0 (s.1 217 x4.toNat) 0)) 218 x4.toNat (Z 0 ((wI s 217 x4.toNat (Z 0 (s.1 217 x4.toNat) 0)).1 218 x4.toNat) 0))))))))))) else ((zf_St_arrive_206_4 Z m (wI s 206 0 (Z 0 (s.1 206 0) 1))).bind fun p0 => (zl_St_passDays_206_4_L2 Z m n x1 (Z 0 x3 1) p0.2))) := rfl
set_option maxHeartbeats 1000000 in
set_option maxRecDepth 100000 in
theorem zf_X_wentBy_eq (Z : mZ) (m : Nat) (a1 : Int) (s : mS) : zf_X_wentBy Z m a1 s = (if 0 < a1 then ((zf_Ps_keep_100_206 Z m s).bind fun p0 => (some (a1, p0.2))) else (some (a1, s))) := rfl
set_option maxHeartbeats 1000000 in
set_option maxRecDepth 100000 in
theorem zf_X_days_eq (Z : mZ) (m : Nat) (a1 : Int) (s : mS) : zf_X_days Z m a1 s = (if a1 < 1 then (some ((-1), s)) else (if 60 < a1 then (some ((-1), s)) else ((zf_St_copyOf_206_17 Z m s).bind fun p0 => ((zf_St_passDays_17_4 Z m a1 p0.2).bind fun p1 => ((zf_X_wentBy Z m p1.1 p1.2).bind fun p2 => (some (p2.1, p2.2))))))) := rfl
set_option maxHeartbeats 1000000 in
set_option maxRecDepth 100000 in
theorem zf_Ps_backTo_eq (Z : mZ) (m : Nat) (s : mS) : zf_Ps_backTo Z m s = (if s.1 100 2 = 0 then (some ((-1), s)) else (inR (Z 10 (Z 0 ((wI s 100 2 (Z 1 (s.1 100 2) 1)).1 100 1) ((wI s 100 2 (Z 1 (s.1 100 2) 1)).1 100 2)) 8) 8 (zl_Ps_backTo_L37 Z m m (R0f 101 (Z 10 (Z 0 ((wI s 100 2 (Z 1 (s.1 100 2) 1)).1 100 1) ((wI s 100 2 (Z 1 (s.1 100 2) 1)).1 100 2)) 8).toNat) (wI s 100 2 (Z 1 (s.1 100 2) 1))))) := rfl
set_option maxHeartbeats 1000000 in
set_option maxRecDepth 100000 in
theorem zl_Ps_backTo_L37_eq0 (Z : mZ) (m : Nat) (n : Nat) (s : mS) : zl_Ps_backTo_L37 Z m (n + 1) (some 102) s = ((zf_St_copyOf_17_102 Z m s).bind fun p0 => (some (p0.2.1 100 2, p0.2))) := rfl
set_option maxHeartbeats 1000000 in
set_option maxRecDepth 100000 in
theorem zl_Ps_backTo_L37_eq1 (Z : mZ) (m : Nat) (n : Nat) (s : mS) : zl_Ps_backTo_L37 Z m (n + 1) (some 115) s = ((zf_St_copyOf_17_115 Z m s).bind fun p0 => (some (p0.2.1 100 2, p0.2))) := rfl
set_option maxHeartbeats 1000000 in
set_option maxRecDepth 100000 in
theorem zl_Ps_backTo_L37_eq2 (Z : mZ) (m : Nat) (n : Nat) (s : mS) : zl_Ps_backTo_L37 Z m (n + 1) (some 128) s = ((zf_St_copyOf_17_128 Z m s).bind fun p0 => (some (p0.2.1 100 2, p0.2))) := rfl
set_option maxHeartbeats 1000000 in
set_option maxRecDepth 100000 in
theorem zl_Ps_backTo_L37_eq3 (Z : mZ) (m : Nat) (n : Nat) (s : mS) : zl_Ps_backTo_L37 Z m (n + 1) (some 141) s = ((zf_St_copyOf_17_141 Z m s).bind fun p0 => (some (p0.2.1 100 2, p0.2))) := rfl
set_option maxHeartbeats 1000000 in
set_option maxRecDepth 100000 in
theorem zl_Ps_backTo_L37_eq4 (Z : mZ) (m : Nat) (n : Nat) (s : mS) : zl_Ps_backTo_L37 Z m (n + 1) (some 154) s = ((zf_St_copyOf_17_154 Z m s).bind fun p0 => (some (p0.2.1 100 2, p0.2))) := rfl
set_option maxHeartbeats 1000000 in
set_option maxRecDepth 100000 in
theorem zl_Ps_backTo_L37_eq5 (Z : mZ) (m : Nat) (n : Nat) (s : mS) : zl_Ps_backTo_L37 Z m (n + 1) (some 167) s = ((zf_St_copyOf_17_167 Z m s).bind fun p0 => (some (p0.2.1 100 2, p0.2))) := rfl
set_option maxHeartbeats 1000000 in
set_option maxRecDepth 100000 in
theorem zl_Ps_backTo_L37_eq6 (Z : mZ) (m : Nat) (n : Nat) (s : mS) : zl_Ps_backTo_L37 Z m (n + 1) (some 180) s = ((zf_St_copyOf_17_180 Z m s).bind fun p0 => (some (p0.2.1 100 2, p0.2))) := rfl
set_option maxHeartbeats 1000000 in
set_option maxRecDepth 100000 in
theorem zl_Ps_backTo_L37_eq7 (Z : mZ) (m : Nat) (n : Nat) (s : mS) : zl_Ps_backTo_L37 Z m (n + 1) (some 193) s = ((zf_St_copyOf_17_193 Z m s).bind fun p0 => (some (p0.2.1 100 2, p0.2))) := rfl
set_option maxHeartbeats 1000000 in
set_option maxRecDepth 100000 in
theorem zf_X_undo_eq (Z : mZ) (m : Nat) (s : mS) : zf_X_undo Z m s = ((zf_Ps_backTo Z m s).bind fun p0 => (some (p0.1, p0.2))) := rfl
set_option maxHeartbeats 1000000 in
set_option maxRecDepth 100000 in
theorem zf_Mt_finds_eq (Z : mZ) (m : Nat) (d : Nat) (a1 : Int) (a2 : Int) (s : mS) : zf_Mt_finds Z m (d + 1) a1 a2 s = (if a1 < 0 then (some (0, s)) else (if a1 < 12 then (if 9 < a2 then (some (0, s)) else (zl_Mt_finds_L20 Z m d m a1 a2 0 s)) else (some (0, s)))) := rfl
set_option maxHeartbeats 1000000 in
set_option maxRecDepth 100000 in
theorem zl_Mt_finds_L20_eq (Z : mZ) (m : Nat) (d : Nat) (n : Nat) (x1 : Int) (x2 : Int) (x3 : Int) (s : mS) : zl_Mt_finds_L20 Z m d (n + 1) x1 x2 x3 s = (if x3 < 9 then (inR x1 12 (if Z 3 (Z 7 (s.1 243 x1.toNat) x3) 1 = 0 then (zl_Mt_finds_L20 Z m d n x1 x2 (Z 0 x3 1) s) else (if Z 3 (Z 7 (s.1 241 3) x3) 1 = 0 then (inR x3 9 (if (wI s 241 3 (Z 4 (s.1 241 3) (Z 6 1 x3))).1 244 x3.toNat = (-1) then (inR x3 9 (some (1, wI (wI s 241 3 (Z 4 (s.1 241 3) (Z 6 1 x3))) 244 x3.toNat x1))) else (inR x3 9 ((zf_Mt_finds Z m d ((wI s 241 3 (Z 4 (s.1 241 3) (Z 6 1 x3))).1 244 x3.toNat) (Z 0 x2 1) (wI s 241 3 (Z 4 (s.1 241 3) (Z 6 1 x3)))).bind fun p0 => (if p0.1 = 0 then (zl_Mt_finds_L20 Z m d n x1 x2 (Z 0 x3 1) p0.2) else (inR x3 9 (some (1, wI p0.2 244 x3.toNat x1)))))))) else (zl_Mt_finds_L20 Z m d n x1 x2 (Z 0 x3 1) s)))) else (some (0, s))) := rfl
set_option maxHeartbeats 1000000 in
set_option maxRecDepth 100000 in
theorem zf_Mt_mostFrom_eq (Z : mZ) (m : Nat) (a1 : Int) (a2 : Int) (s : mS) : zf_Mt_mostFrom Z m a1 a2 s = ((zf_Ja_fill_244 Z m (-1) s).bind fun p0 => (zl_Mt_mostFrom_L13 Z m m a2 0 a1 p0.2)) := rfl
set_option maxHeartbeats 1000000 in
set_option maxRecDepth 100000 in
theorem zl_Mt_mostFrom_L13_eq (Z : mZ) (m : Nat) (n : Nat) (x2 : Int) (x3 : Int) (x4 : Int) (s : mS) : zl_Mt_mostFrom_L13 Z m (n + 1) x2 x3 x4 s = (if x4 < 12 then ((zf_Mt_finds Z m 64 x4 0 (wI s 241 3 x2)).bind fun p0 => (if p0.1 = 0 then (zl_Mt_mostFrom_L13 Z m n x2 x3 (Z 0 x4 1) p0.2) else (zl_Mt_mostFrom_L13 Z m n x2 (Z 0 x3 1) (Z 0 x4 1) p0.2))) else (some (x3, s))) := rfl
set_option maxHeartbeats 1000000 in
set_option maxRecDepth 100000 in
theorem zf_Mt_chooseFirst_eq (Z : mZ) (m : Nat) (a1 : Int) (s : mS) : zf_Mt_chooseFirst Z m a1 s = (zl_Mt_chooseFirst_L7 Z m m a1 0 0 s) := rfl
set_option maxHeartbeats 1000000 in
set_option maxRecDepth 100000 in
theorem zl_Mt_chooseFirst_L7_eq (Z : mZ) (m : Nat) (n : Nat) (x2 : Int) (x3 : Int) (x4 : Int) (s : mS) : zl_Mt_chooseFirst_L7 Z m (n + 1) x2 x3 x4 s = (if x4 < 12 then (inR x4 12 (zl_Mt_chooseFirst_L25 Z m n x2 x3 x4 0 (wI s 242 x4.toNat (-1)))) else (some (0, s))) := rfl
set_option maxHeartbeats 1000000 in
set_option maxRecDepth 100000 in
theorem zl_Mt_chooseFirst_L25_eq (Z : mZ) (m : Nat) (n : Nat) (x2 : Int) (x3 : Int) (x4 : Int) (x5 : Int) (s : mS) : zl_Mt_chooseFirst_L25 Z m (n + 1) x2 x3 x4 x5 s = (if x5 < 9 then (inR x4 12 (if s.1 242 x4.toNat = (-1) then (inR x4 12 (if Z 3 (Z 3 (s.1 243 x4.toNat) (Z 6 1 x5)) (Z 5 x3 (-1)) = 0 then (zl_Mt_chooseFirst_L25 Z m n x2 x3 x4 (Z 0 x5 1) s) else ((zf_Mt_mostFrom Z m (Z 0 x4 1) (Z 4 x3 (Z 6 1 x5)) s).bind fun p0 => (if Z 0 p0.1 1 = x2 then (inR x4 12 (zl_Mt_chooseFirst_L25 Z m n (Z 0 x2 (-1)) (Z 4 x3 (Z 6 1 x5)) x4 (Z 0 x5 1) (wI p0.2 242 x4.toNat x5))) else (zl_Mt_chooseFirst_L25 Z m n x2 x3 x4 (Z 0 x5 1) p0.2))))) else (zl_Mt_chooseFirst_L7 Z m n x2 x3 (Z 0 x4 1) s))) else (zl_Mt_chooseFirst_L7 Z m n x2 x3 (Z 0 x4 1) s)) := rfl
set_option maxHeartbeats 1000000 in
set_option maxRecDepth 100000 in
theorem zf_Mt_find_eq (Z : mZ) (m : Nat) (s : mS) : zf_Mt_find Z m s = (zl_Mt_find_L2 Z m m 0 s) := rfl
set_option maxHeartbeats 1000000 in
set_option maxRecDepth 100000 in
theorem zl_Mt_find_L2_eq (Z : mZ) (m : Nat) (n : Nat) (x3 : Int) (s : mS) : zl_Mt_find_L2 Z m (n + 1) x3 s = (if x3 < 12 then (inR x3 12 (zl_Mt_find_L18 Z m n x3 0 (wI s 243 x3.toNat 0))) else ((zf_Mt_mostFrom Z m 0 0 s).bind fun p0 => ((zf_Mt_chooseFirst Z m p0.1 p0.2).bind fun p1 => (some (p0.1, p1.2))))) := rfl
set_option maxHeartbeats 1000000 in
set_option maxRecDepth 100000 in
theorem zl_Mt_find_L18_eq (Z : mZ) (m : Nat) (n : Nat) (x3 : Int) (x4 : Int) (s : mS) : zl_Mt_find_L18 Z m (n + 1) x3 x4 s = (if x3 < s.1 4 2 then (if x4 < s.1 4 0 then ((zf_St_whyNotLent_17_4 Z m x3 x4 s).bind fun p0 => (if p0.1 = 0 then (inR x3 12 (inR x3 12 (zl_Mt_find_L18 Z m n x3 (Z 0 x4 1) (wI p0.2 243 x3.toNat (Z 4 (p0.2.1 243 x3.toNat) (Z 6 1 x4)))))) else (zl_Mt_find_L18 Z m n x3 (Z 0 x4 1) p0.2))) else (zl_Mt_find_L2 Z m n (Z 0 x3 1) s)) else (zl_Mt_find_L2 Z m n (Z 0 x3 1) s)) := rfl
set_option maxHeartbeats 1000000 in
set_option maxRecDepth 100000 in
theorem zf_X_match_eq (Z : mZ) (m : Nat) (s : mS) : zf_X_match Z m s = ((zf_Mt_find Z m s).bind fun p0 => (some (p0.1, p0.2))) := rfl
set_option maxHeartbeats 1000000 in
set_option maxRecDepth 100000 in
theorem zf_X_matchOf_eq (Z : mZ) (m : Nat) (a1 : Int) (s : mS) : zf_X_matchOf Z m a1 s = (if a1 < 0 then (some ((-1), s)) else (if a1 < 12 then (inR a1 12 (some (s.1 242 a1.toNat, s))) else (some ((-1), s)))) := rfl
set_option maxHeartbeats 1000000 in
set_option maxRecDepth 100000 in
theorem zf_X_plotBehind_eq (Z : mZ) (m : Nat) (a1 : Int) (a2 : Int) (s : mS) : zf_X_plotBehind Z m a1 a2 s = ((zf_Vs_frostOn Z m (Z 0 (s.1 17 0) a2) s).bind fun p0 => (if p0.1 = 0 then (zl_X_plotBehind_L32 Z m m a1 (Z 0 (s.1 17 0) a2) 0 p0.2) else (some ((-1), p0.2)))) := rfl
set_option maxHeartbeats 1000000 in
set_option maxRecDepth 100000 in
theorem zl_X_plotBehind_L32_eq (Z : mZ) (m : Nat) (n : Nat) (x1 : Int) (x3 : Int) (x4 : Int) (s : mS) : zl_X_plotBehind_L32 Z m (n + 1) x1 x3 x4 s = (if x4 < s.1 4 1 then (inR x4 5 (if x3 < s.1 23 x4.toNat then (zl_X_plotBehind_L32 Z m n x1 x3 (Z 0 x4 1) s) else (inR x4 5 ((zf_Vs_areKin_4 Z m x1 (s.1 22 x4.toNat) s).bind fun p0 => (if p0.1 = 0 then (some (x4, p0.2)) else (zl_X_plotBehind_L32 Z m n x1 x3 (Z 0 x4 1) p0.2)))))) else (some ((-1), s))) := rfl
set_option maxHeartbeats 1000000 in
set_option maxRecDepth 100000 in
theorem zf_X_soon_eq (Z : mZ) (m : Nat) (a1 : Int) (s : mS) : zf_X_soon Z m a1 s = ((zf_X_isDead Z m a1 s).bind fun p0 => (if p0.1 = 0 then (some ((-1), p0.2)) else (inR a1 12 (if p0.2.1 25 a1.toNat = 2 then (zl_X_soon_L28 Z m m a1 0 p0.2) else (some ((-1), p0.2)))))) := rfl
set_option maxHeartbeats 1000000 in
set_option maxRecDepth 100000 in
theorem zl_X_soon_L28_eq (Z : mZ) (m : Nat) (n : Nat) (x1 : Int) (x2 : Int) (s : mS) : zl_X_soon_L28 Z m (n + 1) x1 x2 s = (if 300 < x2 then (some ((-1), s)) else ((zf_X_plotBehind Z m x1 x2 s).bind fun p0 => (if p0.1 = (-1) then (zl_X_soon_L28 Z m n x1 (Z 0 x2 1) p0.2) else (some (x2, wI p0.2 0 14 p0.1))))) := rfl
set_option maxHeartbeats 1000000 in
set_option maxRecDepth 100000 in
theorem zf_X_soonIn_eq (Z : mZ) (m : Nat) (s : mS) : zf_X_soonIn Z m s = (some (s.1 0 14, s)) := rfl
set_option maxHeartbeats 1000000 in
set_option maxRecDepth 100000 in
theorem zf_X_crowd_eq (Z : mZ) (m : Nat) (a1 : Int) (s : mS) : zf_X_crowd Z m a1 s = (if a1 < 0 then (some ((-1), s)) else (if 99 < a1 then (some ((-1), s)) else (zl_X_crowd_L16 Z m m a1 0 0 s))) := rfl
set_option maxHeartbeats 1000000 in
set_option maxRecDepth 100000 in
theorem zl_X_crowd_L16_eq (Z : mZ) (m : Nat) (n : Nat) (x1 : Int) (x2 : Int) (x3 : Int) (s : mS) : zl_X_crowd_L16 Z m (n + 1) x1 x2 x3 s = (if x3 < s.1 4 2 then (inR x3 12 (if s.1 25 x3.toNat = 1 then (zl_X_crowd_L16 Z m n x1 (Z 0 x2 1) (Z 0 x3 1) s) else (if s.1 25 x3.toNat = 0 then (inR x3 12 (if Z 0 (s.1 17 0) x1 < s.1 12 x3.toNat then (zl_X_crowd_L16 Z m n x1 x2 (Z 0 x3 1) s) else (zl_X_crowd_L16 Z m n x1 (Z 0 x2 1) (Z 0 x3 1) s))) else (zl_X_crowd_L16 Z m n x1 x2 (Z 0 x3 1) s)))) else (some (x2, s))) := rfl
set_option maxHeartbeats 1000000 in
set_option maxRecDepth 100000 in
theorem zf_X_outOn_eq (Z : mZ) (m : Nat) (a1 : Int) (a2 : Int) (s : mS) : zf_X_outOn Z m a1 a2 s = (zl_X_outOn_L5 Z m m a1 a2 0 0 s) := rfl
set_option maxHeartbeats 1000000 in
set_option maxRecDepth 100000 in
theorem zl_X_outOn_L5_eq (Z : mZ) (m : Nat) (n : Nat) (x1 : Int) (x2 : Int) (x3 : Int) (x4 : Int) (s : mS) : zl_X_outOn_L5 Z m (n + 1) x1 x2 x3 x4 s = (if x4 < s.1 4 2 then (inR x4 12 (if s.1 25 x4.toNat = 0 then (inR x4 12 (if s.1 25 x4.toNat = 3 then (zl_X_outOn_L5 Z m n x1 x2 x3 (Z 0 x4 1) s) else (if x1 < s.1 12 x4.toNat then (zl_X_outOn_L5 Z m n x1 x2 x3 (Z 0 x4 1) s) else (if x1 < Z 0 (s.1 12 x4.toNat) x2 then (zl_X_outOn_L5 Z m n x1 x2 (Z 0 x3 1) (Z 0 x4 1) s) else (zl_X_outOn_L5 Z m n x1 x2 x3 (Z 0 x4 1) s))))) else (if s.1 25 x4.toNat = 3 then (zl_X_outOn_L5 Z m n x1 x2 x3 (Z 0 x4 1) s) else (if x1 < s.1 17 0 then (zl_X_outOn_L5 Z m n x1 x2 x3 (Z 0 x4 1) s) else (if x1 < Z 0 (s.1 17 0) x2 then (zl_X_outOn_L5 Z m n x1 x2 (Z 0 x3 1) (Z 0 x4 1) s) else (zl_X_outOn_L5 Z m n x1 x2 x3 (Z 0 x4 1) s)))))) else (some (x3, s))) := rfl
set_option maxHeartbeats 1000000 in
set_option maxRecDepth 100000 in
theorem zf_X_need_eq (Z : mZ) (m : Nat) (a1 : Int) (a2 : Int) (s : mS) : zf_X_need Z m a1 a2 s = (if a1 < 0 then (some ((-1), s)) else (if 99 < a1 then (some ((-1), s)) else (if a2 < 1 then (some ((-1), s)) else (if 60 < a2 then (some ((-1), s)) else (zl_X_need_L28 Z m m a1 a2 0 0 s))))) := rfl
set_option maxHeartbeats 1000000 in
set_option maxRecDepth 100000 in
theorem zl_X_need_L28_eq (Z : mZ) (m : Nat) (n : Nat) (x1 : Int) (x2 : Int) (x3 : Int) (x4 : Int) (s : mS) : zl_X_need_L28 Z m (n + 1) x1 x2 x3 x4 s = (if x1 < x4 then (some (x3, s)) else ((zf_X_outOn Z m (Z 0 (s.1 17 0) x4) (Z 0 x2 (s.1 4 5)) s).bind fun p0 => ((zf_Jm_max Z m x3 p0.1 p0.2).bind fun p1 => (zl_X_need_L28 Z m n x1 x2 p1.1 (Z 0 x4 1) p1.2)))) := rfl
