def M217 : mM := (false, false, 10, 4, (0, 0), 1, rs_12, cd_217, [(4, [0, 1, 2, 3])])
def those_L4 (scr : Nat × (Nat → Int)) (env : Nat → List mV → mS → Option (Int × mS)) (n : Nat) (how set d : Int) (s : mS) : Option (Int × mS) :=
  runS TT M217 scr env n 4 [(0, rv (some 249)), (1, iv how), (2, iv set), (3, iv d)] [] s (0, 0)
theorem those_L4_eq (scr : Nat × (Nat → Int)) (env : Nat → List mV → mS → Option (Int × mS)) (n : Nat) (how set d : Int) (s : mS) : those_L4 scr env (n + 1) how set d s =
  inR 2 466 (if d < s.1 251 (2 : Int).toNat then inR (w32 (164 + d)) 466 (if s.1 251 (w32 (164 + d)).toNat = how then those_L4 scr env n how (bor set (bshl 1 d)) (w32 (d + 1)) s else those_L4 scr env n how set (w32 (d + 1)) s) else some (set, s)) := rfl
theorem those_eq (scr : Nat × (Nat → Int)) (env : Nat → List mV → mS → Option (Int × mS)) (n : Nat) (how : Int) (s : mS) : runS TT M217 scr env (n + 1) 0 [(0, rv (some 249)), (1, iv how)] [] s (0, 0) = those_L4 scr env n how 0 0 s := rfl
