/-! ===== layer 3: bitCount of small sets, by the kernel ===== -/
theorem C_bitCount (m : Nat) (a : Int) (s : mS) : f_Ji_bitCount m a s = some (bcount a, s) := f_Ji_bitCount_eq m a s
set_option maxRecDepth 100000 in
theorem bc_ok : ∀ n : Nat, n < 4096 → bcount (n : Int) = ((ct (fun i => n.testBit i) 12 : Nat) : Int) := by decide +kernel
