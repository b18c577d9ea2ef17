theorem R_swaps {s : mS} {A : Row} (hA : s.1 251 = A) (m : Nat) {d e : Nat} (hd : d < 12) (he : e < 12) (hde : d ≠ e) (hb0 : 0 ≤ A (176 + d)) (hb : A (176 + d) < 9) (hc0 : 0 ≤ A (176 + e)) (hc : A (176 + e) < 9) (hbc : A (176 + d) ≠ A (176 + e)) : f_R_live m 2 (d : Int) (e : Int) s = some (0, sr s 251 (swaps A d e)) := by
  obtain ⟨b, hbb⟩ : ∃ b : Nat, A (176 + d) = (b : Int) := ⟨(A (176 + d)).toNat, by omega⟩
  obtain ⟨c, hcc⟩ : ∃ b : Nat, A (176 + e) = (b : Int) := ⟨(A (176 + e)).toNat, by omega⟩
  rw [f_R_live_eq]
  have n0 : ¬ (2 : Int) = 0 := by decide
  have n1 : ¬ (2 : Int) = 1 := by decide
  simp only [n0, n1, if_false, if_true]
  simp (disch := omega) only [inR_pos, w32_in, Int.toNat_add_nat, Int.reduceToNat, hA, hbb, hcc]
  have q0 := R_lies (A := A) (s := s) hA m (d := d) (b := c) hd (by omega)
  have q : f_R_lies m (e : Int) (b : Int) (sr s 251 (up (up A (176 + d) (c : Int)) (95 + c) (d : Int))) = some (0, sr (sr s 251 (up (up A (176 + d) (c : Int)) (95 + c) (d : Int))) 251 (up (up (up (up A (176 + d) (c : Int)) (95 + c) (d : Int)) (176 + e) (b : Int)) (95 + b) (e : Int))) := R_lies (sr_eq _ _ _) m he (by omega)
  rw [q0, Option.bind_some]
  dsimp only
  rw [q, Option.bind_some]
  dsimp only
  rw [sr_sr]
  refine congrArg (fun z => some ((0 : Int), z)) (sr_ext (fun k => ?_))
  have hbn : (A (176 + d)).toNat = b := by omega
  have hcn : (A (176 + e)).toNat = c := by omega
  have hne : b ≠ c := by omega
  have hb9 : b < 9 := by omega
  have hc9 : c < 9 := by omega
  simp only [swaps, up_at, hbn, hcn, hbb, hcc]
  clear hA hb0 hb hbb hbn hcc hcn hc0 hc hbc
  (repeat' split) <;> first | rfl | (exfalso; omega)

