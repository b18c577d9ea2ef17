/-! ===== what stands still, at the start ===== -/
theorem isR_of {v : Value} (h : v.isRef = true) : isR v := by
  cases v with
  | null => exact Or.inl rfl
  | ref a => exact Or.inr ⟨a, rfl⟩
  | _ => cases h
theorem fx_ls {s : State} {args : Array Value} (hts : ∀ w ∈ lw_tbl, w.before args s = true) : ∀ i, i < 24 → (Cond.laysStatic "LentBoxes$Word" (wNm i) "LLentBoxes$Word;").before args s = true
  | 0, _ => hts _ wz_ls_0
  | 1, _ => hts _ wz_ls_1
  | 2, _ => hts _ wz_ls_2
  | 3, _ => hts _ wz_ls_3
  | 4, _ => hts _ wz_ls_4
  | 5, _ => hts _ wz_ls_5
  | 6, _ => hts _ wz_ls_6
  | 7, _ => hts _ wz_ls_7
  | 8, _ => hts _ wz_ls_8
  | 9, _ => hts _ wz_ls_9
  | 10, _ => hts _ wz_ls_10
  | 11, _ => hts _ wz_ls_11
  | 12, _ => hts _ wz_ls_12
  | 13, _ => hts _ wz_ls_13
  | 14, _ => hts _ wz_ls_14
  | 15, _ => hts _ wz_ls_15
  | 16, _ => hts _ wz_ls_16
  | 17, _ => hts _ wz_ls_17
  | 18, _ => hts _ wz_ls_18
  | 19, _ => hts _ wz_ls_19
  | 20, _ => hts _ wz_ls_20
  | 21, _ => hts _ wz_ls_21
  | 22, _ => hts _ wz_ls_22
  | 23, _ => hts _ wz_ls_23
  | i + 24, hi => absurd hi (by omega)
section Sx
variable {args : Array Value} {s : State}
/-- the words, their array, the switch map -/
theorem words_0 (h : (Jvm.Cond.and given_1 narrow_1).before args s = true) (hts : ∀ w ∈ lw_tbl, w.before args s = true) (hini : (Cond.initialized "LentBoxes$Word").before args s = true) (hini1 : (Cond.initialized "LentBoxes$1").before args s = true) {A : Nat → Prop} (hA : ∀ a : Nat, a < s.heap.size → ¬ A a) :
    ∃ (ad : Nat → Nat) (a0 a1 : Nat), (∀ k : Nat, k < 24 → va_Z "LentBoxes$Word" (wNm k) "LLentBoxes$Word;" (.ref (ad k)) A s s.heap) ∧ va_Z "LentBoxes$Word" "ALL" "[LLentBoxes$Word;" (.ref a0) A s s.heap ∧ va_T (.object "LentBoxes$Word") a0 24 (fun j => .ref (ad j)) A s s.heap ∧
      va_Z "LentBoxes$1" "$SwitchMap$LentBoxes$Word" "[I" (.ref a1) A s s.heap ∧ va_T .int a1 24 (fun j => .int (Int32.ofInt (swM j))) A s s.heap ∧
      (∀ k : Nat, k < 24 → va_OF "LentBoxes$Word" "letters" "J" (.long (Int64.ofInt (wL k))) (ad k) A s s.heap) ∧ (∀ k : Nat, k < 24 → va_OF "java/lang/Enum" "ordinal" "I" (.int (Int32.ofInt (k : Int))) (ad k) A s s.heap) ∧
      (∀ k : Nat, k < 24 → va_O "LentBoxes$Word" (ad k) A s s.heap) ∧ (∀ j k, j < 24 → k < 24 → ad j = ad k → j = k) := by
  have h0 : ∀ i : Nat, ∃ t : Nat, i < 24 → (Term.static "LentBoxes$Word" (wNm i) "LLentBoxes$Word;").eval args s none [] s = some (.ref t) ∧ va_O "LentBoxes$Word" t A s s.heap := by
    intro i
    by_cases hi : i < 24
    · obtain ⟨a, c, cell, k, q1, q2, q3, q4, q5, q6, -⟩ := Cond.exactly_spec (fx_ex h i hi)
      exact ⟨a, fun _ => ⟨q1, cell, q3, q5, by rw [q6]; exact q2, hA a (Array.getElem?_eq_some_iff.mp q3).1⟩⟩
    · exact ⟨0, fun h => absurd h hi⟩
  obtain ⟨ad, had⟩ := Classical.axiomOfChoice h0
  obtain ⟨a0, e0, t0⟩ := va_Tof (N := 24) (f := fun j => .ref (ad j)) (by decide) (nq_4 h) (va_eqt (nq_5 h)) (fun j hj => va_eqv (fx_el h j hj) (had j hj).1) hA
  obtain ⟨a1, e1, t1⟩ := va_Tof (N := 24) (f := fun j => .int (Int32.ofInt (swM j))) (by decide) (nq_32 h) (va_eqt (nq_33 h)) (fun j hj => va_eqt (fx_sw h j hj)) hA
  have nm : ∀ i, i < 24 → (["BOX", "PLOT", "DEAD", "KIN", "ASKS", "FROST", "AIR", "LEND", "LAY", "SWAP", "MEND", "DAY", "OR", "AND", "NOT", "COMING", "WAITING", "LYING", "LAID", "IN", "LONG", "WAITED", "LAIN", "NUMBER"] : List String).getD i "" = wNm i := fun i _ => rfl
  refine ⟨ad, a0, a1, fun k hk => va_Zof (fx_ls hts k hk) hini (had k hk).1 hA, va_Zof (hts _ wz_ls_ALL) hini e0 hA, t0, va_Zof (hts _ wz_ls_SW) hini1 e1 hA, t1, ?_, ?_, fun k hk => (had k hk).2, ?_⟩
  · exact va_Efof (N := 24) (E := "LentBoxes$Word") (d0 := "LLentBoxes$Word;") (nm := ["BOX", "PLOT", "DEAD", "KIN", "ASKS", "FROST", "AIR", "LEND", "LAY", "SWAP", "MEND", "DAY", "OR", "AND", "NOT", "COMING", "WAITING", "LYING", "LAID", "IN", "LONG", "WAITED", "LAIN", "NUMBER"]) (v := fun k => .long (Int64.ofInt (wL k))) (tm := fun i => .long (Int64.ofInt (wL i))) (fun i hi => (had i hi).1) (fun i hi => fx_le h i hi) (fun i hi => rfl) hA
  · exact va_Efof (N := 24) (E := "LentBoxes$Word") (d0 := "LLentBoxes$Word;") (nm := ["BOX", "PLOT", "DEAD", "KIN", "ASKS", "FROST", "AIR", "LEND", "LAY", "SWAP", "MEND", "DAY", "OR", "AND", "NOT", "COMING", "WAITING", "LYING", "LAID", "IN", "LONG", "WAITED", "LAIN", "NUMBER"]) (v := fun k => .int (Int32.ofInt (k : Int))) (tm := fun i => .int (Int32.ofInt (i : Int))) (fun i hi => (had i hi).1) (fun i hi => fx_or h i hi) (fun i hi => rfl) hA
  · intro j k hj hk he
    by_cases hjk : j = k
    · exact hjk
    · rcases fx_ne h j k hj hk hjk with q | q
      · exact absurd he (va_neR q (had j hj).1 (had k hk).1)
      · exact absurd he.symm (va_neR q (had k hk).1 (had j hj).1)
/-- the texts that are written -/
theorem texts_0 (h : (Jvm.Cond.and given_1 narrow_1).before args s = true) {A : Nat → Prop} (hA : ∀ a : Nat, a < s.heap.size → ¬ A a) :
    ∃ adK adV : Nat → Nat, vk_S 4 strN str32 adK adV A s s.heap ∧ ∀ i : Nat, i < 4 → (Term.string "LentBoxes" (strI i)).eval args s none [] s = some (.ref (adK i)) :=
  vk_Sof (N := 4) (tm := fun i => .string "LentBoxes" (strI i)) (len := strN) (byt := str32) (by decide) (fx_sx h) (fx_sc h) (fx_sa h) (fx_sl h) (fx_se h) (fx_sn h) hA
theorem text_R {q : Nat} {tx : String} (h1 : (Cond.stringRef "LentBoxes" q tx).before args s = true) (h2 : (Cond.exactly (.string "LentBoxes" q) "java/lang/String").before args s = true) : ∃ a, vk_R "LentBoxes" q tx a s := by
  obtain ⟨a, c, cell, k, q1, -⟩ := Cond.exactly_spec h2
  exact ⟨a, vk_R.of h1 q1⟩
theorem StrW_0 (h : (Jvm.Cond.and given_1 narrow_1).before args s = true) (hts : ∀ w ∈ lw_tbl, w.before args s = true) (i1 : (Cond.initialized "java/lang/String").before args s = true) (i2 : (Cond.initialized "jdk/internal/util/Preconditions").before args s = true) (i3 : (Cond.initialized "java/lang/Throwable").before args s = true) : StrW s.heap.size s := by
  have hA : ∀ a : Nat, a < s.heap.size → ¬ sA s.heap.size a := fun a ha => Nat.not_le.mpr ha
  obtain ⟨v2, e2, r2⟩ := Cond.isRef_spec (nq_59 h)
  obtain ⟨v3, e3, r3⟩ := Cond.isRef_spec (nq_165 h)
  obtain ⟨v4, e4, r4⟩ := Cond.isRef_spec (nq_166 h)
  exact ⟨va_Zof (hts _ wz_ls_CS) i1 (va_eqt (nq_58 h)) hA, ⟨v2, isR_of r2, va_Zof (hts _ wz_ls_SI) i2 e2 hA⟩, ⟨v3, isR_of r3, va_Zof (hts _ wt_20) i3 e3 hA⟩, ⟨v4, isR_of r4, va_Zof (hts _ wt_22) i3 e4 hA⟩, text_R (hts _ wz_sr_185) (nq_505 h), text_R (hts _ wz_sr_214) (nq_524 h), text_R (hts _ wz_sr_316) (nq_545 h)⟩
end Sx
