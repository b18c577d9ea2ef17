/-! ===== written by gen_c10.py: do not edit ===== -/
theorem mem_at {w : Cond} (h : w ∈ Tw) : ∃ i, atT i w = true := by
  obtain ⟨h1, h2⟩ := List.mem_filter.mp h
  obtain ⟨i, hi⟩ := List.mem_iff_getElem?.mp h1
  refine ⟨i, ?_⟩
  unfold atT
  rw [decide_eq_true hi, h2]; rfl
theorem res_cons {own : String} {i k a b : Nat} {rs : List (Nat × Nat × Nat × Nat)} (h : ∃ ix, entB own i k a b ix = true) (t : ∃ ixs, resB own rs ixs = true) : ∃ ixs, resB own ((i, k, a, b) :: rs) ixs = true := by
  obtain ⟨ix, hx⟩ := h
  obtain ⟨ixs, hs⟩ := t
  refine ⟨ix :: ixs, ?_⟩
  show (entB own i k a b ix && resB own rs ixs) = true
  rw [hx, hs]; rfl
def rstF (a b : Nat) : Bool := match fty a b with
  | 1 => decide ((tX a b).2.2.2 = false) && decide (tyX a b = .int)
  | 15 => decide ((tX a b).2.2.2 = false) && decide (tyX a b = .boolean)
  | 2 => decide ((tX a b).2.2.2 = false) && decide (tyX a b = .long)
  | 4 => decide ((tX a b).2.2.2 = false) && decide (tyX a b = .object "LentBoxes$Word")
  | 3 => decide ((tX a b).2.2.2 = true) && decide (tyX a b = .object (clN (rcls a b)))
  | 16 => decide ((tX a b).2.2.2 = true) && (match tyX a b with | .array _ => true | _ => false)
  | _ => false
theorem rstF_ok : ∀ a, a < 11 → ∀ b, b < nF a → rstF a b = true := by decide +kernel
theorem ent_f {own : String} {i k a b : Nat} (h : Cond.fieldLink own i (tX a b).1 (tX a b).2.1 (tX a b).2.2.1 ∈ Tw) (ha : a < 11) (hb : b < nF a) (hk : fty a b = k) (hk2 : k = 1 ∨ k = 15 ∨ k = 2 ∨ k = 4 ∨ k = 3 ∨ k = 16) : ∃ ix, entB own i k a b ix = true := by
  obtain ⟨x, hx⟩ := mem_at h
  have hr := rstF_ok a ha b hb
  have hf : fldB own i a b [x] = true := by
    show (decide (a < 11) && (decide (b < nF a) && atT x _)) = true
    rw [decide_eq_true ha, decide_eq_true hb, hx]; rfl
  unfold rstF at hr
  rw [hk] at hr
  refine ⟨[x], ?_⟩
  rcases hk2 with rfl | rfl | rfl | rfl | rfl | rfl
  all_goals (unfold entB; simp only [hf, hk, decide_true, Bool.true_and]; exact hr)
theorem ent_50 {own : String} {i : Nat} (h : Cond.fieldLink own i "LentBoxes$Word" "letters" "J" ∈ Tw) : ∃ ix, entB own i 5 0 0 ix = true := by
  obtain ⟨x, hx⟩ := mem_at h
  exact ⟨[x], hx⟩
theorem ent_51 {own : String} {i : Nat} (h : Cond.fieldLink own i "java/lang/Enum" "ordinal" "I" ∈ Tw) : ∃ ix, entB own i 5 1 0 ix = true := by
  obtain ⟨x, hx⟩ := mem_at h
  exact ⟨[x], hx⟩
theorem ent_6 {own : String} {i a : Nat} (h : Cond.fieldLink own i (stC a) (stN a) (stD a) ∈ Tw) (ha : (decide (a < 24) || (decide (a = 100) || decide (a = 101))) = true) : ∃ ix, entB own i 6 a 0 ix = true := by
  obtain ⟨x, hx⟩ := mem_at h
  refine ⟨[x], ?_⟩
  show (atT x _ && _) = true
  rw [hx, ha]; rfl
theorem mkCallB {own : String} {i a : Nat} (h0 : Cond.methodLink own i (yy a) ∈ Tw) (h1 : Cond.initialized (yy a).cls ∈ Tw) (h2 : Cond.code (yy a) (bb a) (mx a) (rt a) ∈ Tw) : ∃ x0 x1 x2, ∀ l, callB own i a (x0 :: x1 :: x2 :: l) = true := by
  obtain ⟨x0, e0⟩ := mem_at h0
  obtain ⟨x1, e1⟩ := mem_at h1
  obtain ⟨x2, e2⟩ := mem_at h2
  refine ⟨x0, x1, x2, fun l => ?_⟩
  show (atT x0 _ && (atT x1 _ && atT x2 _)) = true
  rw [e0, e1, e2]; rfl
theorem ent_7 {own : String} {i a b : Nat} (h0 : Cond.methodLink own i (yy a) ∈ Tw) (h1 : Cond.initialized (yy a).cls ∈ Tw) (h2 : Cond.code (yy a) (bb a) (mx a) (rt a) ∈ Tw) (h3 : Cond.instanceMethod (yy a) ∈ Tw) (h4 : Cond.selects (yy a).cls (yy a) (yy a) ∈ Tw) (hy : yOk a b = true) (hc : decide ((yy a).cls = clN (jcl a)) = true) : ∃ ix, entB own i 7 a b ix = true := by
  obtain ⟨x0, x1, x2, hx⟩ := mkCallB h0 h1 h2
  obtain ⟨x3, e3⟩ := mem_at h3
  obtain ⟨x4, e4⟩ := mem_at h4
  refine ⟨[x0, x1, x2, x3, x4], ?_⟩
  show (callB own i a [x0, x1, x2, x3, x4] && (atT x3 _ && (atT x4 _ && (yOk a b && decide ((yy a).cls = clN (jcl a)))))) = true
  rw [hx, e3, e4, hy, hc]; rfl
theorem ent_8o {own : String} {i : Nat} (h0 : Cond.methodLink own i ordX ∈ Tw) (h1 : Cond.initialized (yy 26).cls ∈ Tw) (h2 : Cond.code (yy 26) (bb 26) (mx 26) (rt 26) ∈ Tw) (h3 : Cond.instanceMethod (yy 26) ∈ Tw) (h4 : Cond.selects "LentBoxes$Word" ordX (yy 26) ∈ Tw) (h5 : Cond.sameMethod "LentBoxes$Word" "java/lang/Enum" "ordinal" "()I" ∈ Tw) : ∃ ix, entB own i 8 26 0 ix = true := by
  obtain ⟨x0, e0⟩ := mem_at h0
  obtain ⟨x1, e1⟩ := mem_at h1
  obtain ⟨x2, e2⟩ := mem_at h2
  obtain ⟨x3, e3⟩ := mem_at h3
  obtain ⟨x4, e4⟩ := mem_at h4
  obtain ⟨x5, e5⟩ := mem_at h5
  refine ⟨[x0, x1, x2, x3, x4, x5], ?_⟩
  show (atT x0 _ && (atT x1 _ && (atT x2 _ && (atT x3 _ && (atT x4 _ && (atT x5 _ && decide (0 = 0))))))) = true
  rw [e0, e1, e2, e3, e4, e5]; rfl
theorem ent_8_110 {own : String} {i : Nat} (h0 : Cond.methodLink own i (yy 110) ∈ Tw) (h1 : Cond.initialized (yy 110).cls ∈ Tw) (h2 : Cond.code (yy 110) (bb 110) (mx 110) (rt 110) ∈ Tw) (h3 : Cond.instanceMethod (yy 110) ∈ Tw) (h4 : Cond.selects (yy 110).cls (yy 110) (yy 110) ∈ Tw) (hy : yOk 110 0 = true) (hc : (decide ((yy 110).cls = "java/lang/String") && decide (jcl 110 = 2)) = true) : ∃ ix, entB own i 8 110 0 ix = true := by
  obtain ⟨x0, x1, x2, hx⟩ := mkCallB h0 h1 h2
  obtain ⟨x3, e3⟩ := mem_at h3
  obtain ⟨x4, e4⟩ := mem_at h4
  refine ⟨[x0, x1, x2, x3, x4], ?_⟩
  show (callB own i 110 [x0, x1, x2, x3, x4] && (atT x3 _ && (atT x4 _ && (yOk 110 0 && (decide ((yy 110).cls = "java/lang/String") && decide (jcl 110 = 2)))))) = true
  rw [hx, e3, e4, hy, hc]; rfl
theorem ent_8_112 {own : String} {i : Nat} (h0 : Cond.methodLink own i (yy 112) ∈ Tw) (h1 : Cond.initialized (yy 112).cls ∈ Tw) (h2 : Cond.code (yy 112) (bb 112) (mx 112) (rt 112) ∈ Tw) (h3 : Cond.instanceMethod (yy 112) ∈ Tw) (h4 : Cond.selects (yy 112).cls (yy 112) (yy 112) ∈ Tw) (hy : yOk 112 1 = true) (hc : (decide ((yy 112).cls = "java/lang/String") && decide (jcl 112 = 2)) = true) : ∃ ix, entB own i 8 112 1 ix = true := by
  obtain ⟨x0, x1, x2, hx⟩ := mkCallB h0 h1 h2
  obtain ⟨x3, e3⟩ := mem_at h3
  obtain ⟨x4, e4⟩ := mem_at h4
  refine ⟨[x0, x1, x2, x3, x4], ?_⟩
  show (callB own i 112 [x0, x1, x2, x3, x4] && (atT x3 _ && (atT x4 _ && (yOk 112 1 && (decide ((yy 112).cls = "java/lang/String") && decide (jcl 112 = 2)))))) = true
  rw [hx, e3, e4, hy, hc]; rfl
theorem ent_9 {own : String} {i a b : Nat} (h0 : Cond.methodLink own i (yy a) ∈ Tw) (h1 : Cond.initialized (yy a).cls ∈ Tw) (h2 : Cond.code (yy a) (bb a) (mx a) (rt a) ∈ Tw) (h3 : Cond.static (yy a) ∈ Tw) (hy : yOk a b = true) : ∃ ix, entB own i 9 a b ix = true := by
  obtain ⟨x0, x1, x2, hx⟩ := mkCallB h0 h1 h2
  obtain ⟨x3, e3⟩ := mem_at h3
  refine ⟨[x0, x1, x2, x3], ?_⟩
  show (callB own i a [x0, x1, x2, x3] && (atT x3 _ && yOk a b)) = true
  rw [hx, e3, hy]; rfl
theorem ent_10 {own : String} {i a b : Nat} (h0 : Cond.methodLink own i (yy a) ∈ Tw) (h1 : Cond.initialized (yy a).cls ∈ Tw) (h2 : Cond.code (yy a) (bb a) (mx a) (rt a) ∈ Tw) (h3 : Cond.instanceMethod (yy a) ∈ Tw) (hy : yOk a b = true) (hr : rt a = none) (hn : decide ((yy a).name = "<init>") = true) : ∃ ix, entB own i 10 a b ix = true := by
  obtain ⟨x0, x1, x2, hx⟩ := mkCallB h0 h1 h2
  obtain ⟨x3, e3⟩ := mem_at h3
  refine ⟨[x0, x1, x2, x3], ?_⟩
  show (callB own i a [x0, x1, x2, x3] && (atT x3 _ && (yOk a b && (decide (rt a = none) && decide ((yy a).name = "<init>"))))) = true
  rw [hx, e3, hy, hn, decide_eq_true hr]; rfl
theorem ent_18 {own : String} {i a b : Nat} (h1 : Cond.initialized (yy a).cls ∈ Tw) (h2 : Cond.code (yy a) (bb a) (mx a) (rt a) ∈ Tw) (h3 : Cond.instanceMethod (yy a) ∈ Tw) (hy : yOk a b = true) (hr : rt a = none) (hn : decide ((yy a).name = "<init>") = true) (hm : decide ((own, i, jcl a) ∈ nestL) = true) (hq : decide (yy a = nestY (jcl a)) = true) : ∃ ix, entB own i 18 a b ix = true := by
  obtain ⟨x1, e1⟩ := mem_at h1
  obtain ⟨x2, e2⟩ := mem_at h2
  obtain ⟨x3, e3⟩ := mem_at h3
  refine ⟨[0, x1, x2, x3], ?_⟩
  show (atT x1 _ && (atT x2 _ && (atT x3 _ && (yOk a b && (decide (rt a = none) && (decide ((yy a).name = "<init>") && (decide ((own, i, jcl a) ∈ nestL) && decide (yy a = nestY (jcl a))))))))) = true
  rw [e1, e2, e3, hy, hn, hm, hq, decide_eq_true hr]; rfl
theorem ent_11 {own : String} {i : Nat} (h0 : Cond.methodLink own i Lib.objectInit ∈ Tw) (h1 : Cond.instanceMethod Lib.objectInit ∈ Tw) (h2 : Cond.code Lib.objectInit ⟨#[0xb1]⟩ 1 none ∈ Tw) : ∃ ix, entB own i 11 0 0 ix = true := by
  obtain ⟨x0, e0⟩ := mem_at h0
  obtain ⟨x1, e1⟩ := mem_at h1
  obtain ⟨x2, e2⟩ := mem_at h2
  refine ⟨[x0, x1, x2], ?_⟩
  show (atT x0 _ && (atT x1 _ && atT x2 _)) = true
  rw [e0, e1, e2]; rfl
theorem ent_12 {own : String} {i : Nat} (h0 : Cond.methodLink own i arraycopyName ∈ Tw) (h1 : Cond.native arraycopyName ∈ Tw) (h2 : Cond.static arraycopyName ∈ Tw) (h3 : Cond.initialized "java/lang/System" ∈ Tw) : ∃ ix, entB own i 12 0 0 ix = true := by
  obtain ⟨x0, e0⟩ := mem_at h0
  obtain ⟨x1, e1⟩ := mem_at h1
  obtain ⟨x2, e2⟩ := mem_at h2
  obtain ⟨x3, e3⟩ := mem_at h3
  refine ⟨[x0, x1, x2, x3], ?_⟩
  show (atT x0 _ && (atT x1 _ && (atT x2 _ && atT x3 _))) = true
  rw [e0, e1, e2, e3]; rfl
theorem ent_13 {own : String} {i a b : Nat} (h0 : Cond.classLink own i (clN a) ∈ Tw) (h1 : Cond.instantiable (clN a) b ∈ Tw) (h2 : Cond.initialized (clN a) ∈ Tw) (ha : a < 11) (hb : b = nF a) : ∃ ix, entB own i 13 a b ix = true := by
  obtain ⟨x0, e0⟩ := mem_at h0
  obtain ⟨x1, e1⟩ := mem_at h1
  obtain ⟨x2, e2⟩ := mem_at h2
  refine ⟨[x0, x1, x2], ?_⟩
  show (atT x0 _ && (atT x1 _ && (atT x2 _ && (decide (a < 11) && decide (b = nF a))))) = true
  rw [e0, e1, e2, decide_eq_true ha, decide_eq_true hb]; rfl
theorem ent_25 {own : String} {i a : Nat} (h0 : Cond.constant own i (Int32.ofInt (a : Int)) ∈ Tw) (ha : a < 2147483648) : ∃ ix, entB own i 25 a 0 ix = true := by
  obtain ⟨x0, e0⟩ := mem_at h0
  refine ⟨[x0], ?_⟩
  show (atT x0 _ && decide (a < 2147483648)) = true
  rw [e0, decide_eq_true ha]; rfl
theorem ent_26 {own : String} {i a : Nat} (h0 : Cond.constantLong own i (Int64.ofInt (a : Int)) ∈ Tw) (ha : a < 4611686018427387904) : ∃ ix, entB own i 26 a 0 ix = true := by
  obtain ⟨x0, e0⟩ := mem_at h0
  refine ⟨[x0], ?_⟩
  show (atT x0 _ && decide (a < 4611686018427387904)) = true
  rw [e0, decide_eq_true ha]; rfl
theorem yok_0 : yOk 0 0 = true := by decide +kernel
theorem yok_2 : yOk 2 0 = true := by decide +kernel
theorem yok_3 : yOk 3 0 = true := by decide +kernel
theorem yok_4 : yOk 4 0 = true := by decide +kernel
theorem yok_5 : yOk 5 0 = true := by decide +kernel
theorem yok_6 : yOk 6 0 = true := by decide +kernel
theorem yok_7 : yOk 7 1 = true := by decide +kernel
theorem yok_8 : yOk 8 2 = true := by decide +kernel
theorem yok_9 : yOk 9 1 = true := by decide +kernel
theorem yok_10 : yOk 10 0 = true := by decide +kernel
theorem yok_11 : yOk 11 0 = true := by decide +kernel
theorem yok_12 : yOk 12 0 = true := by decide +kernel
theorem yok_13 : yOk 13 0 = true := by decide +kernel
theorem yok_14 : yOk 14 5 = true := by decide +kernel
theorem yok_15 : yOk 15 1 = true := by decide +kernel
theorem yok_16 : yOk 16 1 = true := by decide +kernel
theorem yok_17 : yOk 17 0 = true := by decide +kernel
theorem yok_18 : yOk 18 1 = true := by decide +kernel
theorem yok_19 : yOk 19 0 = true := by decide +kernel
theorem yok_20 : yOk 20 2 = true := by decide +kernel
theorem yok_21 : yOk 21 1 = true := by decide +kernel
theorem yok_22 : yOk 22 1 = true := by decide +kernel
theorem yok_23 : yOk 23 1 = true := by decide +kernel
theorem yok_24 : yOk 24 1 = true := by decide +kernel
theorem yok_25 : yOk 25 1 = true := by decide +kernel
theorem yok_26 : yOk 26 0 = true := by decide +kernel
theorem yok_27 : yOk 27 1 = true := by decide +kernel
theorem yok_28 : yOk 28 1 = true := by decide +kernel
theorem yok_29 : yOk 29 3 = true := by decide +kernel
theorem yok_30 : yOk 30 2 = true := by decide +kernel
theorem yok_31 : yOk 31 1 = true := by decide +kernel
theorem yok_32 : yOk 32 1 = true := by decide +kernel
theorem yok_33 : yOk 33 1 = true := by decide +kernel
theorem yok_34 : yOk 34 1 = true := by decide +kernel
theorem yok_35 : yOk 35 3 = true := by decide +kernel
theorem yok_36 : yOk 36 1 = true := by decide +kernel
theorem yok_37 : yOk 37 2 = true := by decide +kernel
theorem yok_38 : yOk 38 1 = true := by decide +kernel
theorem yok_39 : yOk 39 1 = true := by decide +kernel
theorem yok_40 : yOk 40 1 = true := by decide +kernel
theorem yok_41 : yOk 41 1 = true := by decide +kernel
theorem yok_42 : yOk 42 1 = true := by decide +kernel
theorem yok_43 : yOk 43 1 = true := by decide +kernel
theorem yok_44 : yOk 44 0 = true := by decide +kernel
theorem yok_45 : yOk 45 0 = true := by decide +kernel
theorem yok_46 : yOk 46 0 = true := by decide +kernel
theorem yok_47 : yOk 47 2 = true := by decide +kernel
theorem yok_48 : yOk 48 1 = true := by decide +kernel
theorem yok_49 : yOk 49 1 = true := by decide +kernel
theorem yok_50 : yOk 50 1 = true := by decide +kernel
theorem yok_51 : yOk 51 2 = true := by decide +kernel
theorem yok_52 : yOk 52 2 = true := by decide +kernel
theorem yok_53 : yOk 53 1 = true := by decide +kernel
theorem yok_54 : yOk 54 1 = true := by decide +kernel
theorem yok_55 : yOk 55 2 = true := by decide +kernel
theorem yok_56 : yOk 56 1 = true := by decide +kernel
theorem yok_57 : yOk 57 1 = true := by decide +kernel
theorem yok_58 : yOk 58 1 = true := by decide +kernel
theorem yok_59 : yOk 59 1 = true := by decide +kernel
theorem yok_60 : yOk 60 2 = true := by decide +kernel
theorem yok_61 : yOk 61 1 = true := by decide +kernel
theorem yok_62 : yOk 62 1 = true := by decide +kernel
theorem yok_63 : yOk 63 3 = true := by decide +kernel
theorem yok_64 : yOk 64 3 = true := by decide +kernel
theorem yok_65 : yOk 65 1 = true := by decide +kernel
theorem yok_66 : yOk 66 1 = true := by decide +kernel
theorem yok_67 : yOk 67 2 = true := by decide +kernel
theorem yok_68 : yOk 68 3 = true := by decide +kernel
theorem yok_69 : yOk 69 2 = true := by decide +kernel
theorem yok_70 : yOk 70 3 = true := by decide +kernel
theorem yok_71 : yOk 71 1 = true := by decide +kernel
theorem yok_72 : yOk 72 1 = true := by decide +kernel
theorem yok_73 : yOk 73 1 = true := by decide +kernel
theorem yok_74 : yOk 74 2 = true := by decide +kernel
theorem yok_75 : yOk 75 1 = true := by decide +kernel
theorem yok_76 : yOk 76 0 = true := by decide +kernel
theorem yok_77 : yOk 77 1 = true := by decide +kernel
theorem yok_78 : yOk 78 0 = true := by decide +kernel
theorem yok_79 : yOk 79 2 = true := by decide +kernel
theorem yok_80 : yOk 80 2 = true := by decide +kernel
theorem yok_81 : yOk 81 2 = true := by decide +kernel
theorem yok_82 : yOk 82 1 = true := by decide +kernel
theorem yok_83 : yOk 83 1 = true := by decide +kernel
theorem yok_84 : yOk 84 1 = true := by decide +kernel
theorem yok_85 : yOk 85 2 = true := by decide +kernel
theorem yok_86 : yOk 86 0 = true := by decide +kernel
theorem yok_87 : yOk 87 1 = true := by decide +kernel
theorem yok_88 : yOk 88 2 = true := by decide +kernel
theorem yok_89 : yOk 89 2 = true := by decide +kernel
theorem yok_90 : yOk 90 1 = true := by decide +kernel
theorem yok_91 : yOk 91 2 = true := by decide +kernel
theorem yok_92 : yOk 92 1 = true := by decide +kernel
theorem yok_93 : yOk 93 0 = true := by decide +kernel
theorem yok_94 : yOk 94 0 = true := by decide +kernel
theorem yok_95 : yOk 95 1 = true := by decide +kernel
theorem yok_96 : yOk 96 2 = true := by decide +kernel
theorem yok_97 : yOk 97 2 = true := by decide +kernel
theorem yok_98 : yOk 98 1 = true := by decide +kernel
theorem yok_99 : yOk 99 2 = true := by decide +kernel
theorem yok_100 : yOk 100 1 = true := by decide +kernel
theorem yok_101 : yOk 101 0 = true := by decide +kernel
theorem yok_102 : yOk 102 2 = true := by decide +kernel
theorem yok_103 : yOk 103 1 = true := by decide +kernel
theorem yok_104 : yOk 104 2 = true := by decide +kernel
theorem yok_105 : yOk 105 0 = true := by decide +kernel
theorem yok_106 : yOk 106 1 = true := by decide +kernel
theorem yok_107 : yOk 107 1 = true := by decide +kernel
theorem yok_108 : yOk 108 1 = true := by decide +kernel
theorem yok_109 : yOk 109 1 = true := by decide +kernel
theorem yok_110 : yOk 110 0 = true := by decide +kernel
theorem yok_112 : yOk 112 1 = true := by decide +kernel
theorem yok_121 : yOk 121 1 = true := by decide +kernel
theorem yok_122 : yOk 122 2 = true := by decide +kernel
theorem yok_123 : yOk 123 4 = true := by decide +kernel
theorem yok_124 : yOk 124 2 = true := by decide +kernel
theorem yok_125 : yOk 125 1 = true := by decide +kernel
theorem yok_126 : yOk 126 3 = true := by decide +kernel
theorem yok_127 : yOk 127 1 = true := by decide +kernel
theorem yok_128 : yOk 128 2 = true := by decide +kernel
theorem yok_129 : yOk 129 2 = true := by decide +kernel
theorem yok_130 : yOk 130 1 = true := by decide +kernel
theorem yok_131 : yOk 131 2 = true := by decide +kernel
theorem yok_132 : yOk 132 1 = true := by decide +kernel
theorem yok_133 : yOk 133 0 = true := by decide +kernel
theorem yok_134 : yOk 134 3 = true := by decide +kernel
theorem yok_135 : yOk 135 3 = true := by decide +kernel
theorem yok_136 : yOk 136 1 = true := by decide +kernel
theorem yok_137 : yOk 137 0 = true := by decide +kernel
theorem yok_138 : yOk 138 3 = true := by decide +kernel
theorem yok_139 : yOk 139 3 = true := by decide +kernel
theorem yok_140 : yOk 140 3 = true := by decide +kernel
theorem yok_141 : yOk 141 1 = true := by decide +kernel
theorem yok_142 : yOk 142 3 = true := by decide +kernel
theorem yok_143 : yOk 143 3 = true := by decide +kernel
theorem yok_144 : yOk 144 1 = true := by decide +kernel
theorem yok_145 : yOk 145 1 = true := by decide +kernel
theorem yok_146 : yOk 146 1 = true := by decide +kernel
theorem yok_147 : yOk 147 1 = true := by decide +kernel
theorem yok_148 : yOk 148 1 = true := by decide +kernel
theorem yok_149 : yOk 149 2 = true := by decide +kernel
theorem yok_150 : yOk 150 3 = true := by decide +kernel
theorem yok_151 : yOk 151 4 = true := by decide +kernel
theorem yok_152 : yOk 152 2 = true := by decide +kernel
theorem yok_153 : yOk 153 1 = true := by decide +kernel
theorem yok_154 : yOk 154 1 = true := by decide +kernel
theorem yok_155 : yOk 155 1 = true := by decide +kernel
theorem yok_156 : yOk 156 1 = true := by decide +kernel
theorem yok_158 : yOk 158 2 = true := by decide +kernel
theorem yok_161 : yOk 161 1 = true := by decide +kernel
theorem yok_166 : yOk 166 2 = true := by decide +kernel
theorem yok_167 : yOk 167 3 = true := by decide +kernel
theorem yok_169 : yOk 169 1 = true := by decide +kernel
theorem yok_170 : yOk 170 0 = true := by decide +kernel
theorem yok_171 : yOk 171 5 = true := by decide +kernel
theorem yok_172 : yOk 172 1 = true := by decide +kernel
theorem yok_173 : yOk 173 1 = true := by decide +kernel
theorem yok_174 : yOk 174 0 = true := by decide +kernel
theorem yok_175 : yOk 175 0 = true := by decide +kernel
theorem yok_176 : yOk 176 0 = true := by decide +kernel
theorem yok_177 : yOk 177 0 = true := by decide +kernel
theorem yok_178 : yOk 178 1 = true := by decide +kernel
theorem yok_179 : yOk 179 0 = true := by decide +kernel
theorem yok_180 : yOk 180 0 = true := by decide +kernel
theorem yok_181 : yOk 181 1 = true := by decide +kernel
theorem yok_182 : yOk 182 1 = true := by decide +kernel
theorem yok_183 : yOk 183 1 = true := by decide +kernel
theorem yok_184 : yOk 184 0 = true := by decide +kernel
theorem yok_185 : yOk 185 1 = true := by decide +kernel
theorem yok_186 : yOk 186 1 = true := by decide +kernel
theorem yok_187 : yOk 187 7 = true := by decide +kernel
theorem yok_188 : yOk 188 0 = true := by decide +kernel
theorem yok_189 : yOk 189 2 = true := by decide +kernel
theorem yok_190 : yOk 190 1 = true := by decide +kernel
theorem yok_191 : yOk 191 1 = true := by decide +kernel
theorem yok_192 : yOk 192 0 = true := by decide +kernel
theorem yok_193 : yOk 193 4 = true := by decide +kernel
theorem yok_194 : yOk 194 2 = true := by decide +kernel
theorem yok_195 : yOk 195 3 = true := by decide +kernel
theorem yok_196 : yOk 196 2 = true := by decide +kernel
theorem yok_197 : yOk 197 0 = true := by decide +kernel
theorem yok_198 : yOk 198 0 = true := by decide +kernel
theorem yok_199 : yOk 199 0 = true := by decide +kernel
theorem yok_200 : yOk 200 2 = true := by decide +kernel
theorem yok_201 : yOk 201 2 = true := by decide +kernel
theorem yok_202 : yOk 202 0 = true := by decide +kernel
theorem yok_203 : yOk 203 0 = true := by decide +kernel
theorem yok_204 : yOk 204 0 = true := by decide +kernel
theorem yok_205 : yOk 205 0 = true := by decide +kernel
theorem yok_206 : yOk 206 1 = true := by decide +kernel
theorem yok_207 : yOk 207 0 = true := by decide +kernel
theorem yok_208 : yOk 208 2 = true := by decide +kernel
theorem yok_209 : yOk 209 1 = true := by decide +kernel
theorem yok_210 : yOk 210 1 = true := by decide +kernel
theorem yok_211 : yOk 211 2 = true := by decide +kernel
theorem yok_212 : yOk 212 1 = true := by decide +kernel
theorem yok_213 : yOk 213 2 = true := by decide +kernel
theorem yok_214 : yOk 214 1 = true := by decide +kernel
theorem yok_215 : yOk 215 0 = true := by decide +kernel
theorem yok_216 : yOk 216 1 = true := by decide +kernel
theorem yok_217 : yOk 217 1 = true := by decide +kernel
theorem yok_218 : yOk 218 1 = true := by decide +kernel
theorem yok_219 : yOk 219 2 = true := by decide +kernel
theorem yok_220 : yOk 220 2 = true := by decide +kernel
theorem yok_221 : yOk 221 4 = true := by decide +kernel
theorem yok_222 : yOk 222 3 = true := by decide +kernel
theorem yok_223 : yOk 223 2 = true := by decide +kernel
theorem yok_224 : yOk 224 2 = true := by decide +kernel
theorem yok_225 : yOk 225 2 = true := by decide +kernel
theorem yok_226 : yOk 226 2 = true := by decide +kernel
theorem yok_227 : yOk 227 2 = true := by decide +kernel
theorem yok_228 : yOk 228 0 = true := by decide +kernel
theorem yok_229 : yOk 229 2 = true := by decide +kernel
theorem yok_230 : yOk 230 3 = true := by decide +kernel
theorem yok_231 : yOk 231 2 = true := by decide +kernel
theorem yok_232 : yOk 232 2 = true := by decide +kernel
theorem yok_233 : yOk 233 2 = true := by decide +kernel
theorem yok_234 : yOk 234 2 = true := by decide +kernel
theorem yok_235 : yOk 235 2 = true := by decide +kernel
theorem yok_236 : yOk 236 1 = true := by decide +kernel
theorem yok_237 : yOk 237 0 = true := by decide +kernel
theorem yok_238 : yOk 238 2 = true := by decide +kernel
theorem yok_239 : yOk 239 1 = true := by decide +kernel
theorem yok_240 : yOk 240 1 = true := by decide +kernel
theorem yok_241 : yOk 241 2 = true := by decide +kernel
theorem yok_242 : yOk 242 0 = true := by decide +kernel
theorem yok_243 : yOk 243 0 = true := by decide +kernel
theorem yok_244 : yOk 244 2 = true := by decide +kernel
theorem yok_245 : yOk 245 2 = true := by decide +kernel
theorem yok_246 : yOk 246 2 = true := by decide +kernel
theorem yok_247 : yOk 247 1 = true := by decide +kernel
theorem yok_248 : yOk 248 1 = true := by decide +kernel
theorem yok_249 : yOk 249 2 = true := by decide +kernel
theorem yok_250 : yOk 250 0 = true := by decide +kernel
theorem yok_251 : yOk 251 1 = true := by decide +kernel
theorem yok_252 : yOk 252 2 = true := by decide +kernel
theorem yok_253 : yOk 253 3 = true := by decide +kernel
theorem yok_254 : yOk 254 1 = true := by decide +kernel
theorem yok_255 : yOk 255 1 = true := by decide +kernel
theorem yok_256 : yOk 256 1 = true := by decide +kernel
theorem yok_257 : yOk 257 0 = true := by decide +kernel
theorem yok_258 : yOk 258 2 = true := by decide +kernel
theorem yok_259 : yOk 259 2 = true := by decide +kernel
theorem yok_260 : yOk 260 2 = true := by decide +kernel
theorem yok_261 : yOk 261 0 = true := by decide +kernel
theorem yok_262 : yOk 262 2 = true := by decide +kernel
theorem yok_263 : yOk 263 2 = true := by decide +kernel
theorem yok_264 : yOk 264 3 = true := by decide +kernel
theorem yok_265 : yOk 265 2 = true := by decide +kernel
theorem yok_266 : yOk 266 1 = true := by decide +kernel
theorem yok_267 : yOk 267 0 = true := by decide +kernel
theorem yok_268 : yOk 268 1 = true := by decide +kernel
theorem yok_269 : yOk 269 1 = true := by decide +kernel
theorem yok_270 : yOk 270 1 = true := by decide +kernel
theorem yok_271 : yOk 271 1 = true := by decide +kernel
theorem yok_272 : yOk 272 1 = true := by decide +kernel
theorem yok_273 : yOk 273 2 = true := by decide +kernel
theorem yok_274 : yOk 274 2 = true := by decide +kernel
theorem yok_275 : yOk 275 0 = true := by decide +kernel
theorem yok_276 : yOk 276 1 = true := by decide +kernel
theorem yok_277 : yOk 277 2 = true := by decide +kernel
theorem yok_278 : yOk 278 3 = true := by decide +kernel
theorem yok_279 : yOk 279 3 = true := by decide +kernel
theorem yok_280 : yOk 280 1 = true := by decide +kernel
theorem yok_281 : yOk 281 0 = true := by decide +kernel
theorem yok_282 : yOk 282 0 = true := by decide +kernel
theorem yok_283 : yOk 283 2 = true := by decide +kernel
theorem yok_284 : yOk 284 2 = true := by decide +kernel
theorem yok_285 : yOk 285 0 = true := by decide +kernel
theorem yok_286 : yOk 286 1 = true := by decide +kernel
theorem yok_287 : yOk 287 1 = true := by decide +kernel
theorem yok_288 : yOk 288 1 = true := by decide +kernel
theorem yok_289 : yOk 289 1 = true := by decide +kernel
theorem yok_290 : yOk 290 0 = true := by decide +kernel
theorem yok_291 : yOk 291 0 = true := by decide +kernel
theorem yok_292 : yOk 292 0 = true := by decide +kernel
theorem yok_293 : yOk 293 0 = true := by decide +kernel
theorem yok_294 : yOk 294 0 = true := by decide +kernel
theorem yok_295 : yOk 295 0 = true := by decide +kernel
theorem yok_296 : yOk 296 4 = true := by decide +kernel
theorem yok_297 : yOk 297 1 = true := by decide +kernel
theorem yok_298 : yOk 298 1 = true := by decide +kernel
theorem yok_299 : yOk 299 1 = true := by decide +kernel
theorem yok_300 : yOk 300 1 = true := by decide +kernel
theorem yok_301 : yOk 301 2 = true := by decide +kernel
theorem yok_302 : yOk 302 1 = true := by decide +kernel
theorem yok_303 : yOk 303 1 = true := by decide +kernel
theorem yok_304 : yOk 304 1 = true := by decide +kernel
theorem en_0_1 : ∃ ix, entB "LentBoxes" 1 11 0 0 ix = true := ent_11 wd_t32 wd_t33 wd_t34
theorem en_0_7 : ∃ ix, entB "LentBoxes" 7 13 1 12 ix = true := ent_13 (a := 1) (b := 12) wd_t35 wd_t36 wd_t2 (by decide) rfl
theorem en_0_9 : ∃ ix, entB "LentBoxes" 9 18 2 0 ix = true := ent_18 (own := "LentBoxes") (i := 9) (a := 2) (b := 0) wd_t2 wd_t39 wd_t38 yok_2 rfl (by decide +kernel) (by decide +kernel) (by decide +kernel)
theorem en_0_10 : ∃ ix, entB "LentBoxes" 10 3 0 0 ix = true := ent_f (own := "LentBoxes") (i := 10) (k := 3) (a := 0) (b := 0) wd_t389 (by decide) (by decide) rfl (by decide)
theorem en_0_16 : ∃ ix, entB "LentBoxes" 16 13 2 4 ix = true := ent_13 (a := 2) (b := 4) wd_t90 wd_t91 wd_t3 (by decide) rfl
theorem en_0_18 : ∃ ix, entB "LentBoxes" 18 10 3 0 ix = true := ent_10 (own := "LentBoxes") (i := 18) (a := 3) (b := 0) wd_t92 wd_t3 wd_t94 wd_t93 yok_3 rfl (by decide +kernel)
theorem en_0_19 : ∃ ix, entB "LentBoxes" 19 3 0 1 ix = true := ent_f (own := "LentBoxes") (i := 19) (k := 3) (a := 0) (b := 1) wd_t390 (by decide) (by decide) rfl (by decide)
theorem en_0_23 : ∃ ix, entB "LentBoxes" 23 16 0 2 ix = true := ent_f (own := "LentBoxes") (i := 23) (k := 16) (a := 0) (b := 2) wd_t391 (by decide) (by decide) rfl (by decide)
theorem en_0_27 : ∃ ix, entB "LentBoxes" 27 13 6 3 ix = true := ent_13 (a := 6) (b := 3) wd_t313 wd_t314 wd_t8 (by decide) rfl
theorem en_0_29 : ∃ ix, entB "LentBoxes" 29 10 10 0 ix = true := ent_10 (own := "LentBoxes") (i := 29) (a := 10) (b := 0) wd_t315 wd_t8 wd_t317 wd_t316 yok_10 rfl (by decide +kernel)
theorem en_0_30 : ∃ ix, entB "LentBoxes" 30 3 0 3 ix = true := ent_f (own := "LentBoxes") (i := 30) (k := 3) (a := 0) (b := 3) wd_t392 (by decide) (by decide) rfl (by decide)
theorem en_0_34 : ∃ ix, entB "LentBoxes" 34 13 4 13 ix = true := ent_13 (a := 4) (b := 13) wd_t332 wd_t195 wd_t5 (by decide) rfl
theorem en_0_36 : ∃ ix, entB "LentBoxes" 36 18 5 0 ix = true := ent_18 (own := "LentBoxes") (i := 36) (a := 5) (b := 0) wd_t5 wd_t198 wd_t197 yok_5 rfl (by decide +kernel) (by decide +kernel) (by decide +kernel)
theorem en_0_37 : ∃ ix, entB "LentBoxes" 37 3 0 4 ix = true := ent_f (own := "LentBoxes") (i := 37) (k := 3) (a := 0) (b := 4) wd_t393 (by decide) (by decide) rfl (by decide)
theorem en_0_41 : ∃ ix, entB "LentBoxes" 41 13 3 19 ix = true := ent_13 (a := 3) (b := 19) wd_t334 wd_t97 wd_t4 (by decide) rfl
theorem en_0_43 : ∃ ix, entB "LentBoxes" 43 18 4 0 ix = true := ent_18 (own := "LentBoxes") (i := 43) (a := 4) (b := 0) wd_t4 wd_t100 wd_t99 yok_4 rfl (by decide +kernel) (by decide +kernel) (by decide +kernel)
theorem en_0_44 : ∃ ix, entB "LentBoxes" 44 3 0 5 ix = true := ent_f (own := "LentBoxes") (i := 44) (k := 3) (a := 0) (b := 5) wd_t394 (by decide) (by decide) rfl (by decide)
theorem en_0_48 : ∃ ix, entB "LentBoxes" 48 13 5 6 ix = true := ent_13 (a := 5) (b := 6) wd_t336 wd_t260 wd_t6 (by decide) rfl
theorem en_0_50 : ∃ ix, entB "LentBoxes" 50 18 6 0 ix = true := ent_18 (own := "LentBoxes") (i := 50) (a := 6) (b := 0) wd_t6 wd_t263 wd_t262 yok_6 rfl (by decide +kernel) (by decide +kernel) (by decide +kernel)
theorem en_0_51 : ∃ ix, entB "LentBoxes" 51 3 0 6 ix = true := ent_f (own := "LentBoxes") (i := 51) (k := 3) (a := 0) (b := 6) wd_t395 (by decide) (by decide) rfl (by decide)
theorem en_0_55 : ∃ ix, entB "LentBoxes" 55 13 7 4 ix = true := ent_13 (a := 7) (b := 4) wd_t338 wd_t339 wd_t9 (by decide) rfl
theorem en_0_57 : ∃ ix, entB "LentBoxes" 57 18 11 0 ix = true := ent_18 (own := "LentBoxes") (i := 57) (a := 11) (b := 0) wd_t9 wd_t342 wd_t341 yok_11 rfl (by decide +kernel) (by decide +kernel) (by decide +kernel)
theorem en_0_58 : ∃ ix, entB "LentBoxes" 58 3 0 7 ix = true := ent_f (own := "LentBoxes") (i := 58) (k := 3) (a := 0) (b := 7) wd_t396 (by decide) (by decide) rfl (by decide)
theorem en_0_62 : ∃ ix, entB "LentBoxes" 62 13 8 4 ix = true := ent_13 (a := 8) (b := 4) wd_t358 wd_t359 wd_t10 (by decide) rfl
theorem en_0_64 : ∃ ix, entB "LentBoxes" 64 10 12 0 ix = true := ent_10 (own := "LentBoxes") (i := 64) (a := 12) (b := 0) wd_t360 wd_t10 wd_t362 wd_t361 yok_12 rfl (by decide +kernel)
theorem en_0_65 : ∃ ix, entB "LentBoxes" 65 3 0 8 ix = true := ent_f (own := "LentBoxes") (i := 65) (k := 3) (a := 0) (b := 8) wd_t397 (by decide) (by decide) rfl (by decide)
theorem en_0_69 : ∃ ix, entB "LentBoxes" 69 13 9 1 ix = true := ent_13 (a := 9) (b := 1) wd_t379 wd_t380 wd_t11 (by decide) rfl
theorem en_0_71 : ∃ ix, entB "LentBoxes" 71 18 13 0 ix = true := ent_18 (own := "LentBoxes") (i := 71) (a := 13) (b := 0) wd_t11 wd_t383 wd_t382 yok_13 rfl (by decide +kernel) (by decide +kernel) (by decide +kernel)
theorem en_0_72 : ∃ ix, entB "LentBoxes" 72 3 0 9 ix = true := ent_f (own := "LentBoxes") (i := 72) (k := 3) (a := 0) (b := 9) wd_t398 (by decide) (by decide) rfl (by decide)
theorem en_0_76 : ∃ ix, entB "LentBoxes" 76 16 0 10 ix = true := ent_f (own := "LentBoxes") (i := 76) (k := 16) (a := 0) (b := 10) wd_t399 (by decide) (by decide) rfl (by decide)
theorem en_0_80 : ∃ ix, entB "LentBoxes" 80 16 0 11 ix = true := ent_f (own := "LentBoxes") (i := 80) (k := 16) (a := 0) (b := 11) wd_t400 (by decide) (by decide) rfl (by decide)
theorem en_0_84 : ∃ ix, entB "LentBoxes" 84 16 0 12 ix = true := ent_f (own := "LentBoxes") (i := 84) (k := 16) (a := 0) (b := 12) wd_t401 (by decide) (by decide) rfl (by decide)
theorem en_0_87 : ∃ ix, entB "LentBoxes" 87 1 0 14 ix = true := ent_f (own := "LentBoxes") (i := 87) (k := 1) (a := 0) (b := 14) wd_t403 (by decide) (by decide) rfl (by decide)
theorem en_0_91 : ∃ ix, entB "LentBoxes" 91 1 0 16 ix = true := ent_f (own := "LentBoxes") (i := 91) (k := 1) (a := 0) (b := 16) wd_t405 (by decide) (by decide) rfl (by decide)
theorem en_0_94 : ∃ ix, entB "LentBoxes" 94 1 1 1 ix = true := ent_f (own := "LentBoxes") (i := 94) (k := 1) (a := 1) (b := 1) wd_t42 (by decide) (by decide) rfl (by decide)
theorem en_0_97 : ∃ ix, entB "LentBoxes" 97 7 15 1 ix = true := ent_7 (own := "LentBoxes") (i := 97) (a := 15) (b := 1) wd_t451 wd_t2 wd_t454 wd_t452 wd_t453 yok_15 (by decide +kernel)
theorem en_0_101 : ∃ ix, entB "LentBoxes" 101 7 18 1 ix = true := ent_7 (own := "LentBoxes") (i := 101) (a := 18) (b := 1) wd_t463 wd_t2 wd_t466 wd_t464 wd_t465 yok_18 (by decide +kernel)
theorem en_0_104 : ∃ ix, entB "LentBoxes" 104 7 23 1 ix = true := ent_7 (own := "LentBoxes") (i := 104) (a := 23) (b := 1) wd_t482 wd_t4 wd_t485 wd_t483 wd_t484 yok_23 (by decide +kernel)
theorem en_0_108 : ∃ ix, entB "LentBoxes" 108 1 1 6 ix = true := ent_f (own := "LentBoxes") (i := 108) (k := 1) (a := 1) (b := 6) wd_t57 (by decide) (by decide) rfl (by decide)
theorem en_0_111 : ∃ ix, entB "LentBoxes" 111 1 0 13 ix = true := ent_f (own := "LentBoxes") (i := 111) (k := 1) (a := 0) (b := 13) wd_t402 (by decide) (by decide) rfl (by decide)
theorem en_0_114 : ∃ ix, entB "LentBoxes" 114 1 1 7 ix = true := ent_f (own := "LentBoxes") (i := 114) (k := 1) (a := 1) (b := 7) wd_t59 (by decide) (by decide) rfl (by decide)
theorem en_0_117 : ∃ ix, entB "LentBoxes" 117 3 2 0 ix = true := ent_f (own := "LentBoxes") (i := 117) (k := 3) (a := 2) (b := 0) wd_t297 (by decide) (by decide) rfl (by decide)
theorem en_0_120 : ∃ ix, entB "LentBoxes" 120 7 43 1 ix = true := ent_7 (own := "LentBoxes") (i := 120) (a := 43) (b := 1) wd_t567 wd_t4 wd_t570 wd_t568 wd_t569 yok_43 (by decide +kernel)
theorem en_0_124 : ∃ ix, entB "LentBoxes" 124 3 2 1 ix = true := ent_f (own := "LentBoxes") (i := 124) (k := 3) (a := 2) (b := 1) wd_t299 (by decide) (by decide) rfl (by decide)
theorem en_0_127 : ∃ ix, entB "LentBoxes" 127 7 7 1 ix = true := ent_7 (own := "LentBoxes") (i := 127) (a := 7) (b := 1) wd_t574 wd_t5 wd_t288 wd_t286 wd_t287 yok_7 (by decide +kernel)
theorem en_0_130 : ∃ ix, entB "LentBoxes" 130 3 2 2 ix = true := ent_f (own := "LentBoxes") (i := 130) (k := 3) (a := 2) (b := 2) wd_t301 (by decide) (by decide) rfl (by decide)
theorem en_0_133 : ∃ ix, entB "LentBoxes" 133 7 44 0 ix = true := ent_7 (own := "LentBoxes") (i := 133) (a := 44) (b := 0) wd_t575 wd_t6 wd_t578 wd_t576 wd_t577 yok_44 (by decide +kernel)
theorem en_0_136 : ∃ ix, entB "LentBoxes" 136 7 45 0 ix = true := ent_7 (own := "LentBoxes") (i := 136) (a := 45) (b := 0) wd_t579 wd_t8 wd_t582 wd_t580 wd_t581 yok_45 (by decide +kernel)
theorem en_0_139 : ∃ ix, entB "LentBoxes" 139 7 48 1 ix = true := ent_7 (own := "LentBoxes") (i := 139) (a := 48) (b := 1) wd_t591 wd_t1 wd_t594 wd_t593 wd_p10 yok_48 (by decide +kernel)
theorem en_0_143 : ∃ ix, entB "LentBoxes" 143 16 3 8 ix = true := ent_f (own := "LentBoxes") (i := 143) (k := 16) (a := 3) (b := 8) wd_t128 (by decide) (by decide) rfl (by decide)
theorem en_0_146 : ∃ ix, entB "LentBoxes" 146 16 3 9 ix = true := ent_f (own := "LentBoxes") (i := 146) (k := 16) (a := 3) (b := 9) wd_t131 (by decide) (by decide) rfl (by decide)
theorem en_0_149 : ∃ ix, entB "LentBoxes" 149 16 4 1 ix = true := ent_f (own := "LentBoxes") (i := 149) (k := 16) (a := 4) (b := 1) wd_t205 (by decide) (by decide) rfl (by decide)
theorem en_0_152 : ∃ ix, entB "LentBoxes" 152 16 4 2 ix = true := ent_f (own := "LentBoxes") (i := 152) (k := 16) (a := 4) (b := 2) wd_t207 (by decide) (by decide) rfl (by decide)
theorem en_0_155 : ∃ ix, entB "LentBoxes" 155 7 49 1 ix = true := ent_7 (own := "LentBoxes") (i := 155) (a := 49) (b := 1) wd_t595 wd_t5 wd_t598 wd_t596 wd_t597 yok_49 (by decide +kernel)
theorem en_0_158 : ∃ ix, entB "LentBoxes" 158 16 4 3 ix = true := ent_f (own := "LentBoxes") (i := 158) (k := 16) (a := 4) (b := 3) wd_t209 (by decide) (by decide) rfl (by decide)
theorem en_0_161 : ∃ ix, entB "LentBoxes" 161 7 50 1 ix = true := ent_7 (own := "LentBoxes") (i := 161) (a := 50) (b := 1) wd_t599 wd_t5 wd_t602 wd_t600 wd_t601 yok_50 (by decide +kernel)
theorem en_0_165 : ∃ ix, entB "LentBoxes" 165 7 53 1 ix = true := ent_7 (own := "LentBoxes") (i := 165) (a := 53) (b := 1) wd_t610 wd_t1 wd_t613 wd_t612 wd_p11 yok_53 (by decide +kernel)
theorem en_0_168 : ∃ ix, entB "LentBoxes" 168 16 3 11 ix = true := ent_f (own := "LentBoxes") (i := 168) (k := 16) (a := 3) (b := 11) wd_t136 (by decide) (by decide) rfl (by decide)
theorem en_0_171 : ∃ ix, entB "LentBoxes" 171 16 4 5 ix = true := ent_f (own := "LentBoxes") (i := 171) (k := 16) (a := 4) (b := 5) wd_t213 (by decide) (by decide) rfl (by decide)
theorem en_0_174 : ∃ ix, entB "LentBoxes" 174 16 4 6 ix = true := ent_f (own := "LentBoxes") (i := 174) (k := 16) (a := 4) (b := 6) wd_t215 (by decide) (by decide) rfl (by decide)
theorem en_0_177 : ∃ ix, entB "LentBoxes" 177 16 4 7 ix = true := ent_f (own := "LentBoxes") (i := 177) (k := 16) (a := 4) (b := 7) wd_t217 (by decide) (by decide) rfl (by decide)
theorem en_0_180 : ∃ ix, entB "LentBoxes" 180 7 61 1 ix = true := ent_7 (own := "LentBoxes") (i := 180) (a := 61) (b := 1) wd_t643 wd_t1 wd_t646 wd_t645 wd_p12 yok_61 (by decide +kernel)
theorem en_0_187 : ∃ ix, entB "LentBoxes" 187 10 161 1 ix = true := ent_10 (own := "LentBoxes") (i := 187) (a := 161) (b := 1) wd_t1149 wd_t21 wd_t1151 wd_t1150 yok_161 rfl (by decide +kernel)
theorem en_0_190 : ∃ ix, entB "LentBoxes" 190 16 3 13 ix = true := ent_f (own := "LentBoxes") (i := 190) (k := 16) (a := 3) (b := 13) wd_t141 (by decide) (by decide) rfl (by decide)
theorem en_0_193 : ∃ ix, entB "LentBoxes" 193 16 4 8 ix = true := ent_f (own := "LentBoxes") (i := 193) (k := 16) (a := 4) (b := 8) wd_t219 (by decide) (by decide) rfl (by decide)
theorem en_0_196 : ∃ ix, entB "LentBoxes" 196 16 4 9 ix = true := ent_f (own := "LentBoxes") (i := 196) (k := 16) (a := 4) (b := 9) wd_t222 (by decide) (by decide) rfl (by decide)
theorem en_0_199 : ∃ ix, entB "LentBoxes" 199 16 4 10 ix = true := ent_f (own := "LentBoxes") (i := 199) (k := 16) (a := 4) (b := 10) wd_t225 (by decide) (by decide) rfl (by decide)
theorem en_0_202 : ∃ ix, entB "LentBoxes" 202 16 4 11 ix = true := ent_f (own := "LentBoxes") (i := 202) (k := 16) (a := 4) (b := 11) wd_t227 (by decide) (by decide) rfl (by decide)
theorem en_0_205 : ∃ ix, entB "LentBoxes" 205 16 4 12 ix = true := ent_f (own := "LentBoxes") (i := 205) (k := 16) (a := 4) (b := 12) wd_t230 (by decide) (by decide) rfl (by decide)
theorem en_0_208 : ∃ ix, entB "LentBoxes" 208 16 3 15 ix = true := ent_f (own := "LentBoxes") (i := 208) (k := 16) (a := 3) (b := 15) wd_t148 (by decide) (by decide) rfl (by decide)
theorem en_0_211 : ∃ ix, entB "LentBoxes" 211 16 3 16 ix = true := ent_f (own := "LentBoxes") (i := 211) (k := 16) (a := 3) (b := 16) wd_t150 (by decide) (by decide) rfl (by decide)
theorem en_0_216 : ∃ ix, entB "LentBoxes" 216 1 4 0 ix = true := ent_f (own := "LentBoxes") (i := 216) (k := 1) (a := 4) (b := 0) wd_t203 (by decide) (by decide) rfl (by decide)
theorem en_0_219 : ∃ ix, entB "LentBoxes" 219 7 55 2 ix = true := ent_7 (own := "LentBoxes") (i := 219) (a := 55) (b := 2) wd_t618 wd_t5 wd_t621 wd_t619 wd_t620 yok_55 (by decide +kernel)
theorem en_0_223 : ∃ ix, entB "LentBoxes" 223 7 56 1 ix = true := ent_7 (own := "LentBoxes") (i := 223) (a := 56) (b := 1) wd_t622 wd_t5 wd_t625 wd_t623 wd_t624 yok_56 (by decide +kernel)
theorem en_0_227 : ∃ ix, entB "LentBoxes" 227 7 57 1 ix = true := ent_7 (own := "LentBoxes") (i := 227) (a := 57) (b := 1) wd_t627 wd_t5 wd_t630 wd_t628 wd_t629 yok_57 (by decide +kernel)
theorem en_0_230 : ∃ ix, entB "LentBoxes" 230 7 59 1 ix = true := ent_7 (own := "LentBoxes") (i := 230) (a := 59) (b := 1) wd_t635 wd_t4 wd_t638 wd_t636 wd_t637 yok_59 (by decide +kernel)
theorem en_0_233 : ∃ ix, entB "LentBoxes" 233 7 62 1 ix = true := ent_7 (own := "LentBoxes") (i := 233) (a := 62) (b := 1) wd_t647 wd_t5 wd_t650 wd_t648 wd_t649 yok_62 (by decide +kernel)
theorem en_0_236 : ∃ ix, entB "LentBoxes" 236 7 63 3 ix = true := ent_7 (own := "LentBoxes") (i := 236) (a := 63) (b := 3) wd_t652 wd_t5 wd_t655 wd_t653 wd_t654 yok_63 (by decide +kernel)
theorem en_0_240 : ∃ ix, entB "LentBoxes" 240 7 65 1 ix = true := ent_7 (own := "LentBoxes") (i := 240) (a := 65) (b := 1) wd_t660 wd_t1 wd_t663 wd_t662 wd_p13 yok_65 (by decide +kernel)
theorem en_0_243 : ∃ ix, entB "LentBoxes" 243 7 68 3 ix = true := ent_7 (own := "LentBoxes") (i := 243) (a := 68) (b := 3) wd_t673 wd_t5 wd_t676 wd_t674 wd_t675 yok_68 (by decide +kernel)
theorem en_0_246 : ∃ ix, entB "LentBoxes" 246 7 70 3 ix = true := ent_7 (own := "LentBoxes") (i := 246) (a := 70) (b := 3) wd_t683 wd_t5 wd_t686 wd_t684 wd_t685 yok_70 (by decide +kernel)
theorem en_0_249 : ∃ ix, entB "LentBoxes" 249 7 72 1 ix = true := ent_7 (own := "LentBoxes") (i := 249) (a := 72) (b := 1) wd_t691 wd_t5 wd_t694 wd_t692 wd_t693 yok_72 (by decide +kernel)
theorem en_0_252 : ∃ ix, entB "LentBoxes" 252 7 74 2 ix = true := ent_7 (own := "LentBoxes") (i := 252) (a := 74) (b := 2) wd_t699 wd_t5 wd_t702 wd_t700 wd_t701 yok_74 (by decide +kernel)
theorem en_0_255 : ∃ ix, entB "LentBoxes" 255 7 75 1 ix = true := ent_7 (own := "LentBoxes") (i := 255) (a := 75) (b := 1) wd_t703 wd_t1 wd_t706 wd_t705 wd_p14 yok_75 (by decide +kernel)
theorem en_0_258 : ∃ ix, entB "LentBoxes" 258 7 77 1 ix = true := ent_7 (own := "LentBoxes") (i := 258) (a := 77) (b := 1) wd_t711 wd_t8 wd_t714 wd_t712 wd_t713 yok_77 (by decide +kernel)
theorem en_0_262 : ∃ ix, entB "LentBoxes" 262 7 79 2 ix = true := ent_7 (own := "LentBoxes") (i := 262) (a := 79) (b := 2) wd_t719 wd_t10 wd_t722 wd_t720 wd_t721 yok_79 (by decide +kernel)
theorem en_0_266 : ∃ ix, entB "LentBoxes" 266 16 8 0 ix = true := ent_f (own := "LentBoxes") (i := 266) (k := 16) (a := 8) (b := 0) wd_t366 (by decide) (by decide) rfl (by decide)
theorem en_0_269 : ∃ ix, entB "LentBoxes" 269 7 85 2 ix = true := ent_7 (own := "LentBoxes") (i := 269) (a := 85) (b := 2) wd_t744 wd_t1 wd_t747 wd_t746 wd_p18 yok_85 (by decide +kernel)
theorem en_0_273 : ∃ ix, entB "LentBoxes" 273 1 3 2 ix = true := ent_f (own := "LentBoxes") (i := 273) (k := 1) (a := 3) (b := 2) wd_t116 (by decide) (by decide) rfl (by decide)
theorem en_0_276 : ∃ ix, entB "LentBoxes" 276 16 3 14 ix = true := ent_f (own := "LentBoxes") (i := 276) (k := 16) (a := 3) (b := 14) wd_t146 (by decide) (by decide) rfl (by decide)
theorem en_0_279 : ∃ ix, entB "LentBoxes" 279 1 3 5 ix = true := ent_f (own := "LentBoxes") (i := 279) (k := 1) (a := 3) (b := 5) wd_t123 (by decide) (by decide) rfl (by decide)
theorem en_0_282 : ∃ ix, entB "LentBoxes" 282 7 89 2 ix = true := ent_7 (own := "LentBoxes") (i := 282) (a := 89) (b := 2) wd_t761 wd_t1 wd_t764 wd_t763 wd_p19 yok_89 (by decide +kernel)
theorem en_0_285 : ∃ ix, entB "LentBoxes" 285 9 51 2 ix = true := ent_9 (own := "LentBoxes") (i := 285) (a := 51) (b := 2) wd_t765 wd_t13 wd_t605 wd_t604 yok_51
theorem en_0_290 : ∃ ix, entB "LentBoxes" 290 7 91 2 ix = true := ent_7 (own := "LentBoxes") (i := 290) (a := 91) (b := 2) wd_t770 wd_t1 wd_t773 wd_t772 wd_p20 yok_91 (by decide +kernel)
theorem en_0_294 : ∃ ix, entB "LentBoxes" 294 1 0 15 ix = true := ent_f (own := "LentBoxes") (i := 294) (k := 1) (a := 0) (b := 15) wd_t404 (by decide) (by decide) rfl (by decide)
theorem en_0_297 : ∃ ix, entB "LentBoxes" 297 7 94 0 ix = true := ent_7 (own := "LentBoxes") (i := 297) (a := 94) (b := 0) wd_t782 wd_t4 wd_t785 wd_t783 wd_t784 yok_94 (by decide +kernel)
theorem en_0_301 : ∃ ix, entB "LentBoxes" 301 7 95 1 ix = true := ent_7 (own := "LentBoxes") (i := 301) (a := 95) (b := 1) wd_t786 wd_t2 wd_t789 wd_t787 wd_t788 yok_95 (by decide +kernel)
theorem en_0_304 : ∃ ix, entB "LentBoxes" 304 7 96 2 ix = true := ent_7 (own := "LentBoxes") (i := 304) (a := 96) (b := 2) wd_t790 wd_t1 wd_t793 wd_t792 wd_p21 yok_96 (by decide +kernel)
theorem en_0_307 : ∃ ix, entB "LentBoxes" 307 7 98 1 ix = true := ent_7 (own := "LentBoxes") (i := 307) (a := 98) (b := 1) wd_t798 wd_t1 wd_t801 wd_t800 wd_p23 yok_98 (by decide +kernel)
theorem en_0_310 : ∃ ix, entB "LentBoxes" 310 7 103 1 ix = true := ent_7 (own := "LentBoxes") (i := 310) (a := 103) (b := 1) wd_t820 wd_t4 wd_t823 wd_t821 wd_t822 yok_103 (by decide +kernel)
theorem en_0_313 : ∃ ix, entB "LentBoxes" 313 16 4 4 ix = true := ent_f (own := "LentBoxes") (i := 313) (k := 16) (a := 4) (b := 4) wd_t211 (by decide) (by decide) rfl (by decide)
theorem en_0_318 : ∃ ix, entB "LentBoxes" 318 9 167 3 ix = true := ent_9 (own := "LentBoxes") (i := 318) (a := 167) (b := 3) wd_t1183 wd_t1 wd_t1185 wd_t1184 yok_167
theorem en_0_322 : ∃ ix, entB "LentBoxes" 322 1 0 17 ix = true := ent_f (own := "LentBoxes") (i := 322) (k := 1) (a := 0) (b := 17) wd_t406 (by decide) (by decide) rfl (by decide)
theorem en_0_325 : ∃ ix, entB "LentBoxes" 325 16 3 12 ix = true := ent_f (own := "LentBoxes") (i := 325) (k := 16) (a := 3) (b := 12) wd_t139 (by decide) (by decide) rfl (by decide)
theorem en_0_329 : ∃ ix, entB "LentBoxes" 329 7 107 1 ix = true := ent_7 (own := "LentBoxes") (i := 329) (a := 107) (b := 1) wd_t836 wd_t1 wd_t839 wd_t838 wd_p25 yok_107 (by decide +kernel)
theorem en_0_333 : ∃ ix, entB "LentBoxes" 333 27 200 0 ix = true := ⟨[], by decide +kernel⟩
theorem en_0_335 : ∃ ix, entB "LentBoxes" 335 7 109 1 ix = true := ent_7 (own := "LentBoxes") (i := 335) (a := 109) (b := 1) wd_t846 wd_t1 wd_t849 wd_t848 wd_p27 yok_109 (by decide +kernel)
theorem en_0_338 : ∃ ix, entB "LentBoxes" 338 27 201 0 ix = true := ⟨[], by decide +kernel⟩
theorem en_0_340 : ∃ ix, entB "LentBoxes" 340 27 202 0 ix = true := ⟨[], by decide +kernel⟩
theorem en_0_342 : ∃ ix, entB "LentBoxes" 342 16 3 7 ix = true := ent_f (own := "LentBoxes") (i := 342) (k := 16) (a := 3) (b := 7) wd_t126 (by decide) (by decide) rfl (by decide)
theorem en_0_345 : ∃ ix, entB "LentBoxes" 345 27 203 0 ix = true := ⟨[], by decide +kernel⟩
theorem en_0_347 : ∃ ix, entB "LentBoxes" 347 16 3 10 ix = true := ent_f (own := "LentBoxes") (i := 347) (k := 16) (a := 3) (b := 10) wd_t134 (by decide) (by decide) rfl (by decide)
theorem en_0_350 : ∃ ix, entB "LentBoxes" 350 7 123 4 ix = true := ent_7 (own := "LentBoxes") (i := 350) (a := 123) (b := 4) wd_t909 wd_t11 wd_t912 wd_t910 wd_t911 yok_123 (by decide +kernel)
theorem en_0_354 : ∃ ix, entB "LentBoxes" 354 7 128 2 ix = true := ent_7 (own := "LentBoxes") (i := 354) (a := 128) (b := 2) wd_t935 wd_t9 wd_t938 wd_t936 wd_t937 yok_128 (by decide +kernel)
theorem en_0_357 : ∃ ix, entB "LentBoxes" 357 7 133 0 ix = true := ent_7 (own := "LentBoxes") (i := 357) (a := 133) (b := 0) wd_t963 wd_t1 wd_t966 wd_t965 wd_p32 yok_133 (by decide +kernel)
theorem en_0_360 : ∃ ix, entB "LentBoxes" 360 7 66 1 ix = true := ent_7 (own := "LentBoxes") (i := 360) (a := 66) (b := 1) wd_t664 wd_t8 wd_t667 wd_t665 wd_t666 yok_66 (by decide +kernel)
theorem en_0_363 : ∃ ix, entB "LentBoxes" 363 1 7 0 ix = true := ent_f (own := "LentBoxes") (i := 363) (k := 1) (a := 7) (b := 0) wd_t345 (by decide) (by decide) rfl (by decide)
theorem en_0_366 : ∃ ix, entB "LentBoxes" 366 15 0 18 ix = true := ent_f (own := "LentBoxes") (i := 366) (k := 15) (a := 0) (b := 18) wd_t407 (by decide) (by decide) rfl (by decide)
theorem en_0_370 : ∃ ix, entB "LentBoxes" 370 7 138 3 ix = true := ent_7 (own := "LentBoxes") (i := 370) (a := 138) (b := 3) wd_t988 wd_t6 wd_t991 wd_t989 wd_t990 yok_138 (by decide +kernel)
theorem en_0_374 : ∃ ix, entB "LentBoxes" 374 1 1 2 ix = true := ent_f (own := "LentBoxes") (i := 374) (k := 1) (a := 1) (b := 2) wd_t48 (by decide) (by decide) rfl (by decide)
theorem en_0_377 : ∃ ix, entB "LentBoxes" 377 7 25 1 ix = true := ent_7 (own := "LentBoxes") (i := 377) (a := 25) (b := 1) wd_t1054 wd_t2 wd_t494 wd_t492 wd_t493 yok_25 (by decide +kernel)
theorem en_0_380 : ∃ ix, entB "LentBoxes" 380 7 147 1 ix = true := ent_7 (own := "LentBoxes") (i := 380) (a := 147) (b := 1) wd_t1055 wd_t6 wd_t1058 wd_t1056 wd_t1057 yok_147 (by decide +kernel)
theorem en_0_383 : ∃ ix, entB "LentBoxes" 383 1 5 0 ix = true := ent_f (own := "LentBoxes") (i := 383) (k := 1) (a := 5) (b := 0) wd_t266 (by decide) (by decide) rfl (by decide)
theorem en_0_386 : ∃ ix, entB "LentBoxes" 386 7 149 2 ix = true := ent_7 (own := "LentBoxes") (i := 386) (a := 149) (b := 2) wd_t1064 wd_t6 wd_t1067 wd_t1065 wd_t1066 yok_149 (by decide +kernel)
theorem en_0_389 : ∃ ix, entB "LentBoxes" 389 9 100 1 ix = true := ent_9 (own := "LentBoxes") (i := 389) (a := 100) (b := 1) wd_t806 wd_t22 wd_t808 wd_t807 yok_100
theorem en_0_394 : ∃ ix, entB "LentBoxes" 394 7 154 1 ix = true := ent_7 (own := "LentBoxes") (i := 394) (a := 154) (b := 1) wd_t1086 wd_t3 wd_t1089 wd_t1087 wd_t1088 yok_154 (by decide +kernel)
theorem en_0_397 : ∃ ix, entB "LentBoxes" 397 15 2 3 ix = true := ent_f (own := "LentBoxes") (i := 397) (k := 15) (a := 2) (b := 3) wd_t302 (by decide) (by decide) rfl (by decide)
theorem en_0_400 : ∃ ix, entB "LentBoxes" 400 1 3 0 ix = true := ent_f (own := "LentBoxes") (i := 400) (k := 1) (a := 3) (b := 0) wd_t106 (by decide) (by decide) rfl (by decide)
theorem en_0_403 : ∃ ix, entB "LentBoxes" 403 1 3 1 ix = true := ent_f (own := "LentBoxes") (i := 403) (k := 1) (a := 3) (b := 1) wd_t110 (by decide) (by decide) rfl (by decide)
theorem en_0_406 : ∃ ix, entB "LentBoxes" 406 1 3 3 ix = true := ent_f (own := "LentBoxes") (i := 406) (k := 1) (a := 3) (b := 3) wd_t118 (by decide) (by decide) rfl (by decide)
theorem en_0_409 : ∃ ix, entB "LentBoxes" 409 1 3 4 ix = true := ent_f (own := "LentBoxes") (i := 409) (k := 1) (a := 3) (b := 4) wd_t120 (by decide) (by decide) rfl (by decide)
theorem en_0_412 : ∃ ix, entB "LentBoxes" 412 7 37 2 ix = true := ent_7 (own := "LentBoxes") (i := 412) (a := 37) (b := 2) wd_t748 wd_t4 wd_t546 wd_t544 wd_t545 yok_37 (by decide +kernel)
theorem en_0_416 : ∃ ix, entB "LentBoxes" 416 7 97 2 ix = true := ent_7 (own := "LentBoxes") (i := 416) (a := 97) (b := 2) wd_t794 wd_t1 wd_t797 wd_t796 wd_p22 yok_97 (by decide +kernel)
theorem en_0_419 : ∃ ix, entB "LentBoxes" 419 7 99 2 ix = true := ent_7 (own := "LentBoxes") (i := 419) (a := 99) (b := 2) wd_t802 wd_t1 wd_t805 wd_t804 wd_p24 yok_99 (by decide +kernel)
theorem en_0_422 : ∃ ix, entB "LentBoxes" 422 8 110 0 ix = true := ent_8_110 (own := "LentBoxes") (i := 422) wd_t850 wd_t23 wd_t853 wd_t851 wd_t852 yok_110 (by decide +kernel)
theorem en_0_426 : ∃ ix, entB "LentBoxes" 426 8 112 1 ix = true := ent_8_112 (own := "LentBoxes") (i := 426) wd_t860 wd_t23 wd_t863 wd_t861 wd_t862 yok_112 (by decide +kernel)
theorem en_0_430 : ∃ ix, entB "LentBoxes" 430 7 108 1 ix = true := ent_7 (own := "LentBoxes") (i := 430) (a := 108) (b := 1) wd_t841 wd_t1 wd_t844 wd_t843 wd_p26 yok_108 (by decide +kernel)
theorem en_0_433 : ∃ ix, entB "LentBoxes" 433 26 255 0 ix = true := ent_26 (a := 255) wd_t840 (by decide)
theorem en_0_435 : ∃ ix, entB "LentBoxes" 435 7 134 3 ix = true := ent_7 (own := "LentBoxes") (i := 435) (a := 134) (b := 3) wd_t967 wd_t9 wd_t970 wd_t968 wd_t969 yok_134 (by decide +kernel)
theorem en_7_3 : ∃ ix, entB "LentBoxes$Tape" 3 11 0 0 ix = true := ent_11 wd_t40 wd_t33 wd_t34
theorem en_7_9 : ∃ ix, entB "LentBoxes$Tape" 9 16 1 0 ix = true := ent_f (own := "LentBoxes$Tape") (i := 9) (k := 16) (a := 1) (b := 0) wd_t41 (by decide) (by decide) rfl (by decide)
theorem en_7_15 : ∃ ix, entB "LentBoxes$Tape" 15 1 1 1 ix = true := ent_f (own := "LentBoxes$Tape") (i := 15) (k := 1) (a := 1) (b := 1) wd_t43 (by decide) (by decide) rfl (by decide)
theorem en_7_19 : ∃ ix, entB "LentBoxes$Tape" 19 1 1 8 ix = true := ent_f (own := "LentBoxes$Tape") (i := 19) (k := 1) (a := 1) (b := 8) wd_t60 (by decide) (by decide) rfl (by decide)
theorem en_7_22 : ∃ ix, entB "LentBoxes$Tape" 22 1 1 9 ix = true := ent_f (own := "LentBoxes$Tape") (i := 22) (k := 1) (a := 1) (b := 9) wd_t61 (by decide) (by decide) rfl (by decide)
theorem en_7_25 : ∃ ix, entB "LentBoxes$Tape" 25 1 1 11 ix = true := ent_f (own := "LentBoxes$Tape") (i := 25) (k := 1) (a := 1) (b := 11) wd_t63 (by decide) (by decide) rfl (by decide)
theorem en_7_28 : ∃ ix, entB "LentBoxes$Tape" 28 1 1 6 ix = true := ent_f (own := "LentBoxes$Tape") (i := 28) (k := 1) (a := 1) (b := 6) wd_t56 (by decide) (by decide) rfl (by decide)
theorem en_7_31 : ∃ ix, entB "LentBoxes$Tape" 31 1 1 7 ix = true := ent_f (own := "LentBoxes$Tape") (i := 31) (k := 1) (a := 1) (b := 7) wd_t58 (by decide) (by decide) rfl (by decide)
theorem en_7_34 : ∃ ix, entB "LentBoxes$Tape" 34 7 19 0 ix = true := ent_7 (own := "LentBoxes$Tape") (i := 34) (a := 19) (b := 0) wd_t467 wd_t2 wd_t470 wd_t468 wd_t469 yok_19 (by decide +kernel)
theorem en_7_37 : ∃ ix, entB "LentBoxes$Tape" 37 9 20 2 ix = true := ent_9 (own := "LentBoxes$Tape") (i := 37) (a := 20) (b := 2) wd_t471 wd_t13 wd_t473 wd_t472 yok_20
theorem en_7_43 : ∃ ix, entB "LentBoxes$Tape" 43 1 1 10 ix = true := ent_f (own := "LentBoxes$Tape") (i := 43) (k := 1) (a := 1) (b := 10) wd_t62 (by decide) (by decide) rfl (by decide)
theorem en_7_46 : ∃ ix, entB "LentBoxes$Tape" 46 4 1 3 ix = true := ent_f (own := "LentBoxes$Tape") (i := 46) (k := 4) (a := 1) (b := 3) wd_t50 (by decide) (by decide) rfl (by decide)
theorem en_7_50 : ∃ ix, entB "LentBoxes$Tape" 50 1 1 2 ix = true := ent_f (own := "LentBoxes$Tape") (i := 50) (k := 1) (a := 1) (b := 2) wd_t45 (by decide) (by decide) rfl (by decide)
theorem en_7_53 : ∃ ix, entB "LentBoxes$Tape" 53 2 1 4 ix = true := ent_f (own := "LentBoxes$Tape") (i := 53) (k := 2) (a := 1) (b := 4) wd_t53 (by decide) (by decide) rfl (by decide)
theorem en_7_57 : ∃ ix, entB "LentBoxes$Tape" 57 1 1 5 ix = true := ent_f (own := "LentBoxes$Tape") (i := 57) (k := 1) (a := 1) (b := 5) wd_t55 (by decide) (by decide) rfl (by decide)
theorem en_7_60 : ∃ ix, entB "LentBoxes$Tape" 60 9 21 1 ix = true := ent_9 (own := "LentBoxes$Tape") (i := 60) (a := 21) (b := 1) wd_t474 wd_t2 wd_t476 wd_t475 yok_21
theorem en_7_64 : ∃ ix, entB "LentBoxes$Tape" 64 9 22 1 ix = true := ent_9 (own := "LentBoxes$Tape") (i := 64) (a := 22) (b := 1) wd_t477 wd_t15 wd_t479 wd_t478 yok_22
theorem en_7_70 : ∃ ix, entB "LentBoxes$Tape" 70 7 25 1 ix = true := ent_7 (own := "LentBoxes$Tape") (i := 70) (a := 25) (b := 1) wd_t519 wd_t2 wd_t494 wd_t492 wd_t493 yok_25 (by decide +kernel)
theorem en_10_1 : ∃ ix, entB "LentBoxes$World" 1 11 0 0 ix = true := ent_11 wd_t95 wd_t33 wd_t34
theorem en_10_7 : ∃ ix, entB "LentBoxes$World" 7 13 3 19 ix = true := ent_13 (a := 3) (b := 19) wd_t96 wd_t97 wd_t4 (by decide) rfl
theorem en_10_9 : ∃ ix, entB "LentBoxes$World" 9 18 4 0 ix = true := ent_18 (own := "LentBoxes$World") (i := 9) (a := 4) (b := 0) wd_t4 wd_t100 wd_t99 yok_4 rfl (by decide +kernel) (by decide +kernel) (by decide +kernel)
theorem en_10_10 : ∃ ix, entB "LentBoxes$World" 10 3 2 0 ix = true := ent_f (own := "LentBoxes$World") (i := 10) (k := 3) (a := 2) (b := 0) wd_t296 (by decide) (by decide) rfl (by decide)
theorem en_10_16 : ∃ ix, entB "LentBoxes$World" 16 13 4 13 ix = true := ent_13 (a := 4) (b := 13) wd_t194 wd_t195 wd_t5 (by decide) rfl
theorem en_10_18 : ∃ ix, entB "LentBoxes$World" 18 18 5 0 ix = true := ent_18 (own := "LentBoxes$World") (i := 18) (a := 5) (b := 0) wd_t5 wd_t198 wd_t197 yok_5 rfl (by decide +kernel) (by decide +kernel) (by decide +kernel)
theorem en_10_19 : ∃ ix, entB "LentBoxes$World" 19 3 2 1 ix = true := ent_f (own := "LentBoxes$World") (i := 19) (k := 3) (a := 2) (b := 1) wd_t298 (by decide) (by decide) rfl (by decide)
theorem en_10_23 : ∃ ix, entB "LentBoxes$World" 23 13 5 6 ix = true := ent_13 (a := 5) (b := 6) wd_t259 wd_t260 wd_t6 (by decide) rfl
theorem en_10_25 : ∃ ix, entB "LentBoxes$World" 25 18 6 0 ix = true := ent_18 (own := "LentBoxes$World") (i := 25) (a := 6) (b := 0) wd_t6 wd_t263 wd_t262 yok_6 rfl (by decide +kernel) (by decide +kernel) (by decide +kernel)
theorem en_10_26 : ∃ ix, entB "LentBoxes$World" 26 3 2 2 ix = true := ent_f (own := "LentBoxes$World") (i := 26) (k := 3) (a := 2) (b := 2) wd_t300 (by decide) (by decide) rfl (by decide)
theorem en_10_30 : ∃ ix, entB "LentBoxes$World" 30 7 7 1 ix = true := ent_7 (own := "LentBoxes$World") (i := 30) (a := 7) (b := 1) wd_t285 wd_t5 wd_t288 wd_t286 wd_t287 yok_7 (by decide +kernel)
theorem en_10_34 : ∃ ix, entB "LentBoxes$World" 34 7 43 1 ix = true := ent_7 (own := "LentBoxes$World") (i := 34) (a := 43) (b := 1) wd_t1090 wd_t4 wd_t570 wd_t568 wd_t569 yok_43 (by decide +kernel)
theorem en_10_37 : ∃ ix, entB "LentBoxes$World" 37 7 62 1 ix = true := ent_7 (own := "LentBoxes$World") (i := 37) (a := 62) (b := 1) wd_t1091 wd_t5 wd_t650 wd_t648 wd_t649 yok_62 (by decide +kernel)
theorem en_10_40 : ∃ ix, entB "LentBoxes$World" 40 7 147 1 ix = true := ent_7 (own := "LentBoxes$World") (i := 40) (a := 147) (b := 1) wd_t1092 wd_t6 wd_t1058 wd_t1056 wd_t1057 yok_147 (by decide +kernel)
theorem en_8_3 : ∃ ix, entB "LentBoxes$Vestry" 3 11 0 0 ix = true := ent_11 wd_t101 wd_t33 wd_t34
theorem en_8_9 : ∃ ix, entB "LentBoxes$Vestry" 9 1 3 5 ix = true := ent_f (own := "LentBoxes$Vestry") (i := 9) (k := 1) (a := 3) (b := 5) wd_t121 (by decide) (by decide) rfl (by decide)
theorem en_8_15 : ∃ ix, entB "LentBoxes$Vestry" 15 16 3 7 ix = true := ent_f (own := "LentBoxes$Vestry") (i := 15) (k := 16) (a := 3) (b := 7) wd_t125 (by decide) (by decide) rfl (by decide)
theorem en_8_19 : ∃ ix, entB "LentBoxes$Vestry" 19 16 3 8 ix = true := ent_f (own := "LentBoxes$Vestry") (i := 19) (k := 16) (a := 3) (b := 8) wd_t127 (by decide) (by decide) rfl (by decide)
theorem en_8_23 : ∃ ix, entB "LentBoxes$Vestry" 23 16 3 9 ix = true := ent_f (own := "LentBoxes$Vestry") (i := 23) (k := 16) (a := 3) (b := 9) wd_t130 (by decide) (by decide) rfl (by decide)
theorem en_8_26 : ∃ ix, entB "LentBoxes$Vestry" 26 16 3 10 ix = true := ent_f (own := "LentBoxes$Vestry") (i := 26) (k := 16) (a := 3) (b := 10) wd_t133 (by decide) (by decide) rfl (by decide)
theorem en_8_29 : ∃ ix, entB "LentBoxes$Vestry" 29 16 3 11 ix = true := ent_f (own := "LentBoxes$Vestry") (i := 29) (k := 16) (a := 3) (b := 11) wd_t135 (by decide) (by decide) rfl (by decide)
theorem en_8_32 : ∃ ix, entB "LentBoxes$Vestry" 32 16 3 12 ix = true := ent_f (own := "LentBoxes$Vestry") (i := 32) (k := 16) (a := 3) (b := 12) wd_t138 (by decide) (by decide) rfl (by decide)
theorem en_8_35 : ∃ ix, entB "LentBoxes$Vestry" 35 16 3 13 ix = true := ent_f (own := "LentBoxes$Vestry") (i := 35) (k := 16) (a := 3) (b := 13) wd_t140 (by decide) (by decide) rfl (by decide)
theorem en_8_38 : ∃ ix, entB "LentBoxes$Vestry" 38 16 3 14 ix = true := ent_f (own := "LentBoxes$Vestry") (i := 38) (k := 16) (a := 3) (b := 14) wd_t144 (by decide) (by decide) rfl (by decide)
theorem en_8_41 : ∃ ix, entB "LentBoxes$Vestry" 41 16 3 15 ix = true := ent_f (own := "LentBoxes$Vestry") (i := 41) (k := 16) (a := 3) (b := 15) wd_t147 (by decide) (by decide) rfl (by decide)
theorem en_8_44 : ∃ ix, entB "LentBoxes$Vestry" 44 16 3 16 ix = true := ent_f (own := "LentBoxes$Vestry") (i := 44) (k := 16) (a := 3) (b := 16) wd_t149 (by decide) (by decide) rfl (by decide)
theorem en_8_47 : ∃ ix, entB "LentBoxes$Vestry" 47 16 3 17 ix = true := ent_f (own := "LentBoxes$Vestry") (i := 47) (k := 16) (a := 3) (b := 17) wd_t151 (by decide) (by decide) rfl (by decide)
theorem en_8_50 : ∃ ix, entB "LentBoxes$Vestry" 50 16 3 18 ix = true := ent_f (own := "LentBoxes$Vestry") (i := 50) (k := 16) (a := 3) (b := 18) wd_t152 (by decide) (by decide) rfl (by decide)
theorem en_8_53 : ∃ ix, entB "LentBoxes$Vestry" 53 1 3 0 ix = true := ent_f (own := "LentBoxes$Vestry") (i := 53) (k := 1) (a := 3) (b := 0) wd_t102 (by decide) (by decide) rfl (by decide)
theorem en_8_56 : ∃ ix, entB "LentBoxes$Vestry" 56 1 3 1 ix = true := ent_f (own := "LentBoxes$Vestry") (i := 56) (k := 1) (a := 3) (b := 1) wd_t107 (by decide) (by decide) rfl (by decide)
theorem en_8_59 : ∃ ix, entB "LentBoxes$Vestry" 59 1 3 2 ix = true := ent_f (own := "LentBoxes$Vestry") (i := 59) (k := 1) (a := 3) (b := 2) wd_t111 (by decide) (by decide) rfl (by decide)
theorem en_8_62 : ∃ ix, entB "LentBoxes$Vestry" 62 1 3 3 ix = true := ent_f (own := "LentBoxes$Vestry") (i := 62) (k := 1) (a := 3) (b := 3) wd_t117 (by decide) (by decide) rfl (by decide)
theorem en_8_65 : ∃ ix, entB "LentBoxes$Vestry" 65 1 3 4 ix = true := ent_f (own := "LentBoxes$Vestry") (i := 65) (k := 1) (a := 3) (b := 4) wd_t119 (by decide) (by decide) rfl (by decide)
theorem en_8_68 : ∃ ix, entB "LentBoxes$Vestry" 68 15 3 6 ix = true := ent_f (own := "LentBoxes$Vestry") (i := 68) (k := 15) (a := 3) (b := 6) wd_t124 (by decide) (by decide) rfl (by decide)
theorem en_8_72 : ∃ ix, entB "LentBoxes$Vestry" 72 12 0 0 ix = true := ent_12 wd_t571 wd_t573 wd_t572 wd_t17
theorem en_8_78 : ∃ ix, entB "LentBoxes$Vestry" 78 9 8 2 ix = true := ent_9 (own := "LentBoxes$Vestry") (i := 78) (a := 8) (b := 2) wd_t486 wd_t7 wd_t291 wd_t290 yok_8
theorem en_8_84 : ∃ ix, entB "LentBoxes$Vestry" 84 1 1 2 ix = true := ent_f (own := "LentBoxes$Vestry") (i := 84) (k := 1) (a := 1) (b := 2) wd_t47 (by decide) (by decide) rfl (by decide)
theorem en_8_89 : ∃ ix, entB "LentBoxes$Vestry" 89 7 24 1 ix = true := ent_7 (own := "LentBoxes$Vestry") (i := 89) (a := 24) (b := 1) wd_t487 wd_t4 wd_t490 wd_t489 wd_p1 yok_24 (by decide +kernel)
theorem en_8_93 : ∃ ix, entB "LentBoxes$Vestry" 93 7 42 1 ix = true := ent_7 (own := "LentBoxes$Vestry") (i := 93) (a := 42) (b := 1) wd_t563 wd_t2 wd_t566 wd_t564 wd_t565 yok_42 (by decide +kernel)
theorem en_8_97 : ∃ ix, entB "LentBoxes$Vestry" 97 4 1 3 ix = true := ent_f (own := "LentBoxes$Vestry") (i := 97) (k := 4) (a := 1) (b := 3) wd_t52 (by decide) (by decide) rfl (by decide)
theorem en_8_101 : ∃ ix, entB "LentBoxes$Vestry" 101 7 25 1 ix = true := ent_7 (own := "LentBoxes$Vestry") (i := 101) (a := 25) (b := 1) wd_t491 wd_t2 wd_t494 wd_t492 wd_t493 yok_25 (by decide +kernel)
theorem en_8_104 : ∃ ix, entB "LentBoxes$Vestry" 104 6 101 0 ix = true := ent_6 (a := 101) wd_t495 rfl
theorem en_8_109 : ∃ ix, entB "LentBoxes$Vestry" 109 8 26 0 ix = true := ent_8o wd_t497 wd_t14 wd_t502 wd_t501 wd_t500 wd_t498
theorem en_8_115 : ∃ ix, entB "LentBoxes$Vestry" 115 7 27 1 ix = true := ent_7 (own := "LentBoxes$Vestry") (i := 115) (a := 27) (b := 1) wd_t503 wd_t4 wd_t506 wd_t505 wd_p2 yok_27 (by decide +kernel)
theorem en_8_118 : ∃ ix, entB "LentBoxes$Vestry" 118 7 31 1 ix = true := ent_7 (own := "LentBoxes$Vestry") (i := 118) (a := 31) (b := 1) wd_t520 wd_t4 wd_t523 wd_t522 wd_p4 yok_31 (by decide +kernel)
theorem en_8_121 : ∃ ix, entB "LentBoxes$Vestry" 121 7 32 1 ix = true := ent_7 (own := "LentBoxes$Vestry") (i := 121) (a := 32) (b := 1) wd_t524 wd_t4 wd_t527 wd_t526 wd_p5 yok_32 (by decide +kernel)
theorem en_8_124 : ∃ ix, entB "LentBoxes$Vestry" 124 7 33 1 ix = true := ent_7 (own := "LentBoxes$Vestry") (i := 124) (a := 33) (b := 1) wd_t528 wd_t4 wd_t531 wd_t530 wd_p6 yok_33 (by decide +kernel)
theorem en_8_127 : ∃ ix, entB "LentBoxes$Vestry" 127 7 38 1 ix = true := ent_7 (own := "LentBoxes$Vestry") (i := 127) (a := 38) (b := 1) wd_t547 wd_t4 wd_t550 wd_t549 wd_p7 yok_38 (by decide +kernel)
theorem en_8_130 : ∃ ix, entB "LentBoxes$Vestry" 130 7 40 1 ix = true := ent_7 (own := "LentBoxes$Vestry") (i := 130) (a := 40) (b := 1) wd_t555 wd_t4 wd_t558 wd_t557 wd_p8 yok_40 (by decide +kernel)
theorem en_8_133 : ∃ ix, entB "LentBoxes$Vestry" 133 7 41 1 ix = true := ent_7 (own := "LentBoxes$Vestry") (i := 133) (a := 41) (b := 1) wd_t559 wd_t4 wd_t562 wd_t561 wd_p9 yok_41 (by decide +kernel)
theorem en_8_136 : ∃ ix, entB "LentBoxes$Vestry" 136 7 19 0 ix = true := ent_7 (own := "LentBoxes$Vestry") (i := 136) (a := 19) (b := 0) wd_t507 wd_t2 wd_t470 wd_t468 wd_t469 yok_19 (by decide +kernel)
theorem en_8_139 : ∃ ix, entB "LentBoxes$Vestry" 139 2 1 4 ix = true := ent_f (own := "LentBoxes$Vestry") (i := 139) (k := 2) (a := 1) (b := 4) wd_t54 (by decide) (by decide) rfl (by decide)
theorem en_8_143 : ∃ ix, entB "LentBoxes$Vestry" 143 7 28 1 ix = true := ent_7 (own := "LentBoxes$Vestry") (i := 143) (a := 28) (b := 1) wd_t508 wd_t4 wd_t511 wd_t510 wd_p3 yok_28 (by decide +kernel)
theorem en_8_146 : ∃ ix, entB "LentBoxes$Vestry" 146 7 30 2 ix = true := ent_7 (own := "LentBoxes$Vestry") (i := 146) (a := 30) (b := 2) wd_t515 wd_t2 wd_t518 wd_t516 wd_t517 yok_30 (by decide +kernel)
theorem en_8_150 : ∃ ix, entB "LentBoxes$Vestry" 150 7 34 1 ix = true := ent_7 (own := "LentBoxes$Vestry") (i := 150) (a := 34) (b := 1) wd_t532 wd_t4 wd_t535 wd_t533 wd_t534 yok_34 (by decide +kernel)
theorem en_8_154 : ∃ ix, entB "LentBoxes$Vestry" 154 7 36 1 ix = true := ent_7 (own := "LentBoxes$Vestry") (i := 154) (a := 36) (b := 1) wd_t539 wd_t4 wd_t542 wd_t540 wd_t541 yok_36 (by decide +kernel)
theorem en_8_157 : ∃ ix, entB "LentBoxes$Vestry" 157 7 37 2 ix = true := ent_7 (own := "LentBoxes$Vestry") (i := 157) (a := 37) (b := 2) wd_t543 wd_t4 wd_t546 wd_t544 wd_t545 yok_37 (by decide +kernel)
theorem en_8_161 : ∃ ix, entB "LentBoxes$Vestry" 161 7 39 1 ix = true := ent_7 (own := "LentBoxes$Vestry") (i := 161) (a := 39) (b := 1) wd_t551 wd_t4 wd_t554 wd_t552 wd_t553 yok_39 (by decide +kernel)
theorem en_8_164 : ∃ ix, entB "LentBoxes$Vestry" 164 9 29 3 ix = true := ent_9 (own := "LentBoxes$Vestry") (i := 164) (a := 29) (b := 3) wd_t512 wd_t4 wd_t514 wd_t513 yok_29
theorem en_8_168 : ∃ ix, entB "LentBoxes$Vestry" 168 9 35 3 ix = true := ent_9 (own := "LentBoxes$Vestry") (i := 168) (a := 35) (b := 3) wd_t536 wd_t4 wd_t538 wd_t537 yok_35
theorem en_6_3 : ∃ ix, entB "LentBoxes$State" 3 11 0 0 ix = true := ent_11 wd_t199 wd_t33 wd_t34
theorem en_6_9 : ∃ ix, entB "LentBoxes$State" 9 16 4 1 ix = true := ent_f (own := "LentBoxes$State") (i := 9) (k := 16) (a := 4) (b := 1) wd_t204 (by decide) (by decide) rfl (by decide)
theorem en_6_15 : ∃ ix, entB "LentBoxes$State" 15 16 4 2 ix = true := ent_f (own := "LentBoxes$State") (i := 15) (k := 16) (a := 4) (b := 2) wd_t206 (by decide) (by decide) rfl (by decide)
theorem en_6_18 : ∃ ix, entB "LentBoxes$State" 18 16 4 3 ix = true := ent_f (own := "LentBoxes$State") (i := 18) (k := 16) (a := 4) (b := 3) wd_t208 (by decide) (by decide) rfl (by decide)
theorem en_6_21 : ∃ ix, entB "LentBoxes$State" 21 16 4 4 ix = true := ent_f (own := "LentBoxes$State") (i := 21) (k := 16) (a := 4) (b := 4) wd_t210 (by decide) (by decide) rfl (by decide)
theorem en_6_24 : ∃ ix, entB "LentBoxes$State" 24 16 4 5 ix = true := ent_f (own := "LentBoxes$State") (i := 24) (k := 16) (a := 4) (b := 5) wd_t212 (by decide) (by decide) rfl (by decide)
theorem en_6_27 : ∃ ix, entB "LentBoxes$State" 27 16 4 6 ix = true := ent_f (own := "LentBoxes$State") (i := 27) (k := 16) (a := 4) (b := 6) wd_t214 (by decide) (by decide) rfl (by decide)
theorem en_6_30 : ∃ ix, entB "LentBoxes$State" 30 16 4 7 ix = true := ent_f (own := "LentBoxes$State") (i := 30) (k := 16) (a := 4) (b := 7) wd_t216 (by decide) (by decide) rfl (by decide)
theorem en_6_33 : ∃ ix, entB "LentBoxes$State" 33 16 4 8 ix = true := ent_f (own := "LentBoxes$State") (i := 33) (k := 16) (a := 4) (b := 8) wd_t218 (by decide) (by decide) rfl (by decide)
theorem en_6_36 : ∃ ix, entB "LentBoxes$State" 36 16 4 9 ix = true := ent_f (own := "LentBoxes$State") (i := 36) (k := 16) (a := 4) (b := 9) wd_t221 (by decide) (by decide) rfl (by decide)
theorem en_6_39 : ∃ ix, entB "LentBoxes$State" 39 16 4 10 ix = true := ent_f (own := "LentBoxes$State") (i := 39) (k := 16) (a := 4) (b := 10) wd_t224 (by decide) (by decide) rfl (by decide)
theorem en_6_42 : ∃ ix, entB "LentBoxes$State" 42 16 4 11 ix = true := ent_f (own := "LentBoxes$State") (i := 42) (k := 16) (a := 4) (b := 11) wd_t226 (by decide) (by decide) rfl (by decide)
theorem en_6_45 : ∃ ix, entB "LentBoxes$State" 45 16 4 12 ix = true := ent_f (own := "LentBoxes$State") (i := 45) (k := 16) (a := 4) (b := 12) wd_t229 (by decide) (by decide) rfl (by decide)
theorem en_6_48 : ∃ ix, entB "LentBoxes$State" 48 1 4 0 ix = true := ent_f (own := "LentBoxes$State") (i := 48) (k := 1) (a := 4) (b := 0) wd_t200 (by decide) (by decide) rfl (by decide)
theorem en_6_52 : ∃ ix, entB "LentBoxes$State" 52 12 0 0 ix = true := ent_12 wd_t651 wd_t573 wd_t572 wd_t17
theorem en_6_58 : ∃ ix, entB "LentBoxes$State" 58 9 8 2 ix = true := ent_9 (own := "LentBoxes$State") (i := 58) (a := 8) (b := 2) wd_t289 wd_t7 wd_t291 wd_t290 yok_8
theorem en_6_64 : ∃ ix, entB "LentBoxes$State" 64 7 9 1 ix = true := ent_7 (own := "LentBoxes$State") (i := 64) (a := 9) (b := 1) wd_t292 wd_t5 wd_t295 wd_t294 wd_p0 yok_9 (by decide +kernel)
theorem en_6_68 : ∃ ix, entB "LentBoxes$State" 68 1 3 2 ix = true := ent_f (own := "LentBoxes$State") (i := 68) (k := 1) (a := 3) (b := 2) wd_t113 (by decide) (by decide) rfl (by decide)
theorem en_6_73 : ∃ ix, entB "LentBoxes$State" 73 16 3 14 ix = true := ent_f (own := "LentBoxes$State") (i := 73) (k := 16) (a := 3) (b := 14) wd_t145 (by decide) (by decide) rfl (by decide)
theorem en_6_76 : ∃ ix, entB "LentBoxes$State" 76 9 51 2 ix = true := ent_9 (own := "LentBoxes$State") (i := 76) (a := 51) (b := 2) wd_t603 wd_t13 wd_t605 wd_t604 yok_51
theorem en_6_82 : ∃ ix, entB "LentBoxes$State" 82 1 3 0 ix = true := ent_f (own := "LentBoxes$State") (i := 82) (k := 1) (a := 3) (b := 0) wd_t105 (by decide) (by decide) rfl (by decide)
theorem en_6_85 : ∃ ix, entB "LentBoxes$State" 85 7 49 1 ix = true := ent_7 (own := "LentBoxes$State") (i := 85) (a := 49) (b := 1) wd_t626 wd_t5 wd_t598 wd_t596 wd_t597 yok_49 (by decide +kernel)
theorem en_6_89 : ∃ ix, entB "LentBoxes$State" 89 1 3 1 ix = true := ent_f (own := "LentBoxes$State") (i := 89) (k := 1) (a := 3) (b := 1) wd_t109 (by decide) (by decide) rfl (by decide)
theorem en_6_92 : ∃ ix, entB "LentBoxes$State" 92 7 58 1 ix = true := ent_7 (own := "LentBoxes$State") (i := 92) (a := 58) (b := 1) wd_t631 wd_t5 wd_t634 wd_t632 wd_t633 yok_58 (by decide +kernel)
theorem en_6_95 : ∃ ix, entB "LentBoxes$State" 95 16 3 13 ix = true := ent_f (own := "LentBoxes$State") (i := 95) (k := 16) (a := 3) (b := 13) wd_t142 (by decide) (by decide) rfl (by decide)
theorem en_6_98 : ∃ ix, entB "LentBoxes$State" 98 16 3 8 ix = true := ent_f (own := "LentBoxes$State") (i := 98) (k := 16) (a := 3) (b := 8) wd_t129 (by decide) (by decide) rfl (by decide)
theorem en_6_101 : ∃ ix, entB "LentBoxes$State" 101 16 3 9 ix = true := ent_f (own := "LentBoxes$State") (i := 101) (k := 16) (a := 3) (b := 9) wd_t132 (by decide) (by decide) rfl (by decide)
theorem en_6_104 : ∃ ix, entB "LentBoxes$State" 104 7 64 3 ix = true := ent_7 (own := "LentBoxes$State") (i := 104) (a := 64) (b := 3) wd_t656 wd_t5 wd_t659 wd_t657 wd_t658 yok_64 (by decide +kernel)
theorem en_6_108 : ∃ ix, entB "LentBoxes$State" 108 7 59 1 ix = true := ent_7 (own := "LentBoxes$State") (i := 108) (a := 59) (b := 1) wd_t677 wd_t4 wd_t638 wd_t636 wd_t637 yok_59 (by decide +kernel)
theorem en_6_111 : ∃ ix, entB "LentBoxes$State" 111 7 37 2 ix = true := ent_7 (own := "LentBoxes$State") (i := 111) (a := 37) (b := 2) wd_t678 wd_t4 wd_t546 wd_t544 wd_t545 yok_37 (by decide +kernel)
theorem en_6_115 : ∃ ix, entB "LentBoxes$State" 115 16 3 11 ix = true := ent_f (own := "LentBoxes$State") (i := 115) (k := 16) (a := 3) (b := 11) wd_t137 (by decide) (by decide) rfl (by decide)
theorem en_6_118 : ∃ ix, entB "LentBoxes$State" 118 1 3 5 ix = true := ent_f (own := "LentBoxes$State") (i := 118) (k := 1) (a := 3) (b := 5) wd_t122 (by decide) (by decide) rfl (by decide)
theorem en_5_3 : ∃ ix, entB "LentBoxes$Sentence" 3 11 0 0 ix = true := ent_11 wd_t264 wd_t33 wd_t34
theorem en_5_11 : ∃ ix, entB "LentBoxes$Sentence" 11 16 5 2 ix = true := ent_f (own := "LentBoxes$Sentence") (i := 11) (k := 16) (a := 5) (b := 2) wd_t268 (by decide) (by decide) rfl (by decide)
theorem en_5_15 : ∃ ix, entB "LentBoxes$Sentence" 15 16 5 3 ix = true := ent_f (own := "LentBoxes$Sentence") (i := 15) (k := 16) (a := 5) (b := 3) wd_t269 (by decide) (by decide) rfl (by decide)
theorem en_5_18 : ∃ ix, entB "LentBoxes$Sentence" 18 16 5 4 ix = true := ent_f (own := "LentBoxes$Sentence") (i := 18) (k := 16) (a := 5) (b := 4) wd_t270 (by decide) (by decide) rfl (by decide)
theorem en_5_21 : ∃ ix, entB "LentBoxes$Sentence" 21 16 5 5 ix = true := ent_f (own := "LentBoxes$Sentence") (i := 21) (k := 16) (a := 5) (b := 5) wd_t271 (by decide) (by decide) rfl (by decide)
theorem en_5_24 : ∃ ix, entB "LentBoxes$Sentence" 24 1 5 0 ix = true := ent_f (own := "LentBoxes$Sentence") (i := 24) (k := 1) (a := 5) (b := 0) wd_t265 (by decide) (by decide) rfl (by decide)
theorem en_5_28 : ∃ ix, entB "LentBoxes$Sentence" 28 1 5 1 ix = true := ent_f (own := "LentBoxes$Sentence") (i := 28) (k := 1) (a := 5) (b := 1) wd_t267 (by decide) (by decide) rfl (by decide)
theorem en_5_31 : ∃ ix, entB "LentBoxes$Sentence" 31 12 0 0 ix = true := ent_12 wd_t1059 wd_t573 wd_t572 wd_t17
theorem en_5_37 : ∃ ix, entB "LentBoxes$Sentence" 37 7 139 3 ix = true := ent_7 (own := "LentBoxes$Sentence") (i := 37) (a := 139) (b := 3) wd_t992 wd_t6 wd_t995 wd_t994 wd_p34 yok_139 (by decide +kernel)
theorem en_5_41 : ∃ ix, entB "LentBoxes$Sentence" 41 6 12 0 ix = true := ent_6 (a := 12) wd_t1052 rfl
theorem en_5_47 : ∃ ix, entB "LentBoxes$Sentence" 47 7 146 1 ix = true := ent_7 (own := "LentBoxes$Sentence") (i := 47) (a := 146) (b := 1) wd_t1048 wd_t2 wd_t1051 wd_t1049 wd_t1050 yok_146 (by decide +kernel)
theorem en_5_53 : ∃ ix, entB "LentBoxes$Sentence" 53 7 19 0 ix = true := ent_7 (own := "LentBoxes$Sentence") (i := 53) (a := 19) (b := 0) wd_t1006 wd_t2 wd_t470 wd_t468 wd_t469 yok_19 (by decide +kernel)
theorem en_5_56 : ∃ ix, entB "LentBoxes$Sentence" 56 7 142 3 ix = true := ent_7 (own := "LentBoxes$Sentence") (i := 56) (a := 142) (b := 3) wd_t1011 wd_t6 wd_t1014 wd_t1013 wd_p36 yok_142 (by decide +kernel)
theorem en_5_60 : ∃ ix, entB "LentBoxes$Sentence" 60 7 140 3 ix = true := ent_7 (own := "LentBoxes$Sentence") (i := 60) (a := 140) (b := 3) wd_t996 wd_t6 wd_t999 wd_t998 wd_p35 yok_140 (by decide +kernel)
theorem en_5_63 : ∃ ix, entB "LentBoxes$Sentence" 63 6 13 0 ix = true := ent_6 (a := 13) wd_t1046 rfl
theorem en_5_66 : ∃ ix, entB "LentBoxes$Sentence" 66 4 1 3 ix = true := ent_f (own := "LentBoxes$Sentence") (i := 66) (k := 4) (a := 1) (b := 3) wd_t51 (by decide) (by decide) rfl (by decide)
theorem en_5_69 : ∃ ix, entB "LentBoxes$Sentence" 69 1 1 2 ix = true := ent_f (own := "LentBoxes$Sentence") (i := 69) (k := 1) (a := 1) (b := 2) wd_t46 (by decide) (by decide) rfl (by decide)
theorem en_5_72 : ∃ ix, entB "LentBoxes$Sentence" 72 9 141 1 ix = true := ent_9 (own := "LentBoxes$Sentence") (i := 72) (a := 141) (b := 1) wd_t1000 wd_t6 wd_t1002 wd_t1001 yok_141
theorem en_5_75 : ∃ ix, entB "LentBoxes$Sentence" 75 7 25 1 ix = true := ent_7 (own := "LentBoxes$Sentence") (i := 75) (a := 25) (b := 1) wd_t1005 wd_t2 wd_t494 wd_t492 wd_t493 yok_25 (by decide +kernel)
theorem en_5_79 : ∃ ix, entB "LentBoxes$Sentence" 79 7 138 3 ix = true := ent_7 (own := "LentBoxes$Sentence") (i := 79) (a := 138) (b := 3) wd_t1007 wd_t6 wd_t991 wd_t989 wd_t990 yok_138 (by decide +kernel)
theorem en_5_82 : ∃ ix, entB "LentBoxes$Sentence" 82 7 42 1 ix = true := ent_7 (own := "LentBoxes$Sentence") (i := 82) (a := 42) (b := 1) wd_t1008 wd_t2 wd_t566 wd_t564 wd_t565 yok_42 (by decide +kernel)
theorem en_5_85 : ∃ ix, entB "LentBoxes$Sentence" 85 6 14 0 ix = true := ent_6 (a := 14) wd_t1009 rfl
theorem en_5_88 : ∃ ix, entB "LentBoxes$Sentence" 88 7 143 3 ix = true := ent_7 (own := "LentBoxes$Sentence") (i := 88) (a := 143) (b := 3) wd_t1015 wd_t6 wd_t1018 wd_t1017 wd_p37 yok_143 (by decide +kernel)
theorem en_5_92 : ∃ ix, entB "LentBoxes$Sentence" 92 6 101 0 ix = true := ent_6 (a := 101) wd_t1003 rfl
theorem en_5_97 : ∃ ix, entB "LentBoxes$Sentence" 97 8 26 0 ix = true := ent_8o wd_t1004 wd_t14 wd_t502 wd_t501 wd_t500 wd_t498
theorem en_5_101 : ∃ ix, entB "LentBoxes$Sentence" 101 9 144 1 ix = true := ent_9 (own := "LentBoxes$Sentence") (i := 101) (a := 144) (b := 1) wd_t1019 wd_t6 wd_t1021 wd_t1020 yok_144
theorem en_5_105 : ∃ ix, entB "LentBoxes$Sentence" 105 9 145 1 ix = true := ent_9 (own := "LentBoxes$Sentence") (i := 105) (a := 145) (b := 1) wd_t1034 wd_t6 wd_t1036 wd_t1035 yok_145
theorem en_5_108 : ∃ ix, entB "LentBoxes$Sentence" 108 7 39 1 ix = true := ent_7 (own := "LentBoxes$Sentence") (i := 108) (a := 39) (b := 1) wd_t1043 wd_t4 wd_t554 wd_t552 wd_t553 yok_39 (by decide +kernel)
theorem en_5_114 : ∃ ix, entB "LentBoxes$Sentence" 114 7 34 1 ix = true := ent_7 (own := "LentBoxes$Sentence") (i := 114) (a := 34) (b := 1) wd_t1044 wd_t4 wd_t535 wd_t533 wd_t534 yok_34 (by decide +kernel)
theorem en_5_117 : ∃ ix, entB "LentBoxes$Sentence" 117 7 30 2 ix = true := ent_7 (own := "LentBoxes$Sentence") (i := 117) (a := 30) (b := 2) wd_t1045 wd_t2 wd_t518 wd_t516 wd_t517 yok_30 (by decide +kernel)
theorem en_5_121 : ∃ ix, entB "LentBoxes$Sentence" 121 6 19 0 ix = true := ent_6 (a := 19) wd_t1022 rfl
theorem en_5_124 : ∃ ix, entB "LentBoxes$Sentence" 124 6 3 0 ix = true := ent_6 (a := 3) wd_t1024 rfl
theorem en_5_127 : ∃ ix, entB "LentBoxes$Sentence" 127 6 20 0 ix = true := ent_6 (a := 20) wd_t1026 rfl
theorem en_5_130 : ∃ ix, entB "LentBoxes$Sentence" 130 6 21 0 ix = true := ent_6 (a := 21) wd_t1028 rfl
theorem en_5_133 : ∃ ix, entB "LentBoxes$Sentence" 133 6 22 0 ix = true := ent_6 (a := 22) wd_t1030 rfl
theorem en_5_136 : ∃ ix, entB "LentBoxes$Sentence" 136 6 23 0 ix = true := ent_6 (a := 23) wd_t1032 rfl
theorem en_5_139 : ∃ ix, entB "LentBoxes$Sentence" 139 6 15 0 ix = true := ent_6 (a := 15) wd_t1037 rfl
theorem en_5_142 : ∃ ix, entB "LentBoxes$Sentence" 142 6 16 0 ix = true := ent_6 (a := 16) wd_t1039 rfl
theorem en_5_145 : ∃ ix, entB "LentBoxes$Sentence" 145 6 17 0 ix = true := ent_6 (a := 17) wd_t1041 rfl
theorem en_5_148 : ∃ ix, entB "LentBoxes$Sentence" 148 7 94 0 ix = true := ent_7 (own := "LentBoxes$Sentence") (i := 148) (a := 94) (b := 0) wd_t1068 wd_t4 wd_t785 wd_t783 wd_t784 yok_94 (by decide +kernel)
theorem en_5_151 : ∃ ix, entB "LentBoxes$Sentence" 151 7 150 3 ix = true := ent_7 (own := "LentBoxes$Sentence") (i := 151) (a := 150) (b := 3) wd_t1069 wd_t6 wd_t1072 wd_t1071 wd_p38 yok_150 (by decide +kernel)
theorem en_5_155 : ∃ ix, entB "LentBoxes$Sentence" 155 1 3 2 ix = true := ent_f (own := "LentBoxes$Sentence") (i := 155) (k := 1) (a := 3) (b := 2) wd_t115 (by decide) (by decide) rfl (by decide)
theorem en_5_158 : ∃ ix, entB "LentBoxes$Sentence" 158 7 151 4 ix = true := ent_7 (own := "LentBoxes$Sentence") (i := 158) (a := 151) (b := 4) wd_t1073 wd_t6 wd_t1076 wd_t1075 wd_p39 yok_151 (by decide +kernel)
theorem en_5_162 : ∃ ix, entB "LentBoxes$Sentence" 162 16 4 8 ix = true := ent_f (own := "LentBoxes$Sentence") (i := 162) (k := 16) (a := 4) (b := 8) wd_t220 (by decide) (by decide) rfl (by decide)
theorem en_5_167 : ∃ ix, entB "LentBoxes$Sentence" 167 16 4 9 ix = true := ent_f (own := "LentBoxes$Sentence") (i := 167) (k := 16) (a := 4) (b := 9) wd_t223 (by decide) (by decide) rfl (by decide)
theorem en_5_170 : ∃ ix, entB "LentBoxes$Sentence" 170 7 37 2 ix = true := ent_7 (own := "LentBoxes$Sentence") (i := 170) (a := 37) (b := 2) wd_t1077 wd_t4 wd_t546 wd_t544 wd_t545 yok_37 (by decide +kernel)
theorem en_5_174 : ∃ ix, entB "LentBoxes$Sentence" 174 16 3 13 ix = true := ent_f (own := "LentBoxes$Sentence") (i := 174) (k := 16) (a := 3) (b := 13) wd_t143 (by decide) (by decide) rfl (by decide)
theorem en_5_177 : ∃ ix, entB "LentBoxes$Sentence" 177 7 152 2 ix = true := ent_7 (own := "LentBoxes$Sentence") (i := 177) (a := 152) (b := 2) wd_t1078 wd_t6 wd_t1081 wd_t1080 wd_p40 yok_152 (by decide +kernel)
theorem en_5_180 : ∃ ix, entB "LentBoxes$Sentence" 180 16 4 11 ix = true := ent_f (own := "LentBoxes$Sentence") (i := 180) (k := 16) (a := 4) (b := 11) wd_t228 (by decide) (by decide) rfl (by decide)
theorem en_5_183 : ∃ ix, entB "LentBoxes$Sentence" 183 16 4 12 ix = true := ent_f (own := "LentBoxes$Sentence") (i := 183) (k := 16) (a := 4) (b := 12) wd_t231 (by decide) (by decide) rfl (by decide)
theorem en_4_3 : ∃ ix, entB "LentBoxes$Past" 3 11 0 0 ix = true := ent_11 wd_t318 wd_t33 wd_t34
theorem en_4_9 : ∃ ix, entB "LentBoxes$Past" 9 13 4 13 ix = true := ent_13 (a := 4) (b := 13) wd_t319 wd_t195 wd_t5 (by decide) rfl
theorem en_4_11 : ∃ ix, entB "LentBoxes$Past" 11 16 6 0 ix = true := ent_f (own := "LentBoxes$Past") (i := 11) (k := 16) (a := 6) (b := 0) wd_t322 (by decide) (by decide) rfl (by decide)
theorem en_4_17 : ∃ ix, entB "LentBoxes$Past" 17 18 5 0 ix = true := ent_18 (own := "LentBoxes$Past") (i := 17) (a := 5) (b := 0) wd_t5 wd_t198 wd_t197 yok_5 rfl (by decide +kernel) (by decide +kernel) (by decide +kernel)
theorem en_4_18 : ∃ ix, entB "LentBoxes$Past" 18 1 6 1 ix = true := ent_f (own := "LentBoxes$Past") (i := 18) (k := 1) (a := 6) (b := 1) wd_t323 (by decide) (by decide) rfl (by decide)
theorem en_4_22 : ∃ ix, entB "LentBoxes$Past" 22 1 6 2 ix = true := ent_f (own := "LentBoxes$Past") (i := 22) (k := 1) (a := 6) (b := 2) wd_t324 (by decide) (by decide) rfl (by decide)
theorem en_4_25 : ∃ ix, entB "LentBoxes$Past" 25 7 62 1 ix = true := ent_7 (own := "LentBoxes$Past") (i := 25) (a := 62) (b := 1) wd_t668 wd_t5 wd_t650 wd_t648 wd_t649 yok_62 (by decide +kernel)
theorem en_1_3 : ∃ ix, entB "LentBoxes$Book" 3 11 0 0 ix = true := ent_11 wd_t343 wd_t33 wd_t34
theorem en_1_9 : ∃ ix, entB "LentBoxes$Book" 9 16 7 1 ix = true := ent_f (own := "LentBoxes$Book") (i := 9) (k := 16) (a := 7) (b := 1) wd_t346 (by decide) (by decide) rfl (by decide)
theorem en_1_15 : ∃ ix, entB "LentBoxes$Book" 15 16 7 2 ix = true := ent_f (own := "LentBoxes$Book") (i := 15) (k := 16) (a := 7) (b := 2) wd_t347 (by decide) (by decide) rfl (by decide)
theorem en_1_18 : ∃ ix, entB "LentBoxes$Book" 18 16 7 3 ix = true := ent_f (own := "LentBoxes$Book") (i := 18) (k := 16) (a := 7) (b := 3) wd_t348 (by decide) (by decide) rfl (by decide)
theorem en_1_21 : ∃ ix, entB "LentBoxes$Book" 21 1 7 0 ix = true := ent_f (own := "LentBoxes$Book") (i := 21) (k := 1) (a := 7) (b := 0) wd_t344 (by decide) (by decide) rfl (by decide)
theorem en_1_25 : ∃ ix, entB "LentBoxes$Book" 25 1 1 2 ix = true := ent_f (own := "LentBoxes$Book") (i := 25) (k := 1) (a := 1) (b := 2) wd_t44 (by decide) (by decide) rfl (by decide)
theorem en_1_30 : ∃ ix, entB "LentBoxes$Book" 30 7 129 2 ix = true := ent_7 (own := "LentBoxes$Book") (i := 30) (a := 129) (b := 2) wd_t939 wd_t9 wd_t942 wd_t941 wd_p30 yok_129 (by decide +kernel)
theorem en_1_34 : ∃ ix, entB "LentBoxes$Book" 34 7 42 1 ix = true := ent_7 (own := "LentBoxes$Book") (i := 34) (a := 42) (b := 1) wd_t962 wd_t2 wd_t566 wd_t564 wd_t565 yok_42 (by decide +kernel)
theorem en_1_38 : ∃ ix, entB "LentBoxes$Book" 38 9 130 1 ix = true := ent_9 (own := "LentBoxes$Book") (i := 38) (a := 130) (b := 1) wd_t943 wd_t9 wd_t945 wd_t944 yok_130
theorem en_1_42 : ∃ ix, entB "LentBoxes$Book" 42 7 25 1 ix = true := ent_7 (own := "LentBoxes$Book") (i := 42) (a := 25) (b := 1) wd_t948 wd_t2 wd_t494 wd_t492 wd_t493 yok_25 (by decide +kernel)
theorem en_1_45 : ∃ ix, entB "LentBoxes$Book" 45 7 19 0 ix = true := ent_7 (own := "LentBoxes$Book") (i := 45) (a := 19) (b := 0) wd_t949 wd_t2 wd_t470 wd_t468 wd_t469 yok_19 (by decide +kernel)
theorem en_1_48 : ∃ ix, entB "LentBoxes$Book" 48 7 30 2 ix = true := ent_7 (own := "LentBoxes$Book") (i := 48) (a := 30) (b := 2) wd_t950 wd_t2 wd_t518 wd_t516 wd_t517 yok_30 (by decide +kernel)
theorem en_1_52 : ∃ ix, entB "LentBoxes$Book" 52 7 39 1 ix = true := ent_7 (own := "LentBoxes$Book") (i := 52) (a := 39) (b := 1) wd_t951 wd_t4 wd_t554 wd_t552 wd_t553 yok_39 (by decide +kernel)
theorem en_1_57 : ∃ ix, entB "LentBoxes$Book" 57 7 34 1 ix = true := ent_7 (own := "LentBoxes$Book") (i := 57) (a := 34) (b := 1) wd_t952 wd_t4 wd_t535 wd_t533 wd_t534 yok_34 (by decide +kernel)
theorem en_1_60 : ∃ ix, entB "LentBoxes$Book" 60 7 131 2 ix = true := ent_7 (own := "LentBoxes$Book") (i := 60) (a := 131) (b := 2) wd_t953 wd_t9 wd_t956 wd_t955 wd_p31 yok_131 (by decide +kernel)
theorem en_1_63 : ∃ ix, entB "LentBoxes$Book" 63 7 132 1 ix = true := ent_7 (own := "LentBoxes$Book") (i := 63) (a := 132) (b := 1) wd_t958 wd_t4 wd_t961 wd_t959 wd_t960 yok_132 (by decide +kernel)
theorem en_1_66 : ∃ ix, entB "LentBoxes$Book" 66 7 36 1 ix = true := ent_7 (own := "LentBoxes$Book") (i := 66) (a := 36) (b := 1) wd_t957 wd_t4 wd_t542 wd_t540 wd_t541 yok_36 (by decide +kernel)
theorem en_1_69 : ∃ ix, entB "LentBoxes$Book" 69 4 1 3 ix = true := ent_f (own := "LentBoxes$Book") (i := 69) (k := 4) (a := 1) (b := 3) wd_t49 (by decide) (by decide) rfl (by decide)
theorem en_1_73 : ∃ ix, entB "LentBoxes$Book" 73 6 101 0 ix = true := ent_6 (a := 101) wd_t946 rfl
theorem en_1_78 : ∃ ix, entB "LentBoxes$Book" 78 8 26 0 ix = true := ent_8o wd_t947 wd_t14 wd_t502 wd_t501 wd_t500 wd_t498
theorem en_1_84 : ∃ ix, entB "LentBoxes$Book" 84 7 135 3 ix = true := ent_7 (own := "LentBoxes$Book") (i := 84) (a := 135) (b := 3) wd_t971 wd_t9 wd_t974 wd_t973 wd_p33 yok_135 (by decide +kernel)
theorem en_1_88 : ∃ ix, entB "LentBoxes$Book" 88 7 63 3 ix = true := ent_7 (own := "LentBoxes$Book") (i := 88) (a := 63) (b := 3) wd_t975 wd_t5 wd_t655 wd_t653 wd_t654 yok_63 (by decide +kernel)
theorem en_1_94 : ∃ ix, entB "LentBoxes$Book" 94 7 68 3 ix = true := ent_7 (own := "LentBoxes$Book") (i := 94) (a := 68) (b := 3) wd_t976 wd_t5 wd_t676 wd_t674 wd_t675 yok_68 (by decide +kernel)
theorem en_1_97 : ∃ ix, entB "LentBoxes$Book" 97 7 70 3 ix = true := ent_7 (own := "LentBoxes$Book") (i := 97) (a := 70) (b := 3) wd_t977 wd_t5 wd_t686 wd_t684 wd_t685 yok_70 (by decide +kernel)
theorem en_1_100 : ∃ ix, entB "LentBoxes$Book" 100 7 72 1 ix = true := ent_7 (own := "LentBoxes$Book") (i := 100) (a := 72) (b := 1) wd_t978 wd_t5 wd_t694 wd_t692 wd_t693 yok_72 (by decide +kernel)
theorem en_1_104 : ∃ ix, entB "LentBoxes$Book" 104 1 4 0 ix = true := ent_f (own := "LentBoxes$Book") (i := 104) (k := 1) (a := 4) (b := 0) wd_t202 (by decide) (by decide) rfl (by decide)
theorem en_1_107 : ∃ ix, entB "LentBoxes$Book" 107 7 74 2 ix = true := ent_7 (own := "LentBoxes$Book") (i := 107) (a := 74) (b := 2) wd_t979 wd_t5 wd_t702 wd_t700 wd_t701 yok_74 (by decide +kernel)
theorem en_3_3 : ∃ ix, entB "LentBoxes$Matching" 3 11 0 0 ix = true := ent_11 wd_t363 wd_t33 wd_t34
theorem en_3_9 : ∃ ix, entB "LentBoxes$Matching" 9 16 8 0 ix = true := ent_f (own := "LentBoxes$Matching") (i := 9) (k := 16) (a := 8) (b := 0) wd_t365 (by decide) (by decide) rfl (by decide)
theorem en_3_15 : ∃ ix, entB "LentBoxes$Matching" 15 16 8 1 ix = true := ent_f (own := "LentBoxes$Matching") (i := 15) (k := 16) (a := 8) (b := 1) wd_t367 (by decide) (by decide) rfl (by decide)
theorem en_3_18 : ∃ ix, entB "LentBoxes$Matching" 18 16 8 2 ix = true := ent_f (own := "LentBoxes$Matching") (i := 18) (k := 16) (a := 8) (b := 2) wd_t368 (by decide) (by decide) rfl (by decide)
theorem en_3_21 : ∃ ix, entB "LentBoxes$Matching" 21 9 8 2 ix = true := ent_9 (own := "LentBoxes$Matching") (i := 21) (a := 8) (b := 2) wd_t364 wd_t7 wd_t291 wd_t290 yok_8
theorem en_3_27 : ∃ ix, entB "LentBoxes$Matching" 27 1 3 2 ix = true := ent_f (own := "LentBoxes$Matching") (i := 27) (k := 1) (a := 3) (b := 2) wd_t112 (by decide) (by decide) rfl (by decide)
theorem en_3_33 : ∃ ix, entB "LentBoxes$Matching" 33 1 3 0 ix = true := ent_f (own := "LentBoxes$Matching") (i := 33) (k := 1) (a := 3) (b := 0) wd_t103 (by decide) (by decide) rfl (by decide)
theorem en_3_36 : ∃ ix, entB "LentBoxes$Matching" 36 7 64 3 ix = true := ent_7 (own := "LentBoxes$Matching") (i := 36) (a := 64) (b := 3) wd_t723 wd_t5 wd_t659 wd_t657 wd_t658 yok_64 (by decide +kernel)
theorem en_3_42 : ∃ ix, entB "LentBoxes$Matching" 42 7 80 2 ix = true := ent_7 (own := "LentBoxes$Matching") (i := 42) (a := 80) (b := 2) wd_t724 wd_t10 wd_t727 wd_t726 wd_p15 yok_80 (by decide +kernel)
theorem en_3_46 : ∃ ix, entB "LentBoxes$Matching" 46 7 82 1 ix = true := ent_7 (own := "LentBoxes$Matching") (i := 46) (a := 82) (b := 1) wd_t732 wd_t10 wd_t735 wd_t734 wd_p17 yok_82 (by decide +kernel)
theorem en_3_50 : ∃ ix, entB "LentBoxes$Matching" 50 1 8 3 ix = true := ent_f (own := "LentBoxes$Matching") (i := 50) (k := 1) (a := 8) (b := 3) wd_t369 (by decide) (by decide) rfl (by decide)
theorem en_3_53 : ∃ ix, entB "LentBoxes$Matching" 53 7 81 2 ix = true := ent_7 (own := "LentBoxes$Matching") (i := 53) (a := 81) (b := 2) wd_t728 wd_t10 wd_t731 wd_t730 wd_p16 yok_81 (by decide +kernel)
theorem en_2_3 : ∃ ix, entB "LentBoxes$Draws" 3 11 0 0 ix = true := ent_11 wd_t384 wd_t33 wd_t34
theorem en_2_9 : ∃ ix, entB "LentBoxes$Draws" 9 1 9 0 ix = true := ent_f (own := "LentBoxes$Draws") (i := 9) (k := 1) (a := 9) (b := 0) wd_t385 (by decide) (by decide) rfl (by decide)
theorem en_2_15 : ∃ ix, entB "LentBoxes$Draws" 15 25 1103515245 0 ix = true := ent_25 (a := 1103515245) wd_t921 (by decide)
theorem en_2_16 : ∃ ix, entB "LentBoxes$Draws" 16 1 4 0 ix = true := ent_f (own := "LentBoxes$Draws") (i := 16) (k := 1) (a := 4) (b := 0) wd_t201 (by decide) (by decide) rfl (by decide)
theorem en_2_21 : ∃ ix, entB "LentBoxes$Draws" 21 7 124 2 ix = true := ent_7 (own := "LentBoxes$Draws") (i := 21) (a := 124) (b := 2) wd_t913 wd_t11 wd_t916 wd_t915 wd_p28 yok_124 (by decide +kernel)
theorem en_2_25 : ∃ ix, entB "LentBoxes$Draws" 25 7 74 2 ix = true := ent_7 (own := "LentBoxes$Draws") (i := 25) (a := 74) (b := 2) wd_t926 wd_t5 wd_t702 wd_t700 wd_t701 yok_74 (by decide +kernel)
theorem en_2_29 : ∃ ix, entB "LentBoxes$Draws" 29 7 125 1 ix = true := ent_7 (own := "LentBoxes$Draws") (i := 29) (a := 125) (b := 1) wd_t917 wd_t11 wd_t920 wd_t919 wd_p29 yok_125 (by decide +kernel)
theorem en_2_33 : ∃ ix, entB "LentBoxes$Draws" 33 1 3 2 ix = true := ent_f (own := "LentBoxes$Draws") (i := 33) (k := 1) (a := 3) (b := 2) wd_t114 (by decide) (by decide) rfl (by decide)
theorem en_2_38 : ∃ ix, entB "LentBoxes$Draws" 38 1 3 0 ix = true := ent_f (own := "LentBoxes$Draws") (i := 38) (k := 1) (a := 3) (b := 0) wd_t104 (by decide) (by decide) rfl (by decide)
theorem en_2_41 : ∃ ix, entB "LentBoxes$Draws" 41 7 63 3 ix = true := ent_7 (own := "LentBoxes$Draws") (i := 41) (a := 63) (b := 3) wd_t922 wd_t5 wd_t655 wd_t653 wd_t654 yok_63 (by decide +kernel)
theorem en_2_45 : ∃ ix, entB "LentBoxes$Draws" 45 1 3 1 ix = true := ent_f (own := "LentBoxes$Draws") (i := 45) (k := 1) (a := 3) (b := 1) wd_t108 (by decide) (by decide) rfl (by decide)
theorem en_2_48 : ∃ ix, entB "LentBoxes$Draws" 48 7 68 3 ix = true := ent_7 (own := "LentBoxes$Draws") (i := 48) (a := 68) (b := 3) wd_t923 wd_t5 wd_t676 wd_t674 wd_t675 yok_68 (by decide +kernel)
theorem en_2_51 : ∃ ix, entB "LentBoxes$Draws" 51 7 72 1 ix = true := ent_7 (own := "LentBoxes$Draws") (i := 51) (a := 72) (b := 1) wd_t924 wd_t5 wd_t694 wd_t692 wd_t693 yok_72 (by decide +kernel)
theorem en_2_54 : ∃ ix, entB "LentBoxes$Draws" 54 7 70 3 ix = true := ent_7 (own := "LentBoxes$Draws") (i := 54) (a := 70) (b := 3) wd_t925 wd_t5 wd_t686 wd_t684 wd_t685 yok_70 (by decide +kernel)
theorem en_9_105 : ∃ ix, entB "LentBoxes$Word" 105 5 0 0 ix = true := ent_50 wd_t1885
theorem en_9_109 : ∃ ix, entB "LentBoxes$Word" 109 6 100 0 ix = true := ent_6 (a := 100) wd_t480 rfl
theorem en_12_1 : ∃ ix, entB "LentBoxesModel" 1 1 10 0 ix = true := ent_f (own := "LentBoxesModel") (i := 1) (k := 1) (a := 10) (b := 0) wd_t1223 (by decide) (by decide) rfl (by decide)
theorem en_12_7 : ∃ ix, entB "LentBoxesModel" 7 16 10 1 ix = true := ent_f (own := "LentBoxesModel") (i := 7) (k := 16) (a := 10) (b := 1) wd_t1224 (by decide) (by decide) rfl (by decide)
theorem en_12_11 : ∃ ix, entB "LentBoxesModel" 11 1 10 2 ix = true := ent_f (own := "LentBoxesModel") (i := 11) (k := 1) (a := 10) (b := 2) wd_t1225 (by decide) (by decide) rfl (by decide)
theorem en_12_14 : ∃ ix, entB "LentBoxesModel" 14 7 172 1 ix = true := ent_7 (own := "LentBoxesModel") (i := 14) (a := 172) (b := 1) wd_t1201 wd_t12 wd_t1205 wd_t1203 wd_p42 yok_172 (by decide +kernel)
theorem en_12_18 : ∃ ix, entB "LentBoxesModel" 18 1 10 3 ix = true := ent_f (own := "LentBoxesModel") (i := 18) (k := 1) (a := 10) (b := 3) wd_t1226 (by decide) (by decide) rfl (by decide)
theorem en_12_21 : ∃ ix, entB "LentBoxesModel" 21 1 10 5 ix = true := ent_f (own := "LentBoxesModel") (i := 21) (k := 1) (a := 10) (b := 5) wd_t1228 (by decide) (by decide) rfl (by decide)
theorem en_12_24 : ∃ ix, entB "LentBoxesModel" 24 1 10 6 ix = true := ent_f (own := "LentBoxesModel") (i := 24) (k := 1) (a := 10) (b := 6) wd_t1229 (by decide) (by decide) rfl (by decide)
theorem en_12_27 : ∃ ix, entB "LentBoxesModel" 27 1 10 4 ix = true := ent_f (own := "LentBoxesModel") (i := 27) (k := 1) (a := 10) (b := 4) wd_t1227 (by decide) (by decide) rfl (by decide)
theorem en_12_30 : ∃ ix, entB "LentBoxesModel" 30 1 10 7 ix = true := ent_f (own := "LentBoxesModel") (i := 30) (k := 1) (a := 10) (b := 7) wd_t1230 (by decide) (by decide) rfl (by decide)
theorem en_12_33 : ∃ ix, entB "LentBoxesModel" 33 9 181 1 ix = true := ent_9 (own := "LentBoxesModel") (i := 33) (a := 181) (b := 1) wd_t1379 wd_t12 wd_t1381 wd_t1380 yok_181
theorem en_12_37 : ∃ ix, entB "LentBoxesModel" 37 9 182 1 ix = true := ent_9 (own := "LentBoxesModel") (i := 37) (a := 182) (b := 1) wd_t1382 wd_t12 wd_t1384 wd_t1383 yok_182
theorem en_12_40 : ∃ ix, entB "LentBoxesModel" 40 1 10 9 ix = true := ent_f (own := "LentBoxesModel") (i := 40) (k := 1) (a := 10) (b := 9) wd_t1232 (by decide) (by decide) rfl (by decide)
theorem en_12_43 : ∃ ix, entB "LentBoxesModel" 43 2 10 12 ix = true := ent_f (own := "LentBoxesModel") (i := 43) (k := 2) (a := 10) (b := 12) wd_t1235 (by decide) (by decide) rfl (by decide)
theorem en_12_47 : ∃ ix, entB "LentBoxesModel" 47 1 10 8 ix = true := ent_f (own := "LentBoxesModel") (i := 47) (k := 1) (a := 10) (b := 8) wd_t1231 (by decide) (by decide) rfl (by decide)
theorem en_12_50 : ∃ ix, entB "LentBoxesModel" 50 7 183 1 ix = true := ent_7 (own := "LentBoxesModel") (i := 50) (a := 183) (b := 1) wd_t1385 wd_t12 wd_t1388 wd_t1387 wd_p48 yok_183 (by decide +kernel)
theorem en_12_54 : ∃ ix, entB "LentBoxesModel" 54 26 27 0 ix = true := ent_26 (a := 27) wd_t1389 (by decide)
theorem en_12_56 : ∃ ix, entB "LentBoxesModel" 56 26 96 0 ix = true := ent_26 (a := 96) wd_t1390 (by decide)
theorem en_12_58 : ∃ ix, entB "LentBoxesModel" 58 9 187 7 ix = true := ent_9 (own := "LentBoxesModel") (i := 58) (a := 187) (b := 7) wd_t1402 wd_t12 wd_t1404 wd_t1403 yok_187
theorem en_12_62 : ∃ ix, entB "LentBoxesModel" 62 9 186 1 ix = true := ent_9 (own := "LentBoxesModel") (i := 62) (a := 186) (b := 1) wd_t1399 wd_t12 wd_t1401 wd_t1400 yok_186
theorem en_12_66 : ∃ ix, entB "LentBoxesModel" 66 1 10 10 ix = true := ent_f (own := "LentBoxesModel") (i := 66) (k := 1) (a := 10) (b := 10) wd_t1233 (by decide) (by decide) rfl (by decide)
theorem en_12_69 : ∃ ix, entB "LentBoxesModel" 69 1 10 11 ix = true := ent_f (own := "LentBoxesModel") (i := 69) (k := 1) (a := 10) (b := 11) wd_t1234 (by decide) (by decide) rfl (by decide)
theorem en_12_72 : ∃ ix, entB "LentBoxesModel" 72 7 190 1 ix = true := ent_7 (own := "LentBoxesModel") (i := 72) (a := 190) (b := 1) wd_t1413 wd_t12 wd_t1416 wd_t1415 wd_p53 yok_190 (by decide +kernel)
theorem en_12_75 : ∃ ix, entB "LentBoxesModel" 75 9 195 3 ix = true := ent_9 (own := "LentBoxesModel") (i := 75) (a := 195) (b := 3) wd_t1432 wd_t12 wd_t1434 wd_t1433 yok_195
theorem en_12_79 : ∃ ix, entB "LentBoxesModel" 79 1 10 13 ix = true := ent_f (own := "LentBoxesModel") (i := 79) (k := 1) (a := 10) (b := 13) wd_t1236 (by decide) (by decide) rfl (by decide)
theorem en_12_82 : ∃ ix, entB "LentBoxesModel" 82 7 180 0 ix = true := ent_7 (own := "LentBoxesModel") (i := 82) (a := 180) (b := 0) wd_t1375 wd_t12 wd_t1378 wd_t1377 wd_p47 yok_180 (by decide +kernel)
theorem en_12_86 : ∃ ix, entB "LentBoxesModel" 86 7 206 1 ix = true := ent_7 (own := "LentBoxesModel") (i := 86) (a := 206) (b := 1) wd_t1474 wd_t12 wd_t1477 wd_t1476 wd_p66 yok_206 (by decide +kernel)
theorem en_12_89 : ∃ ix, entB "LentBoxesModel" 89 7 179 0 ix = true := ent_7 (own := "LentBoxesModel") (i := 89) (a := 179) (b := 0) wd_t1371 wd_t12 wd_t1374 wd_t1373 wd_p46 yok_179 (by decide +kernel)
theorem en_12_93 : ∃ ix, entB "LentBoxesModel" 93 11 0 0 ix = true := ent_11 wd_t1214 wd_t33 wd_t34
theorem en_12_98 : ∃ ix, entB "LentBoxesModel" 98 16 10 14 ix = true := ent_f (own := "LentBoxesModel") (i := 98) (k := 16) (a := 10) (b := 14) wd_t1237 (by decide) (by decide) rfl (by decide)
theorem en_12_101 : ∃ ix, entB "LentBoxesModel" 101 16 10 15 ix = true := ent_f (own := "LentBoxesModel") (i := 101) (k := 16) (a := 10) (b := 15) wd_t1238 (by decide) (by decide) rfl (by decide)
theorem en_12_104 : ∃ ix, entB "LentBoxesModel" 104 16 10 16 ix = true := ent_f (own := "LentBoxesModel") (i := 104) (k := 16) (a := 10) (b := 16) wd_t1239 (by decide) (by decide) rfl (by decide)
theorem en_12_107 : ∃ ix, entB "LentBoxesModel" 107 16 10 17 ix = true := ent_f (own := "LentBoxesModel") (i := 107) (k := 16) (a := 10) (b := 17) wd_t1240 (by decide) (by decide) rfl (by decide)
theorem en_12_110 : ∃ ix, entB "LentBoxesModel" 110 16 10 18 ix = true := ent_f (own := "LentBoxesModel") (i := 110) (k := 16) (a := 10) (b := 18) wd_t1241 (by decide) (by decide) rfl (by decide)
theorem en_12_113 : ∃ ix, entB "LentBoxesModel" 113 16 10 19 ix = true := ent_f (own := "LentBoxesModel") (i := 113) (k := 16) (a := 10) (b := 19) wd_t1242 (by decide) (by decide) rfl (by decide)
theorem en_12_116 : ∃ ix, entB "LentBoxesModel" 116 16 10 20 ix = true := ent_f (own := "LentBoxesModel") (i := 116) (k := 16) (a := 10) (b := 20) wd_t1243 (by decide) (by decide) rfl (by decide)
theorem en_12_120 : ∃ ix, entB "LentBoxesModel" 120 16 10 21 ix = true := ent_f (own := "LentBoxesModel") (i := 120) (k := 16) (a := 10) (b := 21) wd_t1244 (by decide) (by decide) rfl (by decide)
theorem en_12_123 : ∃ ix, entB "LentBoxesModel" 123 16 10 22 ix = true := ent_f (own := "LentBoxesModel") (i := 123) (k := 16) (a := 10) (b := 22) wd_t1245 (by decide) (by decide) rfl (by decide)
theorem en_12_126 : ∃ ix, entB "LentBoxesModel" 126 16 10 23 ix = true := ent_f (own := "LentBoxesModel") (i := 126) (k := 16) (a := 10) (b := 23) wd_t1246 (by decide) (by decide) rfl (by decide)
theorem en_12_130 : ∃ ix, entB "LentBoxesModel" 130 16 10 26 ix = true := ent_f (own := "LentBoxesModel") (i := 130) (k := 16) (a := 10) (b := 26) wd_t1249 (by decide) (by decide) rfl (by decide)
theorem en_12_133 : ∃ ix, entB "LentBoxesModel" 133 16 10 27 ix = true := ent_f (own := "LentBoxesModel") (i := 133) (k := 16) (a := 10) (b := 27) wd_t1250 (by decide) (by decide) rfl (by decide)
theorem en_12_136 : ∃ ix, entB "LentBoxesModel" 136 1 10 29 ix = true := ent_f (own := "LentBoxesModel") (i := 136) (k := 1) (a := 10) (b := 29) wd_t1252 (by decide) (by decide) rfl (by decide)
theorem en_12_139 : ∃ ix, entB "LentBoxesModel" 139 16 10 30 ix = true := ent_f (own := "LentBoxesModel") (i := 139) (k := 16) (a := 10) (b := 30) wd_t1253 (by decide) (by decide) rfl (by decide)
theorem en_12_142 : ∃ ix, entB "LentBoxesModel" 142 16 10 31 ix = true := ent_f (own := "LentBoxesModel") (i := 142) (k := 16) (a := 10) (b := 31) wd_t1254 (by decide) (by decide) rfl (by decide)
theorem en_12_145 : ∃ ix, entB "LentBoxesModel" 145 1 10 33 ix = true := ent_f (own := "LentBoxesModel") (i := 145) (k := 1) (a := 10) (b := 33) wd_t1256 (by decide) (by decide) rfl (by decide)
theorem en_12_148 : ∃ ix, entB "LentBoxesModel" 148 16 10 34 ix = true := ent_f (own := "LentBoxesModel") (i := 148) (k := 16) (a := 10) (b := 34) wd_t1257 (by decide) (by decide) rfl (by decide)
theorem en_12_151 : ∃ ix, entB "LentBoxesModel" 151 16 10 37 ix = true := ent_f (own := "LentBoxesModel") (i := 151) (k := 16) (a := 10) (b := 37) wd_t1260 (by decide) (by decide) rfl (by decide)
theorem en_12_154 : ∃ ix, entB "LentBoxesModel" 154 16 10 38 ix = true := ent_f (own := "LentBoxesModel") (i := 154) (k := 16) (a := 10) (b := 38) wd_t1261 (by decide) (by decide) rfl (by decide)
theorem en_12_157 : ∃ ix, entB "LentBoxesModel" 157 16 10 41 ix = true := ent_f (own := "LentBoxesModel") (i := 157) (k := 16) (a := 10) (b := 41) wd_t1264 (by decide) (by decide) rfl (by decide)
theorem en_12_160 : ∃ ix, entB "LentBoxesModel" 160 7 175 0 ix = true := ent_7 (own := "LentBoxesModel") (i := 160) (a := 175) (b := 0) wd_t1215 wd_t12 wd_t1218 wd_t1217 wd_p43 yok_175 (by decide +kernel)
theorem en_12_163 : ∃ ix, entB "LentBoxesModel" 163 7 176 0 ix = true := ent_7 (own := "LentBoxesModel") (i := 163) (a := 176) (b := 0) wd_t1219 wd_t12 wd_t1222 wd_t1221 wd_p44 yok_176 (by decide +kernel)
theorem en_12_165 : ∃ ix, entB "LentBoxesModel" 165 7 192 0 ix = true := ent_7 (own := "LentBoxesModel") (i := 165) (a := 192) (b := 0) wd_t1421 wd_t12 wd_t1424 wd_t1423 wd_p55 yok_192 (by decide +kernel)
theorem en_12_169 : ∃ ix, entB "LentBoxesModel" 169 9 193 4 ix = true := ent_9 (own := "LentBoxesModel") (i := 169) (a := 193) (b := 4) wd_t1425 wd_t12 wd_t1427 wd_t1426 yok_193
theorem en_12_173 : ∃ ix, entB "LentBoxesModel" 173 7 189 2 ix = true := ent_7 (own := "LentBoxesModel") (i := 173) (a := 189) (b := 2) wd_t1409 wd_t12 wd_t1412 wd_t1411 wd_p52 yok_189 (by decide +kernel)
theorem en_12_177 : ∃ ix, entB "LentBoxesModel" 177 7 191 1 ix = true := ent_7 (own := "LentBoxesModel") (i := 177) (a := 191) (b := 1) wd_t1417 wd_t12 wd_t1420 wd_t1419 wd_p54 yok_191 (by decide +kernel)
theorem en_12_180 : ∃ ix, entB "LentBoxesModel" 180 7 194 2 ix = true := ent_7 (own := "LentBoxesModel") (i := 180) (a := 194) (b := 2) wd_t1428 wd_t12 wd_t1431 wd_t1430 wd_p56 yok_194 (by decide +kernel)
theorem en_12_183 : ∃ ix, entB "LentBoxesModel" 183 7 196 2 ix = true := ent_7 (own := "LentBoxesModel") (i := 183) (a := 196) (b := 2) wd_t1435 wd_t12 wd_t1438 wd_t1437 wd_p57 yok_196 (by decide +kernel)
theorem en_12_187 : ∃ ix, entB "LentBoxesModel" 187 7 200 2 ix = true := ent_7 (own := "LentBoxesModel") (i := 187) (a := 200) (b := 2) wd_t1451 wd_t12 wd_t1454 wd_t1453 wd_p61 yok_200 (by decide +kernel)
theorem en_12_190 : ∃ ix, entB "LentBoxesModel" 190 9 201 2 ix = true := ent_9 (own := "LentBoxesModel") (i := 190) (a := 201) (b := 2) wd_t1455 wd_t12 wd_t1457 wd_t1456 yok_201
theorem en_12_193 : ∃ ix, entB "LentBoxesModel" 193 15 10 24 ix = true := ent_f (own := "LentBoxesModel") (i := 193) (k := 15) (a := 10) (b := 24) wd_t1247 (by decide) (by decide) rfl (by decide)
theorem en_12_197 : ∃ ix, entB "LentBoxesModel" 197 7 185 1 ix = true := ent_7 (own := "LentBoxesModel") (i := 197) (a := 185) (b := 1) wd_t1395 wd_t12 wd_t1398 wd_t1397 wd_p50 yok_185 (by decide +kernel)
theorem en_12_200 : ∃ ix, entB "LentBoxesModel" 200 7 188 0 ix = true := ent_7 (own := "LentBoxesModel") (i := 200) (a := 188) (b := 0) wd_t1405 wd_t12 wd_t1408 wd_t1407 wd_p51 yok_188 (by decide +kernel)
theorem en_12_203 : ∃ ix, entB "LentBoxesModel" 203 7 197 0 ix = true := ent_7 (own := "LentBoxesModel") (i := 203) (a := 197) (b := 0) wd_t1439 wd_t12 wd_t1442 wd_t1441 wd_p58 yok_197 (by decide +kernel)
theorem en_12_206 : ∃ ix, entB "LentBoxesModel" 206 7 198 0 ix = true := ent_7 (own := "LentBoxesModel") (i := 206) (a := 198) (b := 0) wd_t1443 wd_t12 wd_t1446 wd_t1445 wd_p59 yok_198 (by decide +kernel)
theorem en_12_209 : ∃ ix, entB "LentBoxesModel" 209 7 199 0 ix = true := ent_7 (own := "LentBoxesModel") (i := 209) (a := 199) (b := 0) wd_t1447 wd_t12 wd_t1450 wd_t1449 wd_p60 yok_199 (by decide +kernel)
theorem en_12_212 : ∃ ix, entB "LentBoxesModel" 212 7 202 0 ix = true := ent_7 (own := "LentBoxesModel") (i := 212) (a := 202) (b := 0) wd_t1458 wd_t12 wd_t1461 wd_t1460 wd_p62 yok_202 (by decide +kernel)
theorem en_12_215 : ∃ ix, entB "LentBoxesModel" 215 7 203 0 ix = true := ent_7 (own := "LentBoxesModel") (i := 215) (a := 203) (b := 0) wd_t1462 wd_t12 wd_t1465 wd_t1464 wd_p63 yok_203 (by decide +kernel)
theorem en_12_218 : ∃ ix, entB "LentBoxesModel" 218 7 204 0 ix = true := ent_7 (own := "LentBoxesModel") (i := 218) (a := 204) (b := 0) wd_t1466 wd_t12 wd_t1469 wd_t1468 wd_p64 yok_204 (by decide +kernel)
theorem en_12_221 : ∃ ix, entB "LentBoxesModel" 221 7 178 1 ix = true := ent_7 (own := "LentBoxesModel") (i := 221) (a := 178) (b := 1) wd_t1367 wd_t12 wd_t1370 wd_t1369 wd_p45 yok_178 (by decide +kernel)
theorem en_12_224 : ∃ ix, entB "LentBoxesModel" 224 7 184 0 ix = true := ent_7 (own := "LentBoxesModel") (i := 224) (a := 184) (b := 0) wd_t1391 wd_t12 wd_t1394 wd_t1393 wd_p49 yok_184 (by decide +kernel)
theorem en_12_227 : ∃ ix, entB "LentBoxesModel" 227 7 205 0 ix = true := ent_7 (own := "LentBoxesModel") (i := 227) (a := 205) (b := 0) wd_t1470 wd_t12 wd_t1473 wd_t1472 wd_p65 yok_205 (by decide +kernel)
theorem en_12_230 : ∃ ix, entB "LentBoxesModel" 230 1 10 25 ix = true := ent_f (own := "LentBoxesModel") (i := 230) (k := 1) (a := 10) (b := 25) wd_t1248 (by decide) (by decide) rfl (by decide)
theorem en_12_233 : ∃ ix, entB "LentBoxesModel" 233 7 209 1 ix = true := ent_7 (own := "LentBoxesModel") (i := 233) (a := 209) (b := 1) wd_t1486 wd_t12 wd_t1489 wd_t1488 wd_p67 yok_209 (by decide +kernel)
theorem en_12_236 : ∃ ix, entB "LentBoxesModel" 236 7 210 1 ix = true := ent_7 (own := "LentBoxesModel") (i := 236) (a := 210) (b := 1) wd_t1490 wd_t12 wd_t1493 wd_t1492 wd_p68 yok_210 (by decide +kernel)
theorem en_12_239 : ∃ ix, entB "LentBoxesModel" 239 7 212 1 ix = true := ent_7 (own := "LentBoxesModel") (i := 239) (a := 212) (b := 1) wd_t1498 wd_t12 wd_t1501 wd_t1500 wd_p69 yok_212 (by decide +kernel)
theorem en_12_242 : ∃ ix, entB "LentBoxesModel" 242 7 214 1 ix = true := ent_7 (own := "LentBoxesModel") (i := 242) (a := 214) (b := 1) wd_t1506 wd_t12 wd_t1509 wd_t1508 wd_p70 yok_214 (by decide +kernel)
theorem en_12_245 : ∃ ix, entB "LentBoxesModel" 245 7 215 0 ix = true := ent_7 (own := "LentBoxesModel") (i := 245) (a := 215) (b := 0) wd_t1510 wd_t12 wd_t1513 wd_t1512 wd_p71 yok_215 (by decide +kernel)
theorem en_12_248 : ∃ ix, entB "LentBoxesModel" 248 7 217 1 ix = true := ent_7 (own := "LentBoxesModel") (i := 248) (a := 217) (b := 1) wd_t1518 wd_t12 wd_t1521 wd_t1520 wd_p72 yok_217 (by decide +kernel)
theorem en_12_251 : ∃ ix, entB "LentBoxesModel" 251 7 218 1 ix = true := ent_7 (own := "LentBoxesModel") (i := 251) (a := 218) (b := 1) wd_t1522 wd_t12 wd_t1525 wd_t1524 wd_p73 yok_218 (by decide +kernel)
theorem en_12_254 : ∃ ix, entB "LentBoxesModel" 254 7 229 2 ix = true := ent_7 (own := "LentBoxesModel") (i := 254) (a := 229) (b := 2) wd_t1566 wd_t12 wd_t1569 wd_t1568 wd_p82 yok_229 (by decide +kernel)
theorem en_12_258 : ∃ ix, entB "LentBoxesModel" 258 7 224 2 ix = true := ent_7 (own := "LentBoxesModel") (i := 258) (a := 224) (b := 2) wd_t1546 wd_t12 wd_t1549 wd_t1548 wd_p77 yok_224 (by decide +kernel)
theorem en_12_261 : ∃ ix, entB "LentBoxesModel" 261 7 226 2 ix = true := ent_7 (own := "LentBoxesModel") (i := 261) (a := 226) (b := 2) wd_t1554 wd_t12 wd_t1557 wd_t1556 wd_p79 yok_226 (by decide +kernel)
theorem en_12_264 : ∃ ix, entB "LentBoxesModel" 264 7 223 2 ix = true := ent_7 (own := "LentBoxesModel") (i := 264) (a := 223) (b := 2) wd_t1542 wd_t12 wd_t1545 wd_t1544 wd_p76 yok_223 (by decide +kernel)
theorem en_12_268 : ∃ ix, entB "LentBoxesModel" 268 7 225 2 ix = true := ent_7 (own := "LentBoxesModel") (i := 268) (a := 225) (b := 2) wd_t1550 wd_t12 wd_t1553 wd_t1552 wd_p78 yok_225 (by decide +kernel)
theorem en_12_271 : ∃ ix, entB "LentBoxesModel" 271 7 227 2 ix = true := ent_7 (own := "LentBoxesModel") (i := 271) (a := 227) (b := 2) wd_t1558 wd_t12 wd_t1561 wd_t1560 wd_p80 yok_227 (by decide +kernel)
theorem en_12_274 : ∃ ix, entB "LentBoxesModel" 274 7 232 2 ix = true := ent_7 (own := "LentBoxesModel") (i := 274) (a := 232) (b := 2) wd_t1578 wd_t12 wd_t1581 wd_t1580 wd_p85 yok_232 (by decide +kernel)
theorem en_12_278 : ∃ ix, entB "LentBoxesModel" 278 7 231 2 ix = true := ent_7 (own := "LentBoxesModel") (i := 278) (a := 231) (b := 2) wd_t1574 wd_t12 wd_t1577 wd_t1576 wd_p84 yok_231 (by decide +kernel)
theorem en_12_281 : ∃ ix, entB "LentBoxesModel" 281 7 233 2 ix = true := ent_7 (own := "LentBoxesModel") (i := 281) (a := 233) (b := 2) wd_t1582 wd_t12 wd_t1585 wd_t1584 wd_p86 yok_233 (by decide +kernel)
theorem en_12_284 : ∃ ix, entB "LentBoxesModel" 284 7 222 3 ix = true := ent_7 (own := "LentBoxesModel") (i := 284) (a := 222) (b := 3) wd_t1538 wd_t12 wd_t1541 wd_t1540 wd_p75 yok_222 (by decide +kernel)
theorem en_12_288 : ∃ ix, entB "LentBoxesModel" 288 7 228 0 ix = true := ent_7 (own := "LentBoxesModel") (i := 288) (a := 228) (b := 0) wd_t1562 wd_t12 wd_t1565 wd_t1564 wd_p81 yok_228 (by decide +kernel)
theorem en_12_291 : ∃ ix, entB "LentBoxesModel" 291 7 230 3 ix = true := ent_7 (own := "LentBoxesModel") (i := 291) (a := 230) (b := 3) wd_t1570 wd_t12 wd_t1573 wd_t1572 wd_p83 yok_230 (by decide +kernel)
theorem en_12_295 : ∃ ix, entB "LentBoxesModel" 295 7 221 4 ix = true := ent_7 (own := "LentBoxesModel") (i := 295) (a := 221) (b := 4) wd_t1534 wd_t12 wd_t1537 wd_t1536 wd_p74 yok_221 (by decide +kernel)
theorem en_12_299 : ∃ ix, entB "LentBoxesModel" 299 7 238 2 ix = true := ent_7 (own := "LentBoxesModel") (i := 299) (a := 238) (b := 2) wd_t1602 wd_t12 wd_t1605 wd_t1604 wd_p87 yok_238 (by decide +kernel)
theorem en_12_302 : ∃ ix, entB "LentBoxesModel" 302 9 241 2 ix = true := ent_9 (own := "LentBoxesModel") (i := 302) (a := 241) (b := 2) wd_t1614 wd_t12 wd_t1616 wd_t1615 yok_241
theorem en_12_305 : ∃ ix, entB "LentBoxesModel" 305 7 242 0 ix = true := ent_7 (own := "LentBoxesModel") (i := 305) (a := 242) (b := 0) wd_t1617 wd_t12 wd_t1620 wd_t1619 wd_p89 yok_242 (by decide +kernel)
theorem en_12_308 : ∃ ix, entB "LentBoxesModel" 308 7 240 1 ix = true := ent_7 (own := "LentBoxesModel") (i := 308) (a := 240) (b := 1) wd_t1610 wd_t12 wd_t1613 wd_t1612 wd_p88 yok_240 (by decide +kernel)
theorem en_12_311 : ∃ ix, entB "LentBoxesModel" 311 7 245 2 ix = true := ent_7 (own := "LentBoxesModel") (i := 311) (a := 245) (b := 2) wd_t1629 wd_t12 wd_t1632 wd_t1631 wd_p91 yok_245 (by decide +kernel)
theorem en_12_314 : ∃ ix, entB "LentBoxesModel" 314 7 244 2 ix = true := ent_7 (own := "LentBoxesModel") (i := 314) (a := 244) (b := 2) wd_t1625 wd_t12 wd_t1628 wd_t1627 wd_p90 yok_244 (by decide +kernel)
theorem en_12_317 : ∃ ix, entB "LentBoxesModel" 317 7 246 2 ix = true := ent_7 (own := "LentBoxesModel") (i := 317) (a := 246) (b := 2) wd_t1633 wd_t12 wd_t1636 wd_t1635 wd_p92 yok_246 (by decide +kernel)
theorem en_12_320 : ∃ ix, entB "LentBoxesModel" 320 1 10 28 ix = true := ent_f (own := "LentBoxesModel") (i := 320) (k := 1) (a := 10) (b := 28) wd_t1251 (by decide) (by decide) rfl (by decide)
theorem en_12_323 : ∃ ix, entB "LentBoxesModel" 323 7 249 2 ix = true := ent_7 (own := "LentBoxesModel") (i := 323) (a := 249) (b := 2) wd_t1645 wd_t12 wd_t1648 wd_t1647 wd_p93 yok_249 (by decide +kernel)
theorem en_12_326 : ∃ ix, entB "LentBoxesModel" 326 7 253 3 ix = true := ent_7 (own := "LentBoxesModel") (i := 326) (a := 253) (b := 3) wd_t1661 wd_t12 wd_t1664 wd_t1663 wd_p94 yok_253 (by decide +kernel)
theorem en_12_329 : ∃ ix, entB "LentBoxesModel" 329 7 255 1 ix = true := ent_7 (own := "LentBoxesModel") (i := 329) (a := 255) (b := 1) wd_t1669 wd_t12 wd_t1672 wd_t1671 wd_p95 yok_255 (by decide +kernel)
theorem en_12_332 : ∃ ix, entB "LentBoxesModel" 332 1 10 32 ix = true := ent_f (own := "LentBoxesModel") (i := 332) (k := 1) (a := 10) (b := 32) wd_t1255 (by decide) (by decide) rfl (by decide)
theorem en_12_335 : ∃ ix, entB "LentBoxesModel" 335 7 259 2 ix = true := ent_7 (own := "LentBoxesModel") (i := 335) (a := 259) (b := 2) wd_t1685 wd_t12 wd_t1688 wd_t1687 wd_p97 yok_259 (by decide +kernel)
theorem en_12_338 : ∃ ix, entB "LentBoxesModel" 338 7 258 2 ix = true := ent_7 (own := "LentBoxesModel") (i := 338) (a := 258) (b := 2) wd_t1681 wd_t12 wd_t1684 wd_t1683 wd_p96 yok_258 (by decide +kernel)
theorem en_12_341 : ∃ ix, entB "LentBoxesModel" 341 7 260 2 ix = true := ent_7 (own := "LentBoxesModel") (i := 341) (a := 260) (b := 2) wd_t1689 wd_t12 wd_t1692 wd_t1691 wd_p98 yok_260 (by decide +kernel)
theorem en_12_344 : ∃ ix, entB "LentBoxesModel" 344 9 265 2 ix = true := ent_9 (own := "LentBoxesModel") (i := 344) (a := 265) (b := 2) wd_t1709 wd_t12 wd_t1711 wd_t1710 yok_265
theorem en_12_347 : ∃ ix, entB "LentBoxesModel" 347 7 264 3 ix = true := ent_7 (own := "LentBoxesModel") (i := 347) (a := 264) (b := 3) wd_t1705 wd_t12 wd_t1708 wd_t1707 wd_p99 yok_264 (by decide +kernel)
theorem en_12_350 : ∃ ix, entB "LentBoxesModel" 350 1 10 35 ix = true := ent_f (own := "LentBoxesModel") (i := 350) (k := 1) (a := 10) (b := 35) wd_t1258 (by decide) (by decide) rfl (by decide)
theorem en_12_353 : ∃ ix, entB "LentBoxesModel" 353 7 269 1 ix = true := ent_7 (own := "LentBoxesModel") (i := 353) (a := 269) (b := 1) wd_t1724 wd_t12 wd_t1727 wd_t1726 wd_p100 yok_269 (by decide +kernel)
theorem en_12_357 : ∃ ix, entB "LentBoxesModel" 357 7 270 1 ix = true := ent_7 (own := "LentBoxesModel") (i := 357) (a := 270) (b := 1) wd_t1728 wd_t12 wd_t1731 wd_t1730 wd_p101 yok_270 (by decide +kernel)
theorem en_12_360 : ∃ ix, entB "LentBoxesModel" 360 7 271 1 ix = true := ent_7 (own := "LentBoxesModel") (i := 360) (a := 271) (b := 1) wd_t1732 wd_t12 wd_t1735 wd_t1734 wd_p102 yok_271 (by decide +kernel)
theorem en_12_363 : ∃ ix, entB "LentBoxesModel" 363 1 10 36 ix = true := ent_f (own := "LentBoxesModel") (i := 363) (k := 1) (a := 10) (b := 36) wd_t1259 (by decide) (by decide) rfl (by decide)
theorem en_12_366 : ∃ ix, entB "LentBoxesModel" 366 25 1103515245 0 ix = true := ent_25 (a := 1103515245) wd_t1756 (by decide)
theorem en_12_367 : ∃ ix, entB "LentBoxesModel" 367 7 276 1 ix = true := ent_7 (own := "LentBoxesModel") (i := 367) (a := 276) (b := 1) wd_t1752 wd_t12 wd_t1755 wd_t1754 wd_p105 yok_276 (by decide +kernel)
theorem en_12_370 : ∃ ix, entB "LentBoxesModel" 370 7 278 3 ix = true := ent_7 (own := "LentBoxesModel") (i := 370) (a := 278) (b := 3) wd_t1761 wd_t12 wd_t1764 wd_t1763 wd_p107 yok_278 (by decide +kernel)
theorem en_12_373 : ∃ ix, entB "LentBoxesModel" 373 7 277 2 ix = true := ent_7 (own := "LentBoxesModel") (i := 373) (a := 277) (b := 2) wd_t1757 wd_t12 wd_t1760 wd_t1759 wd_p106 yok_277 (by decide +kernel)
theorem en_12_376 : ∃ ix, entB "LentBoxesModel" 376 7 275 0 ix = true := ent_7 (own := "LentBoxesModel") (i := 376) (a := 275) (b := 0) wd_t1748 wd_t12 wd_t1751 wd_t1750 wd_p104 yok_275 (by decide +kernel)
theorem en_12_379 : ∃ ix, entB "LentBoxesModel" 379 7 274 2 ix = true := ent_7 (own := "LentBoxesModel") (i := 379) (a := 274) (b := 2) wd_t1744 wd_t12 wd_t1747 wd_t1746 wd_p103 yok_274 (by decide +kernel)
theorem en_12_382 : ∃ ix, entB "LentBoxesModel" 382 7 283 2 ix = true := ent_7 (own := "LentBoxesModel") (i := 382) (a := 283) (b := 2) wd_t1781 wd_t12 wd_t1784 wd_t1783 wd_p110 yok_283 (by decide +kernel)
theorem en_12_385 : ∃ ix, entB "LentBoxesModel" 385 1 10 39 ix = true := ent_f (own := "LentBoxesModel") (i := 385) (k := 1) (a := 10) (b := 39) wd_t1262 (by decide) (by decide) rfl (by decide)
theorem en_12_388 : ∃ ix, entB "LentBoxesModel" 388 7 282 0 ix = true := ent_7 (own := "LentBoxesModel") (i := 388) (a := 282) (b := 0) wd_t1777 wd_t12 wd_t1780 wd_t1779 wd_p109 yok_282 (by decide +kernel)
theorem en_12_391 : ∃ ix, entB "LentBoxesModel" 391 7 284 2 ix = true := ent_7 (own := "LentBoxesModel") (i := 391) (a := 284) (b := 2) wd_t1785 wd_t12 wd_t1788 wd_t1787 wd_p111 yok_284 (by decide +kernel)
theorem en_12_394 : ∃ ix, entB "LentBoxesModel" 394 7 285 0 ix = true := ent_7 (own := "LentBoxesModel") (i := 394) (a := 285) (b := 0) wd_t1789 wd_t12 wd_t1792 wd_t1791 wd_p112 yok_285 (by decide +kernel)
theorem en_12_397 : ∃ ix, entB "LentBoxesModel" 397 7 286 1 ix = true := ent_7 (own := "LentBoxesModel") (i := 397) (a := 286) (b := 1) wd_t1793 wd_t12 wd_t1796 wd_t1795 wd_p113 yok_286 (by decide +kernel)
theorem en_12_400 : ∃ ix, entB "LentBoxesModel" 400 7 281 0 ix = true := ent_7 (own := "LentBoxesModel") (i := 400) (a := 281) (b := 0) wd_t1773 wd_t12 wd_t1776 wd_t1775 wd_p108 yok_281 (by decide +kernel)
theorem en_12_403 : ∃ ix, entB "LentBoxesModel" 403 7 287 1 ix = true := ent_7 (own := "LentBoxesModel") (i := 403) (a := 287) (b := 1) wd_t1797 wd_t12 wd_t1800 wd_t1799 wd_p114 yok_287 (by decide +kernel)
theorem en_12_406 : ∃ ix, entB "LentBoxesModel" 406 15 10 40 ix = true := ent_f (own := "LentBoxesModel") (i := 406) (k := 15) (a := 10) (b := 40) wd_t1263 (by decide) (by decide) rfl (by decide)
theorem en_12_409 : ∃ ix, entB "LentBoxesModel" 409 7 288 1 ix = true := ent_7 (own := "LentBoxesModel") (i := 409) (a := 288) (b := 1) wd_t1801 wd_t12 wd_t1804 wd_t1803 wd_p115 yok_288 (by decide +kernel)
theorem en_12_413 : ∃ ix, entB "LentBoxesModel" 413 1 10 42 ix = true := ent_f (own := "LentBoxesModel") (i := 413) (k := 1) (a := 10) (b := 42) wd_t1265 (by decide) (by decide) rfl (by decide)
theorem en_12_416 : ∃ ix, entB "LentBoxesModel" 416 7 292 0 ix = true := ent_7 (own := "LentBoxesModel") (i := 416) (a := 292) (b := 0) wd_t1817 wd_t12 wd_t1820 wd_t1819 wd_p117 yok_292 (by decide +kernel)
theorem en_12_419 : ∃ ix, entB "LentBoxesModel" 419 1 10 45 ix = true := ent_f (own := "LentBoxesModel") (i := 419) (k := 1) (a := 10) (b := 45) wd_t1268 (by decide) (by decide) rfl (by decide)
theorem en_12_422 : ∃ ix, entB "LentBoxesModel" 422 7 296 4 ix = true := ent_7 (own := "LentBoxesModel") (i := 422) (a := 296) (b := 4) wd_t1833 wd_t12 wd_t1836 wd_t1835 wd_p121 yok_296 (by decide +kernel)
theorem en_12_426 : ∃ ix, entB "LentBoxesModel" 426 7 293 0 ix = true := ent_7 (own := "LentBoxesModel") (i := 426) (a := 293) (b := 0) wd_t1821 wd_t12 wd_t1824 wd_t1823 wd_p118 yok_293 (by decide +kernel)
theorem en_12_429 : ∃ ix, entB "LentBoxesModel" 429 1 10 43 ix = true := ent_f (own := "LentBoxesModel") (i := 429) (k := 1) (a := 10) (b := 43) wd_t1266 (by decide) (by decide) rfl (by decide)
theorem en_12_432 : ∃ ix, entB "LentBoxesModel" 432 1 10 44 ix = true := ent_f (own := "LentBoxesModel") (i := 432) (k := 1) (a := 10) (b := 44) wd_t1267 (by decide) (by decide) rfl (by decide)
theorem en_12_435 : ∃ ix, entB "LentBoxesModel" 435 7 294 0 ix = true := ent_7 (own := "LentBoxesModel") (i := 435) (a := 294) (b := 0) wd_t1825 wd_t12 wd_t1828 wd_t1827 wd_p119 yok_294 (by decide +kernel)
theorem en_12_438 : ∃ ix, entB "LentBoxesModel" 438 7 295 0 ix = true := ent_7 (own := "LentBoxesModel") (i := 438) (a := 295) (b := 0) wd_t1829 wd_t12 wd_t1832 wd_t1831 wd_p120 yok_295 (by decide +kernel)
theorem en_12_441 : ∃ ix, entB "LentBoxesModel" 441 7 297 1 ix = true := ent_7 (own := "LentBoxesModel") (i := 441) (a := 297) (b := 1) wd_t1837 wd_t12 wd_t1840 wd_t1839 wd_p122 yok_297 (by decide +kernel)
theorem en_12_444 : ∃ ix, entB "LentBoxesModel" 444 7 299 1 ix = true := ent_7 (own := "LentBoxesModel") (i := 444) (a := 299) (b := 1) wd_t1845 wd_t12 wd_t1848 wd_t1847 wd_p124 yok_299 (by decide +kernel)
theorem en_12_447 : ∃ ix, entB "LentBoxesModel" 447 7 291 0 ix = true := ent_7 (own := "LentBoxesModel") (i := 447) (a := 291) (b := 0) wd_t1813 wd_t12 wd_t1816 wd_t1815 wd_p116 yok_291 (by decide +kernel)
theorem en_12_450 : ∃ ix, entB "LentBoxesModel" 450 7 298 1 ix = true := ent_7 (own := "LentBoxesModel") (i := 450) (a := 298) (b := 1) wd_t1841 wd_t12 wd_t1844 wd_t1843 wd_p123 yok_298 (by decide +kernel)
theorem en_12_453 : ∃ ix, entB "LentBoxesModel" 453 7 301 2 ix = true := ent_7 (own := "LentBoxesModel") (i := 453) (a := 301) (b := 2) wd_t1853 wd_t12 wd_t1856 wd_t1855 wd_p125 yok_301 (by decide +kernel)
def rsLaw : List (Nat × Nat × Nat × Nat) := [(7, 7, 158, 2), (8, 13, 0, 19), (15, 7, 166, 2), (18, 7, 169, 1), (22, 10, 0, 0), (23, 13, 10, 46), (25, 10, 174, 0), (26, 7, 14, 5), (30, 7, 171, 5), (31, 7, 16, 1), (35, 7, 173, 1), (36, 7, 17, 0), (40, 7, 177, 0), (41, 7, 46, 0), (44, 7, 207, 0), (45, 7, 47, 2), (48, 7, 208, 2), (49, 7, 52, 2), (52, 7, 211, 2), (58, 7, 213, 2), (59, 7, 170, 0), (62, 7, 54, 1), (65, 7, 216, 1), (66, 7, 60, 2), (69, 7, 220, 2), (70, 7, 67, 2), (73, 7, 234, 2), (74, 7, 69, 2), (77, 7, 235, 2), (78, 7, 71, 1), (81, 7, 236, 1), (82, 7, 73, 1), (85, 7, 239, 1), (86, 7, 76, 0), (89, 7, 237, 0), (90, 7, 78, 0), (93, 7, 243, 0), (94, 7, 83, 1), (97, 7, 247, 1), (98, 7, 84, 1), (101, 7, 248, 1), (102, 7, 86, 0), (105, 7, 250, 0), (106, 7, 87, 1), (109, 7, 251, 1), (110, 7, 88, 2), (113, 7, 252, 2), (114, 7, 90, 1), (117, 7, 254, 1), (118, 7, 92, 1), (121, 7, 256, 1), (122, 7, 93, 0), (125, 7, 257, 0), (126, 7, 101, 0), (129, 7, 261, 0), (130, 7, 102, 2), (133, 7, 262, 2), (134, 7, 104, 2), (137, 7, 219, 2), (140, 7, 263, 2), (144, 7, 266, 1), (145, 7, 105, 0), (148, 7, 267, 0), (149, 7, 106, 1), (152, 7, 268, 1), (153, 7, 121, 1), (156, 7, 272, 1), (157, 7, 122, 2), (160, 7, 273, 2), (161, 7, 126, 3), (165, 7, 279, 3), (166, 7, 127, 1), (169, 7, 280, 1), (170, 7, 136, 1), (173, 7, 289, 1), (174, 7, 137, 0), (177, 7, 290, 0), (178, 7, 148, 1), (181, 7, 300, 1), (182, 7, 153, 1), (185, 7, 302, 1), (186, 7, 155, 1), (189, 7, 303, 1), (190, 7, 156, 1), (193, 7, 304, 1)]
theorem en_11_7 : ∃ ix, entB "LentBoxesLaw" 7 7 158 2 ix = true := ent_7 (own := "LentBoxesLaw") (i := 7) (a := 158) (b := 2) wd_t1105 wd_t1 wd_t1108 wd_t1106 wd_t1107 yok_158 (by decide +kernel)
theorem en_11_8 : ∃ ix, entB "LentBoxesLaw" 8 13 0 19 ix = true := ent_13 (a := 0) (b := 19) wd_t27 wd_t28 wd_t1 (by decide) rfl
theorem en_11_15 : ∃ ix, entB "LentBoxesLaw" 15 7 166 2 ix = true := ent_7 (own := "LentBoxesLaw") (i := 15) (a := 166) (b := 2) wd_t1178 wd_t1 wd_t1181 wd_t1179 wd_t1180 yok_166 (by decide +kernel)
theorem en_11_18 : ∃ ix, entB "LentBoxesLaw" 18 7 169 1 ix = true := ent_7 (own := "LentBoxesLaw") (i := 18) (a := 169) (b := 1) wd_t1189 wd_t1 wd_t1192 wd_t1190 wd_t1191 yok_169 (by decide +kernel)
theorem en_11_22 : ∃ ix, entB "LentBoxesLaw" 22 10 0 0 ix = true := ent_10 (own := "LentBoxesLaw") (i := 22) (a := 0) (b := 0) wd_t29 wd_t1 wd_t31 wd_t30 yok_0 rfl (by decide +kernel)
theorem en_11_23 : ∃ ix, entB "LentBoxesLaw" 23 13 10 46 ix = true := ent_13 (a := 10) (b := 46) wd_t1210 wd_t1204 wd_t12 (by decide) rfl
theorem en_11_25 : ∃ ix, entB "LentBoxesLaw" 25 10 174 0 ix = true := ent_10 (own := "LentBoxesLaw") (i := 25) (a := 174) (b := 0) wd_t1211 wd_t12 wd_t1213 wd_t1212 yok_174 rfl (by decide +kernel)
theorem en_11_26 : ∃ ix, entB "LentBoxesLaw" 26 7 14 5 ix = true := ent_7 (own := "LentBoxesLaw") (i := 26) (a := 14) (b := 5) wd_t447 wd_t1 wd_t450 wd_t448 wd_t449 yok_14 (by decide +kernel)
theorem en_11_30 : ∃ ix, entB "LentBoxesLaw" 30 7 171 5 ix = true := ent_7 (own := "LentBoxesLaw") (i := 30) (a := 171) (b := 5) wd_t1197 wd_t12 wd_t1200 wd_t1198 wd_t1199 yok_171 (by decide +kernel)
theorem en_11_31 : ∃ ix, entB "LentBoxesLaw" 31 7 16 1 ix = true := ent_7 (own := "LentBoxesLaw") (i := 31) (a := 16) (b := 1) wd_t455 wd_t1 wd_t458 wd_t456 wd_t457 yok_16 (by decide +kernel)
theorem en_11_35 : ∃ ix, entB "LentBoxesLaw" 35 7 173 1 ix = true := ent_7 (own := "LentBoxesLaw") (i := 35) (a := 173) (b := 1) wd_t1206 wd_t12 wd_t1209 wd_t1207 wd_t1208 yok_173 (by decide +kernel)
theorem en_11_36 : ∃ ix, entB "LentBoxesLaw" 36 7 17 0 ix = true := ent_7 (own := "LentBoxesLaw") (i := 36) (a := 17) (b := 0) wd_t459 wd_t1 wd_t462 wd_t460 wd_t461 yok_17 (by decide +kernel)
theorem en_11_40 : ∃ ix, entB "LentBoxesLaw" 40 7 177 0 ix = true := ent_7 (own := "LentBoxesLaw") (i := 40) (a := 177) (b := 0) wd_t1363 wd_t12 wd_t1366 wd_t1364 wd_t1365 yok_177 (by decide +kernel)
theorem en_11_41 : ∃ ix, entB "LentBoxesLaw" 41 7 46 0 ix = true := ent_7 (own := "LentBoxesLaw") (i := 41) (a := 46) (b := 0) wd_t583 wd_t1 wd_t586 wd_t584 wd_t585 yok_46 (by decide +kernel)
theorem en_11_44 : ∃ ix, entB "LentBoxesLaw" 44 7 207 0 ix = true := ent_7 (own := "LentBoxesLaw") (i := 44) (a := 207) (b := 0) wd_t1478 wd_t12 wd_t1481 wd_t1479 wd_t1480 yok_207 (by decide +kernel)
theorem en_11_45 : ∃ ix, entB "LentBoxesLaw" 45 7 47 2 ix = true := ent_7 (own := "LentBoxesLaw") (i := 45) (a := 47) (b := 2) wd_t587 wd_t1 wd_t590 wd_t588 wd_t589 yok_47 (by decide +kernel)
theorem en_11_48 : ∃ ix, entB "LentBoxesLaw" 48 7 208 2 ix = true := ent_7 (own := "LentBoxesLaw") (i := 48) (a := 208) (b := 2) wd_t1482 wd_t12 wd_t1485 wd_t1483 wd_t1484 yok_208 (by decide +kernel)
theorem en_11_49 : ∃ ix, entB "LentBoxesLaw" 49 7 52 2 ix = true := ent_7 (own := "LentBoxesLaw") (i := 49) (a := 52) (b := 2) wd_t606 wd_t1 wd_t609 wd_t607 wd_t608 yok_52 (by decide +kernel)
theorem en_11_52 : ∃ ix, entB "LentBoxesLaw" 52 7 211 2 ix = true := ent_7 (own := "LentBoxesLaw") (i := 52) (a := 211) (b := 2) wd_t1494 wd_t12 wd_t1497 wd_t1495 wd_t1496 yok_211 (by decide +kernel)
theorem en_11_58 : ∃ ix, entB "LentBoxesLaw" 58 7 213 2 ix = true := ent_7 (own := "LentBoxesLaw") (i := 58) (a := 213) (b := 2) wd_t1502 wd_t12 wd_t1505 wd_t1503 wd_t1504 yok_213 (by decide +kernel)
theorem en_11_59 : ∃ ix, entB "LentBoxesLaw" 59 7 170 0 ix = true := ent_7 (own := "LentBoxesLaw") (i := 59) (a := 170) (b := 0) wd_t1193 wd_t12 wd_t1196 wd_t1194 wd_t1195 yok_170 (by decide +kernel)
theorem en_11_62 : ∃ ix, entB "LentBoxesLaw" 62 7 54 1 ix = true := ent_7 (own := "LentBoxesLaw") (i := 62) (a := 54) (b := 1) wd_t614 wd_t1 wd_t617 wd_t615 wd_t616 yok_54 (by decide +kernel)
theorem en_11_65 : ∃ ix, entB "LentBoxesLaw" 65 7 216 1 ix = true := ent_7 (own := "LentBoxesLaw") (i := 65) (a := 216) (b := 1) wd_t1514 wd_t12 wd_t1517 wd_t1515 wd_t1516 yok_216 (by decide +kernel)
theorem en_11_66 : ∃ ix, entB "LentBoxesLaw" 66 7 60 2 ix = true := ent_7 (own := "LentBoxesLaw") (i := 66) (a := 60) (b := 2) wd_t639 wd_t1 wd_t642 wd_t640 wd_t641 yok_60 (by decide +kernel)
theorem en_11_69 : ∃ ix, entB "LentBoxesLaw" 69 7 220 2 ix = true := ent_7 (own := "LentBoxesLaw") (i := 69) (a := 220) (b := 2) wd_t1530 wd_t12 wd_t1533 wd_t1531 wd_t1532 yok_220 (by decide +kernel)
theorem en_11_70 : ∃ ix, entB "LentBoxesLaw" 70 7 67 2 ix = true := ent_7 (own := "LentBoxesLaw") (i := 70) (a := 67) (b := 2) wd_t669 wd_t1 wd_t672 wd_t670 wd_t671 yok_67 (by decide +kernel)
theorem en_11_73 : ∃ ix, entB "LentBoxesLaw" 73 7 234 2 ix = true := ent_7 (own := "LentBoxesLaw") (i := 73) (a := 234) (b := 2) wd_t1586 wd_t12 wd_t1589 wd_t1587 wd_t1588 yok_234 (by decide +kernel)
theorem en_11_74 : ∃ ix, entB "LentBoxesLaw" 74 7 69 2 ix = true := ent_7 (own := "LentBoxesLaw") (i := 74) (a := 69) (b := 2) wd_t679 wd_t1 wd_t682 wd_t680 wd_t681 yok_69 (by decide +kernel)
theorem en_11_77 : ∃ ix, entB "LentBoxesLaw" 77 7 235 2 ix = true := ent_7 (own := "LentBoxesLaw") (i := 77) (a := 235) (b := 2) wd_t1590 wd_t12 wd_t1593 wd_t1591 wd_t1592 yok_235 (by decide +kernel)
theorem en_11_78 : ∃ ix, entB "LentBoxesLaw" 78 7 71 1 ix = true := ent_7 (own := "LentBoxesLaw") (i := 78) (a := 71) (b := 1) wd_t687 wd_t1 wd_t690 wd_t688 wd_t689 yok_71 (by decide +kernel)
theorem en_11_81 : ∃ ix, entB "LentBoxesLaw" 81 7 236 1 ix = true := ent_7 (own := "LentBoxesLaw") (i := 81) (a := 236) (b := 1) wd_t1594 wd_t12 wd_t1597 wd_t1595 wd_t1596 yok_236 (by decide +kernel)
theorem en_11_82 : ∃ ix, entB "LentBoxesLaw" 82 7 73 1 ix = true := ent_7 (own := "LentBoxesLaw") (i := 82) (a := 73) (b := 1) wd_t695 wd_t1 wd_t698 wd_t696 wd_t697 yok_73 (by decide +kernel)
theorem en_11_85 : ∃ ix, entB "LentBoxesLaw" 85 7 239 1 ix = true := ent_7 (own := "LentBoxesLaw") (i := 85) (a := 239) (b := 1) wd_t1606 wd_t12 wd_t1609 wd_t1607 wd_t1608 yok_239 (by decide +kernel)
theorem en_11_86 : ∃ ix, entB "LentBoxesLaw" 86 7 76 0 ix = true := ent_7 (own := "LentBoxesLaw") (i := 86) (a := 76) (b := 0) wd_t707 wd_t1 wd_t710 wd_t708 wd_t709 yok_76 (by decide +kernel)
theorem en_11_89 : ∃ ix, entB "LentBoxesLaw" 89 7 237 0 ix = true := ent_7 (own := "LentBoxesLaw") (i := 89) (a := 237) (b := 0) wd_t1598 wd_t12 wd_t1601 wd_t1599 wd_t1600 yok_237 (by decide +kernel)
theorem en_11_90 : ∃ ix, entB "LentBoxesLaw" 90 7 78 0 ix = true := ent_7 (own := "LentBoxesLaw") (i := 90) (a := 78) (b := 0) wd_t715 wd_t1 wd_t718 wd_t716 wd_t717 yok_78 (by decide +kernel)
theorem en_11_93 : ∃ ix, entB "LentBoxesLaw" 93 7 243 0 ix = true := ent_7 (own := "LentBoxesLaw") (i := 93) (a := 243) (b := 0) wd_t1621 wd_t12 wd_t1624 wd_t1622 wd_t1623 yok_243 (by decide +kernel)
theorem en_11_94 : ∃ ix, entB "LentBoxesLaw" 94 7 83 1 ix = true := ent_7 (own := "LentBoxesLaw") (i := 94) (a := 83) (b := 1) wd_t736 wd_t1 wd_t739 wd_t737 wd_t738 yok_83 (by decide +kernel)
theorem en_11_97 : ∃ ix, entB "LentBoxesLaw" 97 7 247 1 ix = true := ent_7 (own := "LentBoxesLaw") (i := 97) (a := 247) (b := 1) wd_t1637 wd_t12 wd_t1640 wd_t1638 wd_t1639 yok_247 (by decide +kernel)
theorem en_11_98 : ∃ ix, entB "LentBoxesLaw" 98 7 84 1 ix = true := ent_7 (own := "LentBoxesLaw") (i := 98) (a := 84) (b := 1) wd_t740 wd_t1 wd_t743 wd_t741 wd_t742 yok_84 (by decide +kernel)
theorem en_11_101 : ∃ ix, entB "LentBoxesLaw" 101 7 248 1 ix = true := ent_7 (own := "LentBoxesLaw") (i := 101) (a := 248) (b := 1) wd_t1641 wd_t12 wd_t1644 wd_t1642 wd_t1643 yok_248 (by decide +kernel)
theorem en_11_102 : ∃ ix, entB "LentBoxesLaw" 102 7 86 0 ix = true := ent_7 (own := "LentBoxesLaw") (i := 102) (a := 86) (b := 0) wd_t749 wd_t1 wd_t752 wd_t750 wd_t751 yok_86 (by decide +kernel)
theorem en_11_105 : ∃ ix, entB "LentBoxesLaw" 105 7 250 0 ix = true := ent_7 (own := "LentBoxesLaw") (i := 105) (a := 250) (b := 0) wd_t1649 wd_t12 wd_t1652 wd_t1650 wd_t1651 yok_250 (by decide +kernel)
theorem en_11_106 : ∃ ix, entB "LentBoxesLaw" 106 7 87 1 ix = true := ent_7 (own := "LentBoxesLaw") (i := 106) (a := 87) (b := 1) wd_t753 wd_t1 wd_t756 wd_t754 wd_t755 yok_87 (by decide +kernel)
theorem en_11_109 : ∃ ix, entB "LentBoxesLaw" 109 7 251 1 ix = true := ent_7 (own := "LentBoxesLaw") (i := 109) (a := 251) (b := 1) wd_t1653 wd_t12 wd_t1656 wd_t1654 wd_t1655 yok_251 (by decide +kernel)
theorem en_11_110 : ∃ ix, entB "LentBoxesLaw" 110 7 88 2 ix = true := ent_7 (own := "LentBoxesLaw") (i := 110) (a := 88) (b := 2) wd_t757 wd_t1 wd_t760 wd_t758 wd_t759 yok_88 (by decide +kernel)
theorem en_11_113 : ∃ ix, entB "LentBoxesLaw" 113 7 252 2 ix = true := ent_7 (own := "LentBoxesLaw") (i := 113) (a := 252) (b := 2) wd_t1657 wd_t12 wd_t1660 wd_t1658 wd_t1659 yok_252 (by decide +kernel)
theorem en_11_114 : ∃ ix, entB "LentBoxesLaw" 114 7 90 1 ix = true := ent_7 (own := "LentBoxesLaw") (i := 114) (a := 90) (b := 1) wd_t766 wd_t1 wd_t769 wd_t767 wd_t768 yok_90 (by decide +kernel)
theorem en_11_117 : ∃ ix, entB "LentBoxesLaw" 117 7 254 1 ix = true := ent_7 (own := "LentBoxesLaw") (i := 117) (a := 254) (b := 1) wd_t1665 wd_t12 wd_t1668 wd_t1666 wd_t1667 yok_254 (by decide +kernel)
theorem en_11_118 : ∃ ix, entB "LentBoxesLaw" 118 7 92 1 ix = true := ent_7 (own := "LentBoxesLaw") (i := 118) (a := 92) (b := 1) wd_t774 wd_t1 wd_t777 wd_t775 wd_t776 yok_92 (by decide +kernel)
theorem en_11_121 : ∃ ix, entB "LentBoxesLaw" 121 7 256 1 ix = true := ent_7 (own := "LentBoxesLaw") (i := 121) (a := 256) (b := 1) wd_t1673 wd_t12 wd_t1676 wd_t1674 wd_t1675 yok_256 (by decide +kernel)
theorem en_11_122 : ∃ ix, entB "LentBoxesLaw" 122 7 93 0 ix = true := ent_7 (own := "LentBoxesLaw") (i := 122) (a := 93) (b := 0) wd_t778 wd_t1 wd_t781 wd_t779 wd_t780 yok_93 (by decide +kernel)
theorem en_11_125 : ∃ ix, entB "LentBoxesLaw" 125 7 257 0 ix = true := ent_7 (own := "LentBoxesLaw") (i := 125) (a := 257) (b := 0) wd_t1677 wd_t12 wd_t1680 wd_t1678 wd_t1679 yok_257 (by decide +kernel)
theorem en_11_126 : ∃ ix, entB "LentBoxesLaw" 126 7 101 0 ix = true := ent_7 (own := "LentBoxesLaw") (i := 126) (a := 101) (b := 0) wd_t812 wd_t1 wd_t815 wd_t813 wd_t814 yok_101 (by decide +kernel)
theorem en_11_129 : ∃ ix, entB "LentBoxesLaw" 129 7 261 0 ix = true := ent_7 (own := "LentBoxesLaw") (i := 129) (a := 261) (b := 0) wd_t1693 wd_t12 wd_t1696 wd_t1694 wd_t1695 yok_261 (by decide +kernel)
theorem en_11_130 : ∃ ix, entB "LentBoxesLaw" 130 7 102 2 ix = true := ent_7 (own := "LentBoxesLaw") (i := 130) (a := 102) (b := 2) wd_t816 wd_t1 wd_t819 wd_t817 wd_t818 yok_102 (by decide +kernel)
theorem en_11_133 : ∃ ix, entB "LentBoxesLaw" 133 7 262 2 ix = true := ent_7 (own := "LentBoxesLaw") (i := 133) (a := 262) (b := 2) wd_t1697 wd_t12 wd_t1700 wd_t1698 wd_t1699 yok_262 (by decide +kernel)
theorem en_11_134 : ∃ ix, entB "LentBoxesLaw" 134 7 104 2 ix = true := ent_7 (own := "LentBoxesLaw") (i := 134) (a := 104) (b := 2) wd_t824 wd_t1 wd_t827 wd_t825 wd_t826 yok_104 (by decide +kernel)
theorem en_11_137 : ∃ ix, entB "LentBoxesLaw" 137 7 219 2 ix = true := ent_7 (own := "LentBoxesLaw") (i := 137) (a := 219) (b := 2) wd_t1526 wd_t12 wd_t1529 wd_t1527 wd_t1528 yok_219 (by decide +kernel)
theorem en_11_140 : ∃ ix, entB "LentBoxesLaw" 140 7 263 2 ix = true := ent_7 (own := "LentBoxesLaw") (i := 140) (a := 263) (b := 2) wd_t1701 wd_t12 wd_t1704 wd_t1702 wd_t1703 yok_263 (by decide +kernel)
theorem en_11_144 : ∃ ix, entB "LentBoxesLaw" 144 7 266 1 ix = true := ent_7 (own := "LentBoxesLaw") (i := 144) (a := 266) (b := 1) wd_t1712 wd_t12 wd_t1715 wd_t1713 wd_t1714 yok_266 (by decide +kernel)
theorem en_11_145 : ∃ ix, entB "LentBoxesLaw" 145 7 105 0 ix = true := ent_7 (own := "LentBoxesLaw") (i := 145) (a := 105) (b := 0) wd_t828 wd_t1 wd_t831 wd_t829 wd_t830 yok_105 (by decide +kernel)
theorem en_11_148 : ∃ ix, entB "LentBoxesLaw" 148 7 267 0 ix = true := ent_7 (own := "LentBoxesLaw") (i := 148) (a := 267) (b := 0) wd_t1716 wd_t12 wd_t1719 wd_t1717 wd_t1718 yok_267 (by decide +kernel)
theorem en_11_149 : ∃ ix, entB "LentBoxesLaw" 149 7 106 1 ix = true := ent_7 (own := "LentBoxesLaw") (i := 149) (a := 106) (b := 1) wd_t832 wd_t1 wd_t835 wd_t833 wd_t834 yok_106 (by decide +kernel)
theorem en_11_152 : ∃ ix, entB "LentBoxesLaw" 152 7 268 1 ix = true := ent_7 (own := "LentBoxesLaw") (i := 152) (a := 268) (b := 1) wd_t1720 wd_t12 wd_t1723 wd_t1721 wd_t1722 yok_268 (by decide +kernel)
theorem en_11_153 : ∃ ix, entB "LentBoxesLaw" 153 7 121 1 ix = true := ent_7 (own := "LentBoxesLaw") (i := 153) (a := 121) (b := 1) wd_t901 wd_t1 wd_t904 wd_t902 wd_t903 yok_121 (by decide +kernel)
theorem en_11_156 : ∃ ix, entB "LentBoxesLaw" 156 7 272 1 ix = true := ent_7 (own := "LentBoxesLaw") (i := 156) (a := 272) (b := 1) wd_t1736 wd_t12 wd_t1739 wd_t1737 wd_t1738 yok_272 (by decide +kernel)
theorem en_11_157 : ∃ ix, entB "LentBoxesLaw" 157 7 122 2 ix = true := ent_7 (own := "LentBoxesLaw") (i := 157) (a := 122) (b := 2) wd_t905 wd_t1 wd_t908 wd_t906 wd_t907 yok_122 (by decide +kernel)
theorem en_11_160 : ∃ ix, entB "LentBoxesLaw" 160 7 273 2 ix = true := ent_7 (own := "LentBoxesLaw") (i := 160) (a := 273) (b := 2) wd_t1740 wd_t12 wd_t1743 wd_t1741 wd_t1742 yok_273 (by decide +kernel)
theorem en_11_161 : ∃ ix, entB "LentBoxesLaw" 161 7 126 3 ix = true := ent_7 (own := "LentBoxesLaw") (i := 161) (a := 126) (b := 3) wd_t927 wd_t1 wd_t930 wd_t928 wd_t929 yok_126 (by decide +kernel)
theorem en_11_165 : ∃ ix, entB "LentBoxesLaw" 165 7 279 3 ix = true := ent_7 (own := "LentBoxesLaw") (i := 165) (a := 279) (b := 3) wd_t1765 wd_t12 wd_t1768 wd_t1766 wd_t1767 yok_279 (by decide +kernel)
theorem en_11_166 : ∃ ix, entB "LentBoxesLaw" 166 7 127 1 ix = true := ent_7 (own := "LentBoxesLaw") (i := 166) (a := 127) (b := 1) wd_t931 wd_t1 wd_t934 wd_t932 wd_t933 yok_127 (by decide +kernel)
theorem en_11_169 : ∃ ix, entB "LentBoxesLaw" 169 7 280 1 ix = true := ent_7 (own := "LentBoxesLaw") (i := 169) (a := 280) (b := 1) wd_t1769 wd_t12 wd_t1772 wd_t1770 wd_t1771 yok_280 (by decide +kernel)
theorem en_11_170 : ∃ ix, entB "LentBoxesLaw" 170 7 136 1 ix = true := ent_7 (own := "LentBoxesLaw") (i := 170) (a := 136) (b := 1) wd_t980 wd_t1 wd_t983 wd_t981 wd_t982 yok_136 (by decide +kernel)
theorem en_11_173 : ∃ ix, entB "LentBoxesLaw" 173 7 289 1 ix = true := ent_7 (own := "LentBoxesLaw") (i := 173) (a := 289) (b := 1) wd_t1805 wd_t12 wd_t1808 wd_t1806 wd_t1807 yok_289 (by decide +kernel)
theorem en_11_174 : ∃ ix, entB "LentBoxesLaw" 174 7 137 0 ix = true := ent_7 (own := "LentBoxesLaw") (i := 174) (a := 137) (b := 0) wd_t984 wd_t1 wd_t987 wd_t985 wd_t986 yok_137 (by decide +kernel)
theorem en_11_177 : ∃ ix, entB "LentBoxesLaw" 177 7 290 0 ix = true := ent_7 (own := "LentBoxesLaw") (i := 177) (a := 290) (b := 0) wd_t1809 wd_t12 wd_t1812 wd_t1810 wd_t1811 yok_290 (by decide +kernel)
theorem en_11_178 : ∃ ix, entB "LentBoxesLaw" 178 7 148 1 ix = true := ent_7 (own := "LentBoxesLaw") (i := 178) (a := 148) (b := 1) wd_t1060 wd_t1 wd_t1063 wd_t1061 wd_t1062 yok_148 (by decide +kernel)
theorem en_11_181 : ∃ ix, entB "LentBoxesLaw" 181 7 300 1 ix = true := ent_7 (own := "LentBoxesLaw") (i := 181) (a := 300) (b := 1) wd_t1849 wd_t12 wd_t1852 wd_t1850 wd_t1851 yok_300 (by decide +kernel)
theorem en_11_182 : ∃ ix, entB "LentBoxesLaw" 182 7 153 1 ix = true := ent_7 (own := "LentBoxesLaw") (i := 182) (a := 153) (b := 1) wd_t1082 wd_t1 wd_t1085 wd_t1083 wd_t1084 yok_153 (by decide +kernel)
theorem en_11_185 : ∃ ix, entB "LentBoxesLaw" 185 7 302 1 ix = true := ent_7 (own := "LentBoxesLaw") (i := 185) (a := 302) (b := 1) wd_t1857 wd_t12 wd_t1860 wd_t1858 wd_t1859 yok_302 (by decide +kernel)
theorem en_11_186 : ∃ ix, entB "LentBoxesLaw" 186 7 155 1 ix = true := ent_7 (own := "LentBoxesLaw") (i := 186) (a := 155) (b := 1) wd_t1093 wd_t1 wd_t1096 wd_t1094 wd_t1095 yok_155 (by decide +kernel)
theorem en_11_189 : ∃ ix, entB "LentBoxesLaw" 189 7 303 1 ix = true := ent_7 (own := "LentBoxesLaw") (i := 189) (a := 303) (b := 1) wd_t1861 wd_t12 wd_t1864 wd_t1862 wd_t1863 yok_303 (by decide +kernel)
theorem en_11_190 : ∃ ix, entB "LentBoxesLaw" 190 7 156 1 ix = true := ent_7 (own := "LentBoxesLaw") (i := 190) (a := 156) (b := 1) wd_t1097 wd_t1 wd_t1100 wd_t1098 wd_t1099 yok_156 (by decide +kernel)
theorem en_11_193 : ∃ ix, entB "LentBoxesLaw" 193 7 304 1 ix = true := ent_7 (own := "LentBoxesLaw") (i := 193) (a := 304) (b := 1) wd_t1865 wd_t12 wd_t1868 wd_t1866 wd_t1867 yok_304 (by decide +kernel)
theorem en_15_265 : ∃ ix, entB "java/lang/Integer" 265 25 1431655765 0 ix = true := ent_25 (a := 1431655765) wd_t809 (by decide)
theorem en_15_266 : ∃ ix, entB "java/lang/Integer" 266 25 858993459 0 ix = true := ent_25 (a := 858993459) wd_t810 (by decide)
theorem en_15_267 : ∃ ix, entB "java/lang/Integer" 267 25 252645135 0 ix = true := ent_25 (a := 252645135) wd_t811 (by decide)
theorem en_13_7 : ∃ ix, entB "java/lang/Enum" 7 5 1 0 ix = true := ent_51 wd_t1886
set_option maxRecDepth 100000 in
theorem resok_0 : ∃ ixs, resB "LentBoxes" rs_0 ixs = true := by
  unfold rs_0
  exact res_cons en_0_1 (res_cons en_0_7 (res_cons en_0_9 (res_cons en_0_10 (res_cons en_0_16 (res_cons en_0_18 (res_cons en_0_19 (res_cons en_0_23 (res_cons en_0_27 (res_cons en_0_29 (res_cons en_0_30 (res_cons en_0_34 (res_cons en_0_36 (res_cons en_0_37 (res_cons en_0_41 (res_cons en_0_43 (res_cons en_0_44 (res_cons en_0_48 (res_cons en_0_50 (res_cons en_0_51 (res_cons en_0_55 (res_cons en_0_57 (res_cons en_0_58 (res_cons en_0_62 (res_cons en_0_64 (res_cons en_0_65 (res_cons en_0_69 (res_cons en_0_71 (res_cons en_0_72 (res_cons en_0_76 (res_cons en_0_80 (res_cons en_0_84 (res_cons en_0_87 (res_cons en_0_91 (res_cons en_0_94 (res_cons en_0_97 (res_cons en_0_101 (res_cons en_0_104 (res_cons en_0_108 (res_cons en_0_111 (res_cons en_0_114 (res_cons en_0_117 (res_cons en_0_120 (res_cons en_0_124 (res_cons en_0_127 (res_cons en_0_130 (res_cons en_0_133 (res_cons en_0_136 (res_cons en_0_139 (res_cons en_0_143 (res_cons en_0_146 (res_cons en_0_149 (res_cons en_0_152 (res_cons en_0_155 (res_cons en_0_158 (res_cons en_0_161 (res_cons en_0_165 (res_cons en_0_168 (res_cons en_0_171 (res_cons en_0_174 (res_cons en_0_177 (res_cons en_0_180 (res_cons en_0_187 (res_cons en_0_190 (res_cons en_0_193 (res_cons en_0_196 (res_cons en_0_199 (res_cons en_0_202 (res_cons en_0_205 (res_cons en_0_208 (res_cons en_0_211 (res_cons en_0_216 (res_cons en_0_219 (res_cons en_0_223 (res_cons en_0_227 (res_cons en_0_230 (res_cons en_0_233 (res_cons en_0_236 (res_cons en_0_240 (res_cons en_0_243 (res_cons en_0_246 (res_cons en_0_249 (res_cons en_0_252 (res_cons en_0_255 (res_cons en_0_258 (res_cons en_0_262 (res_cons en_0_266 (res_cons en_0_269 (res_cons en_0_273 (res_cons en_0_276 (res_cons en_0_279 (res_cons en_0_282 (res_cons en_0_285 (res_cons en_0_290 (res_cons en_0_294 (res_cons en_0_297 (res_cons en_0_301 (res_cons en_0_304 (res_cons en_0_307 (res_cons en_0_310 (res_cons en_0_313 (res_cons en_0_318 (res_cons en_0_322 (res_cons en_0_325 (res_cons en_0_329 (res_cons en_0_333 (res_cons en_0_335 (res_cons en_0_338 (res_cons en_0_340 (res_cons en_0_342 (res_cons en_0_345 (res_cons en_0_347 (res_cons en_0_350 (res_cons en_0_354 (res_cons en_0_357 (res_cons en_0_360 (res_cons en_0_363 (res_cons en_0_366 (res_cons en_0_370 (res_cons en_0_374 (res_cons en_0_377 (res_cons en_0_380 (res_cons en_0_383 (res_cons en_0_386 (res_cons en_0_389 (res_cons en_0_394 (res_cons en_0_397 (res_cons en_0_400 (res_cons en_0_403 (res_cons en_0_406 (res_cons en_0_409 (res_cons en_0_412 (res_cons en_0_416 (res_cons en_0_419 (res_cons en_0_422 (res_cons en_0_426 (res_cons en_0_430 (res_cons en_0_433 (res_cons en_0_435 (⟨[], rfl⟩)))))))))))))))))))))))))))))))))))))))))))))))))))))))))))))))))))))))))))))))))))))))))))))))))))))))))))))))))))))))))))))))))))))))))))
set_option maxRecDepth 100000 in
theorem resok_7 : ∃ ixs, resB "LentBoxes$Tape" rs_7 ixs = true := by
  unfold rs_7
  exact res_cons en_7_3 (res_cons en_7_9 (res_cons en_7_15 (res_cons en_7_19 (res_cons en_7_22 (res_cons en_7_25 (res_cons en_7_28 (res_cons en_7_31 (res_cons en_7_34 (res_cons en_7_37 (res_cons en_7_43 (res_cons en_7_46 (res_cons en_7_50 (res_cons en_7_53 (res_cons en_7_57 (res_cons en_7_60 (res_cons en_7_64 (res_cons en_7_70 (⟨[], rfl⟩))))))))))))))))))
set_option maxRecDepth 100000 in
theorem resok_10 : ∃ ixs, resB "LentBoxes$World" rs_10 ixs = true := by
  unfold rs_10
  exact res_cons en_10_1 (res_cons en_10_7 (res_cons en_10_9 (res_cons en_10_10 (res_cons en_10_16 (res_cons en_10_18 (res_cons en_10_19 (res_cons en_10_23 (res_cons en_10_25 (res_cons en_10_26 (res_cons en_10_30 (res_cons en_10_34 (res_cons en_10_37 (res_cons en_10_40 (⟨[], rfl⟩))))))))))))))
set_option maxRecDepth 100000 in
theorem resok_8 : ∃ ixs, resB "LentBoxes$Vestry" rs_8 ixs = true := by
  unfold rs_8
  exact res_cons en_8_3 (res_cons en_8_9 (res_cons en_8_15 (res_cons en_8_19 (res_cons en_8_23 (res_cons en_8_26 (res_cons en_8_29 (res_cons en_8_32 (res_cons en_8_35 (res_cons en_8_38 (res_cons en_8_41 (res_cons en_8_44 (res_cons en_8_47 (res_cons en_8_50 (res_cons en_8_53 (res_cons en_8_56 (res_cons en_8_59 (res_cons en_8_62 (res_cons en_8_65 (res_cons en_8_68 (res_cons en_8_72 (res_cons en_8_78 (res_cons en_8_84 (res_cons en_8_89 (res_cons en_8_93 (res_cons en_8_97 (res_cons en_8_101 (res_cons en_8_104 (res_cons en_8_109 (res_cons en_8_115 (res_cons en_8_118 (res_cons en_8_121 (res_cons en_8_124 (res_cons en_8_127 (res_cons en_8_130 (res_cons en_8_133 (res_cons en_8_136 (res_cons en_8_139 (res_cons en_8_143 (res_cons en_8_146 (res_cons en_8_150 (res_cons en_8_154 (res_cons en_8_157 (res_cons en_8_161 (res_cons en_8_164 (res_cons en_8_168 (⟨[], rfl⟩))))))))))))))))))))))))))))))))))))))))))))))
set_option maxRecDepth 100000 in
theorem resok_6 : ∃ ixs, resB "LentBoxes$State" rs_6 ixs = true := by
  unfold rs_6
  exact res_cons en_6_3 (res_cons en_6_9 (res_cons en_6_15 (res_cons en_6_18 (res_cons en_6_21 (res_cons en_6_24 (res_cons en_6_27 (res_cons en_6_30 (res_cons en_6_33 (res_cons en_6_36 (res_cons en_6_39 (res_cons en_6_42 (res_cons en_6_45 (res_cons en_6_48 (res_cons en_6_52 (res_cons en_6_58 (res_cons en_6_64 (res_cons en_6_68 (res_cons en_6_73 (res_cons en_6_76 (res_cons en_6_82 (res_cons en_6_85 (res_cons en_6_89 (res_cons en_6_92 (res_cons en_6_95 (res_cons en_6_98 (res_cons en_6_101 (res_cons en_6_104 (res_cons en_6_108 (res_cons en_6_111 (res_cons en_6_115 (res_cons en_6_118 (⟨[], rfl⟩))))))))))))))))))))))))))))))))
set_option maxRecDepth 100000 in
theorem resok_5 : ∃ ixs, resB "LentBoxes$Sentence" rs_5 ixs = true := by
  unfold rs_5
  exact res_cons en_5_3 (res_cons en_5_11 (res_cons en_5_15 (res_cons en_5_18 (res_cons en_5_21 (res_cons en_5_24 (res_cons en_5_28 (res_cons en_5_31 (res_cons en_5_37 (res_cons en_5_41 (res_cons en_5_47 (res_cons en_5_53 (res_cons en_5_56 (res_cons en_5_60 (res_cons en_5_63 (res_cons en_5_66 (res_cons en_5_69 (res_cons en_5_72 (res_cons en_5_75 (res_cons en_5_79 (res_cons en_5_82 (res_cons en_5_85 (res_cons en_5_88 (res_cons en_5_92 (res_cons en_5_97 (res_cons en_5_101 (res_cons en_5_105 (res_cons en_5_108 (res_cons en_5_114 (res_cons en_5_117 (res_cons en_5_121 (res_cons en_5_124 (res_cons en_5_127 (res_cons en_5_130 (res_cons en_5_133 (res_cons en_5_136 (res_cons en_5_139 (res_cons en_5_142 (res_cons en_5_145 (res_cons en_5_148 (res_cons en_5_151 (res_cons en_5_155 (res_cons en_5_158 (res_cons en_5_162 (res_cons en_5_167 (res_cons en_5_170 (res_cons en_5_174 (res_cons en_5_177 (res_cons en_5_180 (res_cons en_5_183 (⟨[], rfl⟩))))))))))))))))))))))))))))))))))))))))))))))))))
set_option maxRecDepth 100000 in
theorem resok_4 : ∃ ixs, resB "LentBoxes$Past" rs_4 ixs = true := by
  unfold rs_4
  exact res_cons en_4_3 (res_cons en_4_9 (res_cons en_4_11 (res_cons en_4_17 (res_cons en_4_18 (res_cons en_4_22 (res_cons en_4_25 (⟨[], rfl⟩)))))))
set_option maxRecDepth 100000 in
theorem resok_1 : ∃ ixs, resB "LentBoxes$Book" rs_1 ixs = true := by
  unfold rs_1
  exact res_cons en_1_3 (res_cons en_1_9 (res_cons en_1_15 (res_cons en_1_18 (res_cons en_1_21 (res_cons en_1_25 (res_cons en_1_30 (res_cons en_1_34 (res_cons en_1_38 (res_cons en_1_42 (res_cons en_1_45 (res_cons en_1_48 (res_cons en_1_52 (res_cons en_1_57 (res_cons en_1_60 (res_cons en_1_63 (res_cons en_1_66 (res_cons en_1_69 (res_cons en_1_73 (res_cons en_1_78 (res_cons en_1_84 (res_cons en_1_88 (res_cons en_1_94 (res_cons en_1_97 (res_cons en_1_100 (res_cons en_1_104 (res_cons en_1_107 (⟨[], rfl⟩)))))))))))))))))))))))))))
set_option maxRecDepth 100000 in
theorem resok_3 : ∃ ixs, resB "LentBoxes$Matching" rs_3 ixs = true := by
  unfold rs_3
  exact res_cons en_3_3 (res_cons en_3_9 (res_cons en_3_15 (res_cons en_3_18 (res_cons en_3_21 (res_cons en_3_27 (res_cons en_3_33 (res_cons en_3_36 (res_cons en_3_42 (res_cons en_3_46 (res_cons en_3_50 (res_cons en_3_53 (⟨[], rfl⟩))))))))))))
set_option maxRecDepth 100000 in
theorem resok_2 : ∃ ixs, resB "LentBoxes$Draws" rs_2 ixs = true := by
  unfold rs_2
  exact res_cons en_2_3 (res_cons en_2_9 (res_cons en_2_15 (res_cons en_2_16 (res_cons en_2_21 (res_cons en_2_25 (res_cons en_2_29 (res_cons en_2_33 (res_cons en_2_38 (res_cons en_2_41 (res_cons en_2_45 (res_cons en_2_48 (res_cons en_2_51 (res_cons en_2_54 (⟨[], rfl⟩))))))))))))))
set_option maxRecDepth 100000 in
theorem resok_9 : ∃ ixs, resB "LentBoxes$Word" rs_9 ixs = true := by
  unfold rs_9
  exact res_cons en_9_105 (res_cons en_9_109 (⟨[], rfl⟩))
set_option maxRecDepth 100000 in
theorem resok_12 : ∃ ixs, resB "LentBoxesModel" rs_12 ixs = true := by
  unfold rs_12
  exact res_cons en_12_1 (res_cons en_12_7 (res_cons en_12_11 (res_cons en_12_14 (res_cons en_12_18 (res_cons en_12_21 (res_cons en_12_24 (res_cons en_12_27 (res_cons en_12_30 (res_cons en_12_33 (res_cons en_12_37 (res_cons en_12_40 (res_cons en_12_43 (res_cons en_12_47 (res_cons en_12_50 (res_cons en_12_54 (res_cons en_12_56 (res_cons en_12_58 (res_cons en_12_62 (res_cons en_12_66 (res_cons en_12_69 (res_cons en_12_72 (res_cons en_12_75 (res_cons en_12_79 (res_cons en_12_82 (res_cons en_12_86 (res_cons en_12_89 (res_cons en_12_93 (res_cons en_12_98 (res_cons en_12_101 (res_cons en_12_104 (res_cons en_12_107 (res_cons en_12_110 (res_cons en_12_113 (res_cons en_12_116 (res_cons en_12_120 (res_cons en_12_123 (res_cons en_12_126 (res_cons en_12_130 (res_cons en_12_133 (res_cons en_12_136 (res_cons en_12_139 (res_cons en_12_142 (res_cons en_12_145 (res_cons en_12_148 (res_cons en_12_151 (res_cons en_12_154 (res_cons en_12_157 (res_cons en_12_160 (res_cons en_12_163 (res_cons en_12_165 (res_cons en_12_169 (res_cons en_12_173 (res_cons en_12_177 (res_cons en_12_180 (res_cons en_12_183 (res_cons en_12_187 (res_cons en_12_190 (res_cons en_12_193 (res_cons en_12_197 (res_cons en_12_200 (res_cons en_12_203 (res_cons en_12_206 (res_cons en_12_209 (res_cons en_12_212 (res_cons en_12_215 (res_cons en_12_218 (res_cons en_12_221 (res_cons en_12_224 (res_cons en_12_227 (res_cons en_12_230 (res_cons en_12_233 (res_cons en_12_236 (res_cons en_12_239 (res_cons en_12_242 (res_cons en_12_245 (res_cons en_12_248 (res_cons en_12_251 (res_cons en_12_254 (res_cons en_12_258 (res_cons en_12_261 (res_cons en_12_264 (res_cons en_12_268 (res_cons en_12_271 (res_cons en_12_274 (res_cons en_12_278 (res_cons en_12_281 (res_cons en_12_284 (res_cons en_12_288 (res_cons en_12_291 (res_cons en_12_295 (res_cons en_12_299 (res_cons en_12_302 (res_cons en_12_305 (res_cons en_12_308 (res_cons en_12_311 (res_cons en_12_314 (res_cons en_12_317 (res_cons en_12_320 (res_cons en_12_323 (res_cons en_12_326 (res_cons en_12_329 (res_cons en_12_332 (res_cons en_12_335 (res_cons en_12_338 (res_cons en_12_341 (res_cons en_12_344 (res_cons en_12_347 (res_cons en_12_350 (res_cons en_12_353 (res_cons en_12_357 (res_cons en_12_360 (res_cons en_12_363 (res_cons en_12_366 (res_cons en_12_367 (res_cons en_12_370 (res_cons en_12_373 (res_cons en_12_376 (res_cons en_12_379 (res_cons en_12_382 (res_cons en_12_385 (res_cons en_12_388 (res_cons en_12_391 (res_cons en_12_394 (res_cons en_12_397 (res_cons en_12_400 (res_cons en_12_403 (res_cons en_12_406 (res_cons en_12_409 (res_cons en_12_413 (res_cons en_12_416 (res_cons en_12_419 (res_cons en_12_422 (res_cons en_12_426 (res_cons en_12_429 (res_cons en_12_432 (res_cons en_12_435 (res_cons en_12_438 (res_cons en_12_441 (res_cons en_12_444 (res_cons en_12_447 (res_cons en_12_450 (res_cons en_12_453 (⟨[], rfl⟩)))))))))))))))))))))))))))))))))))))))))))))))))))))))))))))))))))))))))))))))))))))))))))))))))))))))))))))))))))))))))))))))))))))))))))))))
set_option maxRecDepth 100000 in
theorem resok_11 : ∃ ixs, resB "LentBoxesLaw" rsLaw ixs = true := by
  unfold rsLaw
  exact res_cons en_11_7 (res_cons en_11_8 (res_cons en_11_15 (res_cons en_11_18 (res_cons en_11_22 (res_cons en_11_23 (res_cons en_11_25 (res_cons en_11_26 (res_cons en_11_30 (res_cons en_11_31 (res_cons en_11_35 (res_cons en_11_36 (res_cons en_11_40 (res_cons en_11_41 (res_cons en_11_44 (res_cons en_11_45 (res_cons en_11_48 (res_cons en_11_49 (res_cons en_11_52 (res_cons en_11_58 (res_cons en_11_59 (res_cons en_11_62 (res_cons en_11_65 (res_cons en_11_66 (res_cons en_11_69 (res_cons en_11_70 (res_cons en_11_73 (res_cons en_11_74 (res_cons en_11_77 (res_cons en_11_78 (res_cons en_11_81 (res_cons en_11_82 (res_cons en_11_85 (res_cons en_11_86 (res_cons en_11_89 (res_cons en_11_90 (res_cons en_11_93 (res_cons en_11_94 (res_cons en_11_97 (res_cons en_11_98 (res_cons en_11_101 (res_cons en_11_102 (res_cons en_11_105 (res_cons en_11_106 (res_cons en_11_109 (res_cons en_11_110 (res_cons en_11_113 (res_cons en_11_114 (res_cons en_11_117 (res_cons en_11_118 (res_cons en_11_121 (res_cons en_11_122 (res_cons en_11_125 (res_cons en_11_126 (res_cons en_11_129 (res_cons en_11_130 (res_cons en_11_133 (res_cons en_11_134 (res_cons en_11_137 (res_cons en_11_140 (res_cons en_11_144 (res_cons en_11_145 (res_cons en_11_148 (res_cons en_11_149 (res_cons en_11_152 (res_cons en_11_153 (res_cons en_11_156 (res_cons en_11_157 (res_cons en_11_160 (res_cons en_11_161 (res_cons en_11_165 (res_cons en_11_166 (res_cons en_11_169 (res_cons en_11_170 (res_cons en_11_173 (res_cons en_11_174 (res_cons en_11_177 (res_cons en_11_178 (res_cons en_11_181 (res_cons en_11_182 (res_cons en_11_185 (res_cons en_11_186 (res_cons en_11_189 (res_cons en_11_190 (res_cons en_11_193 (⟨[], rfl⟩)))))))))))))))))))))))))))))))))))))))))))))))))))))))))))))))))))))))))))))))))))))
set_option maxRecDepth 100000 in
theorem resok_15 : ∃ ixs, resB "java/lang/Integer" rs_15 ixs = true := by
  unfold rs_15
  exact res_cons en_15_265 (res_cons en_15_266 (res_cons en_15_267 (⟨[], rfl⟩)))
set_option maxRecDepth 100000 in
theorem resok_13 : ∃ ixs, resB "java/lang/Enum" rs_13 ixs = true := by
  unfold rs_13
  exact res_cons en_13_7 (⟨[], rfl⟩)
theorem lay_0 : ∀ k, k < 19 → u_lay (clN 0) (tX 0) k ∈ Tw := by
  intro k hk
  match k, hk with
  | 0, _ => exact wd_t408
  | 1, _ => exact wd_t410
  | 2, _ => exact wd_t412
  | 3, _ => exact wd_t414
  | 4, _ => exact wd_t416
  | 5, _ => exact wd_t418
  | 6, _ => exact wd_t420
  | 7, _ => exact wd_t422
  | 8, _ => exact wd_t424
  | 9, _ => exact wd_t426
  | 10, _ => exact wd_t428
  | 11, _ => exact wd_t430
  | 12, _ => exact wd_t432
  | 13, _ => exact wd_t434
  | 14, _ => exact wd_t436
  | 15, _ => exact wd_t438
  | 16, _ => exact wd_t440
  | 17, _ => exact wd_t442
  | 18, _ => exact wd_t444
  | n + 19, h => exact absurd h (by omega)
theorem lay_1 : ∀ k, k < 12 → u_lay (clN 1) (tX 1) k ∈ Tw := by
  intro k hk
  match k, hk with
  | 0, _ => exact wd_t64
  | 1, _ => exact wd_t66
  | 2, _ => exact wd_t68
  | 3, _ => exact wd_t70
  | 4, _ => exact wd_t72
  | 5, _ => exact wd_t74
  | 6, _ => exact wd_t76
  | 7, _ => exact wd_t78
  | 8, _ => exact wd_t80
  | 9, _ => exact wd_t82
  | 10, _ => exact wd_t84
  | 11, _ => exact wd_t86
  | n + 12, h => exact absurd h (by omega)
theorem lay_2 : ∀ k, k < 4 → u_lay (clN 2) (tX 2) k ∈ Tw := by
  intro k hk
  match k, hk with
  | 0, _ => exact wd_t303
  | 1, _ => exact wd_t305
  | 2, _ => exact wd_t307
  | 3, _ => exact wd_t309
  | n + 4, h => exact absurd h (by omega)
theorem lay_3 : ∀ k, k < 19 → u_lay (clN 3) (tX 3) k ∈ Tw := by
  intro k hk
  match k, hk with
  | 0, _ => exact wd_t153
  | 1, _ => exact wd_t155
  | 2, _ => exact wd_t157
  | 3, _ => exact wd_t159
  | 4, _ => exact wd_t161
  | 5, _ => exact wd_t163
  | 6, _ => exact wd_t165
  | 7, _ => exact wd_t167
  | 8, _ => exact wd_t169
  | 9, _ => exact wd_t171
  | 10, _ => exact wd_t173
  | 11, _ => exact wd_t175
  | 12, _ => exact wd_t177
  | 13, _ => exact wd_t179
  | 14, _ => exact wd_t181
  | 15, _ => exact wd_t183
  | 16, _ => exact wd_t185
  | 17, _ => exact wd_t187
  | 18, _ => exact wd_t189
  | n + 19, h => exact absurd h (by omega)
theorem lay_4 : ∀ k, k < 13 → u_lay (clN 4) (tX 4) k ∈ Tw := by
  intro k hk
  match k, hk with
  | 0, _ => exact wd_t232
  | 1, _ => exact wd_t234
  | 2, _ => exact wd_t236
  | 3, _ => exact wd_t238
  | 4, _ => exact wd_t240
  | 5, _ => exact wd_t242
  | 6, _ => exact wd_t244
  | 7, _ => exact wd_t246
  | 8, _ => exact wd_t248
  | 9, _ => exact wd_t250
  | 10, _ => exact wd_t252
  | 11, _ => exact wd_t254
  | 12, _ => exact wd_t256
  | n + 13, h => exact absurd h (by omega)
theorem lay_5 : ∀ k, k < 6 → u_lay (clN 5) (tX 5) k ∈ Tw := by
  intro k hk
  match k, hk with
  | 0, _ => exact wd_t272
  | 1, _ => exact wd_t274
  | 2, _ => exact wd_t276
  | 3, _ => exact wd_t278
  | 4, _ => exact wd_t280
  | 5, _ => exact wd_t282
  | n + 6, h => exact absurd h (by omega)
theorem lay_6 : ∀ k, k < 3 → u_lay (clN 6) (tX 6) k ∈ Tw := by
  intro k hk
  match k, hk with
  | 0, _ => exact wd_t325
  | 1, _ => exact wd_t327
  | 2, _ => exact wd_t329
  | n + 3, h => exact absurd h (by omega)
theorem lay_7 : ∀ k, k < 4 → u_lay (clN 7) (tX 7) k ∈ Tw := by
  intro k hk
  match k, hk with
  | 0, _ => exact wd_t349
  | 1, _ => exact wd_t351
  | 2, _ => exact wd_t353
  | 3, _ => exact wd_t355
  | n + 4, h => exact absurd h (by omega)
theorem lay_8 : ∀ k, k < 4 → u_lay (clN 8) (tX 8) k ∈ Tw := by
  intro k hk
  match k, hk with
  | 0, _ => exact wd_t370
  | 1, _ => exact wd_t372
  | 2, _ => exact wd_t374
  | 3, _ => exact wd_t376
  | n + 4, h => exact absurd h (by omega)
theorem lay_9 : ∀ k, k < 1 → u_lay (clN 9) (tX 9) k ∈ Tw := by
  intro k hk
  match k, hk with
  | 0, _ => exact wd_t386
  | n + 1, h => exact absurd h (by omega)
theorem lay_10 : ∀ k, k < 46 → u_lay (clN 10) (tX 10) k ∈ Tw := by
  intro k hk
  match k, hk with
  | 0, _ => exact wd_t1269
  | 1, _ => exact wd_t1271
  | 2, _ => exact wd_t1273
  | 3, _ => exact wd_t1275
  | 4, _ => exact wd_t1277
  | 5, _ => exact wd_t1279
  | 6, _ => exact wd_t1281
  | 7, _ => exact wd_t1283
  | 8, _ => exact wd_t1285
  | 9, _ => exact wd_t1287
  | 10, _ => exact wd_t1289
  | 11, _ => exact wd_t1291
  | 12, _ => exact wd_t1293
  | 13, _ => exact wd_t1295
  | 14, _ => exact wd_t1297
  | 15, _ => exact wd_t1299
  | 16, _ => exact wd_t1301
  | 17, _ => exact wd_t1303
  | 18, _ => exact wd_t1305
  | 19, _ => exact wd_t1307
  | 20, _ => exact wd_t1309
  | 21, _ => exact wd_t1311
  | 22, _ => exact wd_t1313
  | 23, _ => exact wd_t1315
  | 24, _ => exact wd_t1317
  | 25, _ => exact wd_t1319
  | 26, _ => exact wd_t1321
  | 27, _ => exact wd_t1323
  | 28, _ => exact wd_t1325
  | 29, _ => exact wd_t1327
  | 30, _ => exact wd_t1329
  | 31, _ => exact wd_t1331
  | 32, _ => exact wd_t1333
  | 33, _ => exact wd_t1335
  | 34, _ => exact wd_t1337
  | 35, _ => exact wd_t1339
  | 36, _ => exact wd_t1341
  | 37, _ => exact wd_t1343
  | 38, _ => exact wd_t1345
  | 39, _ => exact wd_t1347
  | 40, _ => exact wd_t1349
  | 41, _ => exact wd_t1351
  | 42, _ => exact wd_t1353
  | 43, _ => exact wd_t1355
  | 44, _ => exact wd_t1357
  | 45, _ => exact wd_t1359
  | n + 46, h => exact absurd h (by omega)
theorem hin_ok : ∀ ci, ci < 11 → ∀ w ∈ u_ws (clN ci) (tX ci) (nF ci), w ∈ Tw := by
  intro ci h w hw
  obtain ⟨k, hk, rfl⟩ := List.mem_map.mp hw
  have hk := List.mem_range.mp hk
  match ci, h with
  | 0, _ => exact lay_0 k hk
  | 1, _ => exact lay_1 k hk
  | 2, _ => exact lay_2 k hk
  | 3, _ => exact lay_3 k hk
  | 4, _ => exact lay_4 k hk
  | 5, _ => exact lay_5 k hk
  | 6, _ => exact lay_6 k hk
  | 7, _ => exact lay_7 k hk
  | 8, _ => exact lay_8 k hk
  | 9, _ => exact lay_9 k hk
  | 10, _ => exact lay_10 k hk
  | n + 11, h => exact absurd h (by omega)
theorem hArr_ok : ∀ ty, ty = .int ∨ ty = .long ∨ ty = .byte ∨ ty = .boolean → Cond.arrayClass ty ∈ Tw := by
  intro ty h
  rcases h with rfl | rfl | rfl | rfl
  · exact wd_t193
  · exact wd_t192
  · exact wd_t89
  · exact wd_t1362
