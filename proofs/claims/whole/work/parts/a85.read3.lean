/-! ===== written by gen_a85.py: reading (3): lines of a vestry ===== -/
theorem FV_box {s u S U : mS} (hf : FV s u) {n : Nat} {y1 y2 : Int} (hn : u.1 252 0 = (n : Int)) (h9 : n < 9) (b1 : 10 ≤ y1 ∧ y1 ≤ 99) (b2 : 1 ≤ y2 ∧ y2 ≤ 99) (v0 : U.1 252 0 = (n : Int) + 1) (v1 : U.1 252 (6 + n) = y1) (v2 : U.1 252 (15 + n) = y2) (z0 : S.1 219 0 = (n : Int) + 1) (z1 : S.1 221 n = y1) (z2 : S.1 222 n = y2) (nm : NM (S.2 220 n) (U.2 258 n)) (eN : ∀ k, k ≠ n → U.2 258 k = u.2 258 k) (e24 : U.1 249 24 = u.1 249 24) (eS : ∀ c k, 219 ≤ c → c ≤ 231 → ¬ (c = 219 ∧ k = 0) → ¬ (c = 221 ∧ k = n) → ¬ (c = 222 ∧ k = n) → S.1 c k = s.1 c k) (eJ : ∀ c k, 219 ≤ c → c ≤ 231 → ¬ (c = 220 ∧ k = n) → S.2 c k = s.2 c k) (eA : ∀ k, k ≠ 0 → k ≠ 6 + n → k ≠ 15 + n → U.1 252 k = u.1 252 k) : FV S U := by
  have W0 := WFv_boxes hf.1
  have W1 := WFv_plots hf.1
  have W2 := WFv_dead hf.1
  have W4 := hf.1.2.2.2.2.1
  obtain ⟨⟨w0, w1, w2, w3, w4, w5, w6, w7, w8, w9, w10⟩, ⟨x0, x1, x2, x3, x4, x5, x6, x7, x8, x9, x10⟩, ⟨n0, n1, n2⟩, a4, a5⟩ := hf
  refine ⟨⟨?_, ?_, ?_, ?_, ?_, ?_, ?_, ?_, ?_, ?_, ?_⟩, ⟨?_, ?_, ?_, ?_, ?_, ?_, ?_, ?_, ?_, ?_, ?_⟩, ⟨?_, ?_, ?_⟩, ?_, ?_⟩
  · rw [v0]; omega
  · rw [eA (1) (by omega) (by omega) (by omega)]; exact w1
  · rw [eA (2) (by omega) (by omega) (by omega)]; exact w2
  · rw [eA (3) (by omega) (by omega) (by omega)]; exact w3
  · rw [eA (4) (by omega) (by omega) (by omega)]; exact w4
  · rw [eA (5) (by omega) (by omega) (by omega)]; exact w5
  · intro b hb
    by_cases q : b = n
    · subst q; rw [v1, v2]; omega
    · rw [eA (6 + b) (by omega) (by omega) (by omega), eA (15 + b) (by omega) (by omega) (by omega)]; exact w6 b (by omega)
  · intro b hb; rw [eA (1) (by omega) (by omega) (by omega)] at hb; rw [eA (24 + b) (by omega) (by omega) (by omega)]; exact w7 b hb
  · intro b hb; rw [eA (2) (by omega) (by omega) (by omega)] at hb; have := w8 b hb; rw [eA (29 + b) (by omega) (by omega) (by omega), eA (41 + b) (by omega) (by omega) (by omega), eA (53 + b) (by omega) (by omega) (by omega), eA (65 + b) (by omega) (by omega) (by omega), v0]; omega
  · intro b hb; rw [eA (2) (by omega) (by omega) (by omega)] at hb ⊢; rw [eA (53 + b) (by omega) (by omega) (by omega)]; exact w9 b hb
  · intro b hb; rw [eA (4) (by omega) (by omega) (by omega)] at hb; rw [eA (77 + b) (by omega) (by omega) (by omega), eA (81 + b) (by omega) (by omega) (by omega)]; exact w10 b hb
  · rw [z0, v0]
  · rw [eS 219 (1) (by omega) (by omega) (by omega) (by omega) (by omega), eA (1) (by omega) (by omega) (by omega)]; exact x1
  · rw [eS 219 (2) (by omega) (by omega) (by omega) (by omega) (by omega), eA (2) (by omega) (by omega) (by omega)]; exact x2
  · rw [eS 219 (3) (by omega) (by omega) (by omega) (by omega) (by omega), eA (3) (by omega) (by omega) (by omega)]; exact x3
  · rw [eS 219 (4) (by omega) (by omega) (by omega) (by omega) (by omega), eA (4) (by omega) (by omega) (by omega)]; exact x4
  · rw [eS 219 (5) (by omega) (by omega) (by omega) (by omega) (by omega), eA (5) (by omega) (by omega) (by omega)]; exact x5
  · intro b hb
    by_cases q : b = n
    · subst q; rw [v1, v2, z1, z2]; exact ⟨rfl, rfl⟩
    · rw [eS 221 (b) (by omega) (by omega) (by omega) (by omega) (by omega), eS 222 (b) (by omega) (by omega) (by omega) (by omega) (by omega), eA (6 + b) (by omega) (by omega) (by omega), eA (15 + b) (by omega) (by omega) (by omega)]; exact x6 b (by omega)
  · intro b hb; rw [eA (1) (by omega) (by omega) (by omega)] at hb; rw [eS 224 (b) (by omega) (by omega) (by omega) (by omega) (by omega), eA (24 + b) (by omega) (by omega) (by omega)]; exact x7 b hb
  · intro b hb; rw [eA (2) (by omega) (by omega) (by omega)] at hb; rw [eS 226 (b) (by omega) (by omega) (by omega) (by omega) (by omega), eS 227 (b) (by omega) (by omega) (by omega) (by omega) (by omega), eS 228 (b) (by omega) (by omega) (by omega) (by omega) (by omega), eS 229 (b) (by omega) (by omega) (by omega) (by omega) (by omega), eA (29 + b) (by omega) (by omega) (by omega), eA (41 + b) (by omega) (by omega) (by omega), eA (53 + b) (by omega) (by omega) (by omega), eA (65 + b) (by omega) (by omega) (by omega)]; exact x8 b hb
  · intro b hb; rw [eA (4) (by omega) (by omega) (by omega)] at hb; rw [eS 230 (b) (by omega) (by omega) (by omega) (by omega) (by omega), eS 231 (b) (by omega) (by omega) (by omega) (by omega) (by omega), eA (77 + b) (by omega) (by omega) (by omega), eA (81 + b) (by omega) (by omega) (by omega)]; exact x9 b hb
  · rw [eS 219 (6) (by omega) (by omega) (by omega) (by omega) (by omega)]; exact x10
  · intro b hb
    by_cases q : b = n
    · subst q; rw [← Nat.zero_add b]; rw [Nat.zero_add]; exact nm
    · rw [eN b (by first | trivial | omega), eJ 220 (b) (by omega) (by omega) (by omega)]; exact n0 b (by omega)
  · intro b hb; rw [eA (1) (by omega) (by omega) (by omega)] at hb; rw [eN (9 + b) (by first | trivial | omega), eJ 223 (b) (by omega) (by omega) (by omega)]; exact n1 b hb
  · intro b hb; rw [eA (2) (by omega) (by omega) (by omega)] at hb; rw [eN (14 + b) (by first | trivial | omega), eJ 225 (b) (by omega) (by omega) (by omega)]; exact n2 b hb
  · rw [eS 219 (6) (by omega) (by omega) (by omega) (by omega) (by omega), e24]; exact a4
  · intro d hd1 hd2; rw [eA (2) (by omega) (by omega) (by omega)] at hd1; rw [eS 228 (d) (by omega) (by omega) (by omega) (by omega) (by omega), eS 229 (d) (by omega) (by omega) (by omega) (by omega) (by omega), eA (53 + d) (by omega) (by omega) (by omega), eA (65 + d) (by omega) (by omega) (by omega)]; exact a5 d hd1 hd2
theorem FV_plot {s u S U : mS} (hf : FV s u) {n : Nat} {y1 : Int} (hn : u.1 252 1 = (n : Int)) (h9 : n < 5) (b1 : 0 ≤ y1 ∧ y1 ≤ 60) (v0 : U.1 252 1 = (n : Int) + 1) (v1 : U.1 252 (24 + n) = y1) (z0 : S.1 219 1 = (n : Int) + 1) (z1 : S.1 224 n = y1) (nm : NM (S.2 223 n) (U.2 258 (9 + n))) (eN : ∀ k, k ≠ 9 + n → U.2 258 k = u.2 258 k) (e24 : U.1 249 24 = u.1 249 24) (eS : ∀ c k, 219 ≤ c → c ≤ 231 → ¬ (c = 219 ∧ k = 1) → ¬ (c = 224 ∧ k = n) → S.1 c k = s.1 c k) (eJ : ∀ c k, 219 ≤ c → c ≤ 231 → ¬ (c = 223 ∧ k = n) → S.2 c k = s.2 c k) (eA : ∀ k, k ≠ 1 → k ≠ 24 + n → U.1 252 k = u.1 252 k) : FV S U := by
  have W0 := WFv_boxes hf.1
  have W1 := WFv_plots hf.1
  have W2 := WFv_dead hf.1
  have W4 := hf.1.2.2.2.2.1
  obtain ⟨⟨w0, w1, w2, w3, w4, w5, w6, w7, w8, w9, w10⟩, ⟨x0, x1, x2, x3, x4, x5, x6, x7, x8, x9, x10⟩, ⟨n0, n1, n2⟩, a4, a5⟩ := hf
  refine ⟨⟨?_, ?_, ?_, ?_, ?_, ?_, ?_, ?_, ?_, ?_, ?_⟩, ⟨?_, ?_, ?_, ?_, ?_, ?_, ?_, ?_, ?_, ?_, ?_⟩, ⟨?_, ?_, ?_⟩, ?_, ?_⟩
  · rw [eA (0) (by omega) (by omega)]; exact w0
  · rw [v0]; omega
  · rw [eA (2) (by omega) (by omega)]; exact w2
  · rw [eA (3) (by omega) (by omega)]; exact w3
  · rw [eA (4) (by omega) (by omega)]; exact w4
  · rw [eA (5) (by omega) (by omega)]; exact w5
  · intro b hb; rw [eA (0) (by omega) (by omega)] at hb; rw [eA (6 + b) (by omega) (by omega), eA (15 + b) (by omega) (by omega)]; exact w6 b hb
  · intro b hb
    by_cases q : b = n
    · subst q; rw [v1]; omega
    · rw [eA (24 + b) (by omega) (by omega)]; exact w7 b (by omega)
  · intro b hb; rw [eA (2) (by omega) (by omega)] at hb; rw [eA (29 + b) (by omega) (by omega), eA (41 + b) (by omega) (by omega), eA (53 + b) (by omega) (by omega), eA (65 + b) (by omega) (by omega), eA (0) (by omega) (by omega)]; exact w8 b hb
  · intro b hb; rw [eA (2) (by omega) (by omega)] at hb ⊢; rw [eA (53 + b) (by omega) (by omega)]; exact w9 b hb
  · intro b hb; rw [eA (4) (by omega) (by omega)] at hb; rw [eA (77 + b) (by omega) (by omega), eA (81 + b) (by omega) (by omega)]; exact w10 b hb
  · rw [eS 219 (0) (by omega) (by omega) (by omega) (by omega), eA (0) (by omega) (by omega)]; exact x0
  · rw [z0, v0]
  · rw [eS 219 (2) (by omega) (by omega) (by omega) (by omega), eA (2) (by omega) (by omega)]; exact x2
  · rw [eS 219 (3) (by omega) (by omega) (by omega) (by omega), eA (3) (by omega) (by omega)]; exact x3
  · rw [eS 219 (4) (by omega) (by omega) (by omega) (by omega), eA (4) (by omega) (by omega)]; exact x4
  · rw [eS 219 (5) (by omega) (by omega) (by omega) (by omega), eA (5) (by omega) (by omega)]; exact x5
  · intro b hb; rw [eA (0) (by omega) (by omega)] at hb; rw [eS 221 (b) (by omega) (by omega) (by omega) (by omega), eS 222 (b) (by omega) (by omega) (by omega) (by omega), eA (6 + b) (by omega) (by omega), eA (15 + b) (by omega) (by omega)]; exact x6 b hb
  · intro b hb
    by_cases q : b = n
    · subst q; rw [v1, z1]
    · rw [eS 224 (b) (by omega) (by omega) (by omega) (by omega), eA (24 + b) (by omega) (by omega)]; exact x7 b (by omega)
  · intro b hb; rw [eA (2) (by omega) (by omega)] at hb; rw [eS 226 (b) (by omega) (by omega) (by omega) (by omega), eS 227 (b) (by omega) (by omega) (by omega) (by omega), eS 228 (b) (by omega) (by omega) (by omega) (by omega), eS 229 (b) (by omega) (by omega) (by omega) (by omega), eA (29 + b) (by omega) (by omega), eA (41 + b) (by omega) (by omega), eA (53 + b) (by omega) (by omega), eA (65 + b) (by omega) (by omega)]; exact x8 b hb
  · intro b hb; rw [eA (4) (by omega) (by omega)] at hb; rw [eS 230 (b) (by omega) (by omega) (by omega) (by omega), eS 231 (b) (by omega) (by omega) (by omega) (by omega), eA (77 + b) (by omega) (by omega), eA (81 + b) (by omega) (by omega)]; exact x9 b hb
  · rw [eS 219 (6) (by omega) (by omega) (by omega) (by omega)]; exact x10
  · intro b hb; rw [eA (0) (by omega) (by omega)] at hb; rw [eN b (by first | trivial | omega), eJ 220 (b) (by omega) (by omega) (by omega)]; exact n0 b hb
  · intro b hb
    by_cases q : b = n
    · subst q; exact nm
    · rw [eN (9 + b) (by first | trivial | omega), eJ 223 (b) (by omega) (by omega) (by omega)]; exact n1 b (by omega)
  · intro b hb; rw [eA (2) (by omega) (by omega)] at hb; rw [eN (14 + b) (by first | trivial | omega), eJ 225 (b) (by omega) (by omega) (by omega)]; exact n2 b hb
  · rw [eS 219 (6) (by omega) (by omega) (by omega) (by omega), e24]; exact a4
  · intro d hd1 hd2; rw [eA (2) (by omega) (by omega)] at hd1; rw [eS 228 (d) (by omega) (by omega) (by omega) (by omega), eS 229 (d) (by omega) (by omega) (by omega) (by omega), eA (53 + d) (by omega) (by omega), eA (65 + d) (by omega) (by omega)]; exact a5 d hd1 hd2
theorem FV_dead {s u S U : mS} (hf : FV s u) {n : Nat} {y1 y2 : Int} (hn : u.1 252 2 = (n : Int)) (h9 : n < 12) (b1 : 10 ≤ y1 ∧ y1 ≤ 99) (b2 : 0 ≤ y2 ∧ y2 ≤ 99) (v0 : U.1 252 2 = (n : Int) + 1) (v1 : U.1 252 (29 + n) = y1) (v2 : U.1 252 (41 + n) = y2) (z0 : S.1 219 2 = (n : Int) + 1) (z1 : S.1 226 n = y1) (z2 : S.1 227 n = y2) (nm : NM (S.2 225 n) (U.2 258 (14 + n))) (eN : ∀ k, k ≠ 14 + n → U.2 258 k = u.2 258 k) (e24 : U.1 249 24 = u.1 249 24) (eS : ∀ c k, 219 ≤ c → c ≤ 231 → ¬ (c = 219 ∧ k = 2) → ¬ (c = 226 ∧ k = n) → ¬ (c = 227 ∧ k = n) → S.1 c k = s.1 c k) (eJ : ∀ c k, 219 ≤ c → c ≤ 231 → ¬ (c = 225 ∧ k = n) → S.2 c k = s.2 c k) (eA : ∀ k, k ≠ 2 → k ≠ 29 + n → k ≠ 41 + n → U.1 252 k = u.1 252 k) : FV S U := by
  have W0 := WFv_boxes hf.1
  have W1 := WFv_plots hf.1
  have W2 := WFv_dead hf.1
  have W4 := hf.1.2.2.2.2.1
  obtain ⟨⟨w0, w1, w2, w3, w4, w5, w6, w7, w8, w9, w10⟩, ⟨x0, x1, x2, x3, x4, x5, x6, x7, x8, x9, x10⟩, ⟨n0, n1, n2⟩, a4, a5⟩ := hf
  refine ⟨⟨?_, ?_, ?_, ?_, ?_, ?_, ?_, ?_, ?_, ?_, ?_⟩, ⟨?_, ?_, ?_, ?_, ?_, ?_, ?_, ?_, ?_, ?_, ?_⟩, ⟨?_, ?_, ?_⟩, ?_, ?_⟩
  · rw [eA (0) (by omega) (by omega) (by omega)]; exact w0
  · rw [eA (1) (by omega) (by omega) (by omega)]; exact w1
  · rw [v0]; omega
  · rw [eA (3) (by omega) (by omega) (by omega)]; exact w3
  · rw [eA (4) (by omega) (by omega) (by omega)]; exact w4
  · rw [eA (5) (by omega) (by omega) (by omega)]; exact w5
  · intro b hb; rw [eA (0) (by omega) (by omega) (by omega)] at hb; rw [eA (6 + b) (by omega) (by omega) (by omega), eA (15 + b) (by omega) (by omega) (by omega)]; exact w6 b hb
  · intro b hb; rw [eA (1) (by omega) (by omega) (by omega)] at hb; rw [eA (24 + b) (by omega) (by omega) (by omega)]; exact w7 b hb
  · intro b hb
    by_cases q : b = n
    · subst q; obtain ⟨p1, p2, p3, p4⟩ := a5 b (by omega) (by omega); rw [v1, v2, eA (53 + b) (by omega) (by omega) (by omega), eA (65 + b) (by omega) (by omega) (by omega), eA (0) (by omega) (by omega) (by omega), p2, p4]; omega
    · rw [eA (29 + b) (by omega) (by omega) (by omega), eA (41 + b) (by omega) (by omega) (by omega), eA (53 + b) (by omega) (by omega) (by omega), eA (65 + b) (by omega) (by omega) (by omega), eA (0) (by omega) (by omega) (by omega)]; exact w8 b (by omega)
  · intro b hb e he
    by_cases q : b = n
    · subst q; obtain ⟨p1, p2, p3, p4⟩ := a5 b (by omega) (by omega); rw [eA (53 + b) (by omega) (by omega) (by omega), p2] at he; simp at he
    · rw [eA (53 + b) (by omega) (by omega) (by omega)] at he; have := w9 b (by omega) e he; omega
  · intro b hb; rw [eA (4) (by omega) (by omega) (by omega)] at hb; rw [eA (77 + b) (by omega) (by omega) (by omega), eA (81 + b) (by omega) (by omega) (by omega)]; exact w10 b hb
  · rw [eS 219 (0) (by omega) (by omega) (by omega) (by omega) (by omega), eA (0) (by omega) (by omega) (by omega)]; exact x0
  · rw [eS 219 (1) (by omega) (by omega) (by omega) (by omega) (by omega), eA (1) (by omega) (by omega) (by omega)]; exact x1
  · rw [z0, v0]
  · rw [eS 219 (3) (by omega) (by omega) (by omega) (by omega) (by omega), eA (3) (by omega) (by omega) (by omega)]; exact x3
  · rw [eS 219 (4) (by omega) (by omega) (by omega) (by omega) (by omega), eA (4) (by omega) (by omega) (by omega)]; exact x4
  · rw [eS 219 (5) (by omega) (by omega) (by omega) (by omega) (by omega), eA (5) (by omega) (by omega) (by omega)]; exact x5
  · intro b hb; rw [eA (0) (by omega) (by omega) (by omega)] at hb; rw [eS 221 (b) (by omega) (by omega) (by omega) (by omega) (by omega), eS 222 (b) (by omega) (by omega) (by omega) (by omega) (by omega), eA (6 + b) (by omega) (by omega) (by omega), eA (15 + b) (by omega) (by omega) (by omega)]; exact x6 b hb
  · intro b hb; rw [eA (1) (by omega) (by omega) (by omega)] at hb; rw [eS 224 (b) (by omega) (by omega) (by omega) (by omega) (by omega), eA (24 + b) (by omega) (by omega) (by omega)]; exact x7 b hb
  · intro b hb
    by_cases q : b = n
    · subst q; obtain ⟨p1, p2, p3, p4⟩ := a5 b (by omega) (by omega); rw [v1, v2, z1, z2, eS 228 (b) (by omega) (by omega) (by omega) (by omega) (by omega), eS 229 (b) (by omega) (by omega) (by omega) (by omega) (by omega), eA (53 + b) (by omega) (by omega) (by omega), eA (65 + b) (by omega) (by omega) (by omega), p1, p2, p3, p4]; exact ⟨rfl, rfl, rfl, by omega⟩
    · rw [eS 226 (b) (by omega) (by omega) (by omega) (by omega) (by omega), eS 227 (b) (by omega) (by omega) (by omega) (by omega) (by omega), eS 228 (b) (by omega) (by omega) (by omega) (by omega) (by omega), eS 229 (b) (by omega) (by omega) (by omega) (by omega) (by omega), eA (29 + b) (by omega) (by omega) (by omega), eA (41 + b) (by omega) (by omega) (by omega), eA (53 + b) (by omega) (by omega) (by omega), eA (65 + b) (by omega) (by omega) (by omega)]; exact x8 b (by omega)
  · intro b hb; rw [eA (4) (by omega) (by omega) (by omega)] at hb; rw [eS 230 (b) (by omega) (by omega) (by omega) (by omega) (by omega), eS 231 (b) (by omega) (by omega) (by omega) (by omega) (by omega), eA (77 + b) (by omega) (by omega) (by omega), eA (81 + b) (by omega) (by omega) (by omega)]; exact x9 b hb
  · rw [eS 219 (6) (by omega) (by omega) (by omega) (by omega) (by omega)]; exact x10
  · intro b hb; rw [eA (0) (by omega) (by omega) (by omega)] at hb; rw [eN b (by first | trivial | omega), eJ 220 (b) (by omega) (by omega) (by omega)]; exact n0 b hb
  · intro b hb; rw [eA (1) (by omega) (by omega) (by omega)] at hb; rw [eN (9 + b) (by first | trivial | omega), eJ 223 (b) (by omega) (by omega) (by omega)]; exact n1 b hb
  · intro b hb
    by_cases q : b = n
    · subst q; exact nm
    · rw [eN (14 + b) (by first | trivial | omega), eJ 225 (b) (by omega) (by omega) (by omega)]; exact n2 b (by omega)
  · rw [eS 219 (6) (by omega) (by omega) (by omega) (by omega) (by omega), e24]; exact a4
  · intro d hd1 hd2; rw [eS 228 (d) (by omega) (by omega) (by omega) (by omega) (by omega), eS 229 (d) (by omega) (by omega) (by omega) (by omega) (by omega), eA (53 + d) (by omega) (by omega) (by omega), eA (65 + d) (by omega) (by omega) (by omega)]; exact a5 d (by omega) hd2
theorem FV_frost {s u S U : mS} (hf : FV s u) {n : Nat} {y1 y2 : Int} (hn : u.1 252 4 = (n : Int)) (h9 : n < 4) (b1 : 0 ≤ y1 ∧ y1 ≤ 199) (b2 : 1 ≤ y2 ∧ y2 ≤ 60) (v0 : U.1 252 4 = (n : Int) + 1) (v1 : U.1 252 (77 + n) = y1) (v2 : U.1 252 (81 + n) = y2) (z0 : S.1 219 4 = (n : Int) + 1) (z1 : S.1 230 n = y1) (z2 : S.1 231 n = y2) (eN : ∀ k : Nat, True → U.2 258 k = u.2 258 k) (e24 : U.1 249 24 = u.1 249 24) (eS : ∀ c k, 219 ≤ c → c ≤ 231 → ¬ (c = 219 ∧ k = 4) → ¬ (c = 230 ∧ k = n) → ¬ (c = 231 ∧ k = n) → S.1 c k = s.1 c k) (eJ : ∀ c k, 219 ≤ c → c ≤ 231 → S.2 c k = s.2 c k) (eA : ∀ k, k ≠ 4 → k ≠ 77 + n → k ≠ 81 + n → U.1 252 k = u.1 252 k) : FV S U := by
  have W0 := WFv_boxes hf.1
  have W1 := WFv_plots hf.1
  have W2 := WFv_dead hf.1
  have W4 := hf.1.2.2.2.2.1
  obtain ⟨⟨w0, w1, w2, w3, w4, w5, w6, w7, w8, w9, w10⟩, ⟨x0, x1, x2, x3, x4, x5, x6, x7, x8, x9, x10⟩, ⟨n0, n1, n2⟩, a4, a5⟩ := hf
  refine ⟨⟨?_, ?_, ?_, ?_, ?_, ?_, ?_, ?_, ?_, ?_, ?_⟩, ⟨?_, ?_, ?_, ?_, ?_, ?_, ?_, ?_, ?_, ?_, ?_⟩, ⟨?_, ?_, ?_⟩, ?_, ?_⟩
  · rw [eA (0) (by omega) (by omega) (by omega)]; exact w0
  · rw [eA (1) (by omega) (by omega) (by omega)]; exact w1
  · rw [eA (2) (by omega) (by omega) (by omega)]; exact w2
  · rw [eA (3) (by omega) (by omega) (by omega)]; exact w3
  · rw [v0]; omega
  · rw [eA (5) (by omega) (by omega) (by omega)]; exact w5
  · intro b hb; rw [eA (0) (by omega) (by omega) (by omega)] at hb; rw [eA (6 + b) (by omega) (by omega) (by omega), eA (15 + b) (by omega) (by omega) (by omega)]; exact w6 b hb
  · intro b hb; rw [eA (1) (by omega) (by omega) (by omega)] at hb; rw [eA (24 + b) (by omega) (by omega) (by omega)]; exact w7 b hb
  · intro b hb; rw [eA (2) (by omega) (by omega) (by omega)] at hb; rw [eA (29 + b) (by omega) (by omega) (by omega), eA (41 + b) (by omega) (by omega) (by omega), eA (53 + b) (by omega) (by omega) (by omega), eA (65 + b) (by omega) (by omega) (by omega), eA (0) (by omega) (by omega) (by omega)]; exact w8 b hb
  · intro b hb; rw [eA (2) (by omega) (by omega) (by omega)] at hb ⊢; rw [eA (53 + b) (by omega) (by omega) (by omega)]; exact w9 b hb
  · intro b hb
    by_cases q : b = n
    · subst q; rw [v1, v2]; omega
    · rw [eA (77 + b) (by omega) (by omega) (by omega), eA (81 + b) (by omega) (by omega) (by omega)]; exact w10 b (by omega)
  · rw [eS 219 (0) (by omega) (by omega) (by omega) (by omega) (by omega), eA (0) (by omega) (by omega) (by omega)]; exact x0
  · rw [eS 219 (1) (by omega) (by omega) (by omega) (by omega) (by omega), eA (1) (by omega) (by omega) (by omega)]; exact x1
  · rw [eS 219 (2) (by omega) (by omega) (by omega) (by omega) (by omega), eA (2) (by omega) (by omega) (by omega)]; exact x2
  · rw [eS 219 (3) (by omega) (by omega) (by omega) (by omega) (by omega), eA (3) (by omega) (by omega) (by omega)]; exact x3
  · rw [z0, v0]
  · rw [eS 219 (5) (by omega) (by omega) (by omega) (by omega) (by omega), eA (5) (by omega) (by omega) (by omega)]; exact x5
  · intro b hb; rw [eA (0) (by omega) (by omega) (by omega)] at hb; rw [eS 221 (b) (by omega) (by omega) (by omega) (by omega) (by omega), eS 222 (b) (by omega) (by omega) (by omega) (by omega) (by omega), eA (6 + b) (by omega) (by omega) (by omega), eA (15 + b) (by omega) (by omega) (by omega)]; exact x6 b hb
  · intro b hb; rw [eA (1) (by omega) (by omega) (by omega)] at hb; rw [eS 224 (b) (by omega) (by omega) (by omega) (by omega) (by omega), eA (24 + b) (by omega) (by omega) (by omega)]; exact x7 b hb
  · intro b hb; rw [eA (2) (by omega) (by omega) (by omega)] at hb; rw [eS 226 (b) (by omega) (by omega) (by omega) (by omega) (by omega), eS 227 (b) (by omega) (by omega) (by omega) (by omega) (by omega), eS 228 (b) (by omega) (by omega) (by omega) (by omega) (by omega), eS 229 (b) (by omega) (by omega) (by omega) (by omega) (by omega), eA (29 + b) (by omega) (by omega) (by omega), eA (41 + b) (by omega) (by omega) (by omega), eA (53 + b) (by omega) (by omega) (by omega), eA (65 + b) (by omega) (by omega) (by omega)]; exact x8 b hb
  · intro b hb
    by_cases q : b = n
    · subst q; rw [v1, v2, z1, z2]; exact ⟨rfl, rfl⟩
    · rw [eS 230 (b) (by omega) (by omega) (by omega) (by omega) (by omega), eS 231 (b) (by omega) (by omega) (by omega) (by omega) (by omega), eA (77 + b) (by omega) (by omega) (by omega), eA (81 + b) (by omega) (by omega) (by omega)]; exact x9 b (by omega)
  · rw [eS 219 (6) (by omega) (by omega) (by omega) (by omega) (by omega)]; exact x10
  · intro b hb; rw [eA (0) (by omega) (by omega) (by omega)] at hb; rw [eN b (by first | trivial | omega), eJ 220 (b) (by omega) (by omega) ]; exact n0 b hb
  · intro b hb; rw [eA (1) (by omega) (by omega) (by omega)] at hb; rw [eN (9 + b) (by first | trivial | omega), eJ 223 (b) (by omega) (by omega) ]; exact n1 b hb
  · intro b hb; rw [eA (2) (by omega) (by omega) (by omega)] at hb; rw [eN (14 + b) (by first | trivial | omega), eJ 225 (b) (by omega) (by omega) ]; exact n2 b hb
  · rw [eS 219 (6) (by omega) (by omega) (by omega) (by omega) (by omega), e24]; exact a4
  · intro d hd1 hd2; rw [eA (2) (by omega) (by omega) (by omega)] at hd1; rw [eS 228 (d) (by omega) (by omega) (by omega) (by omega) (by omega), eS 229 (d) (by omega) (by omega) (by omega) (by omega) (by omega), eA (53 + d) (by omega) (by omega) (by omega), eA (65 + d) (by omega) (by omega) (by omega)]; exact a5 d hd1 hd2
theorem FV_asks {s u S U : mS} (hf : FV s u) {n : Nat} {y : Int} (hn : (n : Int) < u.1 252 2) (b1 : 0 ≤ y ∧ y < u.1 252 0) (v1 : U.1 252 (65 + n) = y + 1) (z1 : S.1 229 n = y) (eN : ∀ k : Nat, True → U.2 258 k = u.2 258 k) (e24 : U.1 249 24 = u.1 249 24) (eS : ∀ c k, 219 ≤ c → c ≤ 231 → ¬ (c = 229 ∧ k = n) → S.1 c k = s.1 c k) (eJ : ∀ c k, 219 ≤ c → c ≤ 231 → S.2 c k = s.2 c k) (eA : ∀ k, k ≠ 65 + n → U.1 252 k = u.1 252 k) : FV S U := by
  have W0 := WFv_boxes hf.1
  have W1 := WFv_plots hf.1
  have W2 := WFv_dead hf.1
  have W4 := hf.1.2.2.2.2.1
  obtain ⟨⟨w0, w1, w2, w3, w4, w5, w6, w7, w8, w9, w10⟩, ⟨x0, x1, x2, x3, x4, x5, x6, x7, x8, x9, x10⟩, ⟨n0, n1, n2⟩, a4, a5⟩ := hf
  refine ⟨⟨?_, ?_, ?_, ?_, ?_, ?_, ?_, ?_, ?_, ?_, ?_⟩, ⟨?_, ?_, ?_, ?_, ?_, ?_, ?_, ?_, ?_, ?_, ?_⟩, ⟨?_, ?_, ?_⟩, ?_, ?_⟩
  · rw [eA (0) (by omega)]; exact w0
  · rw [eA (1) (by omega)]; exact w1
  · rw [eA (2) (by omega)]; exact w2
  · rw [eA (3) (by omega)]; exact w3
  · rw [eA (4) (by omega)]; exact w4
  · rw [eA (5) (by omega)]; exact w5
  · intro b hb; rw [eA (0) (by omega)] at hb; rw [eA (6 + b) (by omega), eA (15 + b) (by omega)]; exact w6 b hb
  · intro b hb; rw [eA (1) (by omega)] at hb; rw [eA (24 + b) (by omega)]; exact w7 b hb
  · intro b hb; rw [eA (2) (by omega)] at hb
    by_cases q : b = n
    · subst q; have := w8 b hb; rw [v1, eA (29 + b) (by omega), eA (41 + b) (by omega), eA (53 + b) (by omega), eA (0) (by omega)]; omega
    · rw [eA (29 + b) (by omega), eA (41 + b) (by omega), eA (53 + b) (by omega), eA (65 + b) (by omega), eA (0) (by omega)]; exact w8 b hb
  · intro b hb; rw [eA (2) (by omega)] at hb ⊢; rw [eA (53 + b) (by omega)]; exact w9 b hb
  · intro b hb; rw [eA (4) (by omega)] at hb; rw [eA (77 + b) (by omega), eA (81 + b) (by omega)]; exact w10 b hb
  · rw [eS 219 (0) (by omega) (by omega) (by omega), eA (0) (by omega)]; exact x0
  · rw [eS 219 (1) (by omega) (by omega) (by omega), eA (1) (by omega)]; exact x1
  · rw [eS 219 (2) (by omega) (by omega) (by omega), eA (2) (by omega)]; exact x2
  · rw [eS 219 (3) (by omega) (by omega) (by omega), eA (3) (by omega)]; exact x3
  · rw [eS 219 (4) (by omega) (by omega) (by omega), eA (4) (by omega)]; exact x4
  · rw [eS 219 (5) (by omega) (by omega) (by omega), eA (5) (by omega)]; exact x5
  · intro b hb; rw [eA (0) (by omega)] at hb; rw [eS 221 (b) (by omega) (by omega) (by omega), eS 222 (b) (by omega) (by omega) (by omega), eA (6 + b) (by omega), eA (15 + b) (by omega)]; exact x6 b hb
  · intro b hb; rw [eA (1) (by omega)] at hb; rw [eS 224 (b) (by omega) (by omega) (by omega), eA (24 + b) (by omega)]; exact x7 b hb
  · intro b hb; rw [eA (2) (by omega)] at hb
    by_cases q : b = n
    · subst q; have := x8 b hb; rw [v1, z1, eS 226 (b) (by omega) (by omega) (by omega), eS 227 (b) (by omega) (by omega) (by omega), eS 228 (b) (by omega) (by omega) (by omega), eA (29 + b) (by omega), eA (41 + b) (by omega), eA (53 + b) (by omega)]; exact ⟨this.1, this.2.1, this.2.2.1, by omega⟩
    · rw [eS 226 (b) (by omega) (by omega) (by omega), eS 227 (b) (by omega) (by omega) (by omega), eS 228 (b) (by omega) (by omega) (by omega), eS 229 (b) (by omega) (by omega) (by omega), eA (29 + b) (by omega), eA (41 + b) (by omega), eA (53 + b) (by omega), eA (65 + b) (by omega)]; exact x8 b hb
  · intro b hb; rw [eA (4) (by omega)] at hb; rw [eS 230 (b) (by omega) (by omega) (by omega), eS 231 (b) (by omega) (by omega) (by omega), eA (77 + b) (by omega), eA (81 + b) (by omega)]; exact x9 b hb
  · rw [eS 219 (6) (by omega) (by omega) (by omega)]; exact x10
  · intro b hb; rw [eA (0) (by omega)] at hb; rw [eN b (by first | trivial | omega), eJ 220 (b) (by omega) (by omega) ]; exact n0 b hb
  · intro b hb; rw [eA (1) (by omega)] at hb; rw [eN (9 + b) (by first | trivial | omega), eJ 223 (b) (by omega) (by omega) ]; exact n1 b hb
  · intro b hb; rw [eA (2) (by omega)] at hb; rw [eN (14 + b) (by first | trivial | omega), eJ 225 (b) (by omega) (by omega) ]; exact n2 b hb
  · rw [eS 219 (6) (by omega) (by omega) (by omega), e24]; exact a4
  · intro d hd1 hd2; rw [eA (2) (by omega)] at hd1; rw [eS 228 (d) (by omega) (by omega) (by omega), eS 229 (d) (by omega) (by omega) (by omega), eA (53 + d) (by omega), eA (65 + d) (by omega)]; exact a5 d hd1 hd2
theorem FV_kin {s u S U : mS} (hf : FV s u) {d e : Nat} {n : Int} {y1 y2 : Int} (hd : (d : Int) < u.1 252 2) (he : (e : Int) < u.1 252 2) (hne : d ≠ e) (hn : u.1 252 3 = n) (h12 : n < 12) (b1 : 0 ≤ y1 ∧ y1 < 4096) (b2 : 0 ≤ y2 ∧ y2 < 4096) (t1 : ∀ k, y1.toNat.testBit k = true → (u.1 252 (53 + d)).toNat.testBit k = true ∨ k = e) (t2 : ∀ k, y2.toNat.testBit k = true → (u.1 252 (53 + e)).toNat.testBit k = true ∨ k = d) (v0 : U.1 252 3 = n + 1) (v1 : U.1 252 (53 + d) = y1) (v2 : U.1 252 (53 + e) = y2) (z0 : S.1 219 3 = n + 1) (z1 : S.1 228 d = y1) (z2 : S.1 228 e = y2) (eN : ∀ k : Nat, True → U.2 258 k = u.2 258 k) (e24 : U.1 249 24 = u.1 249 24) (eS : ∀ c k, 219 ≤ c → c ≤ 231 → ¬ (c = 219 ∧ k = 3) → ¬ (c = 228 ∧ k = d) → ¬ (c = 228 ∧ k = e) → S.1 c k = s.1 c k) (eJ : ∀ c k, 219 ≤ c → c ≤ 231 → S.2 c k = s.2 c k) (eA : ∀ k, k ≠ 3 → k ≠ 53 + d → k ≠ 53 + e → U.1 252 k = u.1 252 k) : FV S U := by
  have W0 := WFv_boxes hf.1
  have W1 := WFv_plots hf.1
  have W2 := WFv_dead hf.1
  have W4 := hf.1.2.2.2.2.1
  obtain ⟨⟨w0, w1, w2, w3, w4, w5, w6, w7, w8, w9, w10⟩, ⟨x0, x1, x2, x3, x4, x5, x6, x7, x8, x9, x10⟩, ⟨n0, n1, n2⟩, a4, a5⟩ := hf
  refine ⟨⟨?_, ?_, ?_, ?_, ?_, ?_, ?_, ?_, ?_, ?_, ?_⟩, ⟨?_, ?_, ?_, ?_, ?_, ?_, ?_, ?_, ?_, ?_, ?_⟩, ⟨?_, ?_, ?_⟩, ?_, ?_⟩
  · rw [eA (0) (by omega) (by omega) (by omega)]; exact w0
  · rw [eA (1) (by omega) (by omega) (by omega)]; exact w1
  · rw [eA (2) (by omega) (by omega) (by omega)]; exact w2
  · rw [v0]; omega
  · rw [eA (4) (by omega) (by omega) (by omega)]; exact w4
  · rw [eA (5) (by omega) (by omega) (by omega)]; exact w5
  · intro b hb; rw [eA (0) (by omega) (by omega) (by omega)] at hb; rw [eA (6 + b) (by omega) (by omega) (by omega), eA (15 + b) (by omega) (by omega) (by omega)]; exact w6 b hb
  · intro b hb; rw [eA (1) (by omega) (by omega) (by omega)] at hb; rw [eA (24 + b) (by omega) (by omega) (by omega)]; exact w7 b hb
  · intro b hb; rw [eA (2) (by omega) (by omega) (by omega)] at hb
    have q8 := w8 b hb
    by_cases q : b = d
    · subst q; rw [v1, eA (29 + b) (by omega) (by omega) (by omega), eA (41 + b) (by omega) (by omega) (by omega), eA (65 + b) (by omega) (by omega) (by omega), eA (0) (by omega) (by omega) (by omega)]; omega
    · by_cases q2 : b = e
      · subst q2; rw [v2, eA (29 + b) (by omega) (by omega) (by omega), eA (41 + b) (by omega) (by omega) (by omega), eA (65 + b) (by omega) (by omega) (by omega), eA (0) (by omega) (by omega) (by omega)]; omega
      · rw [eA (29 + b) (by omega) (by omega) (by omega), eA (41 + b) (by omega) (by omega) (by omega), eA (53 + b) (by omega) (by omega) (by omega), eA (65 + b) (by omega) (by omega) (by omega), eA (0) (by omega) (by omega) (by omega)]; exact q8
  · intro b hb k hk; rw [eA (2) (by omega) (by omega) (by omega)] at hb ⊢
    by_cases q : b = d
    · subst q; rw [v1] at hk
      rcases t1 k hk with r | r
      · exact w9 b hb k r
      · omega
    · by_cases q2 : b = e
      · subst q2; rw [v2] at hk
        rcases t2 k hk with r | r
        · exact w9 b hb k r
        · omega
      · rw [eA (53 + b) (by omega) (by omega) (by omega)] at hk; exact w9 b hb k hk
  · intro b hb; rw [eA (4) (by omega) (by omega) (by omega)] at hb; rw [eA (77 + b) (by omega) (by omega) (by omega), eA (81 + b) (by omega) (by omega) (by omega)]; exact w10 b hb
  · rw [eS 219 (0) (by omega) (by omega) (by omega) (by omega) (by omega), eA (0) (by omega) (by omega) (by omega)]; exact x0
  · rw [eS 219 (1) (by omega) (by omega) (by omega) (by omega) (by omega), eA (1) (by omega) (by omega) (by omega)]; exact x1
  · rw [eS 219 (2) (by omega) (by omega) (by omega) (by omega) (by omega), eA (2) (by omega) (by omega) (by omega)]; exact x2
  · rw [z0, v0]
  · rw [eS 219 (4) (by omega) (by omega) (by omega) (by omega) (by omega), eA (4) (by omega) (by omega) (by omega)]; exact x4
  · rw [eS 219 (5) (by omega) (by omega) (by omega) (by omega) (by omega), eA (5) (by omega) (by omega) (by omega)]; exact x5
  · intro b hb; rw [eA (0) (by omega) (by omega) (by omega)] at hb; rw [eS 221 (b) (by omega) (by omega) (by omega) (by omega) (by omega), eS 222 (b) (by omega) (by omega) (by omega) (by omega) (by omega), eA (6 + b) (by omega) (by omega) (by omega), eA (15 + b) (by omega) (by omega) (by omega)]; exact x6 b hb
  · intro b hb; rw [eA (1) (by omega) (by omega) (by omega)] at hb; rw [eS 224 (b) (by omega) (by omega) (by omega) (by omega) (by omega), eA (24 + b) (by omega) (by omega) (by omega)]; exact x7 b hb
  · intro b hb; rw [eA (2) (by omega) (by omega) (by omega)] at hb
    have q8 := x8 b hb
    by_cases q : b = d
    · subst q; rw [z1, v1, eS 226 (b) (by omega) (by omega) (by omega) (by omega) (by omega), eS 227 (b) (by omega) (by omega) (by omega) (by omega) (by omega), eS 229 (b) (by omega) (by omega) (by omega) (by omega) (by omega), eA (29 + b) (by omega) (by omega) (by omega), eA (41 + b) (by omega) (by omega) (by omega), eA (65 + b) (by omega) (by omega) (by omega)]; exact ⟨q8.1, q8.2.1, rfl, q8.2.2.2⟩
    · by_cases q2 : b = e
      · subst q2; rw [z2, v2, eS 226 (b) (by omega) (by omega) (by omega) (by omega) (by omega), eS 227 (b) (by omega) (by omega) (by omega) (by omega) (by omega), eS 229 (b) (by omega) (by omega) (by omega) (by omega) (by omega), eA (29 + b) (by omega) (by omega) (by omega), eA (41 + b) (by omega) (by omega) (by omega), eA (65 + b) (by omega) (by omega) (by omega)]; exact ⟨q8.1, q8.2.1, rfl, q8.2.2.2⟩
      · rw [eS 226 (b) (by omega) (by omega) (by omega) (by omega) (by omega), eS 227 (b) (by omega) (by omega) (by omega) (by omega) (by omega), eS 228 (b) (by omega) (by omega) (by omega) (by omega) (by omega), eS 229 (b) (by omega) (by omega) (by omega) (by omega) (by omega), eA (29 + b) (by omega) (by omega) (by omega), eA (41 + b) (by omega) (by omega) (by omega), eA (53 + b) (by omega) (by omega) (by omega), eA (65 + b) (by omega) (by omega) (by omega)]; exact q8
  · intro b hb; rw [eA (4) (by omega) (by omega) (by omega)] at hb; rw [eS 230 (b) (by omega) (by omega) (by omega) (by omega) (by omega), eS 231 (b) (by omega) (by omega) (by omega) (by omega) (by omega), eA (77 + b) (by omega) (by omega) (by omega), eA (81 + b) (by omega) (by omega) (by omega)]; exact x9 b hb
  · rw [eS 219 (6) (by omega) (by omega) (by omega) (by omega) (by omega)]; exact x10
  · intro b hb; rw [eA (0) (by omega) (by omega) (by omega)] at hb; rw [eN b (by first | trivial | omega), eJ 220 (b) (by omega) (by omega) ]; exact n0 b hb
  · intro b hb; rw [eA (1) (by omega) (by omega) (by omega)] at hb; rw [eN (9 + b) (by first | trivial | omega), eJ 223 (b) (by omega) (by omega) ]; exact n1 b hb
  · intro b hb; rw [eA (2) (by omega) (by omega) (by omega)] at hb; rw [eN (14 + b) (by first | trivial | omega), eJ 225 (b) (by omega) (by omega) ]; exact n2 b hb
  · rw [eS 219 (6) (by omega) (by omega) (by omega) (by omega) (by omega), e24]; exact a4
  · intro d hd1 hd2; rw [eA (2) (by omega) (by omega) (by omega)] at hd1; rw [eS 228 (d) (by omega) (by omega) (by omega) (by omega) (by omega), eS 229 (d) (by omega) (by omega) (by omega) (by omega) (by omega), eA (53 + d) (by omega) (by omega) (by omega), eA (65 + d) (by omega) (by omega) (by omega)]; exact a5 d hd1 hd2
