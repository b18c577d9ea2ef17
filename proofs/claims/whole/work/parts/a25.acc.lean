/-! ===== written by gen_a25.py: what stands in which cell ===== -/
theorem SR17_day {s : mS} {A : Row} (h : SR s 17 A) : s.1 17 0 = A 85 := h.1
theorem SR17_lent {s : mS} {A : Row} (h : SR s 17 A) {b : Nat} (hb : (b : Int) < A 0) : s.1 18 b = A (86 + b) := (h.2.1 b hb).1
theorem SR17_lier {s : mS} {A : Row} (h : SR s 17 A) {b : Nat} (hb : (b : Int) < A 0) : s.1 19 b = A (95 + b) := (h.2.1 b hb).2.1
theorem SR17_air {s : mS} {A : Row} (h : SR s 17 A) {b : Nat} (hb : (b : Int) < A 0) : A (104 + b) = max 0 (s.1 20 b - A 85) ∧ 0 ≤ s.1 20 b ∧ s.1 20 b ≤ 500 := (h.2.1 b hb).2.2
theorem SR17_had {s : mS} {A : Row} (h : SR s 17 A) {b : Nat} (hb : (b : Int) < 4 * A 0) : s.1 21 b = A (113 + b) := h.2.2.1 b hb
theorem SR17_latest {s : mS} {A : Row} (h : SR s 17 A) {b : Nat} (hb : (b : Int) < A 1) : s.1 22 b = A (154 + b) := (h.2.2.2.1 b hb).1
theorem SR17_rest {s : mS} {A : Row} (h : SR s 17 A) {b : Nat} (hb : (b : Int) < A 1) : A (149 + b) = max 0 (s.1 23 b - A 85) ∧ 0 ≤ s.1 23 b ∧ s.1 23 b ≤ 500 := ⟨(h.2.2.2.1 b hb).2.1, (h.2.2.2.1 b hb).2.2.1, (h.2.2.2.1 b hb).2.2.2.1⟩
theorem SR17_laidm {s : mS} {A : Row} (h : SR s 17 A) {b : Nat} (hb : (b : Int) < A 1) : s.1 24 b = A (159 + b) := (h.2.2.2.1 b hb).2.2.2.2
theorem SR17_how {s : mS} {A : Row} (h : SR s 17 A) {b : Nat} (hb : (b : Int) < A 2) : s.1 25 b = A (164 + b) := (h.2.2.2.2 b hb).1
theorem SR17_inb {s : mS} {A : Row} (h : SR s 17 A) {b : Nat} (hb : (b : Int) < A 2) : s.1 26 b = A (176 + b) := (h.2.2.2.2 b hb).2.1
theorem SR17_inp {s : mS} {A : Row} (h : SR s 17 A) {b : Nat} (hb : (b : Int) < A 2) : s.1 27 b = A (188 + b) := (h.2.2.2.2 b hb).2.2.1
theorem SR17_wait {s : mS} {A : Row} (h : SR s 17 A) {b : Nat} (hb : (b : Int) < A 2) : s.1 28 b = A (200 + b) := (h.2.2.2.2 b hb).2.2.2.1
theorem SR17_lain {s : mS} {A : Row} (h : SR s 17 A) {b : Nat} (hb : (b : Int) < A 2) : s.1 29 b = A (212 + b) := (h.2.2.2.2 b hb).2.2.2.2
theorem SR206_day {s : mS} {A : Row} (h : SR s 206 A) : s.1 206 0 = A 85 := h.1
theorem SR206_lent {s : mS} {A : Row} (h : SR s 206 A) {b : Nat} (hb : (b : Int) < A 0) : s.1 207 b = A (86 + b) := (h.2.1 b hb).1
theorem SR206_lier {s : mS} {A : Row} (h : SR s 206 A) {b : Nat} (hb : (b : Int) < A 0) : s.1 208 b = A (95 + b) := (h.2.1 b hb).2.1
theorem SR206_air {s : mS} {A : Row} (h : SR s 206 A) {b : Nat} (hb : (b : Int) < A 0) : A (104 + b) = max 0 (s.1 209 b - A 85) ∧ 0 ≤ s.1 209 b ∧ s.1 209 b ≤ 500 := (h.2.1 b hb).2.2
theorem SR206_had {s : mS} {A : Row} (h : SR s 206 A) {b : Nat} (hb : (b : Int) < 4 * A 0) : s.1 210 b = A (113 + b) := h.2.2.1 b hb
theorem SR206_latest {s : mS} {A : Row} (h : SR s 206 A) {b : Nat} (hb : (b : Int) < A 1) : s.1 211 b = A (154 + b) := (h.2.2.2.1 b hb).1
theorem SR206_rest {s : mS} {A : Row} (h : SR s 206 A) {b : Nat} (hb : (b : Int) < A 1) : A (149 + b) = max 0 (s.1 212 b - A 85) ∧ 0 ≤ s.1 212 b ∧ s.1 212 b ≤ 500 := ⟨(h.2.2.2.1 b hb).2.1, (h.2.2.2.1 b hb).2.2.1, (h.2.2.2.1 b hb).2.2.2.1⟩
theorem SR206_laidm {s : mS} {A : Row} (h : SR s 206 A) {b : Nat} (hb : (b : Int) < A 1) : s.1 213 b = A (159 + b) := (h.2.2.2.1 b hb).2.2.2.2
theorem SR206_how {s : mS} {A : Row} (h : SR s 206 A) {b : Nat} (hb : (b : Int) < A 2) : s.1 214 b = A (164 + b) := (h.2.2.2.2 b hb).1
theorem SR206_inb {s : mS} {A : Row} (h : SR s 206 A) {b : Nat} (hb : (b : Int) < A 2) : s.1 215 b = A (176 + b) := (h.2.2.2.2 b hb).2.1
theorem SR206_inp {s : mS} {A : Row} (h : SR s 206 A) {b : Nat} (hb : (b : Int) < A 2) : s.1 216 b = A (188 + b) := (h.2.2.2.2 b hb).2.2.1
theorem SR206_wait {s : mS} {A : Row} (h : SR s 206 A) {b : Nat} (hb : (b : Int) < A 2) : s.1 217 b = A (200 + b) := (h.2.2.2.2 b hb).2.2.2.1
theorem SR206_lain {s : mS} {A : Row} (h : SR s 206 A) {b : Nat} (hb : (b : Int) < A 2) : s.1 218 b = A (212 + b) := (h.2.2.2.2 b hb).2.2.2.2
theorem VR4_boxes {s : mS} {A : Row} (h : VR s 4 A) : s.1 4 0 = A 0 := h.1
theorem VR4_plots {s : mS} {A : Row} (h : VR s 4 A) : s.1 4 1 = A 1 := h.2.1
theorem VR4_dead {s : mS} {A : Row} (h : VR s 4 A) : s.1 4 2 = A 2 := h.2.2.1
theorem VR4_kins {s : mS} {A : Row} (h : VR s 4 A) : s.1 4 3 = A 3 := h.2.2.2.1
theorem VR4_frosts {s : mS} {A : Row} (h : VR s 4 A) : s.1 4 4 = A 4 := h.2.2.2.2.1
theorem VR4_airn {s : mS} {A : Row} (h : VR s 4 A) : s.1 4 5 = A 5 := h.2.2.2.2.2.1
theorem VR4_blong {s : mS} {A : Row} (h : VR s 4 A) {b : Nat} (hb : (b : Int) < A 0) : s.1 6 b = A (6 + b) := (h.2.2.2.2.2.2.1 b hb).1
theorem VR4_blast {s : mS} {A : Row} (h : VR s 4 A) {b : Nat} (hb : (b : Int) < A 0) : s.1 7 b = A (15 + b) := (h.2.2.2.2.2.2.1 b hb).2
theorem VR4_prest {s : mS} {A : Row} (h : VR s 4 A) {b : Nat} (hb : (b : Int) < A 1) : s.1 9 b = A (24 + b) := (h.2.2.2.2.2.2.2.1 b hb)
theorem VR4_dlong {s : mS} {A : Row} (h : VR s 4 A) {b : Nat} (hb : (b : Int) < A 2) : s.1 11 b = A (29 + b) := (h.2.2.2.2.2.2.2.2.1 b hb).1
theorem VR4_dday {s : mS} {A : Row} (h : VR s 4 A) {b : Nat} (hb : (b : Int) < A 2) : s.1 12 b = A (41 + b) := (h.2.2.2.2.2.2.2.2.1 b hb).2.1
theorem VR4_kin {s : mS} {A : Row} (h : VR s 4 A) {b : Nat} (hb : (b : Int) < A 2) : s.1 13 b = A (53 + b) := (h.2.2.2.2.2.2.2.2.1 b hb).2.2.1
theorem VR4_asks {s : mS} {A : Row} (h : VR s 4 A) {b : Nat} (hb : (b : Int) < A 2) : s.1 14 b = A (65 + b) - 1 := (h.2.2.2.2.2.2.2.2.1 b hb).2.2.2
theorem VR4_ffrom {s : mS} {A : Row} (h : VR s 4 A) {b : Nat} (hb : (b : Int) < A 4) : s.1 15 b = A (77 + b) := (h.2.2.2.2.2.2.2.2.2.1 b hb).1
theorem VR4_fmany {s : mS} {A : Row} (h : VR s 4 A) {b : Nat} (hb : (b : Int) < A 4) : s.1 16 b = A (81 + b) := (h.2.2.2.2.2.2.2.2.2.1 b hb).2
theorem VR4_bool {s : mS} {A : Row} (h : VR s 4 A) : s.1 4 6 = 0 ∨ s.1 4 6 = 1 := h.2.2.2.2.2.2.2.2.2.2
theorem VR219_boxes {s : mS} {A : Row} (h : VR s 219 A) : s.1 219 0 = A 0 := h.1
theorem VR219_plots {s : mS} {A : Row} (h : VR s 219 A) : s.1 219 1 = A 1 := h.2.1
theorem VR219_dead {s : mS} {A : Row} (h : VR s 219 A) : s.1 219 2 = A 2 := h.2.2.1
theorem VR219_kins {s : mS} {A : Row} (h : VR s 219 A) : s.1 219 3 = A 3 := h.2.2.2.1
theorem VR219_frosts {s : mS} {A : Row} (h : VR s 219 A) : s.1 219 4 = A 4 := h.2.2.2.2.1
theorem VR219_airn {s : mS} {A : Row} (h : VR s 219 A) : s.1 219 5 = A 5 := h.2.2.2.2.2.1
theorem VR219_blong {s : mS} {A : Row} (h : VR s 219 A) {b : Nat} (hb : (b : Int) < A 0) : s.1 221 b = A (6 + b) := (h.2.2.2.2.2.2.1 b hb).1
theorem VR219_blast {s : mS} {A : Row} (h : VR s 219 A) {b : Nat} (hb : (b : Int) < A 0) : s.1 222 b = A (15 + b) := (h.2.2.2.2.2.2.1 b hb).2
theorem VR219_prest {s : mS} {A : Row} (h : VR s 219 A) {b : Nat} (hb : (b : Int) < A 1) : s.1 224 b = A (24 + b) := (h.2.2.2.2.2.2.2.1 b hb)
theorem VR219_dlong {s : mS} {A : Row} (h : VR s 219 A) {b : Nat} (hb : (b : Int) < A 2) : s.1 226 b = A (29 + b) := (h.2.2.2.2.2.2.2.2.1 b hb).1
theorem VR219_dday {s : mS} {A : Row} (h : VR s 219 A) {b : Nat} (hb : (b : Int) < A 2) : s.1 227 b = A (41 + b) := (h.2.2.2.2.2.2.2.2.1 b hb).2.1
theorem VR219_kin {s : mS} {A : Row} (h : VR s 219 A) {b : Nat} (hb : (b : Int) < A 2) : s.1 228 b = A (53 + b) := (h.2.2.2.2.2.2.2.2.1 b hb).2.2.1
theorem VR219_asks {s : mS} {A : Row} (h : VR s 219 A) {b : Nat} (hb : (b : Int) < A 2) : s.1 229 b = A (65 + b) - 1 := (h.2.2.2.2.2.2.2.2.1 b hb).2.2.2
theorem VR219_ffrom {s : mS} {A : Row} (h : VR s 219 A) {b : Nat} (hb : (b : Int) < A 4) : s.1 230 b = A (77 + b) := (h.2.2.2.2.2.2.2.2.2.1 b hb).1
theorem VR219_fmany {s : mS} {A : Row} (h : VR s 219 A) {b : Nat} (hb : (b : Int) < A 4) : s.1 231 b = A (81 + b) := (h.2.2.2.2.2.2.2.2.2.1 b hb).2
theorem VR219_bool {s : mS} {A : Row} (h : VR s 219 A) : s.1 219 6 = 0 ∨ s.1 219 6 = 1 := h.2.2.2.2.2.2.2.2.2.2
theorem WFv_boxes {A : Row} (h : WFv A) : 0 ≤ A 0 ∧ A 0 ≤ 9 := h.1
theorem WFv_plots {A : Row} (h : WFv A) : 0 ≤ A 1 ∧ A 1 ≤ 5 := h.2.1
theorem WFv_dead {A : Row} (h : WFv A) : 0 ≤ A 2 ∧ A 2 ≤ 12 := h.2.2.1
theorem WFv_kins {A : Row} (h : WFv A) : 0 ≤ A 3 ∧ A 3 ≤ 12 := h.2.2.2.1
theorem WFv_frosts {A : Row} (h : WFv A) : 0 ≤ A 4 ∧ A 4 ≤ 4 := h.2.2.2.2.1
theorem WFv_airn {A : Row} (h : WFv A) : 0 ≤ A 5 ∧ A 5 ≤ 9 := h.2.2.2.2.2.1
theorem WFv_box {A : Row} (h : WFv A) {b : Nat} (hb : (b : Int) < A 0) : 10 ≤ A (6 + b) ∧ A (6 + b) ≤ 99 ∧ 1 ≤ A (15 + b) ∧ A (15 + b) ≤ 99 := h.2.2.2.2.2.2.1 b hb
theorem WFv_plot {A : Row} (h : WFv A) {b : Nat} (hb : (b : Int) < A 1) : 0 ≤ A (24 + b) ∧ A (24 + b) ≤ 60 := h.2.2.2.2.2.2.2.1 b hb
theorem WFv_one {A : Row} (h : WFv A) {d : Nat} (hb : (d : Int) < A 2) : 10 ≤ A (29 + d) ∧ A (29 + d) ≤ 99 ∧ 0 ≤ A (41 + d) ∧ A (41 + d) ≤ 99 ∧ 0 ≤ A (53 + d) ∧ A (53 + d) < 4096 ∧ 0 ≤ A (65 + d) ∧ A (65 + d) ≤ A 0 := h.2.2.2.2.2.2.2.2.1 d hb
theorem WFv_kin {A : Row} (h : WFv A) {d : Nat} (hb : (d : Int) < A 2) : ∀ e : Nat, (A (53 + d)).toNat.testBit e = true → (e : Int) < A 2 := h.2.2.2.2.2.2.2.2.2.1 d hb
theorem WFv_frost {A : Row} (h : WFv A) {f : Nat} (hb : (f : Int) < A 4) : 0 ≤ A (77 + f) ∧ A (77 + f) ≤ 199 ∧ 1 ≤ A (81 + f) ∧ A (81 + f) ≤ 60 := h.2.2.2.2.2.2.2.2.2.2 f hb
theorem WFs_day {A : Row} (h : WFs A) : 0 ≤ A 85 ∧ A 85 ≤ 400 := h.1
theorem WFs_box {A : Row} (h : WFs A) {b : Nat} (hb : (b : Int) < A 0) : 0 ≤ A (86 + b) ∧ A (86 + b) ≤ A (15 + b) ∧ 0 ≤ A (104 + b) ∧ A (104 + b) ≤ 9 := h.2.1 b hb
theorem WFs_lier {A : Row} (h : WFs A) {b : Nat} (hb : (b : Int) < A 0) : A (95 + b) = -1 ∨ (0 ≤ A (95 + b) ∧ A (95 + b) < A 2 ∧ A (164 + (A (95 + b)).toNat) = 2 ∧ A (176 + (A (95 + b)).toNat) = (b : Int)) := h.2.2.1 b hb
theorem WFs_plot {A : Row} (h : WFs A) {p : Nat} (hb : (p : Int) < A 1) : -1 ≤ A (154 + p) ∧ A (154 + p) < A 2 ∧ 0 ≤ A (149 + p) ∧ A (149 + p) ≤ 60 := h.2.2.2.1 p hb
theorem WFs_dead {A : Row} (h : WFs A) {d : Nat} (hb : (d : Int) < A 2) : 0 ≤ A (164 + d) ∧ A (164 + d) ≤ 3 ∧ 0 ≤ A (200 + d) ∧ A (200 + d) ≤ A 85 ∧ 0 ≤ A (212 + d) ∧ A (212 + d) ≤ A 85 ∧ (A (164 + d) = 0 → A 85 < A (41 + d)) := h.2.2.2.2.1 d hb
theorem WFs_inb {A : Row} (h : WFs A) {d : Nat} (hb : (d : Int) < A 2) : A (164 + d) = 2 → 0 ≤ A (176 + d) ∧ A (176 + d) < A 0 ∧ A (95 + (A (176 + d)).toNat) = (d : Int) := h.2.2.2.2.2.1 d hb
theorem WFs_nob {A : Row} (h : WFs A) {d : Nat} (hb : (d : Int) < A 2) : A (164 + d) ≠ 2 → A (176 + d) = -1 := h.2.2.2.2.2.2.1 d hb
theorem WFs_inp {A : Row} (h : WFs A) {d : Nat} (hb : (d : Int) < A 2) : A (164 + d) = 3 → 0 ≤ A (188 + d) ∧ A (188 + d) < A 1 := h.2.2.2.2.2.2.2.1 d hb
theorem WFs_nop {A : Row} (h : WFs A) {d : Nat} (hb : (d : Int) < A 2) : A (164 + d) ≠ 3 → A (188 + d) = -1 := h.2.2.2.2.2.2.2.2 d hb
