/-! ===== written by gen_a31.py: what stands where behind an act ===== -/
theorem lends_lo {A : Row} {d b : Nat} (hd : d < 12) (hb : b < 9) {i : Nat} (hi : i < 85) : lends A d b i = A i := by
  unfold lends; grind
theorem lends_day {A : Row} {d b : Nat} (hd : d < 12) (hb : b < 9) : lends A d b 85 = A 85 := by
  unfold lends; grind
theorem lends_lent {A : Row} {d b : Nat} (hd : d < 12) (hb : b < 9) {i : Nat} (hi : i < 9) : lends A d b (86 + i) = if i = b then A (86 + b) + 1 else A (86 + i) := by
  unfold lends; grind
theorem lends_lier {A : Row} {d b : Nat} (hd : d < 12) (hb : b < 9) {i : Nat} (hi : i < 9) : lends A d b (95 + i) = if i = b then (d : Int) else A (95 + i) := by
  unfold lends; grind
theorem lends_air {A : Row} {d b : Nat} (hd : d < 12) (hb : b < 9) {i : Nat} (hi : i < 9) : lends A d b (104 + i) = A (104 + i) := by
  unfold lends; grind
theorem lends_had {A : Row} {d b : Nat} (hd : d < 12) (hb : b < 9) {i : Nat} (hi : i < 36) : lends A d b (113 + i) = if i = 4 * b then (d : Int) else if i = 4 * b + 1 then A (113 + 4 * b) else if i = 4 * b + 2 then A (114 + 4 * b) else if i = 4 * b + 3 then A (115 + 4 * b) else A (113 + i) := by
  unfold lends; grind
theorem lends_rest {A : Row} {d b : Nat} (hd : d < 12) (hb : b < 9) {i : Nat} (hi : i < 5) : lends A d b (149 + i) = A (149 + i) := by
  unfold lends; grind
theorem lends_lat {A : Row} {d b : Nat} (hd : d < 12) (hb : b < 9) {i : Nat} (hi : i < 5) : lends A d b (154 + i) = A (154 + i) := by
  unfold lends; grind
theorem lends_laidm {A : Row} {d b : Nat} (hd : d < 12) (hb : b < 9) {i : Nat} (hi : i < 5) : lends A d b (159 + i) = A (159 + i) := by
  unfold lends; grind
theorem lends_how {A : Row} {d b : Nat} (hd : d < 12) (hb : b < 9) {i : Nat} (hi : i < 12) : lends A d b (164 + i) = if i = d then 2 else A (164 + i) := by
  unfold lends; grind
theorem lends_inb {A : Row} {d b : Nat} (hd : d < 12) (hb : b < 9) {i : Nat} (hi : i < 12) : lends A d b (176 + i) = if i = d then (b : Int) else A (176 + i) := by
  unfold lends; grind
theorem lends_inp {A : Row} {d b : Nat} (hd : d < 12) (hb : b < 9) {i : Nat} (hi : i < 12) : lends A d b (188 + i) = A (188 + i) := by
  unfold lends; grind
theorem lends_wait {A : Row} {d b : Nat} (hd : d < 12) (hb : b < 9) {i : Nat} (hi : i < 12) : lends A d b (200 + i) = A (200 + i) := by
  unfold lends; grind
theorem lends_lain {A : Row} {d b : Nat} (hd : d < 12) (hb : b < 9) {i : Nat} (hi : i < 12) : lends A d b (212 + i) = A (212 + i) := by
  unfold lends; grind
theorem lays_lo {A : Row} {d p : Nat} (hd : d < 12) (hp : p < 5) (hb : (A (176 + d)).toNat < 9) {i : Nat} (hi : i < 85) : lays A d p i = A i := by
  unfold lays; grind
theorem lays_day {A : Row} {d p : Nat} (hd : d < 12) (hp : p < 5) (hb : (A (176 + d)).toNat < 9) : lays A d p 85 = A 85 := by
  unfold lays; grind
theorem lays_lent {A : Row} {d p : Nat} (hd : d < 12) (hp : p < 5) (hb : (A (176 + d)).toNat < 9) {i : Nat} (hi : i < 9) : lays A d p (86 + i) = A (86 + i) := by
  unfold lays; grind
theorem lays_lier {A : Row} {d p : Nat} (hd : d < 12) (hp : p < 5) (hb : (A (176 + d)).toNat < 9) {i : Nat} (hi : i < 9) : lays A d p (95 + i) = if i = (A (176 + d)).toNat then -1 else A (95 + i) := by
  unfold lays; grind
theorem lays_air {A : Row} {d p : Nat} (hd : d < 12) (hp : p < 5) (hb : (A (176 + d)).toNat < 9) {i : Nat} (hi : i < 9) : lays A d p (104 + i) = if i = (A (176 + d)).toNat then A 5 else A (104 + i) := by
  unfold lays; grind
theorem lays_had {A : Row} {d p : Nat} (hd : d < 12) (hp : p < 5) (hb : (A (176 + d)).toNat < 9) {i : Nat} (hi : i < 36) : lays A d p (113 + i) = A (113 + i) := by
  unfold lays; grind
theorem lays_rest {A : Row} {d p : Nat} (hd : d < 12) (hp : p < 5) (hb : (A (176 + d)).toNat < 9) {i : Nat} (hi : i < 5) : lays A d p (149 + i) = if i = p then A (24 + p) else A (149 + i) := by
  unfold lays; grind
theorem lays_lat {A : Row} {d p : Nat} (hd : d < 12) (hp : p < 5) (hb : (A (176 + d)).toNat < 9) {i : Nat} (hi : i < 5) : lays A d p (154 + i) = if i = p then (d : Int) else A (154 + i) := by
  unfold lays; grind
theorem lays_laidm {A : Row} {d p : Nat} (hd : d < 12) (hp : p < 5) (hb : (A (176 + d)).toNat < 9) {i : Nat} (hi : i < 5) : lays A d p (159 + i) = if i = p then w32 (A (159 + p) + 1) else A (159 + i) := by
  unfold lays; grind
theorem lays_how {A : Row} {d p : Nat} (hd : d < 12) (hp : p < 5) (hb : (A (176 + d)).toNat < 9) {i : Nat} (hi : i < 12) : lays A d p (164 + i) = if i = d then 3 else A (164 + i) := by
  unfold lays; grind
theorem lays_inb {A : Row} {d p : Nat} (hd : d < 12) (hp : p < 5) (hb : (A (176 + d)).toNat < 9) {i : Nat} (hi : i < 12) : lays A d p (176 + i) = if i = d then -1 else A (176 + i) := by
  unfold lays; grind
theorem lays_inp {A : Row} {d p : Nat} (hd : d < 12) (hp : p < 5) (hb : (A (176 + d)).toNat < 9) {i : Nat} (hi : i < 12) : lays A d p (188 + i) = if i = d then (p : Int) else A (188 + i) := by
  unfold lays; grind
theorem lays_wait {A : Row} {d p : Nat} (hd : d < 12) (hp : p < 5) (hb : (A (176 + d)).toNat < 9) {i : Nat} (hi : i < 12) : lays A d p (200 + i) = A (200 + i) := by
  unfold lays; grind
theorem lays_lain {A : Row} {d p : Nat} (hd : d < 12) (hp : p < 5) (hb : (A (176 + d)).toNat < 9) {i : Nat} (hi : i < 12) : lays A d p (212 + i) = A (212 + i) := by
  unfold lays; grind
theorem swaps_lo {A : Row} {d e : Nat} (hd : d < 12) (he : e < 12) (hb : (A (176 + d)).toNat < 9) (hc : (A (176 + e)).toNat < 9) {i : Nat} (hi : i < 85) : swaps A d e i = A i := by
  unfold swaps; grind
theorem swaps_day {A : Row} {d e : Nat} (hd : d < 12) (he : e < 12) (hb : (A (176 + d)).toNat < 9) (hc : (A (176 + e)).toNat < 9) : swaps A d e 85 = A 85 := by
  unfold swaps; grind
theorem swaps_lent {A : Row} {d e : Nat} (hd : d < 12) (he : e < 12) (hb : (A (176 + d)).toNat < 9) (hc : (A (176 + e)).toNat < 9) {i : Nat} (hi : i < 9) : swaps A d e (86 + i) = A (86 + i) := by
  unfold swaps; grind
theorem swaps_lier {A : Row} {d e : Nat} (hd : d < 12) (he : e < 12) (hb : (A (176 + d)).toNat < 9) (hc : (A (176 + e)).toNat < 9) {i : Nat} (hi : i < 9) : swaps A d e (95 + i) = if i = (A (176 + e)).toNat then (d : Int) else if i = (A (176 + d)).toNat then (e : Int) else A (95 + i) := by
  unfold swaps; grind
theorem swaps_air {A : Row} {d e : Nat} (hd : d < 12) (he : e < 12) (hb : (A (176 + d)).toNat < 9) (hc : (A (176 + e)).toNat < 9) {i : Nat} (hi : i < 9) : swaps A d e (104 + i) = A (104 + i) := by
  unfold swaps; grind
theorem swaps_had {A : Row} {d e : Nat} (hd : d < 12) (he : e < 12) (hb : (A (176 + d)).toNat < 9) (hc : (A (176 + e)).toNat < 9) {i : Nat} (hi : i < 36) : swaps A d e (113 + i) = A (113 + i) := by
  unfold swaps; grind
theorem swaps_rest {A : Row} {d e : Nat} (hd : d < 12) (he : e < 12) (hb : (A (176 + d)).toNat < 9) (hc : (A (176 + e)).toNat < 9) {i : Nat} (hi : i < 5) : swaps A d e (149 + i) = A (149 + i) := by
  unfold swaps; grind
theorem swaps_lat {A : Row} {d e : Nat} (hd : d < 12) (he : e < 12) (hb : (A (176 + d)).toNat < 9) (hc : (A (176 + e)).toNat < 9) {i : Nat} (hi : i < 5) : swaps A d e (154 + i) = A (154 + i) := by
  unfold swaps; grind
theorem swaps_laidm {A : Row} {d e : Nat} (hd : d < 12) (he : e < 12) (hb : (A (176 + d)).toNat < 9) (hc : (A (176 + e)).toNat < 9) {i : Nat} (hi : i < 5) : swaps A d e (159 + i) = A (159 + i) := by
  unfold swaps; grind
theorem swaps_how {A : Row} {d e : Nat} (hd : d < 12) (he : e < 12) (hb : (A (176 + d)).toNat < 9) (hc : (A (176 + e)).toNat < 9) {i : Nat} (hi : i < 12) : swaps A d e (164 + i) = A (164 + i) := by
  unfold swaps; grind
theorem swaps_inb {A : Row} {d e : Nat} (hd : d < 12) (he : e < 12) (hb : (A (176 + d)).toNat < 9) (hc : (A (176 + e)).toNat < 9) {i : Nat} (hi : i < 12) : swaps A d e (176 + i) = if i = d then A (176 + e) else if i = e then A (176 + d) else A (176 + i) := by
  unfold swaps; grind
theorem swaps_inp {A : Row} {d e : Nat} (hd : d < 12) (he : e < 12) (hb : (A (176 + d)).toNat < 9) (hc : (A (176 + e)).toNat < 9) {i : Nat} (hi : i < 12) : swaps A d e (188 + i) = A (188 + i) := by
  unfold swaps; grind
theorem swaps_wait {A : Row} {d e : Nat} (hd : d < 12) (he : e < 12) (hb : (A (176 + d)).toNat < 9) (hc : (A (176 + e)).toNat < 9) {i : Nat} (hi : i < 12) : swaps A d e (200 + i) = A (200 + i) := by
  unfold swaps; grind
theorem swaps_lain {A : Row} {d e : Nat} (hd : d < 12) (he : e < 12) (hb : (A (176 + d)).toNat < 9) (hc : (A (176 + e)).toNat < 9) {i : Nat} (hi : i < 12) : swaps A d e (212 + i) = A (212 + i) := by
  unfold swaps; grind
theorem mends_lo {A : Row} {b : Nat} (hb : b < 9) {i : Nat} (hi : i < 85) : mends A b i = A i := by
  unfold mends; grind
theorem mends_day {A : Row} {b : Nat} (hb : b < 9) : mends A b 85 = A 85 := by
  unfold mends; grind
theorem mends_lent {A : Row} {b : Nat} (hb : b < 9) {i : Nat} (hi : i < 9) : mends A b (86 + i) = if i = b then 0 else A (86 + i) := by
  unfold mends; grind
theorem mends_lier {A : Row} {b : Nat} (hb : b < 9) {i : Nat} (hi : i < 9) : mends A b (95 + i) = A (95 + i) := by
  unfold mends; grind
theorem mends_air {A : Row} {b : Nat} (hb : b < 9) {i : Nat} (hi : i < 9) : mends A b (104 + i) = A (104 + i) := by
  unfold mends; grind
theorem mends_had {A : Row} {b : Nat} (hb : b < 9) {i : Nat} (hi : i < 36) : mends A b (113 + i) = A (113 + i) := by
  unfold mends; grind
theorem mends_rest {A : Row} {b : Nat} (hb : b < 9) {i : Nat} (hi : i < 5) : mends A b (149 + i) = A (149 + i) := by
  unfold mends; grind
theorem mends_lat {A : Row} {b : Nat} (hb : b < 9) {i : Nat} (hi : i < 5) : mends A b (154 + i) = A (154 + i) := by
  unfold mends; grind
theorem mends_laidm {A : Row} {b : Nat} (hb : b < 9) {i : Nat} (hi : i < 5) : mends A b (159 + i) = A (159 + i) := by
  unfold mends; grind
theorem mends_how {A : Row} {b : Nat} (hb : b < 9) {i : Nat} (hi : i < 12) : mends A b (164 + i) = A (164 + i) := by
  unfold mends; grind
theorem mends_inb {A : Row} {b : Nat} (hb : b < 9) {i : Nat} (hi : i < 12) : mends A b (176 + i) = A (176 + i) := by
  unfold mends; grind
theorem mends_inp {A : Row} {b : Nat} (hb : b < 9) {i : Nat} (hi : i < 12) : mends A b (188 + i) = A (188 + i) := by
  unfold mends; grind
theorem mends_wait {A : Row} {b : Nat} (hb : b < 9) {i : Nat} (hi : i < 12) : mends A b (200 + i) = A (200 + i) := by
  unfold mends; grind
theorem mends_lain {A : Row} {b : Nat} (hb : b < 9) {i : Nat} (hi : i < 12) : mends A b (212 + i) = A (212 + i) := by
  unfold mends; grind
theorem comes_lo {A : Row} (hn : A 2 ≤ 12) {i : Nat} (hi : i < 85) : comes A i = A i := by
  unfold comes; grind
theorem comes_day {A : Row} (hn : A 2 ≤ 12) : comes A 85 = A 85 := by
  unfold comes; grind
theorem comes_lent {A : Row} (hn : A 2 ≤ 12) {i : Nat} (hi : i < 9) : comes A (86 + i) = A (86 + i) := by
  unfold comes; grind
theorem comes_lier {A : Row} (hn : A 2 ≤ 12) {i : Nat} (hi : i < 9) : comes A (95 + i) = A (95 + i) := by
  unfold comes; grind
theorem comes_air {A : Row} (hn : A 2 ≤ 12) {i : Nat} (hi : i < 9) : comes A (104 + i) = A (104 + i) := by
  unfold comes; grind
theorem comes_had {A : Row} (hn : A 2 ≤ 12) {i : Nat} (hi : i < 36) : comes A (113 + i) = A (113 + i) := by
  unfold comes; grind
theorem comes_rest {A : Row} (hn : A 2 ≤ 12) {i : Nat} (hi : i < 5) : comes A (149 + i) = A (149 + i) := by
  unfold comes; grind
theorem comes_lat {A : Row} (hn : A 2 ≤ 12) {i : Nat} (hi : i < 5) : comes A (154 + i) = A (154 + i) := by
  unfold comes; grind
theorem comes_laidm {A : Row} (hn : A 2 ≤ 12) {i : Nat} (hi : i < 5) : comes A (159 + i) = A (159 + i) := by
  unfold comes; grind
theorem comes_how {A : Row} (hn : A 2 ≤ 12) {i : Nat} (hi : i < 12) : comes A (164 + i) = if (i : Int) < A 2 ∧ A (164 + i) = 0 ∧ A (41 + i) = A 85 then 1 else A (164 + i) := by
  unfold comes; grind
theorem comes_inb {A : Row} (hn : A 2 ≤ 12) {i : Nat} (hi : i < 12) : comes A (176 + i) = A (176 + i) := by
  unfold comes; grind
theorem comes_inp {A : Row} (hn : A 2 ≤ 12) {i : Nat} (hi : i < 12) : comes A (188 + i) = A (188 + i) := by
  unfold comes; grind
theorem comes_wait {A : Row} (hn : A 2 ≤ 12) {i : Nat} (hi : i < 12) : comes A (200 + i) = A (200 + i) := by
  unfold comes; grind
theorem comes_lain {A : Row} (hn : A 2 ≤ 12) {i : Nat} (hi : i < 12) : comes A (212 + i) = A (212 + i) := by
  unfold comes; grind
