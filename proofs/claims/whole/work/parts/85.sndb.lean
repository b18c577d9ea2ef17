/-! ===== written by gen_snd.py ===== -/
section Arith
variable {p : Program} {l : Launch} {e : Env} {R : Room} {s0 : State} {m : MethodId} {args : Array Value} {below : List Frame} {meth : Method} {c : Code} {Q : State → Prop} {D : va_G} {cT : Nat → ClassId} {B0 : Nat} {G : mG} {nL : Nat} {bud : Nat × Nat}
variable {cc : ByteArray} {q : Nat} {L : mL} {S : List mV} {T : mT} {s : mS} {cs : Nat × Nat} {x y : Int}
theorem ok_iadd (hx : p.tables.exec = Jvm.exec) (hb : c.code = cc) (hd : decode cc q = .ok (.iadd, 1)) (hk : Wat p l e R s0 m args below meth c Q D cT B0 G nL bud (q + 1) L (iv (w32 (x + y)) :: S) T s cs) : Wat p l e R s0 m args below meth c Q D cT B0 G nL bud q L (iv y :: iv x :: S) T s cs := by
  intro φ H locs ls hS hl hL hc hbd
  have hy := cS_head hc
  have hxx := cS_head (cS_tail hc)
  have k := hk φ H locs ls hS hl hL (cS_cons (show canV T (iv (w32 (x + y))) from can_w32 _) (cS_tail (cS_tail hc))) hbd
  exact lv_iadd hx hb hd (by rw [i32_add]; exact k)
theorem ok_isub (hx : p.tables.exec = Jvm.exec) (hb : c.code = cc) (hd : decode cc q = .ok (.isub, 1)) (hk : Wat p l e R s0 m args below meth c Q D cT B0 G nL bud (q + 1) L (iv (w32 (x - y)) :: S) T s cs) : Wat p l e R s0 m args below meth c Q D cT B0 G nL bud q L (iv y :: iv x :: S) T s cs := by
  intro φ H locs ls hS hl hL hc hbd
  have hy := cS_head hc
  have hxx := cS_head (cS_tail hc)
  have k := hk φ H locs ls hS hl hL (cS_cons (show canV T (iv (w32 (x - y))) from can_w32 _) (cS_tail (cS_tail hc))) hbd
  exact lv_isub hx hb hd (by rw [i32_sub]; exact k)
theorem ok_imul (hx : p.tables.exec = Jvm.exec) (hb : c.code = cc) (hd : decode cc q = .ok (.imul, 1)) (hk : Wat p l e R s0 m args below meth c Q D cT B0 G nL bud (q + 1) L (iv (w32 (x * y)) :: S) T s cs) : Wat p l e R s0 m args below meth c Q D cT B0 G nL bud q L (iv y :: iv x :: S) T s cs := by
  intro φ H locs ls hS hl hL hc hbd
  have hy := cS_head hc
  have hxx := cS_head (cS_tail hc)
  have k := hk φ H locs ls hS hl hL (cS_cons (show canV T (iv (w32 (x * y))) from can_w32 _) (cS_tail (cS_tail hc))) hbd
  exact lv_imul hx hb hd (by rw [i32_mul]; exact k)
theorem ok_iand (hx : p.tables.exec = Jvm.exec) (hb : c.code = cc) (hd : decode cc q = .ok (.iand, 1)) (hk : Wat p l e R s0 m args below meth c Q D cT B0 G nL bud (q + 1) L (iv (band x y) :: S) T s cs) : Wat p l e R s0 m args below meth c Q D cT B0 G nL bud q L (iv y :: iv x :: S) T s cs := by
  intro φ H locs ls hS hl hL hc hbd
  have hy := cS_head hc
  have hxx := cS_head (cS_tail hc)
  have k := hk φ H locs ls hS hl hL (cS_cons (show canV T (iv (band x y)) from can_band _ _) (cS_tail (cS_tail hc))) hbd
  exact lv_iand hx hb hd (by rw [i32_and]; exact k)
theorem ok_ior (hx : p.tables.exec = Jvm.exec) (hb : c.code = cc) (hd : decode cc q = .ok (.ior, 1)) (hk : Wat p l e R s0 m args below meth c Q D cT B0 G nL bud (q + 1) L (iv (bor x y) :: S) T s cs) : Wat p l e R s0 m args below meth c Q D cT B0 G nL bud q L (iv y :: iv x :: S) T s cs := by
  intro φ H locs ls hS hl hL hc hbd
  have hy := cS_head hc
  have hxx := cS_head (cS_tail hc)
  have k := hk φ H locs ls hS hl hL (cS_cons (show canV T (iv (bor x y)) from can_bor _ _) (cS_tail (cS_tail hc))) hbd
  exact lv_ior hx hb hd (by rw [i32_or]; exact k)
theorem ok_ixor (hx : p.tables.exec = Jvm.exec) (hb : c.code = cc) (hd : decode cc q = .ok (.ixor, 1)) (hk : Wat p l e R s0 m args below meth c Q D cT B0 G nL bud (q + 1) L (iv (bxor x y) :: S) T s cs) : Wat p l e R s0 m args below meth c Q D cT B0 G nL bud q L (iv y :: iv x :: S) T s cs := by
  intro φ H locs ls hS hl hL hc hbd
  have hy := cS_head hc
  have hxx := cS_head (cS_tail hc)
  have k := hk φ H locs ls hS hl hL (cS_cons (show canV T (iv (bxor x y)) from can_bxor _ _) (cS_tail (cS_tail hc))) hbd
  exact lv_ixor hx hb hd (by rw [i32_xor]; exact k)
theorem ok_ishl (hx : p.tables.exec = Jvm.exec) (hb : c.code = cc) (hd : decode cc q = .ok (.ishl, 1)) (hk : Wat p l e R s0 m args below meth c Q D cT B0 G nL bud (q + 1) L (iv (bshl x y) :: S) T s cs) : Wat p l e R s0 m args below meth c Q D cT B0 G nL bud q L (iv y :: iv x :: S) T s cs := by
  intro φ H locs ls hS hl hL hc hbd
  have hy := cS_head hc
  have hxx := cS_head (cS_tail hc)
  have k := hk φ H locs ls hS hl hL (cS_cons (show canV T (iv (bshl x y)) from can_bshl _ _) (cS_tail (cS_tail hc))) hbd
  exact lv_ishl hx hb hd (by rw [i32_shl]; exact k)
theorem ok_ishr (hx : p.tables.exec = Jvm.exec) (hb : c.code = cc) (hd : decode cc q = .ok (.ishr, 1)) (hk : Wat p l e R s0 m args below meth c Q D cT B0 G nL bud (q + 1) L (iv (bshr x y) :: S) T s cs) : Wat p l e R s0 m args below meth c Q D cT B0 G nL bud q L (iv y :: iv x :: S) T s cs := by
  intro φ H locs ls hS hl hL hc hbd
  have hy := cS_head hc
  have hxx := cS_head (cS_tail hc)
  have k := hk φ H locs ls hS hl hL (cS_cons (show canV T (iv (bshr x y)) from can_bshr _ _) (cS_tail (cS_tail hc))) hbd
  exact lv_ishr hx hb hd (by rw [i32_shr]; exact k)
theorem ok_iushr (hx : p.tables.exec = Jvm.exec) (hb : c.code = cc) (hd : decode cc q = .ok (.iushr, 1)) (hk : Wat p l e R s0 m args below meth c Q D cT B0 G nL bud (q + 1) L (iv (bushr x y) :: S) T s cs) : Wat p l e R s0 m args below meth c Q D cT B0 G nL bud q L (iv y :: iv x :: S) T s cs := by
  intro φ H locs ls hS hl hL hc hbd
  have hy := cS_head hc
  have hxx := cS_head (cS_tail hc)
  have k := hk φ H locs ls hS hl hL (cS_cons (show canV T (iv (bushr x y)) from can_bushr _ _) (cS_tail (cS_tail hc))) hbd
  exact lv_iushr hx hb hd (i32_ushr x y) k
theorem ok_ladd (hx : p.tables.exec = Jvm.exec) (hb : c.code = cc) (hd : decode cc q = .ok (.ladd, 1)) (hk : Wat p l e R s0 m args below meth c Q D cT B0 G nL bud (q + 1) L (jv (w64 (x + y)) :: S) T s cs) : Wat p l e R s0 m args below meth c Q D cT B0 G nL bud q L (jv y :: jv x :: S) T s cs := by
  intro φ H locs ls hS hl hL hc hbd
  have hy := cS_head hc
  have hxx := cS_head (cS_tail hc)
  have k := hk φ H locs ls hS hl hL (cS_cons (show canV T (jv (w64 (x + y))) from canJ_w64 _) (cS_tail (cS_tail hc))) hbd
  exact lv_ladd hx hb hd (by rw [i64_add]; exact k)
theorem ok_lsub (hx : p.tables.exec = Jvm.exec) (hb : c.code = cc) (hd : decode cc q = .ok (.lsub, 1)) (hk : Wat p l e R s0 m args below meth c Q D cT B0 G nL bud (q + 1) L (jv (w64 (x - y)) :: S) T s cs) : Wat p l e R s0 m args below meth c Q D cT B0 G nL bud q L (jv y :: jv x :: S) T s cs := by
  intro φ H locs ls hS hl hL hc hbd
  have hy := cS_head hc
  have hxx := cS_head (cS_tail hc)
  have k := hk φ H locs ls hS hl hL (cS_cons (show canV T (jv (w64 (x - y))) from canJ_w64 _) (cS_tail (cS_tail hc))) hbd
  exact lv_lsub hx hb hd (by rw [i64_sub]; exact k)
theorem ok_lmul (hx : p.tables.exec = Jvm.exec) (hb : c.code = cc) (hd : decode cc q = .ok (.lmul, 1)) (hk : Wat p l e R s0 m args below meth c Q D cT B0 G nL bud (q + 1) L (jv (w64 (x * y)) :: S) T s cs) : Wat p l e R s0 m args below meth c Q D cT B0 G nL bud q L (jv y :: jv x :: S) T s cs := by
  intro φ H locs ls hS hl hL hc hbd
  have hy := cS_head hc
  have hxx := cS_head (cS_tail hc)
  have k := hk φ H locs ls hS hl hL (cS_cons (show canV T (jv (w64 (x * y))) from canJ_w64 _) (cS_tail (cS_tail hc))) hbd
  exact lv_lmul hx hb hd (by rw [i64_mul]; exact k)
theorem ok_land (hx : p.tables.exec = Jvm.exec) (hb : c.code = cc) (hd : decode cc q = .ok (.land, 1)) (hk : Wat p l e R s0 m args below meth c Q D cT B0 G nL bud (q + 1) L (jv (lband x y) :: S) T s cs) : Wat p l e R s0 m args below meth c Q D cT B0 G nL bud q L (jv y :: jv x :: S) T s cs := by
  intro φ H locs ls hS hl hL hc hbd
  have hy := cS_head hc
  have hxx := cS_head (cS_tail hc)
  have k := hk φ H locs ls hS hl hL (cS_cons (show canV T (jv (lband x y)) from canJ_lband _ _) (cS_tail (cS_tail hc))) hbd
  exact lv_land hx hb hd (by rw [i64_and]; exact k)
theorem ok_lor (hx : p.tables.exec = Jvm.exec) (hb : c.code = cc) (hd : decode cc q = .ok (.lor, 1)) (hk : Wat p l e R s0 m args below meth c Q D cT B0 G nL bud (q + 1) L (jv (lbor x y) :: S) T s cs) : Wat p l e R s0 m args below meth c Q D cT B0 G nL bud q L (jv y :: jv x :: S) T s cs := by
  intro φ H locs ls hS hl hL hc hbd
  have hy := cS_head hc
  have hxx := cS_head (cS_tail hc)
  have k := hk φ H locs ls hS hl hL (cS_cons (show canV T (jv (lbor x y)) from canJ_lbor _ _) (cS_tail (cS_tail hc))) hbd
  exact lv_lor hx hb hd (by rw [i64_or]; exact k)
theorem ok_lshl (hx : p.tables.exec = Jvm.exec) (hb : c.code = cc) (hd : decode cc q = .ok (.lshl, 1)) (hk : Wat p l e R s0 m args below meth c Q D cT B0 G nL bud (q + 1) L (jv (lbshl x y) :: S) T s cs) : Wat p l e R s0 m args below meth c Q D cT B0 G nL bud q L (iv y :: jv x :: S) T s cs := by
  intro φ H locs ls hS hl hL hc hbd
  have hy := cS_head hc
  have hxx := cS_head (cS_tail hc)
  have k := hk φ H locs ls hS hl hL (cS_cons (show canV T (jv (lbshl x y)) from canJ_lbshl _ _) (cS_tail (cS_tail hc))) hbd
  exact lv_lshl hx hb hd (i64_shl x y) k
theorem ok_lushr (hx : p.tables.exec = Jvm.exec) (hb : c.code = cc) (hd : decode cc q = .ok (.lushr, 1)) (hk : Wat p l e R s0 m args below meth c Q D cT B0 G nL bud (q + 1) L (jv (lbushr x y) :: S) T s cs) : Wat p l e R s0 m args below meth c Q D cT B0 G nL bud q L (iv y :: jv x :: S) T s cs := by
  intro φ H locs ls hS hl hL hc hbd
  have hy := cS_head hc
  have hxx := cS_head (cS_tail hc)
  have k := hk φ H locs ls hS hl hL (cS_cons (show canV T (jv (lbushr x y)) from canJ_lbushr _ _) (cS_tail (cS_tail hc))) hbd
  exact lv_lushr hx hb hd (i64_ushr x y) k
theorem ok_lcmp (hx : p.tables.exec = Jvm.exec) (hb : c.code = cc) (hd : decode cc q = .ok (.lcmp, 1)) (hk : Wat p l e R s0 m args below meth c Q D cT B0 G nL bud (q + 1) L (iv (cmpL x y) :: S) T s cs) : Wat p l e R s0 m args below meth c Q D cT B0 G nL bud q L (jv y :: jv x :: S) T s cs := by
  intro φ H locs ls hS hl hL hc hbd
  have hy := cS_head hc
  have hxx := cS_head (cS_tail hc)
  have k := hk φ H locs ls hS hl hL (cS_cons (show canV T (iv (cmpL x y)) from can_cmpL _ _) (cS_tail (cS_tail hc))) hbd
  exact W.lcmp hx hb hd (by rw [i64_cmp hxx hy]; exact k)
theorem ok_idiv (hx : p.tables.exec = Jvm.exec) (hb : c.code = cc) (hd : decode cc q = .ok (.idiv, 1)) (h0 : ¬ y = 0) (hk : Wat p l e R s0 m args below meth c Q D cT B0 G nL bud (q + 1) L (iv (w32 (Int.tdiv x y)) :: S) T s cs) : Wat p l e R s0 m args below meth c Q D cT B0 G nL bud q L (iv y :: iv x :: S) T s cs := by
  intro φ H locs ls hS hl hL hc hbd
  have hy := cS_head hc
  have hxx := cS_head (cS_tail hc)
  have k := hk φ H locs ls hS hl hL (cS_cons (show canV T (iv (w32 (Int.tdiv x y))) from can_w32 _) (cS_tail (cS_tail hc))) hbd
  exact lv_idiv hx hb hd (fun h => h0 ((i32_eqq hy can_0).mp h)) (by rw [i32_div hxx hy]; exact k)
theorem ok_irem (hx : p.tables.exec = Jvm.exec) (hb : c.code = cc) (hd : decode cc q = .ok (.irem, 1)) (h0 : ¬ y = 0) (hk : Wat p l e R s0 m args below meth c Q D cT B0 G nL bud (q + 1) L (iv (Int.tmod x y) :: S) T s cs) : Wat p l e R s0 m args below meth c Q D cT B0 G nL bud q L (iv y :: iv x :: S) T s cs := by
  intro φ H locs ls hS hl hL hc hbd
  have hy := cS_head hc
  have hxx := cS_head (cS_tail hc)
  have k := hk φ H locs ls hS hl hL (cS_cons (show canV T (iv (Int.tmod x y)) from can_tmod hxx) (cS_tail (cS_tail hc))) hbd
  exact lv_irem hx hb hd (fun h => h0 ((i32_eqq hy can_0).mp h)) (by rw [i32_rem hxx hy]; exact k)
theorem canJ_0 : canJ 0 := by unfold canJ; omega
theorem i64_eqq {x y : Int} (hx : canJ x) (hy : canJ y) : Int64.ofInt x = Int64.ofInt y ↔ x = y := by rw [← Int64.toInt_inj, i64_ti hx, i64_ti hy]
theorem ok_ldiv (hx : p.tables.exec = Jvm.exec) (hb : c.code = cc) (hd : decode cc q = .ok (.ldiv, 1)) (h0 : ¬ y = 0) (hk : Wat p l e R s0 m args below meth c Q D cT B0 G nL bud (q + 1) L (jv (w64 (Int.tdiv x y)) :: S) T s cs) : Wat p l e R s0 m args below meth c Q D cT B0 G nL bud q L (jv y :: jv x :: S) T s cs := by
  intro φ H locs ls hS hl hL hc hbd
  have hy := cS_head hc
  have hxx := cS_head (cS_tail hc)
  have k := hk φ H locs ls hS hl hL (cS_cons (show canV T (jv (w64 (Int.tdiv x y))) from canJ_w64 _) (cS_tail (cS_tail hc))) hbd
  exact lv_ldiv hx hb hd (fun h => h0 ((i64_eqq hy canJ_0).mp h)) (by rw [i64_div hxx hy]; exact k)
theorem ok_lrem (hx : p.tables.exec = Jvm.exec) (hb : c.code = cc) (hd : decode cc q = .ok (.lrem, 1)) (h0 : ¬ y = 0) (hk : Wat p l e R s0 m args below meth c Q D cT B0 G nL bud (q + 1) L (jv (Int.tmod x y) :: S) T s cs) : Wat p l e R s0 m args below meth c Q D cT B0 G nL bud q L (jv y :: jv x :: S) T s cs := by
  intro φ H locs ls hS hl hL hc hbd
  have hy := cS_head hc
  have hxx := cS_head (cS_tail hc)
  have k := hk φ H locs ls hS hl hL (cS_cons (show canV T (jv (Int.tmod x y)) from canJ_tmod hxx) (cS_tail (cS_tail hc))) hbd
  exact lv_lrem hx hb hd (fun h => h0 ((i64_eqq hy canJ_0).mp h)) (by rw [i64_rem hxx hy]; exact k)
theorem ok_i2l (hx : p.tables.exec = Jvm.exec) (hb : c.code = cc) (hd : decode cc q = .ok (.i2l, 1)) (hk : Wat p l e R s0 m args below meth c Q D cT B0 G nL bud (q + 1) L (jv (x) :: S) T s cs) : Wat p l e R s0 m args below meth c Q D cT B0 G nL bud q L (iv x :: S) T s cs := by
  intro φ H locs ls hS hl hL hc hbd
  have hxx := cS_head hc
  have k := hk φ H locs ls hS hl hL (cS_cons (show canV T (jv (x)) from can_J hxx) (cS_tail hc)) hbd
  exact lv_i2l hx hb hd (i32_i2l hxx) k
theorem ok_l2i (hx : p.tables.exec = Jvm.exec) (hb : c.code = cc) (hd : decode cc q = .ok (.l2i, 1)) (hk : Wat p l e R s0 m args below meth c Q D cT B0 G nL bud (q + 1) L (iv (w32 x) :: S) T s cs) : Wat p l e R s0 m args below meth c Q D cT B0 G nL bud q L (jv x :: S) T s cs := by
  intro φ H locs ls hS hl hL hc hbd
  have hxx := cS_head hc
  have k := hk φ H locs ls hS hl hL (cS_cons (show canV T (iv (w32 x)) from can_w32 _) (cS_tail hc)) hbd
  exact lv_l2i hx hb hd (i64_l2i hxx) k
theorem ok_i2b (hx : p.tables.exec = Jvm.exec) (hb : c.code = cc) (hd : decode cc q = .ok (.i2b, 1)) (hk : Wat p l e R s0 m args below meth c Q D cT B0 G nL bud (q + 1) L (iv (b8 x) :: S) T s cs) : Wat p l e R s0 m args below meth c Q D cT B0 G nL bud q L (iv x :: S) T s cs := by
  intro φ H locs ls hS hl hL hc hbd
  have hxx := cS_head hc
  have k := hk φ H locs ls hS hl hL (cS_cons (show canV T (iv (b8 x)) from can_b8 _) (cS_tail hc)) hbd
  exact lv_i2b hx hb hd (i32_b8 hxx) k
theorem ok_i2c (hx : p.tables.exec = Jvm.exec) (hb : c.code = cc) (hd : decode cc q = .ok (.i2c, 1)) (hk : Wat p l e R s0 m args below meth c Q D cT B0 G nL bud (q + 1) L (iv (x % 65536) :: S) T s cs) : Wat p l e R s0 m args below meth c Q D cT B0 G nL bud q L (iv x :: S) T s cs := by
  intro φ H locs ls hS hl hL hc hbd
  have hxx := cS_head hc
  have k := hk φ H locs ls hS hl hL (cS_cons (show canV T (iv (x % 65536)) from can_i2c _) (cS_tail hc)) hbd
  exact lv_i2c hx hb hd (i32_i2c hxx) k
theorem ok_icmp_eq (hx : p.tables.exec = Jvm.exec) (hb : c.code = cc) {off : Int} {tgt : Nat} (hd : decode cc q = .ok (.if_icmp .eq off, 3)) (ht : (q : Int) + off = (tgt : Int)) (hkt : x = y → Wat p l e R s0 m args below meth c Q D cT B0 G nL bud tgt L S T s cs) (hkf : ¬ x = y → Wat p l e R s0 m args below meth c Q D cT B0 G nL bud (q + 3) L S T s cs) : Wat p l e R s0 m args below meth c Q D cT B0 G nL bud q L (iv y :: iv x :: S) T s cs := by
  intro φ H locs ls hS hl hL hc hbd
  have hy : can y := cS_head hc
  have hxx : can x := cS_head (cS_tail hc)
  have hc2 := cS_tail (cS_tail hc)
  exact lv_icmp_eq hx hb hd ht (fun h => hkt ((i32_eqq hxx hy).mp h) φ H locs ls hS hl hL hc2 hbd) (fun h => hkf (fun z => h ((i32_eqq hxx hy).mpr z)) φ H locs ls hS hl hL hc2 hbd)
theorem ok_if_eq (hx : p.tables.exec = Jvm.exec) (hb : c.code = cc) {off : Int} {tgt : Nat} (hd : decode cc q = .ok (.ifCond .eq off, 3)) (ht : (q : Int) + off = (tgt : Int)) (hkt : x = 0 → Wat p l e R s0 m args below meth c Q D cT B0 G nL bud tgt L S T s cs) (hkf : ¬ x = 0 → Wat p l e R s0 m args below meth c Q D cT B0 G nL bud (q + 3) L S T s cs) : Wat p l e R s0 m args below meth c Q D cT B0 G nL bud q L (iv x :: S) T s cs := by
  intro φ H locs ls hS hl hL hc hbd
  have hy : can 0 := can_0
  have hxx : can x := cS_head hc
  have hc2 := cS_tail hc
  exact lv_if_eq hx hb hd ht (fun h => hkt ((i32_eqq hxx hy).mp h) φ H locs ls hS hl hL hc2 hbd) (fun h => hkf (fun z => h ((i32_eqq hxx hy).mpr z)) φ H locs ls hS hl hL hc2 hbd)
theorem ok_icmp_ne (hx : p.tables.exec = Jvm.exec) (hb : c.code = cc) {off : Int} {tgt : Nat} (hd : decode cc q = .ok (.if_icmp .ne off, 3)) (ht : (q : Int) + off = (tgt : Int)) (hkt : ¬ x = y → Wat p l e R s0 m args below meth c Q D cT B0 G nL bud tgt L S T s cs) (hkf : x = y → Wat p l e R s0 m args below meth c Q D cT B0 G nL bud (q + 3) L S T s cs) : Wat p l e R s0 m args below meth c Q D cT B0 G nL bud q L (iv y :: iv x :: S) T s cs := by
  intro φ H locs ls hS hl hL hc hbd
  have hy : can y := cS_head hc
  have hxx : can x := cS_head (cS_tail hc)
  have hc2 := cS_tail (cS_tail hc)
  exact lv_icmp_ne hx hb hd ht (fun h => hkt (fun z => h ((i32_eqq hxx hy).mpr z)) φ H locs ls hS hl hL hc2 hbd) (fun h => hkf ((i32_eqq hxx hy).mp h) φ H locs ls hS hl hL hc2 hbd)
theorem ok_if_ne (hx : p.tables.exec = Jvm.exec) (hb : c.code = cc) {off : Int} {tgt : Nat} (hd : decode cc q = .ok (.ifCond .ne off, 3)) (ht : (q : Int) + off = (tgt : Int)) (hkt : ¬ x = 0 → Wat p l e R s0 m args below meth c Q D cT B0 G nL bud tgt L S T s cs) (hkf : x = 0 → Wat p l e R s0 m args below meth c Q D cT B0 G nL bud (q + 3) L S T s cs) : Wat p l e R s0 m args below meth c Q D cT B0 G nL bud q L (iv x :: S) T s cs := by
  intro φ H locs ls hS hl hL hc hbd
  have hy : can 0 := can_0
  have hxx : can x := cS_head hc
  have hc2 := cS_tail hc
  exact lv_if_ne hx hb hd ht (fun h => hkt (fun z => h ((i32_eqq hxx hy).mpr z)) φ H locs ls hS hl hL hc2 hbd) (fun h => hkf ((i32_eqq hxx hy).mp h) φ H locs ls hS hl hL hc2 hbd)
theorem ok_icmp_lt (hx : p.tables.exec = Jvm.exec) (hb : c.code = cc) {off : Int} {tgt : Nat} (hd : decode cc q = .ok (.if_icmp .lt off, 3)) (ht : (q : Int) + off = (tgt : Int)) (hkt : x < y → Wat p l e R s0 m args below meth c Q D cT B0 G nL bud tgt L S T s cs) (hkf : ¬ x < y → Wat p l e R s0 m args below meth c Q D cT B0 G nL bud (q + 3) L S T s cs) : Wat p l e R s0 m args below meth c Q D cT B0 G nL bud q L (iv y :: iv x :: S) T s cs := by
  intro φ H locs ls hS hl hL hc hbd
  have hy : can y := cS_head hc
  have hxx : can x := cS_head (cS_tail hc)
  have hc2 := cS_tail (cS_tail hc)
  exact lv_icmp_lt hx hb hd ht (fun h => hkt ((i32_lt hxx hy).mp h) φ H locs ls hS hl hL hc2 hbd) (fun h => hkf (fun z => h ((i32_lt hxx hy).mpr z)) φ H locs ls hS hl hL hc2 hbd)
theorem ok_if_lt (hx : p.tables.exec = Jvm.exec) (hb : c.code = cc) {off : Int} {tgt : Nat} (hd : decode cc q = .ok (.ifCond .lt off, 3)) (ht : (q : Int) + off = (tgt : Int)) (hkt : x < 0 → Wat p l e R s0 m args below meth c Q D cT B0 G nL bud tgt L S T s cs) (hkf : ¬ x < 0 → Wat p l e R s0 m args below meth c Q D cT B0 G nL bud (q + 3) L S T s cs) : Wat p l e R s0 m args below meth c Q D cT B0 G nL bud q L (iv x :: S) T s cs := by
  intro φ H locs ls hS hl hL hc hbd
  have hy : can 0 := can_0
  have hxx : can x := cS_head hc
  have hc2 := cS_tail hc
  exact lv_if_lt hx hb hd ht (fun h => hkt ((i32_lt hxx hy).mp h) φ H locs ls hS hl hL hc2 hbd) (fun h => hkf (fun z => h ((i32_lt hxx hy).mpr z)) φ H locs ls hS hl hL hc2 hbd)
theorem ok_icmp_ge (hx : p.tables.exec = Jvm.exec) (hb : c.code = cc) {off : Int} {tgt : Nat} (hd : decode cc q = .ok (.if_icmp .ge off, 3)) (ht : (q : Int) + off = (tgt : Int)) (hkt : ¬ x < y → Wat p l e R s0 m args below meth c Q D cT B0 G nL bud tgt L S T s cs) (hkf : x < y → Wat p l e R s0 m args below meth c Q D cT B0 G nL bud (q + 3) L S T s cs) : Wat p l e R s0 m args below meth c Q D cT B0 G nL bud q L (iv y :: iv x :: S) T s cs := by
  intro φ H locs ls hS hl hL hc hbd
  have hy : can y := cS_head hc
  have hxx : can x := cS_head (cS_tail hc)
  have hc2 := cS_tail (cS_tail hc)
  exact lv_icmp_ge hx hb hd ht (fun h => hkt (Int.not_lt.mpr ((i32_le hy hxx).mp h)) φ H locs ls hS hl hL hc2 hbd) (fun h => hkf (Int.not_le.mp (fun z => h ((i32_le hy hxx).mpr z))) φ H locs ls hS hl hL hc2 hbd)
theorem ok_if_ge (hx : p.tables.exec = Jvm.exec) (hb : c.code = cc) {off : Int} {tgt : Nat} (hd : decode cc q = .ok (.ifCond .ge off, 3)) (ht : (q : Int) + off = (tgt : Int)) (hkt : ¬ x < 0 → Wat p l e R s0 m args below meth c Q D cT B0 G nL bud tgt L S T s cs) (hkf : x < 0 → Wat p l e R s0 m args below meth c Q D cT B0 G nL bud (q + 3) L S T s cs) : Wat p l e R s0 m args below meth c Q D cT B0 G nL bud q L (iv x :: S) T s cs := by
  intro φ H locs ls hS hl hL hc hbd
  have hy : can 0 := can_0
  have hxx : can x := cS_head hc
  have hc2 := cS_tail hc
  exact lv_if_ge hx hb hd ht (fun h => hkt (Int.not_lt.mpr ((i32_le hy hxx).mp h)) φ H locs ls hS hl hL hc2 hbd) (fun h => hkf (Int.not_le.mp (fun z => h ((i32_le hy hxx).mpr z))) φ H locs ls hS hl hL hc2 hbd)
theorem ok_icmp_gt (hx : p.tables.exec = Jvm.exec) (hb : c.code = cc) {off : Int} {tgt : Nat} (hd : decode cc q = .ok (.if_icmp .gt off, 3)) (ht : (q : Int) + off = (tgt : Int)) (hkt : y < x → Wat p l e R s0 m args below meth c Q D cT B0 G nL bud tgt L S T s cs) (hkf : ¬ y < x → Wat p l e R s0 m args below meth c Q D cT B0 G nL bud (q + 3) L S T s cs) : Wat p l e R s0 m args below meth c Q D cT B0 G nL bud q L (iv y :: iv x :: S) T s cs := by
  intro φ H locs ls hS hl hL hc hbd
  have hy : can y := cS_head hc
  have hxx : can x := cS_head (cS_tail hc)
  have hc2 := cS_tail (cS_tail hc)
  exact lv_icmp_gt hx hb hd ht (fun h => hkt ((i32_lt hy hxx).mp h) φ H locs ls hS hl hL hc2 hbd) (fun h => hkf (fun z => h ((i32_lt hy hxx).mpr z)) φ H locs ls hS hl hL hc2 hbd)
theorem ok_if_gt (hx : p.tables.exec = Jvm.exec) (hb : c.code = cc) {off : Int} {tgt : Nat} (hd : decode cc q = .ok (.ifCond .gt off, 3)) (ht : (q : Int) + off = (tgt : Int)) (hkt : 0 < x → Wat p l e R s0 m args below meth c Q D cT B0 G nL bud tgt L S T s cs) (hkf : ¬ 0 < x → Wat p l e R s0 m args below meth c Q D cT B0 G nL bud (q + 3) L S T s cs) : Wat p l e R s0 m args below meth c Q D cT B0 G nL bud q L (iv x :: S) T s cs := by
  intro φ H locs ls hS hl hL hc hbd
  have hy : can 0 := can_0
  have hxx : can x := cS_head hc
  have hc2 := cS_tail hc
  exact lv_if_gt hx hb hd ht (fun h => hkt ((i32_lt hy hxx).mp h) φ H locs ls hS hl hL hc2 hbd) (fun h => hkf (fun z => h ((i32_lt hy hxx).mpr z)) φ H locs ls hS hl hL hc2 hbd)
theorem ok_icmp_le (hx : p.tables.exec = Jvm.exec) (hb : c.code = cc) {off : Int} {tgt : Nat} (hd : decode cc q = .ok (.if_icmp .le off, 3)) (ht : (q : Int) + off = (tgt : Int)) (hkt : ¬ y < x → Wat p l e R s0 m args below meth c Q D cT B0 G nL bud tgt L S T s cs) (hkf : y < x → Wat p l e R s0 m args below meth c Q D cT B0 G nL bud (q + 3) L S T s cs) : Wat p l e R s0 m args below meth c Q D cT B0 G nL bud q L (iv y :: iv x :: S) T s cs := by
  intro φ H locs ls hS hl hL hc hbd
  have hy : can y := cS_head hc
  have hxx : can x := cS_head (cS_tail hc)
  have hc2 := cS_tail (cS_tail hc)
  exact lv_icmp_le hx hb hd ht (fun h => hkt (Int.not_lt.mpr ((i32_le hxx hy).mp h)) φ H locs ls hS hl hL hc2 hbd) (fun h => hkf (Int.not_le.mp (fun z => h ((i32_le hxx hy).mpr z))) φ H locs ls hS hl hL hc2 hbd)
theorem ok_if_le (hx : p.tables.exec = Jvm.exec) (hb : c.code = cc) {off : Int} {tgt : Nat} (hd : decode cc q = .ok (.ifCond .le off, 3)) (ht : (q : Int) + off = (tgt : Int)) (hkt : ¬ 0 < x → Wat p l e R s0 m args below meth c Q D cT B0 G nL bud tgt L S T s cs) (hkf : 0 < x → Wat p l e R s0 m args below meth c Q D cT B0 G nL bud (q + 3) L S T s cs) : Wat p l e R s0 m args below meth c Q D cT B0 G nL bud q L (iv x :: S) T s cs := by
  intro φ H locs ls hS hl hL hc hbd
  have hy : can 0 := can_0
  have hxx : can x := cS_head hc
  have hc2 := cS_tail hc
  exact lv_if_le hx hb hd ht (fun h => hkt (Int.not_lt.mpr ((i32_le hxx hy).mp h)) φ H locs ls hS hl hL hc2 hbd) (fun h => hkf (Int.not_le.mp (fun z => h ((i32_le hxx hy).mpr z))) φ H locs ls hS hl hL hc2 hbd)
theorem ok_goto (hx : p.tables.exec = Jvm.exec) (hb : c.code = cc) {off : Int} {tgt : Nat} (hd : decode cc q = .ok (.goto off, 3)) (ht : (q : Int) + off = (tgt : Int)) (hk : Wat p l e R s0 m args below meth c Q D cT B0 G nL bud tgt L S T s cs) : Wat p l e R s0 m args below meth c Q D cT B0 G nL bud q L S T s cs :=
  fun φ H locs ls hS hl hL hc hbd => lv_goto hx hb hd ht (hk φ H locs ls hS hl hL hc hbd)
theorem ok_ifnull (hx : p.tables.exec = Jvm.exec) (hb : c.code = cc) {off : Int} {tgt : Nat} {r : Option Nat} (hd : decode cc q = .ok (.ifnull off, 3)) (ht : (q : Int) + off = (tgt : Int)) (hkn : r = none → Wat p l e R s0 m args below meth c Q D cT B0 G nL bud (tgt) L S T s cs) (hks : ¬ r = none → Wat p l e R s0 m args below meth c Q D cT B0 G nL bud (q + 3) L S T s cs) : Wat p l e R s0 m args below meth c Q D cT B0 G nL bud q L (rv r :: S) T s cs := by
  intro φ H locs ls hS hl hL hc hbd
  have hc2 := cS_tail hc
  cases r with
  | none => exact lv_ifnullN hx hb hd ht (hkn rfl φ H locs ls hS hl hL hc2 hbd)
  | some r => exact lv_ifnull hx hb hd (hks (fun h => by cases h) φ H locs ls hS hl hL hc2 hbd)
theorem ok_ifnonnull (hx : p.tables.exec = Jvm.exec) (hb : c.code = cc) {off : Int} {tgt : Nat} {r : Option Nat} (hd : decode cc q = .ok (.ifnonnull off, 3)) (ht : (q : Int) + off = (tgt : Int)) (hkn : r = none → Wat p l e R s0 m args below meth c Q D cT B0 G nL bud (q + 3) L S T s cs) (hks : ¬ r = none → Wat p l e R s0 m args below meth c Q D cT B0 G nL bud (tgt) L S T s cs) : Wat p l e R s0 m args below meth c Q D cT B0 G nL bud q L (rv r :: S) T s cs := by
  intro φ H locs ls hS hl hL hc hbd
  have hc2 := cS_tail hc
  cases r with
  | none => exact lv_ifnonnullN hx hb hd (hkn rfl φ H locs ls hS hl hL hc2 hbd)
  | some r => exact lv_ifnonnull hx hb hd ht (hks (fun h => by cases h) φ H locs ls hS hl hL hc2 hbd)
theorem tsw_inv {α : Type} {o : α} {x : Int} {d : Nat} {k : Nat → Option α} : ∀ (tl : List Nat) (lo : Int), tsw x lo d tl k = some o → (∃ (i t : Nat), tl[i]? = some t ∧ x = lo + i ∧ k t = some o) ∨ ((x < lo ∨ lo + tl.length ≤ x) ∧ k d = some o)
  | [], lo, h => by
    right
    refine ⟨?_, h⟩
    simp only [List.length_nil]
    omega
  | t :: tl, lo, h => by
    unfold tsw at h
    by_cases hx : x = lo
    · rw [if_pos hx] at h
      exact Or.inl ⟨0, t, rfl, by omega, h⟩
    · rw [if_neg hx] at h
      rcases tsw_inv tl (lo + 1) h with ⟨i, t', h1, h2, h3⟩ | ⟨h1, h2⟩
      · exact Or.inl ⟨i + 1, t', by simpa using h1, by omega, h3⟩
      · refine Or.inr ⟨?_, h2⟩
        simp only [List.length_cons]
        omega
theorem ok_table (hx : p.tables.exec = Jvm.exec) (hb : c.code = cc) {dflt lo hi : Int} {offs : Array Int} {len d : Nat} {tl : List Nat} (hd : decode cc q = .ok (.tableswitch dflt lo hi offs, len)) (hdf : (q : Int) + dflt = (d : Int)) (hhi : hi + 1 - lo = (tl.length : Int)) (hof : offs.toList.map (fun o => (q : Int) + o) = tl.map (fun t : Nat => (t : Int))) {α : Type} {o : α} {k : Nat → Option α} (h : tsw x lo d tl k = some o) (hk : ∀ t, k t = some o → Wat p l e R s0 m args below meth c Q D cT B0 G nL bud t L S T s cs) : Wat p l e R s0 m args below meth c Q D cT B0 G nL bud q L (iv x :: S) T s cs := by
  intro φ H locs ls hS hl hL hc hbd
  have hxx : can x := cS_head hc
  have hc2 := cS_tail hc
  have e1 : (Int32.ofInt x).toInt = x := i32_ti hxx
  rcases tsw_inv tl lo h with ⟨i, t, h1, h2, h3⟩ | ⟨h1, h2⟩
  · have hi : i < tl.length := by
      rcases Nat.lt_or_ge i tl.length with h | h
      · exact h
      · rw [List.getElem?_eq_none h] at h1; cases h1
    have h4 : (offs.toList.map (fun o => (q : Int) + o))[i]? = some (t : Int) := by rw [hof, List.getElem?_map, h1]; rfl
    rw [List.getElem?_map] at h4
    cases h5 : offs.toList[i]? with
    | none => rw [h5] at h4; cases h4
    | some off =>
      rw [h5] at h4
      have h6 : (q : Int) + off = (t : Int) := by simpa using h4
      refine lv_tableIn (off := off) (tgt := t) hx hb hd (by rw [e1]; omega) (by rw [e1]; omega) ?_ h6 (hk t h3 φ H locs ls hS hl hL hc2 hbd)
      rw [e1, show (x - lo).toNat = i by omega]
      simpa using h5
  · exact lv_tableOut hx hb hd (by rw [e1]; omega) hdf (hk d h2 φ H locs ls hS hl hL hc2 hbd)
theorem lsw_inv {α : Type} {o : α} {x : Int} {d q : Nat} {dflt : Int} (hdf : (q : Int) + dflt = (d : Int)) {k : Nat → Option α} : ∀ (ps : List (Int × Int)) (tl : List Nat), ps.map (fun e => (q : Int) + e.2) = tl.map (fun t : Nat => (t : Int)) → lsw x d (ps.map (fun e => e.1)) tl k = some o → ∃ t : Nat, (q : Int) + Op.lookupswitch.offset ps dflt x = (t : Int) ∧ k t = some o
  | [], tl, _, h => by
    refine ⟨d, ?_, ?_⟩
    · simpa [Op.lookupswitch.offset] using hdf
    · cases tl <;> simpa [lsw] using h
  | (a, b) :: ps, [], he, _ => by simp at he
  | (a, b) :: ps, t :: tl, he, h => by
    simp only [List.map_cons, List.cons.injEq] at he
    simp only [List.map_cons, lsw] at h
    by_cases hx : x = a
    · rw [if_pos hx] at h
      refine ⟨t, ?_, h⟩
      rw [← he.1]
      simp [Op.lookupswitch.offset, hx]
    · rw [if_neg hx] at h
      obtain ⟨t', h1, h2⟩ := lsw_inv hdf ps tl he.2 h
      refine ⟨t', ?_, h2⟩
      rw [← h1]
      have hx' : ¬ a = x := fun z => hx z.symm
      simp [Op.lookupswitch.offset, hx, hx']
theorem ok_lookup (hx : p.tables.exec = Jvm.exec) (hb : c.code = cc) {dflt : Int} {ps : Array (Int × Int)} {len d : Nat} {tl : List Nat} (hd : decode cc q = .ok (.lookupswitch dflt ps, len)) (hdf : (q : Int) + dflt = (d : Int)) (hp : (ps.toList.zip (ps.toList.drop 1)).all (fun (a, next) => a.1 < next.1) = true) (hof : ps.toList.map (fun e => (q : Int) + e.2) = tl.map (fun t : Nat => (t : Int))) {α : Type} {o : α} {k : Nat → Option α} (h : lsw x d (ps.toList.map (fun e => e.1)) tl k = some o) (hk : ∀ t, k t = some o → Wat p l e R s0 m args below meth c Q D cT B0 G nL bud t L S T s cs) : Wat p l e R s0 m args below meth c Q D cT B0 G nL bud q L (iv x :: S) T s cs := by
  intro φ H locs ls hS hl hL hc hbd
  have hxx : can x := cS_head hc
  have hc2 := cS_tail hc
  have e1 : (Int32.ofInt x).toInt = x := i32_ti hxx
  obtain ⟨t, h1, h2⟩ := lsw_inv hdf ps.toList tl hof h
  exact lv_lookup (x := Int32.ofInt x) hx hb hd hp (by rw [e1]) h1 (hk t h2 φ H locs ls hS hl hL hc2 hbd)
end Arith
