/-! ===== String.length and charAt, of the four texts ===== -/
theorem Met_conv {l : Launch} {y : MethodName} {ws : List Cond} {rm : Room} {Pc Pc' : Array Value → State → Prop} {Qc Qc' : Array Value → State → Outcome → State → Prop} {mc ms : Nat} {free free' : Addr → Prop} (h : Met l y ws rm Pc Qc mc ms free) (hp : ∀ a s, Pc' a s → Pc a s) (hq : ∀ a s o t, Pc' a s → Qc a s o t → Qc' a s o t) (hf : ∀ q, free q → free' q) : Met l y ws rm Pc' Qc' mc ms free' := by
  intro p e ha hc hk s m args below hfr happ hP hK
  obtain ⟨n, o, h1, h2, h3, h4, L, h5, h6⟩ := h p e ha hc hk s m args below hfr happ (hp _ _ hP) hK
  exact ⟨n, o, h1, h2, h3, hq _ _ _ _ hP h4, L, h5, fun q hq => hf _ (h6 q hq)⟩
/-- what stands still, and nothing else -/
def SxB (B0 : Nat) (fS : Nat → Nat) (U : State) : Prop := B0 ≤ U.heap.size ∧ SxW B0 fS scr0 U
def PureQ (v : Option Value) : Array Value → State → Outcome → State → Prop := fun _ st oc t => oc = .returned v ∧ t.heap = st.heap
def PureJ (l : Launch) (B0 : Nat) (fS : Nat → Nat) (d j : Nat) (As : List Value) (v : Option Value) : Prop :=
  Met l (yy j) (wsJ j) (rmJ d j) (va_Pc As (SxB B0 fS)) (PureQ v) 0 0 (fun _ => False)
section Pure
variable {p : Program} {l : Launch} {e : Env} {R : Room} {s0 : State} {m : MethodId} {args : Array Value} {below : List Frame} {meth : Method} {c : Code} {Q : State → Prop} {B0 : Nat} {fS : Nat → Nat}
theorem SxB_blind {As : List Value} : FrameBlind (va_Pc As (SxB B0 fS)) := by
  intro a U g mk q
  obtain ⟨q0, q1, q2⟩ := q
  exact ⟨q0, q1, SxW_still B0 fS scr0 U _ q2 (State.WarmedH.refl U) (fun _ _ _ => rfl)⟩
theorem pure_go {pc : Nat} {ls : Array Slot} {st0 rest : List Value} {v : Option Value} {a : Array Value} {cells slots : Nat} {locs : List Loc} {H : Heap}
    (hr : va_Run p l e R s0 m args below meth c H locs cells slots 0 0 (F0 m pc ls st0) rest (PureQ v a) (fun _ => False))
    (k : W p l e R s0 m args below meth c H locs cells slots Q (F0 m (pc + 3) ls (v.toList ++ rest))) : W p l e R s0 m args below meth c H locs cells slots Q (F0 m pc ls st0) := by
  intro U hU X
  obtain ⟨w, st₀, t, U', L, h0, X', hL, e1, e2, ⟨hv, hq⟩, st⟩ := hr U hU X
  cases hv
  have hLn : L = [] := by
    cases L with
    | nil => rfl
    | cons q L => exact (hL q List.mem_cons_self).elim
  subst hLn
  rw [List.append_nil] at X'
  obtain ⟨t2, a1, b1⟩ := k U' (by rw [e1, hq, h0]) X'
  exact ⟨t2, st t2 a1, b1⟩
end Pure
theorem yok_111 : yOk 111 0 = true := by decide +kernel
theorem yok_113 : yOk 113 0 = true := by decide +kernel
theorem yok_114 : yOk 114 2 = true := by decide +kernel
theorem yok_115 : yOk 115 2 = true := by decide +kernel
theorem yok_116 : yOk 116 3 = true := by decide +kernel
section Str
variable {l : Launch} {B0 : Nat} {fS : Nat → Nat}
/-- coder() is 0 -/
theorem mg_111 {k : Nat} (hk : k < 4) (d : Nat) : PureJ l B0 fS d 111 [.ref (fS (200 + k))] (some (.int 0)) := by
  refine Met.ofW (cc := bb 111) (maxL := mx 111) (ret := rt 111) (by decide +kernel) rfl ?_
  intro p e s0 m args below meth c s₁ B hml hv
  obtain ⟨rfl, hB0, hSx⟩ := hv
  have hx := B.exec
  have hb := B.bytes
  have hr := B.returns
  have hts := atoms_spec (ws := wsJ 111) B.pre
  have hT : ∀ w ∈ Tw, w.before _ s0 = true := fun w hw => hts w (List.mem_cons_of_mem _ hw)
  have hown : s0.vm.findClass "java/lang/String" = some m.cls := findClass_of_methodNamed B.named
  have hlocks := B.notSynchronized
  obtain ⟨-, -, -, -, -, -, -, -, -, h10, -, -, -, -, -, -, -, hZ, -⟩ := hSx
  have hl := lv_entry [Value.ref (fS (200 + k))] (n := mx 111) (Nat.le_of_ble_eq_true rfl)
  rw [lg_entry_eq]
  refine va_gets hx hb hZ va_S.rf hown (hT _ ws_f38) (fun _ h => h) (show decode (bb 111) 0 = .ok (.getstatic 38, 3) by decide +kernel) ?_
  refine lv_if_eq hx hb (show decode (bb 111) 3 = .ok (.ifCond .eq 10, 3) by decide +kernel) (tgt := 13) (by decide) (fun h => absurd h (by decide)) (fun _ => ?_)
  refine lv_aload_n hx hb (show decode (bb 111) 6 = .ok (.aload_n 0, 1) by decide +kernel) rfl (lv_at hl 0 rfl) ?_
  refine vk_getf hx hb (h10.1 k hk).2.1 va_S.rf hown (hT _ ws_f15) (fun _ h => h) (show decode (bb 111) 7 = .ok (.getfield 15, 3) by decide +kernel) ?_
  refine lv_goto hx hb (show decode (bb 111) 10 = .ok (.goto 4, 3) by decide +kernel) (tgt := 14) (by decide) ?_
  exact W.zret hx hb hr (by rfl) (fun t ht _ => ⟨rfl, ht⟩) (fun q hq => by cases hq) (show decode (bb 111) 14 = .ok (.ireturn, 1) by decide +kernel)
theorem mg_113 {k : Nat} (hk : k < 4) (d : Nat) : PureJ l B0 fS d 113 [.ref (fS (200 + k))] (some (.int 1)) := by
  refine Met.ofW (cc := bb 113) (maxL := mx 113) (ret := rt 113) (by decide +kernel) rfl ?_
  intro p e s0 m args below meth c s₁ B hml hv
  obtain ⟨rfl, hB0, hSx⟩ := hv
  have hx := B.exec
  have hb := B.bytes
  have hr := B.returns
  have hts := atoms_spec (ws := wsJ 113) B.pre
  have hT : ∀ w ∈ Tw, w.before _ s0 = true := fun w hw => hts w (List.mem_cons_of_mem _ hw)
  have hown : s0.vm.findClass "java/lang/String" = some m.cls := findClass_of_methodNamed B.named
  have hlocks := B.notSynchronized
  obtain ⟨-, -, -, -, -, -, -, -, -, h10, -, -, -, -, -, -, -, hZ, -⟩ := hSx
  have hl := lv_entry [Value.ref (fS (200 + k))] (n := mx 113) (Nat.le_of_ble_eq_true rfl)
  rw [lg_entry_eq]
  refine va_gets hx hb hZ va_S.rf hown (hT _ ws_f38) (fun _ h => h) (show decode (bb 113) 0 = .ok (.getstatic 38, 3) by decide +kernel) ?_
  refine lv_if_eq hx hb (show decode (bb 113) 3 = .ok (.ifCond .eq 14, 3) by decide +kernel) (tgt := 17) (by decide) (fun h => absurd h (by decide)) (fun _ => ?_)
  refine lv_aload_n hx hb (show decode (bb 113) 6 = .ok (.aload_n 0, 1) by decide +kernel) rfl (lv_at hl 0 rfl) ?_
  refine vk_getf hx hb (h10.1 k hk).2.1 va_S.rf hown (hT _ ws_f15) (fun _ h => h) (show decode (bb 113) 7 = .ok (.getfield 15, 3) by decide +kernel) ?_
  refine lv_if_ne hx hb (show decode (bb 113) 10 = .ok (.ifCond .ne 7, 3) by decide +kernel) (tgt := 17) (by decide) (fun h => absurd rfl h) (fun _ => ?_)
  refine lv_iconst hx hb (show decode (bb 113) 13 = .ok (.iconst 1, 1) by decide +kernel) (v := 1) rfl ?_
  refine lv_goto hx hb (show decode (bb 113) 14 = .ok (.goto 4, 3) by decide +kernel) (tgt := 18) (by decide) ?_
  exact W.zret hx hb hr (by rfl) (fun t ht _ => ⟨rfl, ht⟩) (fun q hq => by cases hq) (show decode (bb 113) 18 = .ok (.ireturn, 1) by decide +kernel)
/-- checkIndex(i, n, f) where 0 ≤ i < n -/
theorem mg_116 {i n : Int} (hi : can i) (hn : can n) (h0 : 0 ≤ i) (h1 : i < n) (v : Value) (hv : isR v) (d : Nat) : PureJ l B0 fS d 116 [.int (Int32.ofInt i), .int (Int32.ofInt n), v] (some (.int (Int32.ofInt i))) := by
  refine Met.ofW (cc := bb 116) (maxL := mx 116) (ret := rt 116) (by decide +kernel) rfl ?_
  intro p e s0 m args below meth c s₁ B hml hq
  obtain ⟨rfl, hB0, hSx⟩ := hq
  have hx := B.exec
  have hb := B.bytes
  have hr := B.returns
  have hlocks := B.notSynchronized
  have hl := lv_entry [Value.int (Int32.ofInt i), .int (Int32.ofInt n), v] (n := mx 116) (by rcases hv with rfl | ⟨a, rfl⟩ <;> exact Nat.le_of_ble_eq_true rfl)
  rw [lg_entry_eq]
  have e0 : lv_args 0 [Value.int (Int32.ofInt i), .int (Int32.ofInt n), v] = [(0, .int (Int32.ofInt i)), (1, .int (Int32.ofInt n)), (2, v)] := rfl
  rw [e0] at hl
  refine lv_iload_n hx hb (show decode (bb 116) 0 = .ok (.iload_n 0, 1) by decide +kernel) rfl (lv_at hl 0 rfl) ?_
  refine lv_if_lt hx hb (show decode (bb 116) 1 = .ok (.ifCond .lt 8, 3) by decide +kernel) (tgt := 9) (by decide) (fun h => absurd ((i32_lt hi can_0).mp h) (by omega)) (fun _ => ?_)
  refine lv_iload_n hx hb (show decode (bb 116) 4 = .ok (.iload_n 0, 1) by decide +kernel) rfl (lv_at hl 0 rfl) ?_
  refine lv_iload_n hx hb (show decode (bb 116) 5 = .ok (.iload_n 1, 1) by decide +kernel) rfl (lv_at hl 1 rfl) ?_
  refine lv_icmp_lt hx hb (show decode (bb 116) 6 = .ok (.if_icmp .lt 10, 3) by decide +kernel) (tgt := 16) (by decide) (fun _ => ?_) (fun h => absurd ((i32_lt hi hn).mpr h1) h)
  refine lv_iload_n hx hb (show decode (bb 116) 16 = .ok (.iload_n 0, 1) by decide +kernel) rfl (lv_at hl 0 rfl) ?_
  exact W.iret hx hb hr (fun t ht _ => ⟨rfl, ht⟩) (fun q hq => by cases hq) (show decode (bb 116) 17 = .ok (.ireturn, 1) by decide +kernel)
theorem mg_115 {i n : Int} (hi : can i) (hn : can n) (h0 : 0 ≤ i) (h1 : i < n) (d : Nat) : PureJ l B0 fS (d + 1) 115 [.int (Int32.ofInt i), .int (Int32.ofInt n)] none := by
  refine Met.ofW (cc := bb 115) (maxL := mx 115) (ret := rt 115) (by decide +kernel) rfl ?_
  intro p e s0 m args below meth c s₁ B hml hq
  obtain ⟨rfl, hB0, hSx⟩ := hq
  have hx := B.exec
  have hb := B.bytes
  have hr := B.returns
  have hts := atoms_spec (ws := wsJ 115) B.pre
  have hT : ∀ w ∈ Tw, w.before _ s0 = true := fun w hw => hts w (List.mem_cons_of_mem _ hw)
  have hown : s0.vm.findClass "java/lang/String" = some m.cls := findClass_of_methodNamed B.named
  have hlocks := B.notSynchronized
  have hSx0 := hSx
  obtain ⟨-, -, -, -, -, -, -, -, -, -, -, -, -, -, -, -, -, -, ⟨v, hv, hZ⟩, -⟩ := hSx
  have hl := lv_entry [Value.int (Int32.ofInt i), .int (Int32.ofInt n)] (n := mx 115) (Nat.le_of_ble_eq_true rfl)
  rw [lg_entry_eq]
  refine lv_iload_n hx hb (show decode (bb 115) 0 = .ok (.iload_n 0, 1) by decide +kernel) rfl (lv_at hl 0 rfl) ?_
  refine lv_iload_n hx hb (show decode (bb 115) 1 = .ok (.iload_n 1, 1) by decide +kernel) rfl (lv_at hl 1 rfl) ?_
  refine va_gets hx hb hZ va_S.rf hown (hT _ ws_f1053) (fun _ h => h) (show decode (bb 115) 2 = .ok (.getstatic 1053, 3) by decide +kernel) ?_
  refine pure_go (va_runS (As := [.int (Int32.ofInt i), .int (Int32.ofInt n), v]) (rest := []) (own := "java/lang/String") ⟨hx, hb, hml, hown, hT⟩ (mg_116 hi hn h0 h1 v hv d) ⟨cbJ (n := 3) hT ws_code_116 (hT _ ws_ini_P) (hT _ ws_l1059) yok_116 ⟨Nat.le_refl _, Nat.le_refl _⟩, hT _ ws_static_116⟩ ⟨SxB_blind, fun U hU hW => ⟨rfl, by rw [hU]; exact hB0, SxW_still B0 fS scr0 s0 U hSx0 hW (fun q _ _ => by rw [hU])⟩⟩ rfl rfl hl.1 rfl (lv_room (Nat.le_of_ble_eq_true rfl)) (show decode (bb 115) 5 = .ok (.invokestatic 1059, 3) by decide +kernel) ⟨Nat.le_refl _, Nat.le_refl _⟩) ?_
  refine lv_pop hx hb (show decode (bb 115) 8 = .ok (.pop, 1) by decide +kernel) rfl ?_
  exact W.vret hx hb hr (fun t ht _ => ⟨rfl, ht⟩) (fun q hq => by cases hq) (show decode (bb 115) 9 = .ok (.return_, 1) by decide +kernel)
end Str
