/-! ===== layer 3: what holds between calls ===== -/
/-- a word's letters, 1 to 26 each, packed by the class and by the reference -/
def E256 (ws : List Nat) : Nat := ws.foldl (fun a l => a * 256 + (96 + l)) 0
def E27 (ws : List Nat) : Nat := ws.foldl (fun a l => a * 27 + l) 0
def WW (ws : List Nat) : Prop := 1 ≤ ws.length ∧ ws.length ≤ 7 ∧ ∀ l ∈ ws, 1 ≤ l ∧ l ≤ 26
def NM (x y : Int) : Prop := ∃ ws, WW ws ∧ x = (E256 ws : Int) ∧ y = (E27 ws : Int)
def VN (s : mS) (t : Nat) (A : Row) (N : Row) : Prop :=
  (∀ b : Nat, (b : Int) < A 0 → NM (s.2 (t + 1) b) (N b)) ∧ (∀ p : Nat, (p : Int) < A 1 → NM (s.2 (t + 4) p) (N (9 + p))) ∧ (∀ d : Nat, (d : Int) < A 2 → NM (s.2 (t + 6) d) (N (14 + d)))
/-- one part of a sentence beside one node: st says where what is under a node begins -/
def PN (P S V : Row) (A : Row) (st : Nat → Nat) (i : Nat) : Prop :=
  (P i = 0 ∧ A (226 + 4 * i) = 1 ∧ 1 ≤ i ∧ A (227 + 4 * i) = (i : Int) - 1 ∧ st i = st (i - 1)) ∨
  ((P i = 1 ∧ A (226 + 4 * i) = 2 ∨ P i = 2 ∧ A (226 + 4 * i) = 3) ∧ 1 ≤ i ∧ 1 ≤ st (i - 1) ∧ st (i - 1) ≤ i - 1 ∧ A (228 + 4 * i) = (i : Int) - 1 ∧ A (227 + 4 * i) = (st (i - 1) : Int) - 1 ∧ st i = st (st (i - 1) - 1)) ∨
  (P i = 3 ∧ 0 ≤ V i ∧ V i ≤ 3 ∧ A (226 + 4 * i) = 64 + V i ∧ st i = i) ∨
  (P i = 4 ∧ 0 ≤ V i ∧ V i < A 0 ∧ A (226 + 4 * i) = 68 ∧ A (227 + 4 * i) = V i ∧ st i = i) ∨
  (P i = 5 ∧ 0 ≤ V i ∧ V i < A 2 ∧ A (226 + 4 * i) = 69 ∧ A (227 + 4 * i) = V i ∧ st i = i) ∨
  (6 ≤ P i ∧ P i ≤ 9 ∧ A (226 + 4 * i) = 64 + P i ∧ A (228 + 4 * i) = V i ∧ A (229 + 4 * i) = S i ∧ (S i = 60 ∨ S i = 61 ∨ S i = 62) ∧ 0 ≤ V i ∧ V i ≤ 999 ∧ st i = i)
def QR (s : mS) (t : Nat) (A : Row) : Prop :=
  (A 224 = 0 ∧ s.1 t 0 = 0) ∨
  (A 224 = 1 ∧ 1 ≤ s.1 t 0 ∧ 1 ≤ s.1 t 1 ∧ s.1 t 1 ≤ 40 ∧ A 225 = s.1 t 1 - 1 ∧ ∃ st : Nat → Nat, (∀ i : Nat, (i : Int) < s.1 t 1 → PN (s.1 (t + 1)) (s.1 (t + 2)) (s.1 (t + 3)) A st i) ∧ st (s.1 t 1 - 1).toNat = 0)
/-- a world: vestry at tv, state at ts, sentence at tq, beside a row and a row of names -/
def World (s : mS) (tv ts tq : Nat) (A N : Row) : Prop := WF A ∧ VR s tv A ∧ SR s ts A ∧ VN s tv A N ∧ QR s tq A
def pTape (s : mS) : Prop := s.1 1 1 = s.1 249 2 ∧ 0 ≤ s.1 249 2 ∧ s.1 249 2 ≤ 940 ∧ ∀ k : Nat, k < 940 → -128 ≤ s.1 2 k ∧ s.1 2 k < 128 ∧ s.1 250 k = s.1 2 k % 256
def pMisc (s : mS) : Prop := s.1 0 13 = s.1 249 10 ∧ s.1 0 14 = s.1 249 29 ∧ s.1 0 16 = s.1 249 33
def pRing (s : mS) : Prop := s.1 0 15 = s.1 249 32 ∧ 0 ≤ s.1 249 32 ∧ s.1 249 32 ≤ 12 ∧ ∀ k : Nat, (k : Int) < s.1 249 32 → s.1 246 k = s.1 264 k
def pTag (s : mS) : Prop := s.1 0 17 = s.1 249 35 ∧ 0 ≤ s.1 249 35 ∧ s.1 249 35 ≤ 32 ∧ ∀ k : Nat, (k : Int) < s.1 249 35 → can (s.1 247 k) ∧ s.1 265 k = s.1 247 k % 256
def pTold (s : mS) : Prop := s.1 0 18 = s.1 249 40 ∧ (s.1 249 40 = 0 ∨ s.1 249 40 = 1) ∧ ∀ k : Nat, k < 4 → s.1 249 40 = 1 → s.1 248 k = s.1 267 k
def pMatch (s : mS) : Prop := 0 ≤ s.1 249 28 ∧ s.1 249 28 ≤ 12 ∧ ∀ k : Nat, k < 12 → s.1 242 k = if (k : Int) < s.1 249 28 then s.1 262 k else -1
def imgRow (s : mS) (k : Nat) : Row := fun q => s.1 253 (466 * k + q)
def imgNames (s : mS) (k : Nat) : Row := fun q => s.2 259 (26 * k + q)
def pImg (s : mS) (k t : Nat) : Prop := s.1 t 3 = s.1 260 k ∧ (s.1 260 k = 0 ∨ (s.1 260 k = 1 ∧ World s (t + 1) (t + 14) (t + 27) (imgRow s k) (imgNames s k)))
def pastRow (s : mS) (i : Nat) : Row := rowPut (s.1 251) 85 (s.1 254) (139 * i) 139
def pPast (s : mS) : Prop := s.1 100 2 = s.1 249 25 ∧ 0 ≤ s.1 249 25 ∧ s.1 249 25 ≤ 8 ∧ 0 ≤ s.1 100 1 ∧ s.1 100 1 < 8 ∧
  ∀ i : Nat, (i : Int) < s.1 249 25 → WF (pastRow s i) ∧ SR s (102 + 13 * (((s.1 100 1).toNat + i) % 8)) (pastRow s i)
def Inv (s : mS) : Prop := World s 4 17 30 (s.1 251) (s.2 257) ∧ pTape s ∧ pMisc s ∧ pRing s ∧ pTag s ∧ pTold s ∧ pMatch s ∧ pImg s 0 36 ∧ pImg s 1 68 ∧ pPast s
/-! what stays -/
theorem VN_keep {s s' : mS} {t : Nat} {A N : Row} (h : VN s t A N) (hk : ∀ c, t ≤ c → c ≤ t + 12 → s'.2 c = s.2 c) : VN s' t A N := by
  obtain ⟨h1, h2, h3⟩ := h
  refine ⟨fun b hb => ?_, fun b hb => ?_, fun b hb => ?_⟩
  · rw [hk (t + 1) (by omega) (by omega)]; exact h1 b hb
  · rw [hk (t + 4) (by omega) (by omega)]; exact h2 b hb
  · rw [hk (t + 6) (by omega) (by omega)]; exact h3 b hb
theorem VN_cg {s : mS} {t : Nat} {A B N M : Row} (h : VN s t A N) (hv : WFv A) (he : ∀ k, k < 85 → B k = A k) (hn : ∀ k, k < 26 → M k = N k) : VN s t B M := by
  obtain ⟨h1, h2, h3⟩ := h
  have w0 := WFv_boxes hv
  have w1 := WFv_plots hv
  have w2 := WFv_dead hv
  refine ⟨fun b hb => ?_, fun b hb => ?_, fun b hb => ?_⟩
  · rw [he 0 (by omega)] at hb; rw [hn b (by omega)]; exact h1 b hb
  · rw [he 1 (by omega)] at hb; rw [hn (9 + b) (by omega)]; exact h2 b hb
  · rw [he 2 (by omega)] at hb; rw [hn (14 + b) (by omega)]; exact h3 b hb
theorem QR_keep {s s' : mS} {t : Nat} {A : Row} (h : QR s t A) (hk : ∀ c, t ≤ c → c ≤ t + 3 → s'.1 c = s.1 c) : QR s' t A := by
  unfold QR
  rw [hk t (by omega) (by omega), hk (t + 1) (by omega) (by omega), hk (t + 2) (by omega) (by omega), hk (t + 3) (by omega) (by omega)]
  exact h
theorem PN_cg {P S V : Row} {A B : Row} {st : Nat → Nat} {i : Nat} (h : PN P S V A st i) (hi : i < 40) (h0 : B 0 = A 0) (h2 : B 2 = A 2) (he : ∀ k, 224 ≤ k → k < 466 → B k = A k) : PN P S V B st i := by
  unfold PN
  rw [he (226 + 4 * i) (by omega) (by omega), he (227 + 4 * i) (by omega) (by omega), he (228 + 4 * i) (by omega) (by omega), he (229 + 4 * i) (by omega) (by omega), h0, h2]
  exact h
theorem QR_cg {s : mS} {t : Nat} {A B : Row} (h : QR s t A) (h0 : B 0 = A 0) (h2 : B 2 = A 2) (he : ∀ k, 224 ≤ k → k < 466 → B k = A k) : QR s t B := by
  unfold QR
  rw [he 224 (by omega) (by omega), he 225 (by omega) (by omega)]
  rcases h with h | ⟨a1, a2, a3, a4, a5, st, a6, a7⟩
  · exact Or.inl h
  · exact Or.inr ⟨a1, a2, a3, a4, a5, st, fun i hi => PN_cg (a6 i hi) (by omega) h0 h2 he, a7⟩
theorem World_keep {s s' : mS} {tv ts tq : Nat} {A N : Row} (h : World s tv ts tq A N) (h1 : ∀ c, tv ≤ c → c ≤ tv + 12 → s'.1 c = s.1 c) (h2 : ∀ c, tv ≤ c → c ≤ tv + 12 → s'.2 c = s.2 c) (h3 : ∀ c, ts ≤ c → c ≤ ts + 12 → s'.1 c = s.1 c) (h4 : ∀ c, tq ≤ c → c ≤ tq + 3 → s'.1 c = s.1 c) : World s' tv ts tq A N :=
  ⟨h.1, VR_keep h.2.1 h1, SR_keep h.2.2.1 h3, VN_keep h.2.2.2.1 h2, QR_keep h.2.2.2.2 h4⟩
theorem World_cg {s : mS} {tv ts tq : Nat} {A B N M : Row} (h : World s tv ts tq A N) (he : ∀ k, k < 466 → B k = A k) (hn : ∀ k, k < 26 → M k = N k) : World s tv ts tq B M :=
  ⟨WF_cg h.1 (fun k hk => he k (by omega)), VR_cg h.2.1 h.1.1 (fun k hk => he k (by omega)), SR_cg h.2.2.1 h.1.1 (fun k hk => he k (by omega)), VN_cg h.2.2.2.1 h.1.1 (fun k hk => he k (by omega)) hn, QR_cg h.2.2.2.2 (he 0 (by omega)) (he 2 (by omega)) (fun k _ hk => he k hk)⟩
theorem pTape_keep {s s' : mS} (h : pTape s) (h1 : s'.1 1 1 = s.1 1 1) (h2 : s'.1 2 = s.1 2) (h3 : s'.1 249 2 = s.1 249 2) (h4 : s'.1 250 = s.1 250) : pTape s' := by
  unfold pTape; rw [h1, h2, h3, h4]; exact h
theorem pMisc_keep {s s' : mS} (h : pMisc s) (h1 : s'.1 0 13 = s.1 0 13) (h2 : s'.1 0 14 = s.1 0 14) (h3 : s'.1 0 16 = s.1 0 16) (h4 : s'.1 249 10 = s.1 249 10) (h5 : s'.1 249 29 = s.1 249 29) (h6 : s'.1 249 33 = s.1 249 33) : pMisc s' := by
  unfold pMisc; rw [h1, h2, h3, h4, h5, h6]; exact h
theorem pRing_keep {s s' : mS} (h : pRing s) (h1 : s'.1 0 15 = s.1 0 15) (h2 : s'.1 249 32 = s.1 249 32) (h3 : s'.1 246 = s.1 246) (h4 : s'.1 264 = s.1 264) : pRing s' := by
  unfold pRing; rw [h1, h2, h3, h4]; exact h
theorem pTag_keep {s s' : mS} (h : pTag s) (h1 : s'.1 0 17 = s.1 0 17) (h2 : s'.1 249 35 = s.1 249 35) (h3 : s'.1 247 = s.1 247) (h4 : s'.1 265 = s.1 265) : pTag s' := by
  unfold pTag; rw [h1, h2, h3, h4]; exact h
theorem pTold_keep {s s' : mS} (h : pTold s) (h1 : s'.1 0 18 = s.1 0 18) (h2 : s'.1 249 40 = s.1 249 40) (h3 : s'.1 248 = s.1 248) (h4 : s'.1 267 = s.1 267) : pTold s' := by
  unfold pTold; rw [h1, h2, h3, h4]; exact h
theorem pMatch_keep {s s' : mS} (h : pMatch s) (h1 : s'.1 249 28 = s.1 249 28) (h2 : s'.1 242 = s.1 242) (h3 : s'.1 262 = s.1 262) : pMatch s' := by
  unfold pMatch; rw [h1, h2, h3]; exact h
theorem pImg_keep {s s' : mS} {k t : Nat} (h : pImg s k t) (h1 : ∀ c, t ≤ c → c ≤ t + 30 → s'.1 c = s.1 c) (h2 : ∀ c, t ≤ c → c ≤ t + 30 → s'.2 c = s.2 c) (h3 : s'.1 253 = s.1 253) (h4 : s'.2 259 = s.2 259) (h5 : s'.1 260 = s.1 260) : pImg s' k t := by
  have e1 : imgRow s' k = imgRow s k := by unfold imgRow; rw [h3]
  have e2 : imgNames s' k = imgNames s k := by unfold imgNames; rw [h4]
  unfold pImg
  rw [e1, e2, h5, h1 t (by omega) (by omega)]
  refine ⟨h.1, ?_⟩
  rcases h.2 with q | ⟨q1, q2⟩
  · exact Or.inl q
  · exact Or.inr ⟨q1, World_keep q2 (fun c a b => h1 c (by omega) (by omega)) (fun c a b => h2 c (by omega) (by omega)) (fun c a b => h1 c (by omega) (by omega)) (fun c a b => h1 c (by omega) (by omega))⟩
theorem pastRow_keep {s s' : mS} (h1 : s'.1 251 = s.1 251) (h2 : s'.1 254 = s.1 254) (i : Nat) : pastRow s' i = pastRow s i := by unfold pastRow; rw [h1, h2]
theorem pPast_keep {s s' : mS} (h : pPast s) (h0 : s'.1 100 = s.1 100) (h1 : s'.1 249 25 = s.1 249 25) (h2 : ∀ i : Nat, i < 8 → ∀ k, k < 224 → pastRow s' i k = pastRow s i k) (h4 : ∀ c, 102 ≤ c → c < 206 → s'.1 c = s.1 c) : pPast s' := by
  unfold pPast
  rw [h0, h1]
  refine ⟨h.1, h.2.1, h.2.2.1, h.2.2.2.1, h.2.2.2.2.1, fun i hi => ?_⟩
  have := h.2.2.2.2.2 i hi
  have h8 := h.2.2.1
  refine ⟨WF_cg this.1 (h2 i (by omega)), SR_cg (SR_keep this.2 (fun c a b => ?_)) this.1.1 (h2 i (by omega))⟩
  have : ((s.1 100 1).toNat + i) % 8 < 8 := Nat.mod_lt _ (by decide)
  exact h4 c (by omega) (by omega)
/-- what a query of the reference writes -/
theorem Inv_thrown {s : mS} (h : Inv s) (v : Int) : Inv (wI s 249 0 v) := by
  have e : ∀ c, c ≠ 249 → (wI s 249 0 v).1 c = s.1 c := by intro c hc; funext j; rw [wI_1, if_neg (by omega)]
  have f : ∀ k, k ≠ 0 → (wI s 249 0 v).1 249 k = s.1 249 k := by intro k hk; rw [wI_1, if_neg (by omega)]
  obtain ⟨h1, h2, h3, h4, h5, h6, h7, h8, h9, h10⟩ := h
  refine ⟨?_, pTape_keep h2 (by rw [e _ (by omega)]) (e _ (by omega)) (f _ (by omega)) (e _ (by omega)), pMisc_keep h3 (by rw [e _ (by omega)]) (by rw [e _ (by omega)]) (by rw [e _ (by omega)]) (f _ (by omega)) (f _ (by omega)) (f _ (by omega)), pRing_keep h4 (by rw [e _ (by omega)]) (f _ (by omega)) (e _ (by omega)) (e _ (by omega)), pTag_keep h5 (by rw [e _ (by omega)]) (f _ (by omega)) (e _ (by omega)) (e _ (by omega)), pTold_keep h6 (by rw [e _ (by omega)]) (f _ (by omega)) (e _ (by omega)) (e _ (by omega)), pMatch_keep h7 (f _ (by omega)) (e _ (by omega)) (e _ (by omega)), pImg_keep h8 (fun c _ _ => e c (by omega)) (fun _ _ _ => rfl) (e _ (by omega)) rfl (e _ (by omega)), pImg_keep h9 (fun c _ _ => e c (by omega)) (fun _ _ _ => rfl) (e _ (by omega)) rfl (e _ (by omega)), pPast_keep h10 (e _ (by omega)) (f _ (by omega)) (fun i _ k _ => by rw [pastRow_keep (e _ (by omega)) (e _ (by omega))]) (fun c _ _ => e c (by omega))⟩
  rw [e _ (by omega), wI_2]
  exact World_keep h1 (fun c _ _ => e c (by omega)) (fun _ _ _ => rfl) (fun c _ _ => e c (by omega)) (fun c _ _ => e c (by omega))
/-- the same answer, and it holds on -/
def Sim (F G : mS → Option (Int × mS)) : Prop := ∀ s, Inv s → ∃ r s1 s2, F s = some (r, s1) ∧ G s1 = some (r, s2) ∧ Inv s2
theorem Sim_q {F G : mS → Option (Int × mS)} (r : mS → Int) (h1 : ∀ s, Inv s → F s = some (r s, s)) (h2 : ∀ s, Inv s → G s = some (r s, wI s 249 0 0)) : Sim F G :=
  fun s hs => ⟨r s, s, wI s 249 0 0, h1 s hs, h2 s hs, Inv_thrown hs 0⟩
