/-! LAYER 2. Both parsers, level by level. -/
def cOK (c : Nat → Int32) (k : Nat) : Prop := c k < 10000 ∨ (c k = 10033 ∧ 1 ≤ dW c k) ∨ (10000 < c k ∧ c k ≠ 10033 ∧ 2 ≤ dW c k)
theorem dW_eq {c c' : Nat → Int32} : ∀ L, (∀ k, k < L → c' k = c k) → dW c' L = dW c L := by
  intro L
  induction L with
  | zero => intro _; rfl
  | succ L ih =>
    intro h
    unfold dW
    rw [ih (fun k hk => h k (by omega)), h L (by omega)]
theorem cOK_eq {c c' : Nat → Int32} {k : Nat} (h : ∀ j, j ≤ k → c' j = c j) (g : cOK c k) : cOK c' k := by
  unfold cOK at g ⊢
  rw [h k (Nat.le_refl _), dW_eq k (fun j hj => h j (by omega))]
  exact g
/-- what a part of a text adds -/
def SR (L : Nat) (c : Nat → Int32) (s e L' : Nat) (c' : Nat → Int32) (s' : Nat) : Prop := L ≤ L' ∧ L' + s ≤ L + s' ∧ e ≤ s' ∧ (∀ k, k < L → c' k = c k) ∧ dW c' L' = dW c' L + 1 ∧ ∀ k, L ≤ k → k < L' → cOK c' k
theorem upd_lt {c : Nat → Int32} {L k : Nat} {v : Int32} (h : k < L) : upd c L v k = c k := pk_un (by omega)
theorem SR_leaf {L s e s' : Nat} {c : Nat → Int32} {v : Int32} (hv : v < 10000) (h1 : s < e) (h2 : e ≤ s') : SR L c s e (L + 1) (upd c L v) s' := by
  refine ⟨by omega, by omega, h2, fun k hk => upd_lt hk, ?_, fun k h3 h4 => ?_⟩
  · show (if upd c L v L < 10000 then dW (upd c L v) L + 1 else _) = _
    rw [pk_us, if_pos hv]
  · obtain rfl : k = L := by omega
    left
    rw [pk_us]
    exact hv
theorem SR_not {L s e e' L1 s1 s2 : Nat} {c c1 : Nat → Int32} (h : SR L c s1 e L1 c1 s2) (h1 : s < s1) (he : e' ≤ s2) : SR L c s e' (L1 + 1) (upd c1 L1 10033) s2 := by
  obtain ⟨g1, g2, g3, g4, g5, g6⟩ := h
  have hc : ∀ k, k < L1 → upd c1 L1 10033 k = c1 k := fun k hk => upd_lt hk
  have d1 : dW (upd c1 L1 10033) L1 = dW c1 L1 := dW_eq L1 hc
  have d0 : dW (upd c1 L1 10033) L = dW c1 L := dW_eq L (fun k hk => hc k (by omega))
  refine ⟨by omega, by omega, he, fun k hk => (hc k (by omega)).trans (g4 k hk), ?_, fun k h3 h4 => ?_⟩
  · show (if upd c1 L1 10033 L1 < 10000 then _ else if upd c1 L1 10033 L1 = 10033 then dW (upd c1 L1 10033) L1 else _) = _
    rw [pk_us, if_neg (by decide), if_pos rfl, d1, d0, g5]
  · by_cases y : k = L1
    · subst y
      right
      left
      rw [pk_us, d1, g5]
      exact ⟨rfl, by omega⟩
    · exact cOK_eq (fun j hj => hc j (by omega)) (g6 k h3 (by omega))
theorem SR_op {L0 s0 e0 L1 s1 s2 e2 L2 s3 : Nat} {c0 c1 c2 : Nat → Int32} {v : Int32} (h : SR L0 c0 s0 e0 L1 c1 s1) (h2 : SR L1 c1 s2 e2 L2 c2 s3) (hs : s1 < s2) (hs3 : s2 ≤ s3) (hv : SG v) : SR L0 c0 s0 e0 (L2 + 1) (upd c2 L2 (10000 + v)) s3 := by
  obtain ⟨g1, g2, g3, g4, g5, g6⟩ := h
  obtain ⟨k1, k2, k3, k4, k5, k6⟩ := h2
  obtain ⟨v1, v2, v3, v4⟩ := SG_code hv
  have v5 : (10000 : Int32) < 10000 + v := by
    unfold SG at hv
    rcases hv with rfl | rfl | rfl | rfl | rfl | rfl | rfl | rfl | rfl <;> decide
  have hc : ∀ k, k < L2 → upd c2 L2 (10000 + v) k = c2 k := fun k hk => upd_lt hk
  have d2 : dW (upd c2 L2 (10000 + v)) L2 = dW c2 L2 := dW_eq L2 hc
  have d1 : dW c2 L1 = dW c1 L1 := dW_eq L1 k4
  have d0 : dW (upd c2 L2 (10000 + v)) L0 = dW c1 L0 := dW_eq L0 (fun k hk => (hc k (by omega)).trans (k4 k (by omega)))
  refine ⟨by omega, by omega, by omega, fun k hk => ((hc k (by omega)).trans (k4 k (by omega))).trans (g4 k hk), ?_, fun k h3 h4 => ?_⟩
  · show (if upd c2 L2 (10000 + v) L2 < 10000 then _ else if upd c2 L2 (10000 + v) L2 = 10033 then _ else dW (upd c2 L2 (10000 + v)) L2 - 1) = _
    rw [pk_us, if_neg v1, if_neg v2, d2, d0, k5, d1, g5]
    omega
  · by_cases y : k = L2
    · subst y
      right
      right
      rw [pk_us, d2, k5, d1, g5]
      exact ⟨v5, v2, by omega⟩
    · by_cases z : L1 ≤ k
      · exact cOK_eq (fun j hj => hc j (by omega)) (k6 k z (by omega))
      · exact cOK_eq (fun j hj => (hc j (by omega)).trans (k4 j (by omega))) (g6 k h3 (by omega))
section Levels
variable {σ0 τ0 : St} {by' : Nat → Nat} {Lb i la key : Nat}
def OUT (σ0 τ0 : St) (by' : Nat → Nat) (Lb i la key b m : Nat) (L0 : Nat) (c0 : Nat → Int32) (s0 e0 : Nat) (q s e L lv : Nat) (c : Nat → Int32) (Cf Mf : (Int32 → St → Prop) → St → Prop) : Prop := ∃ (ok : Bool) (q' s' e' L' lv' : Nat) (c' : Nat → Int32), s' ≤ 96 ∧ (ok = true → TOK by' Lb q' s' e' ∧ SR L0 c0 s0 e0 L' c' s' ∧ L' ≤ s') ∧ (∀ σ post, CP σ0 i key b m q s e L lv c σ → (∀ σ', CFr σ0 i σ' → σ' 21 0 1 = nI s' → (ok = true → CP σ0 i key b m q' s' e' L' lv' c' σ') → post (if ok = true then 1 else 0) σ') → Cf post σ) ∧ (∀ τ post, MP τ0 by' la key b m q s e L lv c τ → (∀ τ', MF2 τ0 la τ' → τ' 0 0 3 = nI s' → (ok = true → MP τ0 by' la key b m q' s' e' L' lv' c' τ') → post (if ok = true then 1 else 0) τ') → Mf post τ)
noncomputable def Cfn (f lev : Nat) (post : Int32 → St → Prop) (σ : St) : Prop := if lev = 6 then (G_rd f).2.1 post σ else if lev = 0 then (G_rd f).1 post σ 0 else (G_rd f).2.2.2.2 post σ (nI (lev - 1))
noncomputable def Mfn (key g lev : Nat) (post : Int32 → St → Prop) (τ : St) : Prop := if lev = 0 then (G_ex g).1 post τ (nI key) else if lev = 1 then (G_ex g).2.1 post τ (nI key) else if lev = 2 then (G_ex g).2.2.1 post τ (nI key) else if lev = 3 then (G_ex g).2.2.2.1 post τ (nI key) else if lev = 4 then (G_ex g).2.2.2.2.1 post τ (nI key) else (G_ex g).2.2.2.2.2 post τ (nI key)
theorem OUT_fail {b m L0 s0 e0 q s e L lv : Nat} {c0 c : Nat → Int32} {Cf Mf : (Int32 → St → Prop) → St → Prop} (hs : s ≤ 96) (h1 : ∀ σ post, CP σ0 i key b m q s e L lv c σ → post 0 σ → Cf post σ) (h2 : ∀ τ post, MP τ0 by' la key b m q s e L lv c τ → post 0 τ → Mf post τ) : OUT σ0 τ0 by' Lb i la key b m L0 c0 s0 e0 q s e L lv c Cf Mf :=
  ⟨false, 0, s, 0, 0, 0, c, hs, fun g => absurd g (by decide), fun σ post hc hp => h1 σ post hc (hp σ hc.1 hc.2.2.2.2.1 (fun g => absurd g (by decide))), fun τ post hm hp => h2 τ post hm (hp τ hm.1 hm.2.2.2.1 (fun g => absurd g (by decide)))⟩
/-- one sign and what stands behind it -/
theorem op_step {b m L0 s0 e0 q s e L lv x lev f g : Nat} {c0 c : Nat → Int32} (hTc : TPc σ0 by' Lb) (hTm : TPm τ0 by' Lb) (hla : la + 192 ≤ 3082) (hi : i < 15) (ht : TOK by' Lb q s e) (q3 : q = 3) (hx : by' s = x) (hx2 : x < 256) (hsg : SG (nI x)) (hL : L ≤ s) (hsr : SR L0 c0 s0 e0 L c s) (hlev : lev < 5)
    (hsub : OUT σ0 τ0 by' Lb i la key b m L c (tS by' Lb e) (tE by' Lb e) (tQ by' Lb q e) (tS by' Lb e) (tE by' Lb e) L lv c (Cfn f (lev + 1)) (Mfn key g (lev + 1))) :
    ∃ (ok : Bool) (q' s' e' L' lv' : Nat) (c' : Nat → Int32), s' ≤ 96 ∧ (ok = true → TOK by' Lb q' s' e' ∧ SR L0 c0 s0 e0 L' c' s' ∧ L' ≤ s' ∧ s < s') ∧ (∀ σ (post : Int32 → St → Prop) (K : St → Prop), CP σ0 i key b m q s e L lv c σ → (∀ σ', CFr σ0 i σ' → σ' 21 0 1 = nI s' → (ok = true → CP σ0 i key b m q' s' e' L' lv' c' σ') → (ok = true → K σ') ∧ (ok = false → post 0 σ')) → w_X5_step (fun s7 => (G_rd f).2.2.2.2 (fun r8 s8 => (¬ r8 = 0 → (vp_in (s8 21 0 5) 15 ∧ w_X3_addOperation K s8 (s8 21 0 5).toNatClampNeg (nI x))) ∧ (r8 = 0 → post 0 s8)) s7 (nI lev)) σ) ∧ (∀ τ (post : Int32 → St → Prop) (K : St → Prop), MP τ0 by' la key b m q s e L lv c τ → (∀ τ', MF2 τ0 la τ' → τ' 0 0 3 = nI s' → (ok = true → MP τ0 by' la key b m q' s' e' L' lv' c' τ') → (ok = true → K τ') ∧ (ok = false → post 0 τ')) → w_X10_nextToken (fun s3 => Mfn key g (lev + 1) (fun r4 s4 => (¬ r4 = 0 → w_X10_step K s4 2 (nI x)) ∧ (r4 = 0 → post 0 s4)) s3) τ) := by
  have l96 := hTc.1
  obtain ⟨tn, tle⟩ := TOK_next (q := q) ht.2.2.1 (by' := by')
  have es := ht.2.2.2.2.2.1 q3
  obtain ⟨ok, q', s', e', L', lv', c', h96, hok, hC, hM⟩ := hsub
  have hCe : ∀ post σ, Cfn f (lev + 1) post σ = (G_rd f).2.2.2.2 post σ (nI lev) := fun post σ => (if_neg (by omega)).trans (if_neg (by omega))
  cases ok with
  | false =>
    refine ⟨false, q', s', e', L', lv', c', h96, fun g => absurd g (by decide), fun σ post K hc hp => cpStep hTc hc ht (fun σ1 hc1 => ?_), fun τ post K hm hp => mpStep hTm hm ht (fun τ1 hm1 => ?_)⟩
    · rw [← hCe]
      exact hC σ1 _ hc1 (fun σ2 a1 a2 a3 => ⟨fun g => absurd rfl g, fun _ => (hp σ2 a1 a2 (fun g => absurd g (by decide))).2 rfl⟩)
    · exact hM τ1 _ hm1 (fun τ2 a1 a2 a3 => ⟨fun g => absurd rfl g, fun _ => (hp τ2 a1 a2 (fun g => absurd g (by decide))).2 rfl⟩)
  | true =>
    obtain ⟨t2, sr2, L2⟩ := hok rfl
    have hs' : tS by' Lb e ≤ s' := by
      have := sr2.2.2.1
      have := tn.2.1
      omega
    have L96 : L' < 96 := by
      have := sr2.2.1
      omega
    refine ⟨true, q', s', e', L' + 1, lv', upd c' L' (10000 + nI x), h96, fun _ => ⟨t2, SR_op hsr sr2 (by omega) hs' hsg, ?_, by omega⟩, fun σ post K hc hp => cpStep hTc hc ht (fun σ1 hc1 => ?_), fun τ post K hm hp => mpStep hTm hm ht (fun τ1 hm1 => ?_)⟩
    · have := sr2.2.1
      omega
    · rw [← hCe]
      refine hC σ1 _ hc1 (fun σ2 a1 a2 a3 => ⟨fun _ => ?_, fun g => absurd g (by decide)⟩)
      have hc2 := a3 rfl
      rw [hc2.2.1, cl (show i < 2 ^ 31 by omega)]
      refine ⟨vp_in_nI (by omega) (by decide), ?_⟩
      unfold w_X3_addOperation
      exact cCode hc2 L96 (fun σ3 hc3 => (hp σ3 hc3.1 hc3.2.2.2.2.1 (fun _ => hc3)).1 rfl)
    · refine hM τ1 _ hm1 (fun τ2 a1 a2 a3 => ⟨fun _ => ?_, fun g => absurd g (by decide)⟩)
      refine mCode (a3 rfl) L96 hla (Or.inr (Or.inr (Or.inr ⟨rfl, hsg, rfl⟩))) (fun τ3 hm3 => (hp τ3 hm3.1 hm3.2.2.2.1 (fun _ => hm3)).1 rfl)
theorem cLeaf {post : St → Prop} {σ : St} {b m q s e L lv : Nat} {c : Nat → Int32} {v : Int32} (h : CP σ0 i key b m q s e L lv c σ) (hL : L < 96) (hp : ∀ σ', CP σ0 i key b m q s e (L + 1) (lv + 1) (upd c L v) σ' → post σ') : w_X3_addLeaf post σ i v := by
  unfold w_X3_addLeaf
  intro s1 e1
  obtain ⟨f, h5, hk, h0, h1, h2, h3, h4, hL2, hlv, hc⟩ := h
  rw [hlv, nI_1] at e1
  have w : ∀ k a j, ¬ (k = 17 ∧ a = i ∧ j = 1) → s1 k a j = σ k a j := fun k a j d => by
    rw [e1]
    simp only [wr]
    rw [if_neg (by omega)]
  have hc1 : CP σ0 i key b m q s e L (lv + 1) c s1 := ⟨fun k a j d1 d2 d3 => (w k a j (by omega)).trans (f k a j d1 d2 d3), (w _ _ _ (by omega)).trans h5, (w _ _ _ (by omega)).trans hk, (w _ _ _ (by omega)).trans h0, (w _ _ _ (by omega)).trans h1, (w _ _ _ (by omega)).trans h2, (w _ _ _ (by omega)).trans h3, (w _ _ _ (by omega)).trans h4, (w _ _ _ (by omega)).trans hL2, by rw [e1]; simp [wr], fun k hk2 => (w _ _ _ (by omega)).trans (hc k hk2)⟩
  exact cCode hc1 hL hp
theorem CP_cell {σ : St} {b m q s e L lv b' m' : Nat} {c : Nat → Int32} {j0 : Nat} {v : Int32} (h : CP σ0 i key b m q s e L lv c σ) (hj : (j0 = 3 ∧ v = nI b' ∧ m' = m) ∨ (j0 = 4 ∧ v = nI m' ∧ b' = b)) : CP σ0 i key b' m' q s e L lv c (wr σ 21 0 j0 v) := by
  obtain ⟨f, h5, hk, h0, h1, h2, h3, h4, hL2, hlv, hc⟩ := h
  have w : ∀ k a j, ¬ (k = 21 ∧ a = 0 ∧ j = j0) → wr σ 21 0 j0 v k a j = σ k a j := fun k a j d => by
    simp only [wr]
    rw [if_neg (by omega)]
  refine ⟨fun k a j d1 d2 d3 => (w k a j (by omega)).trans (f k a j d1 d2 d3), (w _ _ _ (by omega)).trans h5, (w _ _ _ (by omega)).trans hk, (w _ _ _ (by omega)).trans h0, (w _ _ _ (by omega)).trans h1, (w _ _ _ (by omega)).trans h2, ?_, ?_, (w _ _ _ (by omega)).trans hL2, (w _ _ _ (by omega)).trans hlv, fun k hk2 => (w _ _ _ (by omega)).trans (hc k hk2)⟩
  · rcases hj with ⟨rfl, rfl, rfl⟩ | ⟨rfl, rfl, rfl⟩
    · simp [wr]
    · exact (w _ _ _ (by omega)).trans h3
  · rcases hj with ⟨rfl, rfl, rfl⟩ | ⟨rfl, rfl, rfl⟩
    · exact (w _ _ _ (by omega)).trans h4
    · simp [wr]
theorem MP_cell {τ : St} {b m q s e L lv b' m' lv' : Nat} {c : Nat → Int32} {j0 : Nat} {v : Int32} (h : MP τ0 by' la key b m q s e L lv c τ) (hj : (j0 = 8 ∧ v = nI b' ∧ m' = m ∧ lv' = lv) ∨ (j0 = 9 ∧ v = nI m' ∧ b' = b ∧ lv' = lv) ∨ (j0 = 12 ∧ v = nI lv' ∧ b' = b ∧ m' = m)) : MP τ0 by' la key b' m' q s e L lv' c (wr τ 0 0 j0 v) := by
  obtain ⟨f, h11, h5, h3, h4, hv, h8, h9, h10, h12, hc⟩ := h
  have w : ∀ k a j, ¬ (k = 0 ∧ a = 0 ∧ j = j0) → wr τ 0 0 j0 v k a j = τ k a j := fun k a j d => by
    simp only [wr]
    rw [if_neg (by omega)]
  refine ⟨fun k a j d1 d2 => (w k a j (by omega)).trans (f k a j d1 d2), (w _ _ _ (by omega)).trans h11, (w _ _ _ (by omega)).trans h5, (w _ _ _ (by omega)).trans h3, (w _ _ _ (by omega)).trans h4, ⟨fun g => (w _ _ _ (by omega)).trans (hv.1 g), fun g => (w _ _ _ (by omega)).trans (hv.2.1 g), fun g => (w _ _ _ (by omega)).trans (hv.2.2 g)⟩, ?_, ?_, (w _ _ _ (by omega)).trans h10, ?_, fun k hk2 => by
    rw [w 1 0 _ (by omega), w 1 0 _ (by omega)]
    exact hc k hk2⟩
  · rcases hj with ⟨rfl, rfl, rfl, rfl⟩ | ⟨rfl, rfl, rfl, rfl⟩ | ⟨rfl, rfl, rfl, rfl⟩
    · simp [wr]
    · exact (w _ _ _ (by omega)).trans h8
    · exact (w _ _ _ (by omega)).trans h8
  · rcases hj with ⟨rfl, rfl, rfl, rfl⟩ | ⟨rfl, rfl, rfl, rfl⟩ | ⟨rfl, rfl, rfl, rfl⟩
    · exact (w _ _ _ (by omega)).trans h9
    · simp [wr]
    · exact (w _ _ _ (by omega)).trans h9
  · rcases hj with ⟨rfl, rfl, rfl, rfl⟩ | ⟨rfl, rfl, rfl, rfl⟩ | ⟨rfl, rfl, rfl, rfl⟩
    · exact (w _ _ _ (by omega)).trans h12
    · exact (w _ _ _ (by omega)).trans h12
    · simp [wr]
theorem G_rd_s (f : Nat) : G_rd (f + 1) = (wb_X5_readLevel (G_rd f).1 (G_rd f).2.1 (G_rd f).2.2.1 (G_rd f).2.2.2.1 (G_rd f).2.2.2.2, wb_X5_readPiece (G_rd f).1 (G_rd f).2.1 (G_rd f).2.2.1 (G_rd f).2.2.2.1 (G_rd f).2.2.2.2, wb_X5_readNot (G_rd f).1 (G_rd f).2.1 (G_rd f).2.2.1 (G_rd f).2.2.2.1 (G_rd f).2.2.2.2, wb_X5_readBracket (G_rd f).1 (G_rd f).2.1 (G_rd f).2.2.1 (G_rd f).2.2.2.1 (G_rd f).2.2.2.2, wb_X5_readBelow (G_rd f).1 (G_rd f).2.1 (G_rd f).2.2.1 (G_rd f).2.2.2.1 (G_rd f).2.2.2.2) := rfl
theorem G_ex_s (f : Nat) : G_ex (f + 1) = (wb_X10_either (G_ex f).1 (G_ex f).2.1 (G_ex f).2.2.1 (G_ex f).2.2.2.1 (G_ex f).2.2.2.2.1 (G_ex f).2.2.2.2.2, wb_X10_both (G_ex f).1 (G_ex f).2.1 (G_ex f).2.2.1 (G_ex f).2.2.2.1 (G_ex f).2.2.2.2.1 (G_ex f).2.2.2.2.2, wb_X10_test (G_ex f).1 (G_ex f).2.1 (G_ex f).2.2.1 (G_ex f).2.2.2.1 (G_ex f).2.2.2.2.1 (G_ex f).2.2.2.2.2, wb_X10_sum (G_ex f).1 (G_ex f).2.1 (G_ex f).2.2.1 (G_ex f).2.2.2.1 (G_ex f).2.2.2.2.1 (G_ex f).2.2.2.2.2, wb_X10_term (G_ex f).1 (G_ex f).2.1 (G_ex f).2.2.1 (G_ex f).2.2.2.1 (G_ex f).2.2.2.2.1 (G_ex f).2.2.2.2.2, wb_X10_part0 (G_ex f).1 (G_ex f).2.1 (G_ex f).2.2.1 (G_ex f).2.2.2.1 (G_ex f).2.2.2.2.1 (G_ex f).2.2.2.2.2) := rfl
theorem uC_rl (R0 : (Int32 → St → Prop) → St → Int32 → Prop) (R1 R2 R3 : (Int32 → St → Prop) → St → Prop) (R4 : (Int32 → St → Prop) → St → Int32 → Prop) (post : Int32 → St → Prop) (q : Nat) : l_X5_readLevel_24 R0 R1 R2 R3 R4 post (q + 1) = b_X5_readLevel_24 R0 R1 R2 R3 R4 (l_X5_readLevel_24 R0 R1 R2 R3 R4 post q) post := rfl
theorem cSigns {post : Nat → St → Prop} {σ : St} {lev : Nat} (hl : lev < 5) (h : post (9 + lev) σ) : w_X5_signs post σ (nI lev) := by
  unfold w_X5_signs
  rcases (show lev = 0 ∨ lev = 1 ∨ lev = 2 ∨ lev = 3 ∨ lev = 4 by omega) with rfl | rfl | rfl | rfl | rfl
  · exact ⟨fun _ => h, fun c => absurd rfl c⟩
  · exact ⟨fun c => absurd c (by decide), fun _ => ⟨fun _ => h, fun c => absurd rfl c⟩⟩
  · exact ⟨fun c => absurd c (by decide), fun _ => ⟨fun c => absurd c (by decide), fun _ => ⟨fun _ => h, fun c => absurd rfl c⟩⟩⟩
  · exact ⟨fun c => absurd c (by decide), fun _ => ⟨fun c => absurd c (by decide), fun _ => ⟨fun c => absurd c (by decide), fun _ => ⟨fun _ => h, fun c => absurd rfl c⟩⟩⟩⟩
  · exact ⟨fun c => absurd c (by decide), fun _ => ⟨fun c => absurd c (by decide), fun _ => ⟨fun c => absurd c (by decide), fun _ => ⟨fun c => absurd c (by decide), fun _ => h⟩⟩⟩⟩
/-- the class' loop of a level, one turn -/
theorem cTurn {f r n most lev b m q s e L lv : Nat} {c : Nat → Int32} {post : Int32 → St → Prop} {σ : St} (hTc : TPc σ0 by' Lb) (hl : lev < 5) (hn : n < most) (hmost : most ≤ 96) (h : CP σ0 i key b m q s e L lv c σ) (ht : TOK by' Lb q s e) (h0 : ¬ (q = 3 ∧ sgB (9 + lev) (by' s) = true) → post 1 σ) (h1 : q = 3 → sgB (9 + lev) (by' s) = true → w_X5_step (fun s7 => (G_rd f).2.2.2.2 (fun r8 s8 => (¬ r8 = 0 → (vp_in (s8 21 0 5) 15 ∧ w_X3_addOperation (fun s11 => l_X5_readLevel_24 (G_rd f).1 (G_rd f).2.1 (G_rd f).2.2.1 (G_rd f).2.2.2.1 (G_rd f).2.2.2.2 post r s11 (nI lev) (nI most) (nI (n + 1))) s8 (s8 21 0 5).toNatClampNeg (nI (by' s)))) ∧ (r8 = 0 → post 0 s8)) s7 (nI lev)) σ) : l_X5_readLevel_24 (G_rd f).1 (G_rd f).2.1 (G_rd f).2.2.1 (G_rd f).2.2.2.1 (G_rd f).2.2.2.2 post (r + 1) σ (nI lev) (nI most) (nI n) := by
  rw [uC_rl]
  unfold b_X5_readLevel_24
  refine ⟨fun g => absurd g (nI_ge hn (by omega)), fun _ => cSigns hl (cIsSign hTc h ht (by omega) ?_)⟩
  by_cases y : q = 3 ∧ sgB (9 + lev) (by' s) = true
  · rw [if_pos y]
    have es := ht.2.2.2.2.2.1 y.1
    have := ht.2.2.1
    have := hTc.1
    obtain ⟨b1, b2⟩ := hTc.2.2 s (by omega)
    refine ⟨fun g => absurd g (by decide), fun _ => ?_⟩
    rw [h.2.2.2.2.1, cl (show s < 2 ^ 31 by omega), (h.1 20 0 s (by decide) (by omega) (by omega)).trans b2]
    refine ⟨vp_in_nI (by omega) (by decide), fun v ev => ?_⟩
    subst ev
    have g := h1 y.1 y.2
    have e1 : ∀ x : Int32, x = nI n + 1 ↔ x = nI (n + 1) := fun x => by rw [nI_1]
    simp only [e1, forall_eq]
    exact g
  · rw [if_neg y]
    exact ⟨fun _ => h0 y, fun g => absurd rfl g⟩
end Levels
