/-! LAYER 2. Tape, sheets, slots, numbers that wait. -/
def bt (x : Int32) (i : Nat) : Bool := x.toBitVec.getLsbD i
theorem b_ext {x y : Int32} (h : ∀ i, i < 32 → bt x i = bt y i) : x = y := Int32.toBitVec_inj.mp (BitVec.eq_of_getLsbD_eq (fun i hi => h i hi))
theorem b_and (x y : Int32) (i : Nat) : bt (x &&& y) i = (bt x i && bt y i) := by unfold bt; rw [Int32.toBitVec_and, BitVec.getLsbD_and]
theorem b_255 : ∀ i, i < 32 → bt 255 i = decide (i < 8) := by decide +kernel
theorem sh_u : ∀ n, n < 32 → (((nI n).toUInt32 &&& Int32.toUInt32 31).toBitVec % 32).toNat = n := by decide +kernel
theorem b_shl (n : Nat) (hn : n < 32) (x : Int32) {i : Nat} (hi : i < 32) : bt (x <<< (nI n &&& 31)) i = (decide (n ≤ i) && bt x (i - n)) := by
  unfold bt
  rw [Int32.toBitVec_shiftLeft]
  show (x.toBitVec <<< ((nI n &&& 31).toBitVec.smod 32).toNat).getLsbD i = _
  rw [sh_l n hn, BitVec.getLsbD_shiftLeft]
  rcases Nat.lt_or_ge i n with h | h
  · simp [h, Nat.not_le.mpr h]
  · simp [hi, h, Nat.not_lt.mpr h]
theorem b_ushr (n : Nat) (hn : n < 32) (x : Int32) (i : Nat) : bt (jushr x (nI n)) i = bt x (n + i) := by
  show (x.toUInt32 >>> ((nI n).toUInt32 &&& Int32.toUInt32 31)).toBitVec.getLsbD i = x.toUInt32.toBitVec.getLsbD (n + i)
  rw [UInt32.toBitVec_shiftRight]
  show (x.toUInt32.toBitVec >>> (((nI n).toUInt32 &&& Int32.toUInt32 31).toBitVec % 32).toNat).getLsbD i = _
  rw [sh_u n hn, BitVec.getLsbD_ushiftRight]
theorem b_sshr (n : Nat) (hn : n < 32) (x : Int32) {i : Nat} (hi : i < 32) : bt (x >>> (nI n &&& 31)) i = if n + i < 32 then bt x (n + i) else bt x 31 := by
  unfold bt
  rw [Int32.toBitVec_shiftRight]
  show (x.toBitVec.sshiftRight ((nI n &&& 31).toBitVec.smod 32).toNat).getLsbD i = _
  rw [sh_l n hn, BitVec.getLsbD_sshiftRight, BitVec.msb_eq_getLsbD_last]
  simp [hi]
theorem sh16 (x : Int32) : (x <<< ((16 : Int32) &&& 31)) >>> ((16 : Int32) &&& 31) = x.toInt16.toInt32 := by
  apply b_ext
  intro i hi
  have e : bt x.toInt16.toInt32 i = if i < 16 then bt x i else bt x 15 := by
    unfold bt
    rw [Int16.toBitVec_toInt32, Int32.toBitVec_toInt16, BitVec.getLsbD_signExtend]
    by_cases h : i < 16
    · simp only [if_pos h]
      rw [BitVec.getLsbD_signExtend]
      simp [h, hi]
    · simp only [if_neg h]
      rw [BitVec.msb_eq_getLsbD_last, BitVec.getLsbD_signExtend]
      simp [hi]
  rw [e, show (16 : Int32) = nI 16 from rfl, b_sshr 16 (by omega) _ hi]
  by_cases h : i < 16
  · rw [if_pos (by omega), if_pos h, b_shl 16 (by omega) x (by omega)]
    simp
  · rw [if_neg (by omega), if_neg h, b_shl 16 (by omega) x (by omega)]
    simp
theorem sh255 (x : Int32) {s : Nat} (hs : s ≤ 24) : (x >>> (nI s &&& 31)) &&& 255 = jushr x (nI s) &&& 255 := by
  apply b_ext
  intro i hi
  rw [b_and, b_and, b_255 i hi, b_sshr s (by omega) _ hi, b_ushr s (by omega)]
  by_cases h : i < 8
  · rw [if_pos (by omega)]
  · simp [h]
def byt (x : Int32) (i : Nat) : Int32 := jushr x (nI (24 - 8 * i)) &&& 255
theorem byt_n (x : Int32) (i : Nat) : ∃ b, b < 256 ∧ byt x i = nI b := by
  obtain ⟨b, h1, h2⟩ := pk_andE (jushr x (nI (24 - 8 * i))) (m := 255) 8 (by decide)
  exact ⟨b, h1, h2⟩
/-! parts of the relation -/
theorem RTp_c {σ τ σ' τ' : St} (h : RTp σ τ) (c : ∀ q j, q = 19 ∨ q = 20 → σ' q 0 j = σ q 0 j) (d : τ' 0 0 2 = τ 0 0 2) (d2 : ∀ j, τ' 15 0 j = τ 15 0 j) : RTp σ' τ' := by
  obtain ⟨L, l1, l2, l3, l4⟩ := h
  refine ⟨L, l1, (c 19 0 (Or.inl rfl)).trans l2, d.trans l3, fun j hj => ?_⟩
  rw [c 20 j (Or.inr rfl), d2]
  exact l4 j hj
theorem RSh_c {σ τ σ' τ' : St} {k : Nat} (h : RSh σ τ k) (c : ∀ q j, q = 22 ∨ q = 23 → σ' q k j = σ q k j) (d4 : τ' 4 0 k = τ 4 0 k) (d5 : τ' 5 0 k = τ 5 0 k) (d6 : ∀ j, j < 24 → τ' 6 0 (24 * k + j) = τ 6 0 (24 * k + j)) : RSh σ' τ' k := by
  obtain ⟨a1, a2, m, a3, a4, a5, a6⟩ := h
  have e := c 22 0 (Or.inl rfl)
  refine ⟨by rw [e, d4]; exact a1, by rw [e]; exact a2, m, a3, (c 22 1 (Or.inl rfl)).trans a4, d5.trans a5, fun j hj => ?_⟩
  rw [c 23 j (Or.inr rfl), d6 j (by omega)]
  exact a6 j hj
theorem RSl_c {σ τ σ' τ' : St} {i : Nat} (h : RSl σ τ i) (c : ∀ j, σ' 24 i j = σ 24 i j) (c2 : ∀ q j, q = 22 ∨ q = 23 → σ' q (i + 4) j = σ q (i + 4) j) (d : ∀ q, 7 ≤ q → q ≤ 10 → τ' q 0 i = τ q 0 i) (d2 : ∀ j, j < 24 → τ' 11 0 (24 * i + j) = τ 11 0 (24 * i + j)) : RSl σ' τ' i := by
  obtain ⟨q, b1, b2, b3, b4, b5, b6⟩ := h
  refine ⟨q, b1, (c 0).trans b2, (d 7 (by decide) (by decide)).trans b3, fun hq => ?_, fun hq => ?_, fun hq => ?_⟩
  · rw [c, c, d 8 (by decide) (by decide), d 9 (by decide) (by decide)]
    exact b4 hq
  · obtain ⟨m, g1, g2, g3, g4⟩ := b5 hq
    refine ⟨m, g1, (c2 22 1 (Or.inl rfl)).trans g2, (d 10 (by decide) (by decide)).trans g3, fun j hj => ?_⟩
    rw [c2 23 j (Or.inr rfl), d2 j (by omega)]
    exact g4 j hj
  · rw [c, d 8 (by decide) (by decide)]
    exact b6 hq
theorem RWt_c {σ τ σ' τ' : St} (h : RWt σ τ) (c6 : ∀ j, σ' 29 6 j = σ 29 6 j) (c : σ' 0 0 1 = σ 0 0 1) (c2 : ∀ j, σ' 1 0 j = σ 1 0 j) (d : τ' 0 0 13 = τ 0 0 13) (d2 : ∀ j, τ' 19 0 j = τ 19 0 j) : RWt σ' τ' := by
  obtain ⟨w, ⟨w1, w6⟩, w2, w3, w4⟩ := h
  refine ⟨w, ⟨w1, fun j => (c6 j).trans (w6 j)⟩, c.trans w2, d.trans w3, fun j hj => ?_⟩
  rw [c2, d2]
  exact w4 j hj
theorem Rel_nh {σ τ σ' τ' : St} (hR : Rel σ τ) (c : ∀ k a j, 5 ≤ k → k ≤ 18 → σ' k a j = σ k a j) (c0 : σ' 0 0 0 = σ 0 0 0) (d : ∀ j, τ' 1 0 j = τ 1 0 j) (d2 : ∀ j, τ' 2 0 j = τ 2 0 j) (d0 : τ' 0 0 0 = τ 0 0 0) (p1 : RTp σ' τ') (p2 : ∀ k, k < 4 → RSh σ' τ' k) (p3 : ∀ i, i < 5 → RSl σ' τ' i) (p4 : RWt σ' τ') : Rel σ' τ' := by
  obtain ⟨n, m, T, hH, hT, hI, -, -, -, -⟩ := hR
  have e17 : ∀ t j, σ' 17 t j = σ 17 t j := fun t j => c 17 t j (by decide) (by decide)
  have e18 : ∀ t, σ' 18 t = σ 18 t := fun t => funext (fun j => c 18 t j (by decide) (by decide))
  have eH : ∀ i, EqH (hlC σ' i) (hlC σ i) := fun i k j hv => by
    unfold vc at hv
    simp only [hlC]
    rw [if_neg (by omega), if_neg (by omega)]
    exact c k i j (by omega) (by omega)
  refine ⟨n, m, T, RHill_eq hH (eH 0) (fun j _ => d j), TX_eq hT (fun t j _ => e17 t j) (fun t _ => e18 t) (fun j _ _ => d j), ?_, p1, p2, p3, p4⟩
  rcases hI with ⟨a, b⟩ | ⟨a, b, n2, m2, T2, h1, h2, h3⟩
  · exact Or.inl ⟨c0.trans a, d0.trans b⟩
  · exact Or.inr ⟨by rw [c0]; exact a, by rw [d0]; exact b, n2, m2, T2, h1, RHill_eq h2 (eH 1) (fun j _ => d2 j), TX_eq h3 (fun t j _ => e17 t j) (fun t _ => e18 t) (fun j _ _ => d2 j)⟩
theorem Rel_tape {σ τ σ' τ' : St} (hR : Rel σ τ) (c : ∀ q a j, q ≠ 19 → q ≠ 20 → σ' q a j = σ q a j) (d : ∀ q a j, ¬ (q = 0 ∧ j = 2) → q ≠ 15 → τ' q a j = τ q a j) (p : RTp σ' τ') : Rel σ' τ' := by
  obtain ⟨n, m, T, -, -, -, -, hS, hL, hW⟩ := id hR
  refine Rel_nh hR (fun k a j h1 h2 => c k a j (by omega) (by omega)) (c _ _ _ (by decide) (by decide)) (fun j => d _ _ _ (by omega) (by decide)) (fun j => d _ _ _ (by omega) (by decide)) (d _ _ _ (by decide) (by decide)) p (fun k hk => ?_) (fun i hi => ?_) ?_
  · exact RSh_c (hS k hk) (fun q j h => c _ _ _ (by omega) (by omega)) (d _ _ _ (by omega) (by decide)) (d _ _ _ (by omega) (by decide)) (fun j _ => d _ _ _ (by omega) (by decide))
  · exact RSl_c (hL i hi) (fun j => c _ _ _ (by decide) (by decide)) (fun q j h => c _ _ _ (by omega) (by omega)) (fun q h1 h2 => d _ _ _ (by omega) (by omega)) (fun j _ => d _ _ _ (by omega) (by decide))
  · exact RWt_c hW (fun j => c _ _ _ (by decide) (by decide)) (c _ _ _ (by decide) (by decide)) (fun j => c _ _ _ (by decide) (by decide)) (d _ _ _ (by decide) (by decide)) (fun j => d _ _ _ (by omega) (by decide))
theorem Rel_wait {σ τ σ' τ' : St} (hR : Rel σ τ) (c : ∀ q a j, ¬ (q = 0 ∧ j = 1) → q ≠ 1 → σ' q a j = σ q a j) (d : ∀ q a j, ¬ (q = 0 ∧ j = 13) → q ≠ 19 → τ' q a j = τ q a j) (p : RWt σ' τ') : Rel σ' τ' := by
  obtain ⟨n, m, T, -, -, -, hTp, hS, hL, -⟩ := id hR
  refine Rel_nh hR (fun k a j h1 h2 => c k a j (by omega) (by omega)) (c _ _ _ (by decide) (by decide)) (fun j => d _ _ _ (by omega) (by decide)) (fun j => d _ _ _ (by omega) (by decide)) (d _ _ _ (by decide) (by decide)) ?_ (fun k hk => ?_) (fun i hi => ?_) p
  · exact RTp_c hTp (fun q j h => c _ _ _ (by omega) (by omega)) (d _ _ _ (by decide) (by decide)) (fun j => d _ _ _ (by omega) (by decide))
  · exact RSh_c (hS k hk) (fun q j h => c _ _ _ (by omega) (by omega)) (d _ _ _ (by omega) (by decide)) (d _ _ _ (by omega) (by decide)) (fun j _ => d _ _ _ (by omega) (by decide))
  · exact RSl_c (hL i hi) (fun j => c _ _ _ (by omega) (by decide)) (fun q j h => c _ _ _ (by omega) (by omega)) (fun q h1 h2 => d _ _ _ (by omega) (by omega)) (fun j _ => d _ _ _ (by omega) (by decide))
theorem Rel_sheet {σ τ σ' τ' : St} {k : Nat} (hk : k < 4) (hR : Rel σ τ) (c : ∀ q a j, ¬ ((q = 22 ∨ q = 23) ∧ a = k) → σ' q a j = σ q a j) (d : ∀ q a j, ¬ (q = 4 ∧ j = k) → ¬ (q = 5 ∧ j = k) → ¬ (q = 6 ∧ 24 * k ≤ j ∧ j < 24 * k + 24) → q ≠ 18 → τ' q a j = τ q a j) (p : RSh σ' τ' k) : Rel σ' τ' := by
  obtain ⟨n, m, T, -, -, -, hTp, hS, hL, hW⟩ := id hR
  refine Rel_nh hR (fun k a j h1 h2 => c k a j (by omega)) (c _ _ _ (by omega)) (fun j => d _ _ _ (by omega) (by omega) (by omega) (by omega)) (fun j => d _ _ _ (by omega) (by omega) (by omega) (by omega)) (d _ _ _ (by omega) (by omega) (by omega) (by omega)) ?_ (fun k2 hk2 => ?_) (fun i hi => ?_) ?_
  · exact RTp_c hTp (fun q j h => c _ _ _ (by omega)) (d _ _ _ (by omega) (by omega) (by omega) (by omega)) (fun j => d _ _ _ (by omega) (by omega) (by omega) (by omega))
  · by_cases e : k2 = k
    · rw [e]
      exact p
    · exact RSh_c (hS k2 hk2) (fun q j h => c _ _ _ (by omega)) (d _ _ _ (by omega) (by omega) (by omega) (by omega)) (d _ _ _ (by omega) (by omega) (by omega) (by omega)) (fun j _ => d _ _ _ (by omega) (by omega) (by omega) (by omega))
  · exact RSl_c (hL i hi) (fun j => c _ _ _ (by omega)) (fun q j h => c _ _ _ (by omega)) (fun q h1 h2 => d _ _ _ (by omega) (by omega) (by omega) (by omega)) (fun j _ => d _ _ _ (by omega) (by omega) (by omega) (by omega))
  · exact RWt_c hW (fun j => c _ _ _ (by omega)) (c _ _ _ (by omega)) (fun j => c _ _ _ (by omega)) (d _ _ _ (by omega) (by omega) (by omega) (by omega)) (fun j => d _ _ _ (by omega) (by omega) (by omega) (by omega))
theorem Rel_slot {σ τ σ' τ' : St} {i : Nat} (hi : i < 5) (hR : Rel σ τ) (c : ∀ q a j, ¬ (q = 24 ∧ a = i) → ¬ ((q = 22 ∨ q = 23) ∧ a = i + 4) → σ' q a j = σ q a j) (d : ∀ q a j, ¬ (7 ≤ q ∧ q ≤ 10 ∧ j = i) → ¬ (q = 11 ∧ 24 * i ≤ j ∧ j < 24 * i + 24) → τ' q a j = τ q a j) (p : RSl σ' τ' i) : Rel σ' τ' := by
  obtain ⟨n, m, T, -, -, -, hTp, hS, hL, hW⟩ := id hR
  refine Rel_nh hR (fun k a j h1 h2 => c k a j (by omega) (by omega)) (c _ _ _ (by omega) (by omega)) (fun j => d _ _ _ (by omega) (by omega)) (fun j => d _ _ _ (by omega) (by omega)) (d _ _ _ (by omega) (by omega)) ?_ (fun k2 hk2 => ?_) (fun i2 hi2 => ?_) ?_
  · exact RTp_c hTp (fun q j h => c _ _ _ (by omega) (by omega)) (d _ _ _ (by omega) (by omega)) (fun j => d _ _ _ (by omega) (by omega))
  · exact RSh_c (hS k2 hk2) (fun q j h => c _ _ _ (by omega) (by omega)) (d _ _ _ (by omega) (by omega)) (d _ _ _ (by omega) (by omega)) (fun j _ => d _ _ _ (by omega) (by omega))
  · by_cases e : i2 = i
    · rw [e]
      exact p
    · exact RSl_c (hL i2 hi2) (fun j => c _ _ _ (by omega) (by omega)) (fun q j h => c _ _ _ (by omega) (by omega)) (fun q h1 h2 => d _ _ _ (by omega) (by omega)) (fun j _ => d _ _ _ (by omega) (by omega))
  · exact RWt_c hW (fun j => c _ _ _ (by omega) (by omega)) (c _ _ _ (by omega) (by omega)) (fun j => c _ _ _ (by omega) (by omega)) (d _ _ _ (by omega) (by omega)) (fun j => d _ _ _ (by omega) (by omega))
/-! the tape -/
theorem sim25 (σ τ : St) (a0 : Int32) (hR : Rel σ τ) : w_X9_trim (fun r σ1 => w_X10_trim (fun r2 τ1 => r = r2 ∧ Rel σ1 τ1) τ a0) σ a0 := by
  obtain ⟨n, m, T, -, -, -, ⟨L, l1, l2, l3, l4⟩, -⟩ := id hR
  unfold w_X9_trim w_X10_trim
  rw [l2, l3]
  rcases wv_10 a0 0 (nI L) with ⟨e0, q0⟩ | ⟨e0, q0⟩
  · exact gC0' e0 (gM0' e0 ⟨rfl, hR⟩)
  obtain ⟨q, _, hq, rfl⟩ := wv_n (a := 0) (b := L) (by omega) (by decide) q0
  refine gC1' e0 (fun s es => gM1' e0 (fun t et => ⟨rfl, ?_⟩))
  refine Rel_tape hR (fun a b j h1 h2 => by rw [es, wr_off _ _ _ (by omega)]) (fun a b j h1 h2 => by rw [et]; simp only [wr]; rw [if_neg (by omega)]) ⟨q, by omega, by rw [es]; simp [wr], by rw [et]; simp [wr], fun j hj => ?_⟩
  obtain ⟨b, b1, b2, b3⟩ := l4 j (by omega)
  exact ⟨b, b1, by rw [es, wr_off _ _ _ (by omega)]; exact b2, by rw [et, wr_off _ _ _ (by omega)]; exact b3⟩
theorem addSt {post : St → Prop} {σ : St} {x : Int32} {s m L : Nat} (hL : σ 19 0 0 = nI L) (h96 : L < 96) (hs : s < 100) (h : l_X8_add_3 post m (wr (wr σ 20 0 L (jushr x (nI s) &&& 255)) 19 0 0 (nI (L + 1))) x (nI s + (-8))) : l_X8_add_3 post (m + 1) σ x (nI s) := by
  show b_X8_add_3 (l_X8_add_3 post m) post σ x (nI s)
  unfold b_X8_add_3
  rw [hL, cl (show L < 2 ^ 31 by omega)]
  refine ⟨fun c => absurd c (nI_pos (by omega)), fun _ => ⟨vp_in_nI h96 (by decide), fun s3 e3 s4 e4 v ev => ?_⟩⟩
  have q : s3 19 0 0 = nI L := by rw [e3, wr_off _ _ _ (by omega)]; exact hL
  rw [q, nI_1] at e4
  subst ev
  subst e4
  subst e3
  exact h
theorem sX8_add {post : St → Prop} {σ : St} {x : Int32} {L : Nat} (hL : σ 19 0 0 = nI L) (h96 : L + 4 ≤ 96) (h : ∀ σ' : St, σ' 19 0 0 = nI (L + 4) → (∀ j, σ' 20 0 j = if L ≤ j ∧ j < L + 4 then byt x (j - L) else σ 20 0 j) → (∀ k a j, k ≠ 19 → k ≠ 20 → σ' k a j = σ k a j) → post σ') : w_X8_add post σ x := by
  refine ⟨5, ?_⟩
  refine addSt (s := 24) hL (by omega) (by decide) ?_
  refine addSt (s := 16) (L := L + 1) (by simp [wr]) (by omega) (by decide) ?_
  refine addSt (s := 8) (L := L + 2) (by simp [wr]) (by omega) (by decide) ?_
  refine addSt (s := 0) (L := L + 3) (by simp [wr]) (by omega) (by decide) ?_
  show b_X8_add_3 _ post _ x (nI 0 + (-8))
  unfold b_X8_add_3
  refine ⟨fun _ => h _ (by simp [wr]) (fun j => ?_) (fun k a j h1 h2 => by simp [wr, h1, h2]), fun c => absurd (by decide) c⟩
  have b0 : byt x 0 = jushr x (nI 24) &&& 255 := rfl
  have b1 : byt x 1 = jushr x (nI 16) &&& 255 := rfl
  have b2 : byt x 2 = jushr x (nI 8) &&& 255 := rfl
  have b3 : byt x 3 = jushr x (nI 0) &&& 255 := rfl
  by_cases c : L ≤ j ∧ j < L + 4
  · rw [if_pos c]
    rcases (show j = L ∨ j = L + 1 ∨ j = L + 2 ∨ j = L + 3 by omega) with rfl | rfl | rfl | rfl
    · rw [show j - j = 0 by omega, b0]
      simp [wr]
    · rw [show L + 1 - L = 1 by omega, b1]
      simp [wr]
    · rw [show L + 2 - L = 2 by omega, b2]
      simp [wr]
    · rw [show L + 3 - L = 3 by omega, b3]
      simp [wr]
  · rw [if_neg c]
    simp only [wr]
    simp (disch := omega) only [if_neg]
def tb (a b c : Int32) (i : Nat) : Int32 := byt (if i < 4 then a else if i < 8 then b else c) (i % 4)
theorem mFeed {post : Int32 → St → Prop} {τ : St} {a b c : Int32} {L : Nat} (h96 : L + 12 ≤ 96) (h : ∀ τ' : St, τ' 0 0 2 = nI (L + 12) → (∀ j, τ' 15 0 j = if L ≤ j ∧ j < L + 12 then tb a b c (j - L) else τ 15 0 j) → (∀ k x j, ¬ (k = 0 ∧ j = 2) → k ≠ 15 → τ' k x j = τ k x j) → post (nI (L + 12)) τ') : ∀ (q k : Nat) (s : St), k + q = 12 → s 0 0 2 = nI (L + k) → (∀ j, s 15 0 j = if L ≤ j ∧ j < L + k then tb a b c (j - L) else τ 15 0 j) → (∀ k x j, ¬ (k = 0 ∧ j = 2) → k ≠ 15 → s k x j = τ k x j) → l_X10_feed_18 post (q + 1) s a b c (nI k) := by
  intro q
  induction q with
  | zero =>
    intro k s hk e1 e2 e3
    obtain rfl : k = 12 := by omega
    show b_X10_feed_18 _ post s a b c _
    unfold b_X10_feed_18
    rw [e1]
    exact ⟨fun _ => h s e1 e2 e3, fun c => absurd (by decide) c⟩
  | succ q ih =>
    intro k s hk e1 e2 e3
    show b_X10_feed_18 (l_X10_feed_18 post (q + 1)) post s a b c _
    unfold b_X10_feed_18
    have step : ∀ y, y = (if k < 4 then a else if k < 8 then b else c) → b_X10_feed_47 (l_X10_feed_18 post (q + 1)) post s y a b c (nI k) := by
      intro y ey
      unfold b_X10_feed_47
      rw [e1, cl (show L + k < 2 ^ 31 by omega)]
      refine ⟨by decide, fun v ev => ⟨vp_in_nI (by omega) (by decide), fun s4 e4 s5 e5 w ew => ?_⟩⟩
      have ev : v = nI (k % 4) := ev.trans (jrem_n (d := 4) (by omega) (by decide) (by decide))
      subst ev
      subst ew
      rw [show (8 : Int32) * nI (k % 4) = nI (8 * (k % 4)) from pk_mul 8 _, show (24 : Int32) - nI (8 * (k % 4)) = nI (24 - 8 * (k % 4)) from pk_sub (a := 24) (by omega), sh255 _ (by omega)] at e4
      have q4 : s4 0 0 2 = nI (L + k) := by rw [e4, wr_off _ _ _ (by omega)]; exact e1
      rw [q4, nI_1] at e5
      rw [nI_1]
      refine ih (k + 1) s5 (by omega) (by rw [e5]; simp [wr, Nat.add_assoc]) (fun j => ?_) (fun k2 x j h1 h2 => ?_)
      · rw [e5, wr_off _ _ _ (by omega), e4, wr_row]
        by_cases cj : j = L + k
        · rw [cj, pk_us, if_pos (by omega), show L + k - L = k by omega]
          unfold tb byt
          rw [← ey]
        · rw [pk_un cj, e2 j]
          by_cases c2 : L ≤ j ∧ j < L + k
          · rw [if_pos c2, if_pos (by omega)]
          · rw [if_neg c2, if_neg (by omega)]
      · rw [e5]
        simp only [wr]
        rw [if_neg (by omega), e4, wr_off _ _ _ (by omega)]
        exact e3 k2 x j h1 h2
    refine ⟨fun g => absurd g (nI_ge (b := 12) (by omega) (by decide)), fun _ => ⟨fun g => ⟨fun g2 => ?_, fun g2 => ?_⟩, fun g => ?_⟩⟩
    · have k4 : 4 ≤ k := (nI_leI (a := 4) (by decide) (by omega)).1 g
      have k8 : 8 ≤ k := (nI_leI (a := 8) (by decide) (by omega)).1 g2
      exact step _ (by rw [if_neg (by omega), if_neg (by omega)])
    · have k4 : 4 ≤ k := (nI_leI (a := 4) (by decide) (by omega)).1 g
      have k8 : ¬ 8 ≤ k := fun x => g2 (nI_le (a := 8) x (by omega))
      exact step _ (by rw [if_neg (by omega), if_pos (by omega)])
    · have k4 : ¬ 4 ≤ k := fun x => g (nI_le (a := 4) x (by omega))
      exact step _ (by rw [if_pos (by omega)])
theorem sim24 (σ τ : St) (a0 a1 a2 : Int32) (hR : Rel σ τ) : w_X9_feed (fun r σ1 => w_X10_feed (fun r2 τ1 => r = r2 ∧ Rel σ1 τ1) τ a0 a1 a2) σ a0 a1 a2 := by
  obtain ⟨n, m, T, -, -, -, ⟨L, l1, l2, l3, l4⟩, -⟩ := id hR
  unfold w_X9_feed w_X10_feed
  rw [l2, l3, show nI L + 12 = nI (L + 12) from nI_add L 12]
  by_cases c : L + 12 ≤ 96
  · have c' : nI (L + 12) ≤ (96 : Int32) := nI_le (b := 96) c (by decide)
    refine ⟨fun _ => ?_, fun g => absurd c' g⟩
    refine sX8_add l2 (by omega) (fun s1 f1 g1 h1 => sX8_add f1 (by omega) (fun s2 f2 g2 h2 => sX8_add f2 (by omega) (fun s3 f3 g3 h3 => ?_)))
    refine ⟨fun _ => ⟨13, mFeed (L := L) c (fun t t1 t2 t3 => ⟨by rw [f3], ?_⟩) 12 0 τ (by omega) l3 (fun j => by rw [if_neg (by omega)]) (fun _ _ _ _ _ => rfl)⟩, fun g => absurd c' g⟩
    refine Rel_tape hR (fun q a j x1 x2 => by rw [h3 _ _ _ x1 x2, h2 _ _ _ x1 x2, h1 _ _ _ x1 x2]) t3 ⟨L + 12, c, by rw [f3], t1, fun j hj => ?_⟩
    have e20 : s3 20 0 j = if L ≤ j ∧ j < L + 12 then tb a0 a1 a2 (j - L) else σ 20 0 j := by
      rw [g3 j, g2 j, g1 j]
      unfold tb
      by_cases c3 : L + 4 + 4 ≤ j ∧ j < L + 4 + 4 + 4
      · rw [if_pos c3, if_pos (by omega), if_neg (by omega), if_neg (by omega), show (j - L) % 4 = j - (L + 4 + 4) by omega]
      · rw [if_neg c3]
        by_cases c2 : L + 4 ≤ j ∧ j < L + 4 + 4
        · rw [if_pos c2, if_pos (by omega), if_neg (by omega), if_pos (by omega), show (j - L) % 4 = j - (L + 4) by omega]
        · rw [if_neg c2]
          by_cases c1 : L ≤ j ∧ j < L + 4
          · rw [if_pos c1, if_pos (by omega), if_pos (by omega), show (j - L) % 4 = j - L by omega]
          · rw [if_neg c1, if_neg (by omega)]
    rw [e20, t2 j]
    by_cases c1 : L ≤ j ∧ j < L + 12
    · rw [if_pos c1, if_pos c1]
      obtain ⟨b, b1, b2⟩ := byt_n (if j - L < 4 then a0 else if j - L < 8 then a1 else a2) ((j - L) % 4)
      exact ⟨b, b1, b2, b2⟩
    · rw [if_neg c1, if_neg c1]
      exact l4 j (by omega)
  · have c' : ¬ nI (L + 12) ≤ (96 : Int32) := nI_ge (a := 96) (by omega) (by omega)
    exact ⟨fun g => absurd g c', fun _ => ⟨fun g => absurd g c', fun _ => ⟨rfl, hR⟩⟩⟩
/-! numbers that wait -/
theorem sim38 (σ τ : St) (a0 : Int32) (hR : Rel σ τ) : w_X9_tell (fun r σ1 => w_X10_tell (fun r2 τ1 => r = r2 ∧ Rel σ1 τ1) τ a0) σ a0 := by
  obtain ⟨n, m, T, -, -, -, -, -, -, ⟨w, ⟨w1, w6⟩, w2, w3, w4⟩⟩ := id hR
  unfold w_X9_tell w_X10_tell
  rw [w2, w3, cl (show w < 2 ^ 31 by omega)]
  by_cases c : w < 60
  · have c' : nI w < (60 : Int32) := nI_lt (b := 60) c (by decide)
    have ne : ¬ nI w = (60 : Int32) := fun q => absurd ((nI_eq (b := 60) (by omega) (by decide)).1 q) (by omega)
    refine ⟨fun _ => ⟨vp_in_nI c (by decide), fun s3 e3 s4 e4 => ⟨fun _ => ⟨vp_in_nI c (by decide), fun t3 f3 t4 f4 => ?_⟩, fun g => absurd g ne⟩⟩, fun g => absurd c' g⟩
    have q3 : s3 0 0 1 = nI w := by rw [e3, wr_off _ _ _ (by omega)]; exact w2
    have p3 : t3 0 0 13 = nI w := by rw [f3, wr_off _ _ _ (by omega)]; exact w3
    rw [q3, nI_1] at e4
    rw [p3, nI_1] at f4
    have q4 : s4 0 0 1 = nI (w + 1) := by rw [e4]; simp [wr]
    have p4 : t4 0 0 13 = nI (w + 1) := by rw [f4]; simp [wr]
    refine ⟨by rw [q4, p4], Rel_wait hR (fun q a j h1 h2 => ?_) (fun q a j h1 h2 => ?_) ⟨w + 1, ⟨by omega, fun j => by rw [e4, wr_off _ _ _ (by omega), e3, wr_off _ _ _ (by omega)]; exact w6 j⟩, q4, p4, fun j hj => ?_⟩⟩
    · rw [e4]
      simp only [wr]
      rw [if_neg (by omega), e3, wr_off _ _ _ (by omega)]
    · rw [f4]
      simp only [wr]
      rw [if_neg (by omega), f3, wr_off _ _ _ (by omega)]
    · rw [e4, wr_off _ _ _ (by omega), f4, wr_off _ _ _ (by omega), e3, f3, wr_row, wr_row]
      by_cases cj : j = w
      · rw [cj, pk_us, pk_us]
      · rw [pk_un cj, pk_un cj]
        exact w4 j (by omega)
  · have c' : ¬ nI w < (60 : Int32) := nI_nlt (b := 60) (by omega) (by omega)
    have e : nI w = (60 : Int32) := by rw [show w = 60 by omega]; rfl
    exact ⟨fun g => absurd g c', fun _ => ⟨fun g => absurd e g, fun _ => ⟨rfl, hR⟩⟩⟩
