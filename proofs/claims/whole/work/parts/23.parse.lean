/-! LAYER 2. Strings; the state of both parsers by the same numbers. -/
def idxL (l : List Int32) (v : Int32) : Nat → Nat → Int32
  | 0, _ => -1
  | f + 1, k => if l.getD k 0 = v then nI k else idxL l v f (k + 1)
theorem uC_ix (post : Int32 → St → Prop) (q : Nat) : l_J1_indexOfChar_4cfef_7 post (q + 1) = b_J1_indexOfChar_4cfef_7 (l_J1_indexOfChar_4cfef_7 post q) post := rfl
theorem str_len : ∀ i, i < 14 → 0 < LNs.getD i 0 ∧ LNs.getD i 0 < 10 := by decide
theorem sLen {post : Int32 → St → Prop} {σ : St} {i : Nat} (h : post (nI (LNs.getD i 0)) σ) : w_J0_length_8abf5 post σ i := by
  unfold w_J0_length_8abf5 w_J0_coder_7d493
  refine ⟨fun c => absurd c (by decide), fun _ => ?_⟩
  have e : nI (LNs.getD i 0) >>> ((0 : Int32) &&& 31) = nI (LNs.getD i 0) := by
    rw [show ((0 : Int32) &&& 31) = 0 by decide, Int32.shiftRight_zero]
  dsimp only
  rw [e]
  exact h
theorem sIdx {post : Int32 → St → Prop} {σ : St} {i x : Nat} (hi : i < 14) (hx : x < 256) (h : post (idxL (BYs.getD i []) (nI x).toInt8.toInt32 (LNs.getD i 0) 0) σ) : w_J0_indexOf_0f7a4 post σ i (((nI x).toUInt32 % 65536).toInt32) := by
  obtain ⟨l0, l10⟩ := str_len i hi
  have ex : ((nI x).toUInt32 % 65536).toInt32 = nI x := by rw [pk_char, pk_tn (by omega), Nat.mod_eq_of_lt (by omega)]
  rw [ex]
  unfold w_J0_indexOf_0f7a4 w_J0_indexOf_7cf53 w_J0_isLatin1_aae02
  refine ⟨fun c => absurd c (by decide), fun _ => ⟨fun c => absurd rfl c, fun _ => ⟨fun c => absurd c (by decide), fun _ => sLen ?_⟩⟩⟩
  unfold w_J1_indexOf_4cfef w_J1_canEncode_9a6ad
  refine ⟨fun c => absurd c (nI_pos (by omega)), fun _ => ⟨fun c => absurd ((nI_ltI (a := 255) (by decide) (by omega)).1 c) (by omega), fun _ => ⟨fun _ v3 e3 v4 e4 => ?_, fun c => absurd c (by decide)⟩⟩⟩
  rw [if_neg (by decide)] at e3
  rw [if_neg Int32.lt_irrefl] at e4
  subst e3
  subst e4
  refine ⟨fun _ => ?_, fun c => absurd (nI_lt (a := 0) l0 (by omega)) c⟩
  unfold w_J1_indexOfChar_4cfef
  intro v ev
  subst ev
  refine ⟨LNs.getD i 0 + 1, ?_⟩
  suffices H : ∀ f k, k + f = LNs.getD i 0 → post (idxL (BYs.getD i []) (nI x).toInt8.toInt32 f k) σ → l_J1_indexOfChar_4cfef_7 post (f + 1) σ i (nI (LNs.getD i 0)) (nI x).toInt8.toInt32 (nI k) by
    exact H _ 0 (by omega) h
  intro f
  induction f with
  | zero =>
    intro k hk hp
    rw [uC_ix]
    unfold b_J1_indexOfChar_4cfef_7
    exact ⟨fun _ => hp, fun c => absurd (nI_le (by omega) (by omega)) c⟩
  | succ f ih =>
    intro k hk hp
    rw [uC_ix]
    unfold b_J1_indexOfChar_4cfef_7
    rw [idxL] at hp
    rw [cl (show k < 2 ^ 31 by omega)]
    refine ⟨fun c => absurd c (nI_ge (by omega) (by omega)), fun _ => ⟨vp_in_nI (by omega) (by omega), fun c v ev => ?_, fun c => ?_⟩⟩
    · subst ev
      rw [if_neg c] at hp
      rw [nI_1]
      exact ih (k + 1) (by omega) hp
    · rw [if_pos c] at hp
      exact hp
/-- the signs of a string -/
def sgB (i x : Nat) : Bool := decide (¬ idxL (BYs.getD i []) (nI x).toInt8.toInt32 (LNs.getD i 0) 0 < 0)
theorem sg6 : ∀ x, x < 256 → sgB 6 x = decide (x = 33) := by decide +kernel
theorem sg7 : ∀ x, x < 256 → sgB 7 x = decide (x = 40) := by decide +kernel
theorem sg8 : ∀ x, x < 256 → sgB 8 x = decide (x = 41) := by decide +kernel
theorem sg9 : ∀ x, x < 256 → sgB 9 x = decide (x = 124) := by decide +kernel
theorem sg10 : ∀ x, x < 256 → sgB 10 x = decide (x = 38) := by decide +kernel
theorem sg11 : ∀ x, x < 256 → sgB 11 x = decide (x = 60 ∨ x = 61 ∨ x = 62) := by decide +kernel
theorem sg12 : ∀ x, x < 256 → sgB 12 x = decide (x = 43 ∨ x = 45) := by decide +kernel
theorem sg13 : ∀ x, x < 256 → sgB 13 x = decide (x = 42 ∨ x = 47) := by decide +kernel
def nmB (k x : Nat) : Int32 := idxL (BYs.getD (3 + k) []) (nI x).toInt8.toInt32 (LNs.getD (3 + k) 0) 0
def nmP (k x : Nat) : Nat := if nmB k x < 0 then 3 else (nmB k x).toNatClampNeg
theorem nm_all : ∀ k, k < 3 → ∀ x, x < 256 → (nmB k x = -1 ∧ nmP k x = 3) ∨ (nmB k x = nI (nmP k x) ∧ nmP k x < 3 ∧ (nmP k x = 2 → k = 0) ∧ ltr (nI k) (nmP k x) = x) := by decide +kernel
def isN (k x : Nat) : Bool := if k = 0 then decide (x = 108 ∨ x = 115 ∨ x = 110) else if k = 1 then decide (x = 116 ∨ x = 119) else decide (x = 115 ∨ x = 108)
theorem isN_nm : ∀ k, k < 3 → ∀ x, x < 256 → isN k x = decide (nmP k x < 3) := by decide +kernel
theorem mIsName {post : Int32 → St → Prop} {τ : St} {k x : Nat} (hk : k < 3) (hx : x < 256) (h : post (if isN k x = true then 1 else 0) τ) : w_X10_isName post τ (nI k) (nI x) := by
  have e : ∀ c : Nat, c < 256 → (nI x = nI c ↔ x = c) := fun c hc => nI_eq (by omega) (by omega)
  have e108 := e 108 (by decide)
  have e115 := e 115 (by decide)
  have e110 := e 110 (by decide)
  have e116 := e 116 (by decide)
  have e119 := e 119 (by decide)
  unfold isN at h
  unfold w_X10_isName
  rcases (show k = 0 ∨ k = 1 ∨ k = 2 by omega) with rfl | rfl | rfl
  · refine ⟨fun _ => ⟨fun c => ?_, fun c => ⟨fun c2 => ?_, fun c2 => ⟨fun c3 => ?_, fun c3 => ?_⟩⟩⟩, fun c => absurd rfl c⟩
    · have := e108.1 c; simpa [this] using h
    · have := e115.1 c2; simpa [this] using h
    · have n1 : ¬ x = 108 := fun y => c (e108.2 y)
      have n2 : ¬ x = 115 := fun y => c2 (e115.2 y)
      have n3 : ¬ x = 110 := fun y => c3 (e110.2 y)
      simpa [n1, n2, n3] using h
    · have := e110.1 c3; simpa [this] using h
  · refine ⟨fun c => absurd c (by decide), fun _ => ⟨fun _ => ⟨fun c => ?_, fun c => ⟨fun c2 => ?_, fun c2 => ?_⟩⟩, fun c => absurd rfl c⟩⟩
    · have := e116.1 c; simpa [this] using h
    · have n1 : ¬ x = 116 := fun y => c (e116.2 y)
      have n2 : ¬ x = 119 := fun y => c2 (e119.2 y)
      simpa [n1, n2] using h
    · have := e119.1 c2; simpa [this] using h
  · refine ⟨fun c => absurd c (by decide), fun _ => ⟨fun c => absurd c (by decide), fun _ => ⟨fun c => ?_, fun c => ⟨fun c2 => ?_, fun c2 => ?_⟩⟩⟩⟩
    · have := e115.1 c; simpa [this] using h
    · have n1 : ¬ x = 115 := fun y => c (e115.2 y)
      have n2 : ¬ x = 108 := fun y => c2 (e108.2 y)
      simpa [n1, n2] using h
    · have := e108.1 c2; simpa [this] using h
/-- a token by its numbers -/
def TOK (by' : Nat → Nat) (Lb q s e : Nat) : Prop := q ≤ 4 ∧ s ≤ e ∧ e ≤ Lb ∧ (q = 0 → s = Lb) ∧ (q ≠ 0 → s < e) ∧ (q = 3 → e = s + 1) ∧ (q = 2 → e - s ≤ 4 ∧ ∀ j, s ≤ j → j < e → srt (by' j) = 2)
theorem TOK_next {by' : Nat → Nat} {Lb q e : Nat} (he : e ≤ Lb) : TOK by' Lb (tQ by' Lb q e) (tS by' Lb e) (tE by' Lb e) ∧ e ≤ tS by' Lb e := by
  have hs := skp_b by' Lb (Lb - e) e
  have hS : tS by' Lb e = skp by' Lb (Lb - e) e := rfl
  rw [← hS] at hs
  refine ⟨?_, by omega⟩
  by_cases lt : tS by' Lb e < Lb
  · have q123 := srt_r (by' (tS by' Lb e))
    have eb := extn_b by' (srt (by' (tS by' Lb e))) (Lb - (tS by' Lb e + 1)) (tS by' Lb e + 1)
    have hE : (srt (by' (tS by' Lb e)) = 3 ∧ tE by' Lb e = tS by' Lb e + 1) ∨ (srt (by' (tS by' Lb e)) ≠ 3 ∧ tE by' Lb e = extn by' (srt (by' (tS by' Lb e))) (Lb - (tS by' Lb e + 1)) (tS by' Lb e + 1)) := by
      unfold tE
      rw [if_pos lt]
      by_cases r3 : srt (by' (tS by' Lb e)) = 3
      · exact Or.inl ⟨r3, if_pos r3⟩
      · exact Or.inr ⟨r3, if_neg r3⟩
    have hQ : (tQ by' Lb q e = 4) ∨ (tQ by' Lb q e = srt (by' (tS by' Lb e)) ∧ ¬ (srt (by' (tS by' Lb e)) = 2 ∧ 4 < tE by' Lb e - tS by' Lb e)) := by
      unfold tQ
      rw [if_pos lt]
      split
      · exact Or.inl rfl
      · rename_i c
        exact Or.inr ⟨rfl, fun y => c (Or.inl y)⟩
    refine ⟨by omega, by omega, by omega, fun g => by omega, fun g => by omega, fun g => by omega, fun g => ?_⟩
    have q2 : srt (by' (tS by' Lb e)) = 2 := by omega
    refine ⟨by omega, fun j h1 h2 => ?_⟩
    rcases hE with hE | hE
    · omega
    · by_cases y : j = tS by' Lb e
      · rw [y]; exact q2
      · rw [← q2]
        exact eb.2.2 j (by omega) (by omega)
  · have q0 : tQ by' Lb q e = 0 := by unfold tQ; rw [if_neg lt]
    have eE : tE by' Lb e = tS by' Lb e := by unfold tE; rw [if_neg lt]
    rw [q0, eE]
    exact ⟨by omega, by omega, by omega, fun _ => by omega, fun g => absurd rfl g, fun g => absurd g (by decide), fun g => absurd g (by decide)⟩
/-- the two parsers by the same numbers -/
def CFr (σ0 : St) (i : Nat) (σ : St) : Prop := ∀ k a j, k ≠ 21 → ¬ (k = 17 ∧ a = i) → ¬ (k = 18 ∧ a = i) → σ k a j = σ0 k a j
def MF2 (τ0 : St) (la : Nat) (τ : St) : Prop := ∀ k a j, ¬ (k = 0 ∧ a = 0 ∧ 3 ≤ j ∧ j ≤ 12) → ¬ (k = 1 ∧ a = 0 ∧ la ≤ j ∧ j < la + 192) → τ k a j = τ0 k a j
def CP (σ0 : St) (i key b m q s e L lv : Nat) (c : Nat → Int32) (σ : St) : Prop := CFr σ0 i σ ∧ σ 21 0 5 = nI i ∧ σ 17 i 0 = nI key ∧ σ 21 0 0 = nI q ∧ σ 21 0 1 = nI s ∧ σ 21 0 2 = nI e ∧ σ 21 0 3 = nI b ∧ σ 21 0 4 = nI m ∧ σ 17 i 2 = nI L ∧ σ 17 i 1 = nI lv ∧ ∀ k, k < L → σ 18 i k = c k
def MP (τ0 : St) (by' : Nat → Nat) (la key b m q s e L lv : Nat) (c : Nat → Int32) (τ : St) : Prop := MF2 τ0 la τ ∧ τ 0 0 11 = nI la ∧ τ 0 0 5 = nI q ∧ τ 0 0 3 = nI s ∧ τ 0 0 4 = nI e ∧ TKv by' τ q s e ∧ τ 0 0 8 = nI b ∧ τ 0 0 9 = nI m ∧ τ 0 0 10 = nI L ∧ τ 0 0 12 = nI lv ∧ ∀ k, k < L → RP (nI key) (c k) (τ 1 0 (la + 2 * k)) (τ 1 0 (la + 2 * k + 1))
theorem cpStep {post : St → Prop} {σ0 σ : St} {by' : Nat → Nat} {Lb i key b m q s e L lv : Nat} {c : Nat → Int32} (hT : TPc σ0 by' Lb) (h : CP σ0 i key b m q s e L lv c σ) (ht : TOK by' Lb q s e) (hp : ∀ σ', CP σ0 i key b m (tQ by' Lb q e) (tS by' Lb e) (tE by' Lb e) L lv c σ' → post σ') : w_X5_step post σ := by
  obtain ⟨f, h5, hk, h0, h1, h2, h3, h4, hL, hlv, hc⟩ := h
  have hT2 : TPc σ by' Lb := ⟨hT.1, (f 19 0 0 (by decide) (by omega) (by omega)).trans hT.2.1, fun j hj => ⟨(hT.2.2 j hj).1, (f 20 0 j (by decide) (by omega) (by omega)).trans (hT.2.2 j hj).2⟩⟩
  refine cStep hT2 ht.1 h0 h2 ht.2.2.1 (fun σ' ct => hp σ' ?_)
  obtain ⟨c0, c1, c2, c3⟩ := ct
  exact ⟨fun k a j d1 d2 d3 => (c3 k a j (by omega)).trans (f k a j d1 d2 d3), (c3 21 0 5 (by omega)).trans h5, (c3 17 i 0 (by omega)).trans hk, c0, c1, c2, (c3 21 0 3 (by omega)).trans h3, (c3 21 0 4 (by omega)).trans h4, (c3 17 i 2 (by omega)).trans hL, (c3 17 i 1 (by omega)).trans hlv, fun k hk2 => (c3 18 i k (by omega)).trans (hc k hk2)⟩
theorem mpStep {post : St → Prop} {τ0 τ : St} {by' : Nat → Nat} {Lb la key b m q s e L lv : Nat} {c : Nat → Int32} (hT : TPm τ0 by' Lb) (h : MP τ0 by' la key b m q s e L lv c τ) (ht : TOK by' Lb q s e) (hp : ∀ τ', MP τ0 by' la key b m (tQ by' Lb q e) (tS by' Lb e) (tE by' Lb e) L lv c τ' → post τ') : w_X10_nextToken post τ := by
  obtain ⟨f, h11, h5, h3, h4, hv, h8, h9, h10, h12, hc⟩ := h
  have hT2 : TPm τ by' Lb := ⟨hT.1, (f 0 0 2 (by omega) (by omega)).trans hT.2.1, fun j hj => ⟨(hT.2.2 j hj).1, (f 15 0 j (by omega) (by omega)).trans (hT.2.2 j hj).2⟩⟩
  refine mStep hT2 ht.1 h5 h4 ht.2.2.1 (fun g => by have := ht.2.2.2.2.1 (by omega); omega) (fun τ' mt tk => hp τ' ?_)
  obtain ⟨c0, c1, c2, c3⟩ := mt
  exact ⟨fun k a j d1 d2 => (c3 k a j (by omega)).trans (f k a j d1 d2), (c3 0 0 11 (by omega)).trans h11, c0, c1, c2, tk, (c3 0 0 8 (by omega)).trans h8, (c3 0 0 9 (by omega)).trans h9, (c3 0 0 10 (by omega)).trans h10, (c3 0 0 12 (by omega)).trans h12, fun k hk2 => by
    rw [c3 1 0 _ (by omega), c3 1 0 _ (by omega)]
    exact hc k hk2⟩
theorem cIsSign {post : Int32 → St → Prop} {σ0 σ : St} {by' : Nat → Nat} {Lb i key b m q s e L lv str : Nat} {c : Nat → Int32} (hT : TPc σ0 by' Lb) (h : CP σ0 i key b m q s e L lv c σ) (ht : TOK by' Lb q s e) (hs : str < 14) (hp : post (if q = 3 ∧ sgB str (by' s) = true then 1 else 0) σ) : w_X5_isSign post σ str := by
  obtain ⟨f, h5, hk, h0, h1, h2, h3, h4, hL, hlv, hc⟩ := h
  obtain ⟨k1, k2, k3, k4, k5, k6, k7⟩ := ht
  have l96 := hT.1
  unfold w_X5_isSign
  rw [h0, h1]
  refine ⟨fun g => ?_, fun g => ?_⟩
  · rw [if_neg (fun y => g (by rw [y.1]; rfl))] at hp
    exact hp
  · have q3 := (nI_eq (b := 3) (by omega) (by decide)).1 g
    have := k6 q3
    obtain ⟨b1, b2⟩ := hT.2.2 s (by omega)
    rw [cl (show s < 2 ^ 31 by omega), (f 20 0 s (by decide) (by omega) (by omega)).trans b2]
    refine ⟨vp_in_nI (by omega) (by decide), sIdx hs b1 ⟨fun g2 => ?_, fun g2 => ?_⟩⟩
    · rw [if_neg (fun y => by
        have y2 := y.2
        unfold sgB at y2
        simp only [decide_eq_true_eq] at y2
        exact y2 g2)] at hp
      exact hp
    · rw [if_pos ⟨q3, by unfold sgB; simp only [decide_eq_true_eq]; exact g2⟩] at hp
      exact hp
theorem mIsSign {post : Int32 → St → Prop} {τ0 τ : St} {by' : Nat → Nat} {Lb la key b m q s e L lv x : Nat} {c : Nat → Int32} (h : MP τ0 by' la key b m q s e L lv c τ) (ht : TOK by' Lb q s e) (hb : s < e → by' s < 256) (hx : x < 256) (hp : post (if q = 3 ∧ by' s = x then 1 else 0) τ) : w_X10_isSign post τ (nI x) := by
  obtain ⟨f, h11, h5, h3, h4, hv, h8, h9, h10, h12, hc⟩ := h
  unfold w_X10_isSign
  rw [h5]
  refine ⟨fun g => ?_, fun g => ?_⟩
  · rw [if_neg (fun y => g (by rw [y.1]; rfl))] at hp
    exact hp
  · have q3 := (nI_eq (b := 3) (by have := ht.1; omega) (by decide)).1 g
    have hb := hb (by have := ht.2.2.2.2.2.1 q3; omega)
    rw [hv.1 q3]
    refine ⟨fun g2 => ?_, fun g2 => ?_⟩
    · rw [if_neg (fun y => g2 (by rw [y.2]))] at hp
      exact hp
    · rw [if_pos ⟨q3, (nI_eq (by omega) (by omega)).1 g2⟩] at hp
      exact hp
theorem cCode {post : St → Prop} {σ0 σ : St} {i key b m q s e L lv : Nat} {c : Nat → Int32} {v : Int32} (h : CP σ0 i key b m q s e L lv c σ) (hL : L < 96) (hp : ∀ σ', CP σ0 i key b m q s e (L + 1) lv (upd c L v) σ' → post σ') : w_X3_addCode post σ i v := by
  obtain ⟨f, h5, hk, h0, h1, h2, h3, h4, hL2, hlv, hc⟩ := h
  unfold w_X3_addCode
  rw [hL2, cl (show L < 2 ^ 31 by omega)]
  refine ⟨fun g => absurd g (nI_ge (b := 96) (by omega) (by decide)), fun _ => ⟨vp_in_nI hL (by decide), fun s3 e3 s4 e4 => hp s4 ?_⟩⟩
  have q3 : s3 17 i 2 = nI L := by rw [e3, wr_off _ _ _ (by omega)]; exact hL2
  rw [q3, nI_1] at e4
  have w : ∀ k a j, k ≠ 18 → ¬ (k = 17 ∧ a = i ∧ j = 2) → s4 k a j = σ k a j := fun k a j d1 d2 => by
    rw [e4]
    simp only [wr]
    rw [if_neg (by omega), e3, wr_off _ _ _ (by omega)]
  refine ⟨fun k a j d1 d2 d3 => ?_, (w _ _ _ (by decide) (by omega)).trans h5, (w _ _ _ (by decide) (by omega)).trans hk, (w _ _ _ (by decide) (by omega)).trans h0, (w _ _ _ (by decide) (by omega)).trans h1, (w _ _ _ (by decide) (by omega)).trans h2, (w _ _ _ (by decide) (by omega)).trans h3, (w _ _ _ (by decide) (by omega)).trans h4, by rw [e4]; simp [wr], (w _ _ _ (by decide) (by omega)).trans hlv, fun k hk2 => ?_⟩
  · rw [e4, wr_off _ _ _ (by omega), e3, wr_off _ _ _ (by omega)]
    exact f k a j d1 d2 d3
  · rw [e4, wr_off _ _ _ (by omega), e3, wr_row]
    by_cases y : k = L
    · rw [y, pk_us, pk_us]
    · rw [pk_un y, pk_un y]
      exact hc k (by omega)
theorem mCode {post : St → Prop} {τ0 τ : St} {by' : Nat → Nat} {la key b m q s e L lv : Nat} {c : Nat → Int32} {w v cd : Int32} (h : MP τ0 by' la key b m q s e L lv c τ) (hL : L < 96) (hla : la + 192 ≤ 3082) (hr : RP (nI key) cd w v) (hp : ∀ τ', MP τ0 by' la key b m q s e (L + 1) lv (upd c L cd) τ' → post τ') : w_X10_step post τ w v := by
  obtain ⟨f, h11, h5, h3, h4, hv, h8, h9, h10, h12, hc⟩ := h
  unfold w_X10_step
  have ix : nI la + 2 * nI L = nI (la + 2 * L) := by rw [show (2 : Int32) * nI L = nI (2 * L) from pk_mul 2 L, nI_add]
  rw [h11, h10, ix, cl (show la + 2 * L < 2 ^ 31 by omega)]
  refine ⟨vp_in_nI (by omega) (by decide), fun s2 e2 => ?_⟩
  have g11 : s2 0 0 11 = nI la := by rw [e2, wr_off _ _ _ (by omega)]; exact h11
  have g10 : s2 0 0 10 = nI L := by rw [e2, wr_off _ _ _ (by omega)]; exact h10
  rw [g11, g10, ix, nI_1, cl (show la + 2 * L + 1 < 2 ^ 31 by omega)]
  refine ⟨vp_in_nI (by omega) (by decide), fun s4 e4 s5 e5 => hp s5 ?_⟩
  have g104 : s4 0 0 10 = nI L := by rw [e4, wr_off _ _ _ (by omega)]; exact g10
  rw [g104, nI_1] at e5
  have w0 : ∀ k a j, ¬ (k = 0 ∧ a = 0 ∧ j = 10) → ¬ (k = 1 ∧ a = 0 ∧ (j = la + 2 * L ∨ j = la + 2 * L + 1)) → s5 k a j = τ k a j := fun k a j d1 d2 => by
    rw [e5]
    simp only [wr]
    rw [if_neg (by omega), e4]
    simp only [wr]
    rw [if_neg (by omega), e2]
    simp only [wr]
    rw [if_neg (by omega)]
  refine ⟨fun k a j d1 d2 => (w0 k a j (by omega) (by omega)).trans (f k a j d1 d2), (w0 _ _ _ (by omega) (by omega)).trans h11, (w0 _ _ _ (by omega) (by omega)).trans h5, (w0 _ _ _ (by omega) (by omega)).trans h3, (w0 _ _ _ (by omega) (by omega)).trans h4, ⟨fun g => (w0 _ _ _ (by omega) (by omega)).trans (hv.1 g), fun g => (w0 _ _ _ (by omega) (by omega)).trans (hv.2.1 g), fun g => (w0 _ _ _ (by omega) (by omega)).trans (hv.2.2 g)⟩, (w0 _ _ _ (by omega) (by omega)).trans h8, (w0 _ _ _ (by omega) (by omega)).trans h9, by rw [e5]; simp [wr], (w0 _ _ _ (by omega) (by omega)).trans h12, fun k hk2 => ?_⟩
  by_cases y : k = L
  · subst y
    have a1 : s5 1 0 (la + 2 * k) = w := by
      rw [e5, wr_off _ _ _ (by omega), e4, wr_row, pk_un (by omega), e2, wr_row, pk_us]
    have a2 : s5 1 0 (la + 2 * k + 1) = v := by
      rw [e5, wr_off _ _ _ (by omega), e4, wr_row, pk_us]
    rw [a1, a2, pk_us]
    exact hr
  · rw [w0 1 0 _ (by omega) (by omega), w0 1 0 _ (by omega) (by omega), pk_un y]
    exact hc k (by omega)
