/-! LAYER 2. The key words. -/
def kwB (κ j : Nat) : Nat := if κ = 0 then [115, 112, 105, 116, 101].getD j 0 else if κ = 1 then [102, 101, 101].getD j 0 else [102, 105, 110, 101].getD j 0
def kwL (κ : Nat) : Nat := if κ = 0 then 5 else if κ = 1 then 3 else 4
theorem kw_all : ∀ κ, κ < 3 → LNs.getD κ 0 = kwL κ ∧ kwL κ < 6 ∧ ∀ j, j < kwL κ → ((((BYs.getD κ []).getD j 0) &&& 255).toUInt32 % 65536).toInt32 = nI (kwB κ j) ∧ kwB κ j < 256 := by decide +kernel
def isKW (by' : Nat → Nat) (q s e κ : Nat) : Bool := decide (q = 1 ∧ e - s = kwL κ ∧ ∀ j, j < kwL κ → by' (s + j) = kwB κ j)
theorem isKW_0 {by' : Nat → Nat} {q s e κ : Nat} (h : ¬ (q = 1 ∧ e - s = kwL κ ∧ ∀ j, j < kwL κ → by' (s + j) = kwB κ j)) : ¬ isKW by' q s e κ = true := fun y => h (of_decide_eq_true y)
theorem isKW_1 {by' : Nat → Nat} {q s e κ : Nat} (h1 : q = 1) (h2 : e - s = kwL κ) (h3 : ∀ j, j < kwL κ → by' (s + j) = kwB κ j) : isKW by' q s e κ = true := decide_eq_true ⟨h1, h2, h3⟩
theorem uC_w28 (post : Int32 → St → Prop) (q : Nat) : l_X5_isWord_28 post (q + 1) = b_X5_isWord_28 (l_X5_isWord_28 post q) post := rfl
theorem uC_rk (post : Int32 → St → Prop) (q : Nat) : l_X5_readKey_2 post (q + 1) = b_X5_readKey_2 (l_X5_readKey_2 post q) post := rfl
theorem cIsWord {post : Int32 → St → Prop} {σ0 σ : St} {by' : Nat → Nat} {Lb i key b m q s e L lv κ : Nat} {c : Nat → Int32} (hT : TPc σ0 by' Lb) (h : CP σ0 i key b m q s e L lv c σ) (ht : TOK by' Lb q s e) (hκ : κ < 3) (hp : post (if isKW by' q s e κ = true then 1 else 0) σ) : w_X5_isWord post σ κ := by
  obtain ⟨f, h5, hk, h0, h1, h2, h3, h4, hL, hlv, hc⟩ := h
  obtain ⟨t1, t2, t3, -⟩ := ht
  obtain ⟨a1, a2, a3⟩ := kw_all κ hκ
  have l96 := hT.1
  unfold w_X5_isWord
  rw [h0, h1, h2]
  by_cases q1 : q = 1
  · refine ⟨fun g => absurd (by rw [q1]; rfl) g, fun _ => sLen ?_⟩
    try dsimp only
    rw [a1, pk_sub t2]
    by_cases hl : e - s = kwL κ
    · refine ⟨fun _ => ⟨kwL κ + 1, ?_⟩, fun g => absurd (by rw [hl]) g⟩
      suffices H : ∀ f k, k + f = kwL κ → (∀ j, j < k → by' (s + j) = kwB κ j) → l_X5_isWord_28 post (f + 1) σ κ (nI k) by
        exact H _ 0 (by omega) (fun j hj => absurd hj (Nat.not_lt_zero j))
      intro fu
      induction fu with
      | zero =>
        intro k hk2 hpre
        obtain rfl : k = kwL κ := by omega
        rw [uC_w28]
        unfold b_X5_isWord_28
        refine sLen ?_
        try dsimp only
        rw [a1]
        refine ⟨fun _ => ?_, fun g => absurd (nI_le (Nat.le_refl _) (by omega)) g⟩
        rw [if_pos (isKW_1 q1 hl hpre)] at hp
        exact hp
      | succ fu ih =>
        intro k hk2 hpre
        rw [uC_w28]
        unfold b_X5_isWord_28
        refine sLen ?_
        try dsimp only
        rw [a1]
        refine ⟨fun g => absurd g (nI_ge (by omega) (by omega)), fun _ => ?_⟩
        rw [h1, nI_add]
        refine ⟨vp_in_nI (by omega) (by decide), ?_⟩
        unfold w_J0_charAt_5068e w_J0_isLatin1_aae02
        refine ⟨fun c => absurd c (by decide), fun _ => ⟨fun c => absurd rfl c, fun _ => ⟨fun c => absurd c (by decide), fun _ => ?_⟩⟩⟩
        unfold w_J1_charAt_3b067 w_J0_checkIndex_df160
        rw [a1]
        refine ⟨nI_pos (by omega), nI_lt (by omega) (by omega), vp_in_nI (by omega) (by omega), ?_⟩
        rw [cl (show k < 2 ^ 31 by omega), (a3 k (by omega)).1, cl (show s + k < 2 ^ 31 by omega), (f 20 0 _ (by decide) (by omega) (by omega)).trans (hT.2.2 (s + k) (by omega)).2]
        have b2 := (hT.2.2 (s + k) (by omega)).1
        have b3 := (a3 k (by omega)).2
        refine ⟨fun g v6 ev => ?_, fun g => ?_⟩
        · have ge := (nI_eq (by omega) (by omega)).1 g
          rw [ev, nI_1]
          refine ih (k + 1) (by omega) (fun j hj => ?_)
          by_cases z : j = k
          · rw [z]; exact ge
          · exact hpre j (by omega)
        · rw [if_neg (isKW_0 (fun y => g (by rw [y.2.2 k (by omega)])))] at hp
          exact hp
    · refine ⟨fun g => absurd ((nI_eq (by omega) (by omega)).1 g) hl, fun _ => ?_⟩
      rw [if_neg (isKW_0 (fun y => hl y.2.1))] at hp
      exact hp
  · refine ⟨fun _ => ?_, fun g => absurd ((nI_eq (b := 1) (by omega) (by decide)).1 g) q1⟩
    rw [if_neg (isKW_0 (fun y => q1 y.1))] at hp
    exact hp
theorem cKW {post : Nat → St → Prop} {σ : St} {κ : Nat} (hκ : κ < 3) (h : post κ σ) : w_X5_keyWord post σ (nI κ) := by
  unfold w_X5_keyWord
  rcases (show κ = 0 ∨ κ = 1 ∨ κ = 2 by omega) with rfl | rfl | rfl
  · exact ⟨fun _ => h, fun g => absurd rfl g⟩
  · exact ⟨fun g => absurd g (by decide), fun _ => ⟨fun _ => h, fun g => absurd rfl g⟩⟩
  · exact ⟨fun g => absurd g (by decide), fun _ => ⟨fun g => absurd g (by decide), fun _ => h⟩⟩
def kyN (by' : Nat → Nat) (q s e : Nat) : Nat := if isKW by' q s e 0 = true then 0 else if isKW by' q s e 1 = true then 1 else if isKW by' q s e 2 = true then 2 else 3
theorem cReadKey {post : Int32 → St → Prop} {σ0 σ : St} {by' : Nat → Nat} {Lb i key b m q s e L lv : Nat} {c : Nat → Int32} (hT : TPc σ0 by' Lb) (h : CP σ0 i key b m q s e L lv c σ) (ht : TOK by' Lb q s e) (hi : i < 15) (hp0 : kyN by' q s e = 3 → post 0 σ) (hp1 : kyN by' q s e < 3 → ∀ σ', CP σ0 i (kyN by' q s e) b m (tQ by' Lb q e) (tS by' Lb e) (tE by' Lb e) L lv c σ' → post 1 σ') : w_X5_readKey post σ := by
  refine ⟨4, ?_⟩
  have st : ∀ κ n, κ < 3 → (¬ isKW by' q s e κ = true → l_X5_readKey_2 post n σ (nI (κ + 1))) → (isKW by' q s e κ = true → kyN by' q s e = κ) → l_X5_readKey_2 post (n + 1) σ (nI κ) := by
    intro κ n hκ g0 g1
    rw [uC_rk]
    unfold b_X5_readKey_2
    refine ⟨fun g => absurd g (nI_ge (b := 3) hκ (by decide)), fun _ => cKW hκ (cIsWord hT h ht hκ ?_)⟩
    by_cases w : isKW by' q s e κ = true
    · rw [if_pos w]
      refine ⟨fun g => absurd g (by decide), fun _ => ?_⟩
      rw [h.2.1, cl (show i < 2 ^ 31 by omega)]
      have ek := g1 w
      refine ⟨vp_in_nI hi (by decide), fun s7 e7 => cpStep (key := κ) hT ?_ ht (fun σ' hc => hp1 (by omega) σ' (by rw [ek]; exact hc))⟩
      obtain ⟨f, h5, hk, h0, h1, h2, h3, h4, hL, hlv, hc⟩ := h
      have w0 : ∀ k a j, ¬ (k = 17 ∧ a = i ∧ j = 0) → s7 k a j = σ k a j := fun k a j d => by
        rw [e7]
        simp only [wr]
        rw [if_neg d]
      exact ⟨fun k a j d1 d2 d3 => (w0 k a j (by omega)).trans (f k a j d1 d2 d3), (w0 _ _ _ (by omega)).trans h5, by rw [e7]; simp [wr], (w0 _ _ _ (by omega)).trans h0, (w0 _ _ _ (by omega)).trans h1, (w0 _ _ _ (by omega)).trans h2, (w0 _ _ _ (by omega)).trans h3, (w0 _ _ _ (by omega)).trans h4, (w0 _ _ _ (by omega)).trans hL, (w0 _ _ _ (by omega)).trans hlv, fun k hk2 => (w0 _ _ _ (by omega)).trans (hc k hk2)⟩
    · rw [if_neg w]
      refine ⟨fun _ v5 e5 => ?_, fun g => absurd rfl g⟩
      rw [e5, nI_1]
      exact g0 w
  refine st 0 3 (by decide) (fun n0 => st 1 2 (by decide) (fun n1 => st 2 1 (by decide) (fun n2 => ?_) (fun y => ?_)) (fun y => ?_)) (fun y => ?_)
  · rw [uC_rk]
    unfold b_X5_readKey_2
    refine ⟨fun _ => hp0 ?_, fun g => absurd (by decide) g⟩
    unfold kyN
    rw [if_neg n0, if_neg n1, if_neg n2]
  · unfold kyN
    rw [if_neg n0, if_neg n1, if_pos y]
  · unfold kyN
    rw [if_neg n0, if_pos y]
  · unfold kyN
    rw [if_pos y]
theorem mIsWordL {post : Int32 → St → Prop} {τ0 τ : St} {by' : Nat → Nat} {Lb la key b m q s e L lv : Nat} {c : Nat → Int32} (hT : TPm τ0 by' Lb) (h : MP τ0 by' la key b m q s e L lv c τ) (ht : TOK by' Lb q s e) (hp : post (if isKW by' q s e 0 = true then 1 else 0) τ) : w_X10_isLong post τ 115 112 105 116 101 0 := by
  obtain ⟨f, h11, h5, h3, h4, -⟩ := h
  obtain ⟨t1, t2, t3, -⟩ := ht
  have l96 := hT.1
  have n0 : ¬ (q = 1 ∧ e - s = kwL 0 ∧ ∀ j, j < kwL 0 → by' (s + j) = kwB 0 j) → post 0 τ := fun n => by
    rw [if_neg (isKW_0 n)] at hp
    exact hp
  unfold w_X10_isLong
  refine ⟨fun g => absurd rfl g, fun _ => ?_⟩
  unfold b_X10_isLong_11
  rw [h5, h3, h4, pk_sub t2]
  refine ⟨fun g => n0 (fun y => g (by rw [y.1]; rfl)), fun g => ?_⟩
  have q1 := (nI_eq (b := 1) (by omega) (by decide)).1 g
  refine ⟨fun g => n0 (fun y => g (by rw [y.2.1]; rfl)), fun g => ?_⟩
  have l5 := (nI_eq (b := 5) (by omega) (by decide)).1 g
  have bx : ∀ j, j < 5 → τ 15 0 (s + j) = nI (by' (s + j)) ∧ by' (s + j) < 256 := fun j hj => ⟨(f 15 0 _ (by omega) (by omega)).trans (hT.2.2 (s + j) (by omega)).2, (hT.2.2 (s + j) (by omega)).1⟩
  have i1 : nI s + 1 = nI (s + 1) := nI_1 s
  have i2 : nI s + 2 = nI (s + 2) := by rw [show (2 : Int32) = nI 2 from rfl, nI_add]
  have i3 : nI s + 3 = nI (s + 3) := by rw [show (3 : Int32) = nI 3 from rfl, nI_add]
  have i4 : nI s + 4 = nI (s + 4) := by rw [show (4 : Int32) = nI 4 from rfl, nI_add]
  obtain ⟨b0, c0⟩ := bx 0 (by decide)
  obtain ⟨b1, c1⟩ := bx 1 (by decide)
  obtain ⟨b2, c2⟩ := bx 2 (by decide)
  obtain ⟨b3, c3⟩ := bx 3 (by decide)
  obtain ⟨b4, c4⟩ := bx 4 (by decide)
  rw [Nat.add_zero] at b0 c0
  rw [i1, i2, i3, i4, cl (show s < 2 ^ 31 by omega), cl (show s + 1 < 2 ^ 31 by omega), cl (show s + 2 < 2 ^ 31 by omega), cl (show s + 3 < 2 ^ 31 by omega), cl (show s + 4 < 2 ^ 31 by omega), b0, b1, b2, b3, b4]
  refine ⟨vp_in_nI (by omega) (by decide), fun g => n0 (fun y => g (by rw [show by' s = 115 from y.2.2 0 (by decide)]; rfl)), fun g0 => ?_⟩
  refine ⟨vp_in_nI (by omega) (by decide), fun g => n0 (fun y => g (by rw [show by' (s + 1) = 112 from y.2.2 1 (by decide)]; rfl)), fun g1 => ?_⟩
  refine ⟨vp_in_nI (by omega) (by decide), fun g => n0 (fun y => g (by rw [show by' (s + 2) = 105 from y.2.2 2 (by decide)]; rfl)), fun g2 => ?_⟩
  refine ⟨vp_in_nI (by omega) (by decide), fun g => n0 (fun y => g (by rw [show by' (s + 3) = 116 from y.2.2 3 (by decide)]; rfl)), fun g3 => ?_⟩
  refine ⟨vp_in_nI (by omega) (by decide), fun g => n0 (fun y => g (by rw [show by' (s + 4) = 101 from y.2.2 4 (by decide)]; rfl)), fun g4 => ?_⟩
  have d0 := (nI_eq (b := 115) (by omega) (by decide)).1 g0
  have d1 := (nI_eq (b := 112) (by omega) (by decide)).1 g1
  have d2 := (nI_eq (b := 105) (by omega) (by decide)).1 g2
  have d3 := (nI_eq (b := 116) (by omega) (by decide)).1 g3
  have d4 := (nI_eq (b := 101) (by omega) (by decide)).1 g4
  refine ⟨fun _ => ?_, fun g => absurd rfl g⟩
  rw [if_pos (isKW_1 q1 l5 (fun j hj => ?_))] at hp
  · exact hp
  · have hj2 : j < 5 := hj
    rcases (show j = 0 ∨ j = 1 ∨ j = 2 ∨ j = 3 ∨ j = 4 by omega) with rfl | rfl | rfl | rfl | rfl
    · exact d0
    · exact d1
    · exact d2
    · exact d3
    · exact d4
theorem mIsWord {post : Int32 → St → Prop} {τ0 τ : St} {by' : Nat → Nat} {Lb la key b m q s e L lv κ : Nat} {c : Nat → Int32} {x1 x2 x3 x4 : Int32} (hκ : κ = 1 ∨ κ = 2) (k1 : x1 = nI (kwB κ 0)) (k2 : x2 = nI (kwB κ 1)) (k3 : x3 = nI (kwB κ 2)) (k4 : x4 = if κ = 1 then 0 else nI (kwB κ 3)) (hT : TPm τ0 by' Lb) (h : MP τ0 by' la key b m q s e L lv c τ) (ht : TOK by' Lb q s e) (hp : post (if isKW by' q s e κ = true then 1 else 0) τ) : w_X10_isWordAt post τ x1 x2 x3 x4 := by
  obtain ⟨f, h11, h5, h3, h4, -⟩ := h
  obtain ⟨t1, t2, t3, -⟩ := ht
  have l96 := hT.1
  have n0 : ¬ (q = 1 ∧ e - s = kwL κ ∧ ∀ j, j < kwL κ → by' (s + j) = kwB κ j) → post 0 τ := fun n => by
    rw [if_neg (isKW_0 n)] at hp
    exact hp
  have a3 := (kw_all κ (by omega)).2.2
  have kL : kwL κ = if κ = 1 then 3 else 4 := by
    rcases hκ with rfl | rfl <;> rfl
  have go : b_X10_isWordAt_10 post τ (nI (kwL κ)) x1 x2 x3 x4 := by
    unfold b_X10_isWordAt_10
    rw [h5, h3, h4, pk_sub t2]
    refine ⟨fun g => n0 (fun y => g (by rw [y.1]; rfl)), fun g => ?_⟩
    have q1 := (nI_eq (b := 1) (by omega) (by decide)).1 g
    refine ⟨fun g => n0 (fun y => g (by rw [y.2.1])), fun g => ?_⟩
    have lk := (nI_eq (by omega) (by split at kL <;> omega)).1 g
    have l34 : 3 ≤ kwL κ ∧ (κ = 1 → kwL κ = 3) ∧ (κ ≠ 1 → kwL κ = 4) := by split at kL <;> omega
    have bx : ∀ j, j < kwL κ → τ 15 0 (s + j) = nI (by' (s + j)) ∧ by' (s + j) < 256 := fun j hj => ⟨(f 15 0 _ (by omega) (by omega)).trans (hT.2.2 (s + j) (by omega)).2, (hT.2.2 (s + j) (by omega)).1⟩
    have i1 : nI s + 1 = nI (s + 1) := nI_1 s
    have i2 : nI s + 2 = nI (s + 2) := by rw [show (2 : Int32) = nI 2 from rfl, nI_add]
    have i3 : nI s + 3 = nI (s + 3) := by rw [show (3 : Int32) = nI 3 from rfl, nI_add]
    obtain ⟨b0, c0⟩ := bx 0 (by omega)
    obtain ⟨b1, c1⟩ := bx 1 (by omega)
    obtain ⟨b2, c2⟩ := bx 2 (by omega)
    rw [Nat.add_zero] at b0 c0
    have y0 := (a3 0 (by omega)).2
    have y1 := (a3 1 (by omega)).2
    have y2 := (a3 2 (by omega)).2
    rw [i1, i2, i3, cl (show s < 2 ^ 31 by omega), cl (show s + 1 < 2 ^ 31 by omega), cl (show s + 2 < 2 ^ 31 by omega), cl (show s + 3 < 2 ^ 31 by omega), b0, b1, b2, k1, k2, k3]
    refine ⟨vp_in_nI (by omega) (by decide), fun g => n0 (fun y => g (by rw [show by' s = _ from y.2.2 0 (by omega)])), fun g0 => ?_⟩
    refine ⟨vp_in_nI (by omega) (by decide), fun g => n0 (fun y => g (by rw [y.2.2 1 (by omega)])), fun g1 => ?_⟩
    refine ⟨vp_in_nI (by omega) (by decide), fun g => n0 (fun y => g (by rw [y.2.2 2 (by omega)])), fun g2 => ?_⟩
    have d0 := (nI_eq (by omega) (by omega)).1 g0
    have d1 := (nI_eq (by omega) (by omega)).1 g1
    have d2 := (nI_eq (by omega) (by omega)).1 g2
    rw [k4]
    by_cases κ1 : κ = 1
    · rw [if_pos κ1]
      refine ⟨fun _ => ?_, fun g => absurd rfl g⟩
      rw [if_pos (isKW_1 q1 lk (fun j hj => ?_))] at hp
      · exact hp
      · rcases (show j = 0 ∨ j = 1 ∨ j = 2 by omega) with rfl | rfl | rfl
        · exact d0
        · exact d1
        · exact d2
    · rw [if_neg κ1]
      obtain rfl : κ = 2 := by omega
      obtain ⟨b3, c3⟩ := bx 3 (by omega)
      rw [b3]
      refine ⟨fun g => absurd g (by decide), fun _ => ⟨vp_in_nI (by omega) (by decide), fun g => n0 (fun y => g (by rw [y.2.2 3 (by omega)])), fun g3 => ?_⟩⟩
      have d3 := (nI_eq (by omega) (by decide)).1 g3
      rw [if_pos (isKW_1 q1 lk (fun j hj => ?_))] at hp
      · exact hp
      · rcases (show j = 0 ∨ j = 1 ∨ j = 2 ∨ j = 3 by omega) with rfl | rfl | rfl | rfl
        · exact d0
        · exact d1
        · exact d2
        · exact d3
  unfold w_X10_isWordAt
  rcases hκ with rfl | rfl
  · rw [if_pos rfl] at k4
    exact ⟨fun g => absurd k4 g, fun _ => go⟩
  · rw [if_neg (by decide)] at k4
    exact ⟨fun _ => go, fun g => absurd (k4.symm.trans g) (by decide)⟩
theorem mKey {post : Int32 → St → Prop} {τ0 τ : St} {by' : Nat → Nat} {Lb la key b m q s e L lv : Nat} {c : Nat → Int32} (hT : TPm τ0 by' Lb) (h : MP τ0 by' la key b m q s e L lv c τ) (ht : TOK by' Lb q s e) (hp : post (if kyN by' q s e = 3 then -1 else nI (kyN by' q s e)) τ) : w_X10_key post τ := by
  unfold w_X10_key
  unfold kyN at hp
  refine mIsWordL hT h ht ?_
  by_cases w0 : isKW by' q s e 0 = true
  · rw [if_pos w0] at hp ⊢
    exact ⟨fun g => absurd g (by decide), fun _ => hp⟩
  rw [if_neg w0] at hp ⊢
  refine ⟨fun _ => mIsWord (κ := 1) (Or.inl rfl) (by decide) (by decide) (by decide) (by decide) hT h ht ?_, fun g => absurd rfl g⟩
  by_cases w1 : isKW by' q s e 1 = true
  · rw [if_pos w1] at hp ⊢
    exact ⟨fun g => absurd g (by decide), fun _ => hp⟩
  rw [if_neg w1] at hp ⊢
  refine ⟨fun _ => mIsWord (κ := 2) (Or.inr rfl) (by decide) (by decide) (by decide) (by decide) hT h ht ?_, fun g => absurd rfl g⟩
  by_cases w2 : isKW by' q s e 2 = true
  · rw [if_pos w2] at hp ⊢
    exact ⟨fun g => absurd g (by decide), fun _ => hp⟩
  · rw [if_neg w2] at hp ⊢
    exact ⟨fun _ => hp, fun g => absurd rfl g⟩
