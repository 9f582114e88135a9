/-! LAYER 2. Pieces; the parsers as a whole. -/
section Piece
variable {σ0 τ0 : St} {by' : Nat → Nat} {Lb i la key : Nat}
theorem uC_num (post : Int32 → St → Prop) (q : Nat) : l_X5_number_7 post (q + 1) = b_X5_number_7 (l_X5_number_7 post q) post := rfl
theorem srt2 {x : Nat} (h : srt x = 2) : 48 ≤ x ∧ x ≤ 57 := by
  unfold srt at h
  split at h
  · omega
  · split at h <;> omega
theorem cNumber {post : Int32 → St → Prop} {σ : St} {b m s e L lv : Nat} {c : Nat → Int32} (hTc : TPc σ0 by' Lb) (h : CP σ0 i key b m 2 s e L lv c σ) (ht : TOK by' Lb 2 s e) (hp : post (nI (nmF by' s (e - s))) σ) : w_X5_number post σ := by
  obtain ⟨f, h5, hk, h0, h1, h2, -⟩ := h
  have se := ht.2.2.2.2.1 (by decide)
  have eL := ht.2.2.1
  have l96 := hTc.1
  obtain ⟨t4, td⟩ := ht.2.2.2.2.2.2 rfl
  unfold w_X5_number
  intro v ev
  rw [h1] at ev
  subst ev
  refine ⟨e - s + 1, ?_⟩
  suffices H : ∀ r k, k + r = e - s → l_X5_number_7 post (r + 1) σ (nI (nmF by' s k)) (nI (s + k)) by
    exact H (e - s) 0 (by omega)
  intro r
  induction r with
  | zero =>
    intro k hk2
    rw [uC_num]
    unfold b_X5_number_7
    rw [h2]
    obtain rfl : k = e - s := by omega
    exact ⟨fun _ => hp, fun g => absurd (nI_le (by omega) (by omega)) g⟩
  | succ r ih =>
    intro k hk2
    rw [uC_num]
    unfold b_X5_number_7
    obtain ⟨b1, b2⟩ := hTc.2.2 (s + k) (by omega)
    have d := srt2 (td (s + k) (by omega) (by omega))
    have lt := nmF_lt (by' := by') (s := s) k (by omega) (fun j hj => td _ (by omega) (by omega))
    have lt2 : (10 : Nat) ^ k ≤ 10 ^ 4 := Nat.pow_le_pow_right (by decide) (by omega)
    rw [h2, cl (show s + k < 2 ^ 31 by omega), (f 20 0 (s + k) (by decide) (by omega) (by omega)).trans b2]
    refine ⟨fun g => absurd g (nI_ge (by omega) (by omega)), fun _ => ⟨vp_in_nI (by omega) (by decide), fun v ev w ew => ?_⟩⟩
    rw [show (10 : Int32) * nI (nmF by' s k) = nI (10 * nmF by' s k) from pk_mul 10 _, nI_add, show nI (10 * nmF by' s k + by' (s + k)) - 48 = nI (10 * nmF by' s k + by' (s + k) - 48) from pk_sub (b := 48) (by omega)] at ev
    subst ev
    subst ew
    rw [nI_1]
    have e1 : 10 * nmF by' s k + by' (s + k) - 48 = nmF by' s (k + 1) := by
      rw [nmF]
      omega
    rw [e1]
    exact ih (k + 1) (by omega)
theorem cNames {post : Nat → St → Prop} {σ : St} {k : Nat} (hk : k < 3) (h : post (3 + k) σ) : w_X5_names post σ (nI k) := by
  unfold w_X5_names
  rcases (show k = 0 ∨ k = 1 ∨ k = 2 by omega) with rfl | rfl | rfl
  · exact ⟨fun _ => h, fun c => absurd rfl c⟩
  · exact ⟨fun c => absurd c (by decide), fun _ => ⟨fun _ => h, fun c => absurd rfl c⟩⟩
  · exact ⟨fun c => absurd c (by decide), fun _ => ⟨fun c => absurd c (by decide), fun _ => h⟩⟩
theorem Cfn6 (f : Nat) (post : Int32 → St → Prop) (σ : St) : Cfn (f + 1) 6 post σ = wb_X5_readPiece (G_rd f).1 (G_rd f).2.1 (G_rd f).2.2.1 (G_rd f).2.2.2.1 (G_rd f).2.2.2.2 post σ := rfl
theorem Cfn6' (f : Nat) (post : Int32 → St → Prop) (σ : St) : Cfn f 6 post σ = (G_rd f).2.1 post σ := rfl
theorem Cfn0 (f : Nat) (post : Int32 → St → Prop) (σ : St) : Cfn f 0 post σ = (G_rd f).1 post σ 0 := rfl
theorem Mfn6 (g : Nat) (post : Int32 → St → Prop) (τ : St) : Mfn key (g + 1) 6 post τ = wb_X10_part0 (G_ex g).1 (G_ex g).2.1 (G_ex g).2.2.1 (G_ex g).2.2.2.1 (G_ex g).2.2.2.2.1 (G_ex g).2.2.2.2.2 post τ (nI key) := rfl
theorem Mfn6' (g : Nat) (post : Int32 → St → Prop) (τ : St) : Mfn key g 6 post τ = (G_ex g).2.2.2.2.2 post τ (nI key) := rfl
theorem Mfn0 (g : Nat) (post : Int32 → St → Prop) (τ : St) : Mfn key g 0 post τ = (G_ex g).1 post τ (nI key) := rfl
theorem piece_out {b m f g q s e L lv : Nat} {c : Nat → Int32} (hTc : TPc σ0 by' Lb) (hTm : TPm τ0 by' Lb) (hla : la + 192 ≤ 3082) (hi : i < 15) (hkey : key < 3) (hb8 : b ≤ 8) (hm8 : m ≤ 8)
    (hN : m < 8 → ∀ (q s e L lv : Nat) (c : Nat → Int32), TOK by' Lb q s e → L ≤ s → OUT σ0 τ0 by' Lb i la key b (m + 1) L c s e q s e L lv c (Cfn f 6) (Mfn key g 6))
    (hB : b < 8 → ∀ (q s e L lv : Nat) (c : Nat → Int32), TOK by' Lb q s e → L ≤ s → OUT σ0 τ0 by' Lb i la key (b + 1) m L c s e q s e L lv c (Cfn f 0) (Mfn key g 0))
    (ht : TOK by' Lb q s e) (hL : L ≤ s) : OUT σ0 τ0 by' Lb i la key b m L c s e q s e L lv c (Cfn (f + 2) 6) (Mfn key (g + 1) 6) := by
  have l96 := hTc.1
  have eL := ht.2.2.1
  have sle := ht.2.1
  have hb := by_lt hTm ht
  obtain ⟨tn, tle⟩ := TOK_next (q := q) ht.2.2.1 (by' := by')
  have tn1 := tn.2.1
  have tn2 := tn.2.2.1
  -- neither word nor sign of its own: no piece
  have m145 : ∀ τ post, MP τ0 by' la key b m q s e L lv c τ → ¬ (q = 3 ∧ by' s = 40) → post 0 τ → b_X10_part0_145 (G_ex g).1 (G_ex g).2.1 (G_ex g).2.2.1 (G_ex g).2.2.2.1 (G_ex g).2.2.2.2.1 (G_ex g).2.2.2.2.2 post τ (nI key) := by
    intro τ post hm n40 hp
    unfold b_X10_part0_145
    refine mIsSign (x := 40) hm ht hb (by decide) ?_
    rw [if_neg n40]
    exact ⟨fun _ => hp, fun g => absurd rfl g⟩
  have m84 : ∀ τ post, MP τ0 by' la key b m q s e L lv c τ → ¬ (q = 3 ∧ by' s = 33) → b_X10_part0_145 (G_ex g).1 (G_ex g).2.1 (G_ex g).2.2.1 (G_ex g).2.2.2.1 (G_ex g).2.2.2.2.1 (G_ex g).2.2.2.2.2 post τ (nI key) → b_X10_part0_84 (G_ex g).1 (G_ex g).2.1 (G_ex g).2.2.1 (G_ex g).2.2.2.1 (G_ex g).2.2.2.2.1 (G_ex g).2.2.2.2.2 post τ (nI key) := by
    intro τ post hm n33 hp
    unfold b_X10_part0_84
    refine mIsSign (x := 33) hm ht hb (by decide) ?_
    rw [if_neg n33]
    exact ⟨fun _ => hp, fun g => absurd rfl g⟩
  have cS : ∀ σ post, q ≠ 2 → q ≠ 1 → CP σ0 i key b m q s e L lv c σ → w_X5_isSign (fun r3 s3 => ((r3 = 0 → (w_X5_isSign (fun r5 s5 => ((r5 = 0 → (post 0 s5)) ∧ (¬ r5 = 0 → ((G_rd (f + 1)).2.2.2.1 (fun r7 s7 => ((r7 = 0 → (post 0 s7)) ∧ (¬ r7 = 0 → (post 1 s7)))) s5)))) s3 7)) ∧ (¬ r3 = 0 → ((G_rd (f + 1)).2.2.1 (fun r9 s9 => post r9 s9) s3)))) σ 6 → Cfn (f + 2) 6 post σ := by
    intro σ post n2 n1 hc hp
    rw [Cfn6]
    unfold wb_X5_readPiece
    have hq := ht.1
    rw [hc.2.2.2.1]
    exact ⟨fun _ => ⟨fun _ => hp, fun y => absurd ((nI_eq (b := 1) (by omega) (by decide)).1 y) n1⟩, fun y => absurd ((nI_eq (b := 2) (by omega) (by decide)).1 y) n2⟩
  have mS : ∀ τ post, q ≠ 2 → q ≠ 1 → MP τ0 by' la key b m q s e L lv c τ → b_X10_part0_84 (G_ex g).1 (G_ex g).2.1 (G_ex g).2.2.1 (G_ex g).2.2.2.1 (G_ex g).2.2.2.2.1 (G_ex g).2.2.2.2.2 post τ (nI key) → Mfn key (g + 1) 6 post τ := by
    intro τ post n2 n1 hm hp
    rw [Mfn6]
    unfold wb_X10_part0
    have hq := ht.1
    rw [hm.2.2.1]
    exact ⟨fun _ => ⟨fun _ => hp, fun y => absurd ((nI_eq (b := 1) (by omega) (by decide)).1 y) n1⟩, fun y => absurd ((nI_eq (b := 2) (by omega) (by decide)).1 y) n2⟩
  by_cases q2 : q = 2
  · subst q2
    have se := ht.2.2.2.2.1 (by decide)
    obtain ⟨t4, td⟩ := ht.2.2.2.2.2.2 rfl
    have nlt := nmF_lt (by' := by') (s := s) (e - s) t4 (fun j hj => td _ (by omega) (by omega))
    have p4 : (10 : Nat) ^ (e - s) ≤ 10 ^ 4 := Nat.pow_le_pow_right (by decide) t4
    have v10 : nI (nmF by' s (e - s)) < 10000 := nI_lt (b := 10000) (by omega) (by decide)
    refine ⟨true, _, _, _, L + 1, lv + 1, upd c L (nI (nmF by' s (e - s))), by omega, fun _ => ⟨tn, SR_leaf v10 se tle, by omega⟩, fun σ post hc hp => ?_, fun τ post hm hp => ?_⟩
    · rw [Cfn6]
      unfold wb_X5_readPiece
      rw [hc.2.2.2.1, hc.2.1, cl (show i < 2 ^ 31 by omega)]
      refine ⟨fun y => absurd rfl y, fun _ => ⟨vp_in_nI (by omega) (by decide), cNumber hTc hc ht (cLeaf hc (by omega) (fun σ1 hc1 => cpStep hTc hc1 ht (fun σ2 hc2 => hp σ2 hc2.1 hc2.2.2.2.2.1 (fun _ => hc2))))⟩⟩
    · rw [Mfn6]
      unfold wb_X10_part0
      rw [hm.2.2.1]
      refine ⟨fun y => absurd rfl y, fun _ => ?_⟩
      rw [hm.2.2.2.2.2.1.2.2 rfl]
      refine mCode hm (by omega) hla (Or.inl ⟨rfl, rfl, nI_pos (by omega), v10⟩) (fun τ1 hm1 τ2 e2 => ?_)
      have hm2 : MP τ0 by' la key b m 2 s e (L + 1) (lv + 1) (upd c L (nI (nmF by' s (e - s)))) τ2 := by
        rw [e2]
        exact MP_cell (j0 := 12) hm1 (Or.inr (Or.inr ⟨rfl, by rw [hm1.2.2.2.2.2.2.2.2.2.1, nI_1], rfl, rfl⟩))
      exact mpStep hTm hm2 ht (fun τ3 hm3 => hp τ3 hm3.1 hm3.2.2.2.1 (fun _ => hm3))
  by_cases q1 : q = 1
  · subst q1
    have se := ht.2.2.2.2.1 (by decide)
    obtain ⟨b1, b2⟩ := hTc.2.2 s (by omega)
    have bM := (hTm.2.2 s (by omega)).2
    have n3 : ∀ x, ¬ ((1 : Nat) = 3 ∧ by' s = x) := fun x y => absurd y.1 (by decide)
    have cName : ∀ σ post, CP σ0 i key b m 1 s e L lv c σ → ((¬ nI (e - s) = 1 → post 0 σ) ∧ (nI (e - s) = 1 → ((0 ≤ nmB key (by' s) → (vp_in (nI i) 15 ∧ w_X3_addLeaf (fun s8 => w_X5_step (fun s9 => post 1 s9) s8) σ i (-1 - nmB key (by' s)))) ∧ (¬ 0 ≤ nmB key (by' s) → post 0 σ)))) → Cfn (f + 2) 6 post σ := by
      intro σ post hc hp
      rw [Cfn6]
      unfold wb_X5_readPiece
      rw [hc.2.2.2.1]
      refine ⟨fun _ => ⟨fun y => absurd rfl y, fun _ => ?_⟩, fun y => absurd y (by decide)⟩
      unfold w_X5_readName
      rw [hc.2.1, cl (show i < 2 ^ 31 by omega), hc.2.2.1]
      refine ⟨vp_in_nI (by omega) (by decide), cNames hkey ?_⟩
      rw [hc.2.2.2.2.1, cl (show s < 2 ^ 31 by omega), (hc.1 20 0 s (by decide) (by omega) (by omega)).trans b2]
      refine ⟨vp_in_nI (by omega) (by decide), sIdx (by omega) b1 ?_⟩
      rw [hc.2.2.2.2.2.1, hc.2.2.2.2.1, hc.2.1, pk_sub sle, cl (show i < 2 ^ 31 by omega)]
      exact hp
    have mName : ∀ τ post, MP τ0 by' la key b m 1 s e L lv c τ → (((nI (if e - s = 1 then by' s else 0) = 0 → post 0 τ) ∧ (¬ nI (if e - s = 1 then by' s else 0) = 0 → ((isN key (if e - s = 1 then by' s else 0) = false → post 0 τ) ∧ (isN key (if e - s = 1 then by' s else 0) = true → w_X10_step (fun s6 => ∀ s7 : St, s7 = wr s6 0 0 12 ((s6 0 0 12) + 1) → (w_X10_nextToken (fun s8 => post 1 s8) s7)) τ 1 (nI (if e - s = 1 then by' s else 0))))))) → Mfn key (g + 1) 6 post τ := by
      intro τ post hm hp
      rw [Mfn6]
      unfold wb_X10_part0
      rw [hm.2.2.1, hm.2.2.2.2.2.1.2.1 rfl]
      have lx : (if e - s = 1 then by' s else 0) < 256 := by split <;> omega
      refine ⟨fun _ => ⟨fun y => absurd rfl y, fun _ => ⟨fun y => m84 τ post hm (n3 33) (m145 τ post hm (n3 40) (hp.1 y)), fun y => mIsName hkey lx ?_⟩⟩, fun y => absurd y (by decide)⟩
      cases hN2 : isN key (if e - s = 1 then by' s else 0) with
      | true =>
        rw [if_pos rfl]
        refine ⟨fun z => absurd z (by decide), fun _ => ?_⟩
        rw [hm.2.2.2.2.2.1.2.1 rfl]
        exact (hp.2 y).2 hN2
      | false =>
        rw [if_neg (by decide)]
        exact ⟨fun _ => m84 τ post hm (n3 33) (m145 τ post hm (n3 40) ((hp.2 y).1 hN2)), fun z => absurd rfl z⟩
    by_cases e1 : e - s = 1
    · rw [if_pos e1] at mName
      have isn := isN_nm key hkey (by' s) b1
      rcases nm_all key hkey (by' s) b1 with ⟨x1, x2⟩ | ⟨x1, x2, x3, x4⟩
      · rw [x2] at isn
        refine OUT_fail (by omega) (fun σ post hc hp => cName σ post hc ⟨fun _ => hp, fun _ => ⟨fun y => ?_, fun _ => hp⟩⟩) (fun τ post hm hp => mName τ post hm ⟨fun _ => hp, fun _ => ⟨fun _ => hp, fun y => ?_⟩⟩)
        · rw [x1] at y
          exact absurd y (by decide)
        · rw [isn] at y
          exact absurd y (by decide)
      · have isn1 : isN key (by' s) = true := by rw [isn]; simpa using x2
        obtain ⟨v1, v2, v3⟩ := nm_back x2
        have ne0 : ¬ nI (by' s) = 0 := fun y => by
          have z := (nI_eq (b := 0) (by omega) (by decide)).1 y
          have w : isN key 0 = false := by
            unfold isN
            split
            · decide
            · split <;> decide
          rw [z, w] at isn1
          exact absurd isn1 (by decide)
        refine ⟨true, _, _, _, L + 1, lv + 1, upd c L (-1 - nI (nmP key (by' s))), by omega, fun _ => ⟨tn, SR_leaf v3 se tle, by omega⟩, fun σ post hc hp => cName σ post hc ⟨fun y => absurd (by rw [e1]; rfl) y, fun _ => ⟨fun _ => ⟨vp_in_nI (by omega) (by decide), ?_⟩, fun y => ?_⟩⟩, fun τ post hm hp => mName τ post hm ⟨fun y => absurd y ne0, fun _ => ⟨fun y => ?_, fun _ => ?_⟩⟩⟩
        · rw [x1]
          exact cLeaf hc (by omega) (fun σ1 hc1 => cpStep hTc hc1 ht (fun σ2 hc2 => hp σ2 hc2.1 hc2.2.2.2.2.1 (fun _ => hc2)))
        · rw [x1] at y
          exact absurd (nI_pos' (by omega)) y
        · rw [isn1] at y
          exact absurd y (by decide)
        · refine mCode hm (by omega) hla (Or.inr (Or.inl ⟨rfl, nmP key (by' s), x2, fun y => by rw [x3 y]; rfl, rfl, by rw [x4]⟩)) (fun τ1 hm1 τ2 e2 => ?_)
          have hm2 : MP τ0 by' la key b m 1 s e (L + 1) (lv + 1) (upd c L (-1 - nI (nmP key (by' s)))) τ2 := by
            rw [e2]
            exact MP_cell (j0 := 12) hm1 (Or.inr (Or.inr ⟨rfl, by rw [hm1.2.2.2.2.2.2.2.2.2.1, nI_1], rfl, rfl⟩))
          exact mpStep hTm hm2 ht (fun τ3 hm3 => hp τ3 hm3.1 hm3.2.2.2.1 (fun _ => hm3))
    · rw [if_neg e1] at mName
      exact OUT_fail (by omega) (fun σ post hc hp => cName σ post hc ⟨fun _ => hp, fun y => absurd ((nI_eq (b := 1) (by omega) (by decide)).1 y) e1⟩) (fun τ post hm hp => mName τ post hm ⟨fun _ => hp, fun y => absurd rfl y⟩)
  by_cases s33 : q = 3 ∧ by' s = 33
  · have q3 := s33.1
    have es := ht.2.2.2.2.2.1 q3
    have lt := hb (by omega)
    have cN : ∀ σ post, CP σ0 i key b m q s e L lv c σ → wb_X5_readNot (G_rd f).1 (G_rd f).2.1 (G_rd f).2.2.1 (G_rd f).2.2.2.1 (G_rd f).2.2.2.2 post σ → Cfn (f + 2) 6 post σ := by
      intro σ post hc hp
      refine cS σ post q2 q1 hc (cIsSign hTc hc ht (by decide) ?_)
      rw [if_pos ⟨q3, by rw [s33.2]; decide +kernel⟩]
      exact ⟨fun y => absurd y (by decide), fun _ => hp⟩
    by_cases m88 : m < 8
    · obtain ⟨ok, q', s', e', L', lv', c', h96, hok, hC, hM⟩ := hN m88 _ _ _ L lv c tn (by omega)
      have cGo : ∀ σ post, CP σ0 i key b m q s e L lv c σ → (∀ σ2 : St, CP σ0 i key b (m + 1) (tQ by' Lb q e) (tS by' Lb e) (tE by' Lb e) L lv c σ2 → (G_rd f).2.1 (fun r4 s4 => ((¬ r4 = 0 → (∀ s6 : St, s6 = wr s4 21 0 4 ((s4 21 0 4) - 1) → (vp_in (s6 21 0 5) 15 ∧ (w_X3_addOperation (fun s8 => post 1 s8) s6 ((s6 21 0 5).toNatClampNeg) (33 : Int32))))) ∧ (r4 = 0 → (post 0 s4)))) σ2) → Cfn (f + 2) 6 post σ := by
        intro σ post hc hp
        refine cN σ post hc ?_
        unfold wb_X5_readNot
        rw [hc.2.2.2.2.2.2.2.1]
        refine ⟨fun _ s2 es2 => ?_, fun y => absurd (nI_lt (b := 8) m88 (by decide)) y⟩
        have hc1 : CP σ0 i key b (m + 1) q s e L lv c s2 := by
          rw [es2, nI_1]
          exact CP_cell hc (Or.inr ⟨rfl, rfl, rfl⟩)
        exact cpStep hTc hc1 ht hp
      have mGo : ∀ τ post, MP τ0 by' la key b m q s e L lv c τ → (∀ τ2 : St, MP τ0 by' la key b (m + 1) (tQ by' Lb q e) (tS by' Lb e) (tE by' Lb e) L lv c τ2 → (G_ex g).2.2.2.2.2 (fun r6 s6 => ((¬ r6 = 0 → (∀ s8 : St, s8 = wr s6 0 0 9 ((s6 0 0 9) - 1) → (w_X10_step (fun s9 => post 1 s9) s8 (2 : Int32) (33 : Int32)))) ∧ (r6 = 0 → (post 0 s6)))) τ2 (nI key)) → Mfn key (g + 1) 6 post τ := by
        intro τ post hm hp
        refine mS τ post q2 q1 hm ?_
        unfold b_X10_part0_84
        refine mIsSign (x := 33) hm ht hb (by decide) ?_
        rw [if_pos s33]
        refine ⟨fun y => absurd y (by decide), fun _ => ?_⟩
        rw [hm.2.2.2.2.2.2.2.1]
        refine ⟨fun y => absurd y (nI_ge (b := 8) m88 (by decide)), fun _ s4 e4 => ?_⟩
        have hm1 : MP τ0 by' la key b (m + 1) q s e L lv c s4 := by
          rw [e4, nI_1]
          exact MP_cell hm (Or.inr (Or.inl ⟨rfl, rfl, rfl, rfl⟩))
        exact mpStep hTm hm1 ht hp
      cases ok with
      | false =>
        exact ⟨false, q', s', e', L', lv', c', h96, fun y => absurd y (by decide), fun σ post hc hp => cGo σ post hc (fun σ2 hc2 => hC σ2 _ hc2 (fun σ' a1 a2 a3 => ⟨fun y => absurd rfl y, fun _ => hp σ' a1 a2 (fun y => absurd y (by decide))⟩)), fun τ post hm hp => mGo τ post hm (fun τ2 hm2 => hM τ2 _ hm2 (fun τ' a1 a2 a3 => ⟨fun y => absurd rfl y, fun _ => hp τ' a1 a2 (fun y => absurd y (by decide))⟩))⟩
      | true =>
        obtain ⟨t2, sr2, L2⟩ := hok rfl
        have k1 := sr2.2.1
        have k2 := sr2.2.2.1
        refine ⟨true, q', s', e', L' + 1, lv', upd c' L' 10033, h96, fun _ => ⟨t2, SR_not (s := s) (e' := e) sr2 (by omega) (by omega), by omega⟩, fun σ post hc hp => cGo σ post hc (fun σ2 hc2 => hC σ2 _ hc2 (fun σ' a1 a2 a3 => ⟨fun _ s6 e6 => ?_, fun y => absurd y (by decide)⟩)), fun τ post hm hp => mGo τ post hm (fun τ2 hm2 => hM τ2 _ hm2 (fun τ' a1 a2 a3 => ⟨fun _ s8 e8 => ?_, fun y => absurd y (by decide)⟩))⟩
        · have hc3 := a3 rfl
          have hc6 : CP σ0 i key b m q' s' e' L' lv' c' s6 := by
            rw [e6]
            exact CP_cell hc3 (Or.inr ⟨rfl, by rw [hc3.2.2.2.2.2.2.2.1, nI_pred], rfl⟩)
          rw [hc6.2.1, cl (show i < 2 ^ 31 by omega)]
          refine ⟨vp_in_nI (by omega) (by decide), ?_⟩
          unfold w_X3_addOperation
          exact cCode (v := 10033) hc6 (by omega) (fun σ3 hc4 => hp σ3 hc4.1 hc4.2.2.2.2.1 (fun _ => hc4))
        · have hm3 := a3 rfl
          have hm8' : MP τ0 by' la key b m q' s' e' L' lv' c' s8 := by
            rw [e8]
            exact MP_cell hm3 (Or.inr (Or.inl ⟨rfl, by rw [hm3.2.2.2.2.2.2.2.1, nI_pred], rfl, rfl⟩))
          exact mCode hm8' (by omega) hla (Or.inr (Or.inr (Or.inl ⟨rfl, rfl, rfl⟩))) (fun τ3 hm4 => hp τ3 hm4.1 hm4.2.2.2.1 (fun _ => hm4))
    · refine OUT_fail (by omega) (fun σ post hc hp => cN σ post hc ?_) (fun τ post hm hp => mS τ post q2 q1 hm ?_)
      · unfold wb_X5_readNot
        rw [hc.2.2.2.2.2.2.2.1]
        exact ⟨fun y => absurd ((nI_ltI (b := 8) (by omega) (by decide)).1 y) m88, fun _ => hp⟩
      · unfold b_X10_part0_84
        refine mIsSign (x := 33) hm ht hb (by decide) ?_
        rw [if_pos s33, ]
        refine ⟨fun y => absurd y (by decide), fun _ => ?_⟩
        rw [hm.2.2.2.2.2.2.2.1]
        exact ⟨fun _ => m145 τ post hm (fun y => by omega) hp, fun y => absurd (nI_le (a := 8) (by omega) (by omega)) y⟩
  by_cases s40 : q = 3 ∧ by' s = 40
  · have q3 := s40.1
    have es := ht.2.2.2.2.2.1 q3
    have lt := hb (by omega)
    have cB : ∀ σ post, CP σ0 i key b m q s e L lv c σ → wb_X5_readBracket (G_rd f).1 (G_rd f).2.1 (G_rd f).2.2.1 (G_rd f).2.2.2.1 (G_rd f).2.2.2.2 (fun r7 s7 => ((r7 = 0 → (post 0 s7)) ∧ (¬ r7 = 0 → (post 1 s7)))) σ → Cfn (f + 2) 6 post σ := by
      intro σ post hc hp
      refine cS σ post q2 q1 hc (cIsSign hTc hc ht (by decide) ?_)
      rw [if_neg (fun y => by
        have z := y.2
        rw [s40.2] at z
        exact absurd z (by decide +kernel))]
      refine ⟨fun _ => cIsSign hTc hc ht (by decide) ?_, fun y => absurd rfl y⟩
      rw [if_pos ⟨q3, by rw [s40.2]; decide +kernel⟩]
      exact ⟨fun y => absurd y (by decide), fun _ => hp⟩
    have mB : ∀ τ post, MP τ0 by' la key b m q s e L lv c τ → ((¬ nI b = 8 → (∀ s4 : St, s4 = wr τ 0 0 8 (nI b + 1) → (w_X10_nextToken (fun s5 => (G_ex g).1 (fun r6 s6 => ((r6 = 0 → (post 0 s6)) ∧ (¬ r6 = 0 → (w_X10_isSign (fun r8 s8 => ((¬ r8 = 0 → (∀ s10 : St, s10 = wr s8 0 0 8 ((s8 0 0 8) - 1) → (w_X10_nextToken (fun s11 => post 1 s11) s10))) ∧ (r8 = 0 → (post 0 s8)))) s6 (41 : Int32))))) s5 (nI key)) s4))) ∧ (nI b = 8 → (post 0 τ))) → Mfn key (g + 1) 6 post τ := by
      intro τ post hm hp
      refine mS τ post q2 q1 hm (m84 τ post hm s33 ?_)
      unfold b_X10_part0_145
      refine mIsSign (x := 40) hm ht hb (by decide) ?_
      rw [if_pos s40]
      refine ⟨fun y => absurd y (by decide), fun _ => ?_⟩
      rw [hm.2.2.2.2.2.2.1]
      exact hp
    by_cases b88 : b < 8
    · obtain ⟨ok, q', s', e', L', lv', c', h96, hok, hC, hM⟩ := hB b88 _ _ _ L lv c tn (by omega)
      have cGo : ∀ σ post, CP σ0 i key b m q s e L lv c σ → (∀ σ2 : St, CP σ0 i key (b + 1) m (tQ by' Lb q e) (tS by' Lb e) (tE by' Lb e) L lv c σ2 → (G_rd f).1 (fun r4 s4 => ((r4 = 0 → (post 0 s4)) ∧ (¬ r4 = 0 → (w_X5_isSign (fun r6 s6 => ((¬ r6 = 0 → (∀ s8 : St, s8 = wr s6 21 0 3 ((s6 21 0 3) - 1) → (w_X5_step (fun s9 => post 1 s9) s8))) ∧ (r6 = 0 → (post 0 s6)))) s4 8)))) σ2 (0 : Int32)) → Cfn (f + 2) 6 post σ := by
        intro σ post hc hp
        refine cB σ post hc ?_
        unfold wb_X5_readBracket
        rw [hc.2.2.2.2.2.2.1]
        refine ⟨fun _ s2 es2 => ?_, fun y => absurd (nI_lt (b := 8) b88 (by decide)) y⟩
        have hc1 : CP σ0 i key (b + 1) m q s e L lv c s2 := by
          rw [es2, nI_1]
          exact CP_cell hc (Or.inl ⟨rfl, rfl, rfl⟩)
        refine cpStep hTc hc1 ht (fun σ2 hc2 => ?_)
        have := hp σ2 hc2
        simpa using this
      have mGo : ∀ τ post, MP τ0 by' la key b m q s e L lv c τ → (∀ τ2 : St, MP τ0 by' la key (b + 1) m (tQ by' Lb q e) (tS by' Lb e) (tE by' Lb e) L lv c τ2 → (G_ex g).1 (fun r6 s6 => ((r6 = 0 → (post 0 s6)) ∧ (¬ r6 = 0 → (w_X10_isSign (fun r8 s8 => ((¬ r8 = 0 → (∀ s10 : St, s10 = wr s8 0 0 8 ((s8 0 0 8) - 1) → (w_X10_nextToken (fun s11 => post 1 s11) s10))) ∧ (r8 = 0 → (post 0 s8)))) s6 (41 : Int32))))) τ2 (nI key)) → Mfn key (g + 1) 6 post τ := by
        intro τ post hm hp
        refine mB τ post hm ⟨fun _ s4 e4 => ?_, fun y => absurd ((nI_eq (b := 8) (by omega) (by decide)).1 y) (by omega)⟩
        have hm1 : MP τ0 by' la key (b + 1) m q s e L lv c s4 := by
          rw [e4, nI_1]
          exact MP_cell hm (Or.inl ⟨rfl, rfl, rfl, rfl⟩)
        exact mpStep hTm hm1 ht hp
      cases ok with
      | false =>
        exact ⟨false, q', s', e', L', lv', c', h96, fun y => absurd y (by decide), fun σ post hc hp => cGo σ post hc (fun σ2 hc2 => hC σ2 _ hc2 (fun σ' a1 a2 a3 => ⟨fun _ => hp σ' a1 a2 (fun y => absurd y (by decide)), fun y => absurd rfl y⟩)), fun τ post hm hp => mGo τ post hm (fun τ2 hm2 => hM τ2 _ hm2 (fun τ' a1 a2 a3 => ⟨fun _ => hp τ' a1 a2 (fun y => absurd y (by decide)), fun y => absurd rfl y⟩))⟩
      | true =>
        obtain ⟨t2, sr2, L2⟩ := hok rfl
        have k1 := sr2.2.1
        have k2 := sr2.2.2.1
        have hb2 := by_lt hTm t2
        by_cases s41 : q' = 3 ∧ by' s' = 41
        · obtain ⟨tn', tle'⟩ := TOK_next (q := q') t2.2.2.1 (by' := by')
          have se' := t2.2.2.2.2.1 (by omega)
          have tn1' := tn'.2.1
          have tn2' := tn'.2.2.1
          obtain ⟨r1, r2, r3, r4, r5, r6⟩ := sr2
          refine ⟨true, _, _, _, L', lv', c', by omega, fun _ => ⟨tn', ⟨r1, by omega, by omega, r4, r5, r6⟩, by omega⟩, fun σ post hc hp => cGo σ post hc (fun σ2 hc2 => hC σ2 _ hc2 (fun σ' a1 a2 a3 => ⟨fun y => absurd y (by decide), fun _ => cIsSign hTc (a3 rfl) t2 (by decide) ?_⟩)), fun τ post hm hp => mGo τ post hm (fun τ2 hm2 => hM τ2 _ hm2 (fun τ' a1 a2 a3 => ⟨fun y => absurd y (by decide), fun _ => mIsSign (x := 41) (a3 rfl) t2 hb2 (by decide) ?_⟩))⟩
          · rw [if_pos ⟨s41.1, by rw [s41.2]; decide +kernel⟩]
            refine ⟨fun _ s8 e8 => ?_, fun y => absurd y (by decide)⟩
            have hc3 := a3 rfl
            have hc8 : CP σ0 i key b m q' s' e' L' lv' c' s8 := by
              rw [e8]
              exact CP_cell hc3 (Or.inl ⟨rfl, by rw [hc3.2.2.2.2.2.2.1, nI_pred], rfl⟩)
            exact cpStep hTc hc8 t2 (fun σ3 hc4 => hp σ3 hc4.1 hc4.2.2.2.2.1 (fun _ => hc4))
          · rw [if_pos s41]
            refine ⟨fun _ s10 e10 => ?_, fun y => absurd y (by decide)⟩
            have hm3 := a3 rfl
            have hm10 : MP τ0 by' la key b m q' s' e' L' lv' c' s10 := by
              rw [e10]
              exact MP_cell hm3 (Or.inl ⟨rfl, by rw [hm3.2.2.2.2.2.2.1, nI_pred], rfl, rfl⟩)
            exact mpStep hTm hm10 t2 (fun τ3 hm4 => hp τ3 hm4.1 hm4.2.2.2.1 (fun _ => hm4))
        · refine ⟨false, q', s', e', L', lv', c', h96, fun y => absurd y (by decide), fun σ post hc hp => cGo σ post hc (fun σ2 hc2 => hC σ2 _ hc2 (fun σ' a1 a2 a3 => ⟨fun y => absurd y (by decide), fun _ => cIsSign hTc (a3 rfl) t2 (by decide) ?_⟩)), fun τ post hm hp => mGo τ post hm (fun τ2 hm2 => hM τ2 _ hm2 (fun τ' a1 a2 a3 => ⟨fun y => absurd y (by decide), fun _ => mIsSign (x := 41) (a3 rfl) t2 hb2 (by decide) ?_⟩))⟩
          · rw [if_neg (fun y => by
              have lt2 := hb2 (by have := t2.2.2.2.2.2.1 y.1; omega)
              have z := y.2
              rw [sg8 _ lt2] at z
              exact s41 ⟨y.1, by simpa using z⟩)]
            exact ⟨fun y => absurd rfl y, fun _ => hp σ' a1 a2 (fun y => absurd y (by decide))⟩
          · rw [if_neg s41]
            exact ⟨fun y => absurd rfl y, fun _ => hp τ' a1 a2 (fun y => absurd y (by decide))⟩
    · refine OUT_fail (by omega) (fun σ post hc hp => cB σ post hc ?_) (fun τ post hm hp => mB τ post hm ⟨fun y => absurd (by rw [show b = 8 by omega]; rfl) y, fun _ => hp⟩)
      unfold wb_X5_readBracket
      rw [hc.2.2.2.2.2.2.1]
      exact ⟨fun y => absurd ((nI_ltI (b := 8) (by omega) (by decide)).1 y) b88, fun _ => ⟨fun _ => hp, fun y => absurd rfl y⟩⟩
  · refine OUT_fail (by omega) (fun σ post hc hp => cS σ post q2 q1 hc (cIsSign hTc hc ht (by decide) ?_)) (fun τ post hm hp => mS τ post q2 q1 hm (m84 τ post hm s33 (m145 τ post hm s40 hp)))
    rw [if_neg (fun y => by
      have lt := hb (by have := ht.2.2.2.2.2.1 y.1; omega)
      have z := y.2
      rw [sg6 _ lt] at z
      exact s33 ⟨y.1, by simpa using z⟩)]
    refine ⟨fun _ => cIsSign hTc hc ht (by decide) ?_, fun y => absurd rfl y⟩
    rw [if_neg (fun y => by
      have lt := hb (by have := ht.2.2.2.2.2.1 y.1; omega)
      have z := y.2
      rw [sg7 _ lt] at z
      exact s40 ⟨y.1, by simpa using z⟩)]
    exact ⟨fun _ => hp, fun y => absurd rfl y⟩
theorem Cfn5 (f : Nat) (post : Int32 → St → Prop) (σ : St) (h : Cfn f 6 post σ) : Cfn (f + 1) 5 post σ := by
  show wb_X5_readBelow (G_rd f).1 (G_rd f).2.1 (G_rd f).2.2.1 (G_rd f).2.2.2.1 (G_rd f).2.2.2.2 post σ (nI 4)
  unfold wb_X5_readBelow
  exact ⟨fun y => absurd y (by decide), fun _ => h⟩
/-- a level behind the first is entered through the method that looks below -/
theorem CfnL (f lev : Nat) (hl : lev < 4) (post : Int32 → St → Prop) (σ : St) (h : (G_rd f).1 post σ (nI (lev + 1))) : Cfn (f + 1) (lev + 1) post σ := by
  have e : Cfn (f + 1) (lev + 1) post σ = wb_X5_readBelow (G_rd f).1 (G_rd f).2.1 (G_rd f).2.2.1 (G_rd f).2.2.2.1 (G_rd f).2.2.2.2 post σ (nI lev) := (if_neg (by omega)).trans (if_neg (by omega))
  rw [e]
  unfold wb_X5_readBelow
  rw [nI_1]
  exact ⟨fun _ => h, fun y => absurd (nI_lt (b := 4) hl (by decide)) y⟩
/-- both parsers, from any of their levels on -/
theorem parse_out (hTc : TPc σ0 by' Lb) (hTm : TPm τ0 by' Lb) (hla : la + 192 ≤ 3082) (hi : i < 15) (hkey : key < 3) : ∀ (N b m lev : Nat), b ≤ 8 → m ≤ 8 → lev ≤ 6 → 2 + 8 * (8 - b) + 2 * (8 - m) + (6 - lev) ≤ N → ∀ (f g : Nat), 2 + 14 * (8 - b) + 2 * (8 - m) + 2 * (6 - lev) ≤ f → N ≤ g → ∀ (q s e L lv : Nat) (c : Nat → Int32), TOK by' Lb q s e → L ≤ s → OUT σ0 τ0 by' Lb i la key b m L c s e q s e L lv c (Cfn f lev) (Mfn key g lev) := by
  intro N
  induction N using Nat.strongRecOn with
  | _ N ih =>
    intro b m lev hb hm hlev hN f g hf hg q s e L lv c ht hL
    obtain ⟨g, rfl⟩ : ∃ g', g = g' + 1 := ⟨g - 1, by omega⟩
    obtain ⟨f, rfl⟩ : ∃ f', f = f' + 2 := ⟨f - 2, by omega⟩
    by_cases l6 : lev = 6
    · subst l6
      exact piece_out hTc hTm hla hi hkey hb hm (fun h8 q s e L lv c ht hL => ih (N - 2) (by omega) b (m + 1) 6 hb (by omega) (by decide) (by omega) f g (by omega) (by omega) q s e L lv c ht hL) (fun h8 q s e L lv c ht hL => ih (N - 2) (by omega) (b + 1) m 0 (by omega) hm (by decide) (by omega) f g (by omega) (by omega) q s e L lv c ht hL) ht hL
    · by_cases l5 : lev = 5
      · subst l5
        obtain ⟨ok, q', s', e', L', lv', c', h96, hok, hC, hM⟩ := ih (N - 1) (by omega) b m 6 hb hm (by decide) (by omega) (f + 1) (g + 1) (by omega) (by omega) q s e L lv c ht hL
        exact ⟨ok, q', s', e', L', lv', c', h96, hok, fun σ post hc hp => Cfn5 _ post σ (hC σ post hc hp), fun τ post hm hp => hM τ post hm hp⟩
      · by_cases l0 : lev = 0
        · subst l0
          obtain ⟨ok, q', s', e', L', lv', c', h96, hok, hC, hM⟩ := lev_out (f := f + 1) hTc hTm hla hi (by decide) (fun q s e L lv c ht hL => ih (N - 1) (by omega) b m (0 + 1) hb hm (by decide) (by omega) (f + 1) g (by omega) (by omega) q s e L lv c ht hL) q s e L lv c ht hL
          exact ⟨ok, q', s', e', L', lv', c', h96, hok, fun σ post hc hp => hC σ post hc hp, fun τ post hm hp => hM τ post hm hp⟩
        · obtain ⟨lev, rfl⟩ : ∃ k, lev = k + 1 := ⟨lev - 1, by omega⟩
          obtain ⟨ok, q', s', e', L', lv', c', h96, hok, hC, hM⟩ := lev_out (f := f) hTc hTm hla hi (show lev + 1 < 5 by omega) (fun q s e L lv c ht hL => ih (N - 1) (by omega) b m (lev + 1 + 1) hb hm (by omega) (by omega) f g (by omega) (by omega) q s e L lv c ht hL) q s e L lv c ht hL
          exact ⟨ok, q', s', e', L', lv', c', h96, hok, fun σ post hc hp => CfnL (f + 1) lev (by omega) post σ (hC σ post hc hp), fun τ post hm hp => hM τ post hm hp⟩
end Piece
