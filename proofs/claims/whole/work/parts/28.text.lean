/-! LAYER 2. A text is read. -/
def MF3 (τ0 : St) (la : Nat) (τ : St) : Prop := ∀ k a j, ¬ (k = 0 ∧ a = 0 ∧ 2 ≤ j ∧ j ≤ 12) → ¬ (k = 1 ∧ a = 0 ∧ la ≤ j ∧ j < la + 192) → τ k a j = τ0 k a j
theorem MF3_of {τ0 τ : St} {la : Nat} (h : MF2 τ0 la τ) : MF3 τ0 la (wr τ 0 0 2 0) := fun k a j h1 h2 => by
  simp only [wr]
  rw [if_neg (by omega)]
  exact h k a j (by omega) h2
theorem m109 {post : Int32 → St → Prop} {τ : St} {x : Int32} (h : post (-1) (wr τ 0 0 2 0)) : b_X10_parse_109 post τ x := by
  unfold b_X10_parse_109 b_X10_parse_110 b_X10_parse_111
  intro s e
  rw [e]
  exact ⟨fun _ => h, fun g => absurd rfl g⟩
theorem m110 {post : Int32 → St → Prop} {τ : St} {x : Int32} (h : post x (wr τ 0 0 2 0)) : b_X10_parse_110 post τ 1 x := by
  unfold b_X10_parse_110 b_X10_parse_111
  intro s e
  rw [e]
  exact ⟨fun g => absurd g (by decide), fun _ => h⟩
theorem text_out {σ τ : St} {by' : Nat → Nat} {Lb i la : Nat} (hTc : TPc σ by' Lb) (hTm : TPm τ by' Lb) (hla : la + 192 ≤ 3082) (hi : i < 15) : ∃ (ok : Bool) (key L lv s : Nat) (c : Nat → Int32), s ≤ 96 ∧ (ok = true → key < 3 ∧ L ≤ 96 ∧ WFc c L) ∧
    (∀ post : Int32 → St → Prop, (∀ σ', CFr σ i σ' → (ok = true → σ' 17 i 0 = nI key ∧ σ' 17 i 2 = nI L ∧ σ' 17 i 1 = nI lv ∧ ∀ k, k < L → σ' 18 i k = c k) → post (if ok = true then -1 else nI s) σ') → w_X5_faultIn post σ i) ∧
    (∀ (post : Int32 → St → Prop) (τ6 : St), MF2 τ la τ6 → τ6 0 0 5 = 3 → τ6 0 0 4 = 0 → τ6 0 0 8 = 0 → τ6 0 0 9 = 0 → τ6 0 0 10 = 0 → τ6 0 0 12 = 0 → (∀ τ', MF3 τ la τ' → τ' 0 0 2 = 0 → τ' 0 0 3 = nI s → (ok = true → τ' 0 0 12 = nI lv ∧ τ' 0 0 10 = nI L ∧ ∀ k, k < L → RP (nI key) (c k) (τ' 1 0 (la + 2 * k)) (τ' 1 0 (la + 2 * k + 1))) → post (if ok = true then nI key else -1) τ') → b_X10_parse_60 post τ6 (nI la)) := by
  have l96 := hTc.1
  obtain ⟨t1, -⟩ := TOK_next (by' := by') (Lb := Lb) (q := 3) (e := 0) (Nat.zero_le _)
  obtain ⟨t2, t2l⟩ := TOK_next (by' := by') (Lb := Lb) (q := tQ by' Lb 3 0) t1.2.2.1
  have s96 : tS by' Lb 0 ≤ 96 := by
    have := t1.2.1
    have := t1.2.2.1
    omega
  -- the class comes to its key word
  have hC0 : ∀ post : Int32 → St → Prop, (∀ (k0 : Nat) (σ1 : St), CP σ i k0 0 0 (tQ by' Lb 3 0) (tS by' Lb 0) (tE by' Lb 0) 0 0 (fun _ => 0) σ1 → w_X5_readKey (fun r9 s9 => ((r9 = 0 → (post (s9 21 0 1) s9)) ∧ (¬ r9 = 0 → (w_X5_readLevel (fun r11 s11 => ((r11 = 0 → (post (s11 21 0 1) s11)) ∧ (¬ r11 = 0 → (((¬ (s11 21 0 0) = 0 → (post (s11 21 0 1) s11)) ∧ ((s11 21 0 0) = 0 → (post ((-1)) s11))))))) s9 (0 : Int32))))) σ1) → w_X5_faultIn post σ i := by
    intro post hp
    unfold w_X5_faultIn
    intro a1 ea1
    have r5 : a1 21 0 5 = nI i := by rw [ea1]; simp [wr]
    rw [r5, cl (show i < 2 ^ 31 by omega)]
    refine ⟨vp_in_nI hi (by decide), ?_⟩
    unfold w_X3_clear
    intro a2 ea2 a3 ea3 a4 ea4 a5 ea5 a6 ea6 a7 ea7
    have w0 : ∀ k a j, k ≠ 21 → ¬ (k = 17 ∧ a = i ∧ (j = 1 ∨ j = 2)) → a7 k a j = σ k a j := fun k a j d1 d2 => by
      rw [ea7, wr_off _ _ _ (by omega), ea6, wr_off _ _ _ (by omega), ea5, wr_off _ _ _ (by omega), ea4, wr_off _ _ _ (by omega), ea3]
      simp only [wr]
      rw [if_neg (by omega), ea2]
      simp only [wr]
      rw [if_neg (by omega), ea1, wr_off _ _ _ (by omega)]
    have v0 : a7 21 0 0 = nI 3 := by rw [ea7, ea6, ea5, ea4]; simp [wr]; rfl
    have v2 : a7 21 0 2 = nI 0 := by rw [ea7, ea6, ea5]; simp [wr]; rfl
    have v3 : a7 21 0 3 = nI 0 := by rw [ea7, ea6]; simp [wr]; rfl
    have v4 : a7 21 0 4 = nI 0 := by rw [ea7]; simp [wr]; rfl
    have v5 : a7 21 0 5 = nI i := by rw [ea7, ea6, ea5, ea4, ea3, ea2]; simp [wr]; exact r5
    have u1 : a7 17 i 1 = nI 0 := by rw [ea7, ea6, ea5, ea4, ea3, ea2]; simp [wr]; rfl
    have u2 : a7 17 i 2 = nI 0 := by rw [ea7, ea6, ea5, ea4, ea3]; simp [wr]; rfl
    have hT7 : TPc a7 by' Lb := ⟨l96, (w0 19 0 0 (by decide) (by omega)).trans hTc.2.1, fun j hj => ⟨(hTc.2.2 j hj).1, (w0 20 0 j (by decide) (by omega)).trans (hTc.2.2 j hj).2⟩⟩
    obtain ⟨k0, -, ek0⟩ := of32 (σ 17 i 0)
    refine cStep hT7 (q := 3) (e := 0) (by decide) v0 v2 (Nat.zero_le _) (fun σ1 ct => hp k0 σ1 ?_)
    obtain ⟨c0, c1, c2, c3⟩ := ct
    exact ⟨fun k a j d1 d2 d3 => (c3 k a j (by omega)).trans (w0 k a j d1 (by omega)), (c3 _ _ _ (by omega)).trans v5, ((c3 _ _ _ (by omega)).trans (w0 17 i 0 (by decide) (by omega))).trans ek0, c0, c1, c2, (c3 _ _ _ (by omega)).trans v3, (c3 _ _ _ (by omega)).trans v4, (c3 _ _ _ (by omega)).trans u2, (c3 _ _ _ (by omega)).trans u1, fun k hk => absurd hk (Nat.not_lt_zero k)⟩
  -- so does the model
  have hM0 : ∀ (key : Nat) (post : Int32 → St → Prop) (τ6 : St), MF2 τ la τ6 → τ6 0 0 5 = 3 → τ6 0 0 4 = 0 → τ6 0 0 8 = 0 → τ6 0 0 9 = 0 → τ6 0 0 10 = 0 → τ6 0 0 12 = 0 → (∀ τ1 : St, MP τ by' la key 0 0 (tQ by' Lb 3 0) (tS by' Lb 0) (tE by' Lb 0) 0 0 (fun _ => 0) τ1 → w_X10_key (fun r3 s3 => ((r3 < 0 → (b_X10_parse_81 post s3 (0 : Int32) r3)) ∧ (¬ r3 < 0 → (b_X10_parse_81 post s3 (1 : Int32) r3)))) τ1) → b_X10_parse_60 post τ6 (nI la) := by
    intro key post τ6 f z5 z4 z8 z9 z10 z12 hp
    unfold b_X10_parse_60
    intro s1 e1
    have w0 : ∀ k a j, ¬ (k = 0 ∧ a = 0 ∧ j = 11) → s1 k a j = τ6 k a j := fun k a j d => by
      rw [e1]
      simp only [wr]
      rw [if_neg d]
    have hT1 : TPm s1 by' Lb := ⟨l96, ((w0 0 0 2 (by omega)).trans (f 0 0 2 (by omega) (by omega))).trans hTm.2.1, fun j hj => ⟨(hTm.2.2 j hj).1, ((w0 15 0 j (by omega)).trans (f 15 0 j (by omega) (by omega))).trans (hTm.2.2 j hj).2⟩⟩
    refine mStep hT1 (q := 3) (e := 0) (by decide) ((w0 _ _ _ (by omega)).trans z5) ((w0 _ _ _ (by omega)).trans z4) (Nat.zero_le _) (fun g => by omega) (fun τ1 mt tk => hp τ1 ?_)
    obtain ⟨c0, c1, c2, c3⟩ := mt
    have g11 : s1 0 0 11 = nI la := by rw [e1]; simp [wr]
    exact ⟨fun k a j d1 d2 => ((c3 k a j (by omega)).trans (w0 k a j (by omega))).trans (f k a j d1 d2), (c3 _ _ _ (by omega)).trans g11, c0, c1, c2, tk, ((c3 _ _ _ (by omega)).trans (w0 _ _ _ (by omega))).trans z8, ((c3 _ _ _ (by omega)).trans (w0 _ _ _ (by omega))).trans z9, ((c3 _ _ _ (by omega)).trans (w0 _ _ _ (by omega))).trans z10, ((c3 _ _ _ (by omega)).trans (w0 _ _ _ (by omega))).trans z12, fun k hk => absurd hk (Nat.not_lt_zero k)⟩
  by_cases k3 : kyN by' (tQ by' Lb 3 0) (tS by' Lb 0) (tE by' Lb 0) = 3
  · refine ⟨false, 0, 0, 0, tS by' Lb 0, fun _ => 0, s96, fun g => absurd g (by decide), fun post hp => hC0 post (fun k0 σ1 hc => cReadKey hTc hc t1 hi (fun _ => ⟨fun _ => ?_, fun g => absurd rfl g⟩) (fun g => by omega)), fun post τ6 f z5 z4 z8 z9 z10 z12 hp => hM0 0 post τ6 f z5 z4 z8 z9 z10 z12 (fun τ1 hm => mKey hTm hm t1 ?_)⟩
    · rw [hc.2.2.2.2.1]
      exact hp σ1 hc.1 (fun g => absurd g (by decide))
    · rw [if_pos k3]
      refine ⟨fun _ => ?_, fun g => absurd (by decide) g⟩
      unfold b_X10_parse_81 b_X10_parse_111
      refine ⟨fun _ s e => ⟨fun _ => ?_, fun g => absurd rfl g⟩, fun g => absurd rfl g⟩
      rw [e]
      exact hp _ (MF3_of hm.1) (by simp [wr]) (by simp [wr]; exact hm.2.2.2.1) (fun g => absurd g (by decide))
  have klt : kyN by' (tQ by' Lb 3 0) (tS by' Lb 0) (tE by' Lb 0) < 3 := by
    unfold kyN at k3 ⊢
    split
    · omega
    · split
      · omega
      · split
        · omega
        · simp_all
  obtain ⟨ok, q', s', e', L', lv', c', h96, hok, hC, hM⟩ := parse_out (σ0 := σ) (τ0 := τ) (by' := by') (Lb := Lb) (i := i) (la := la) (key := kyN by' (tQ by' Lb 3 0) (tS by' Lb 0) (tE by' Lb 0)) hTc hTm hla hi klt 88 0 0 0 (by decide) (by decide) (by decide) (by decide) 150 120 (by decide) (by decide) _ _ _ 0 0 (fun _ => 0) t2 (Nat.zero_le _)
  have hCe : ∀ (P : Int32 → St → Prop) (σ1 : St), Cfn 150 0 P σ1 → w_X5_readLevel P σ1 0 := fun P σ1 h => by
    unfold Cfn at h
    rw [if_neg (by decide), if_pos rfl] at h
    unfold w_X5_readLevel
    exact h
  have hMe : ∀ (key : Nat) (P : Int32 → St → Prop) (τ1 : St), Mfn key 120 0 P τ1 → w_X10_either P τ1 (nI key) := fun key P τ1 h => by
    unfold Mfn at h
    rw [if_pos rfl] at h
    unfold w_X10_either
    exact h
  -- the class, behind its key word
  have hC1 : ∀ (post : Int32 → St → Prop), (∀ σ', CFr σ i σ' → σ' 21 0 1 = nI s' → (ok = true → CP σ i (kyN by' (tQ by' Lb 3 0) (tS by' Lb 0) (tE by' Lb 0)) 0 0 q' s' e' L' lv' c' σ') → (ok = false → post (nI s') σ') ∧ (ok = true → q' ≠ 0 → post (nI s') σ') ∧ (ok = true → q' = 0 → post (-1) σ')) → w_X5_faultIn post σ i := by
    intro post hp
    refine hC0 post (fun k0 σ1 hc => cReadKey hTc hc t1 hi (fun g => by omega) (fun _ σ2 hc2 => ⟨fun g => absurd g (by decide), fun _ => hCe _ _ (hC σ2 _ hc2 (fun σ' a1 a2 a3 => ?_))⟩))
    obtain ⟨p1, p2, p3⟩ := hp σ' a1 a2 a3
    rw [a2]
    cases ok with
    | false => exact ⟨fun _ => p1 rfl, fun g => absurd rfl g⟩
    | true =>
      have q0 := (a3 rfl).2.2.2.1
      have ql := (hok rfl).1.1
      refine ⟨fun g => absurd g (by decide), fun _ => ?_⟩
      rw [q0]
      exact ⟨fun g => p2 rfl (fun y => g (by rw [y]; rfl)), fun g => p3 rfl ((nI_eq (b := 0) (by omega) (by decide)).1 g)⟩
  have hM1 : ∀ (post : Int32 → St → Prop) (τ6 : St), MF2 τ la τ6 → τ6 0 0 5 = 3 → τ6 0 0 4 = 0 → τ6 0 0 8 = 0 → τ6 0 0 9 = 0 → τ6 0 0 10 = 0 → τ6 0 0 12 = 0 → (∀ τ', MF2 τ la τ' → τ' 0 0 3 = nI s' → (ok = true → MP τ by' la (kyN by' (tQ by' Lb 3 0) (tS by' Lb 0) (tE by' Lb 0)) 0 0 q' s' e' L' lv' c' τ') → (ok = false → post (-1) (wr τ' 0 0 2 0)) ∧ (ok = true → q' ≠ 0 → post (-1) (wr τ' 0 0 2 0)) ∧ (ok = true → q' = 0 → post (nI (kyN by' (tQ by' Lb 3 0) (tS by' Lb 0) (tE by' Lb 0))) (wr τ' 0 0 2 0))) → b_X10_parse_60 post τ6 (nI la) := by
    intro post τ6 f z5 z4 z8 z9 z10 z12 hp
    refine hM0 (kyN by' (tQ by' Lb 3 0) (tS by' Lb 0) (tE by' Lb 0)) post τ6 f z5 z4 z8 z9 z10 z12 (fun τ1 hm => mKey hTm hm t1 ?_)
    rw [if_neg k3]
    refine ⟨fun g => absurd g (nI_pos (by omega)), fun _ => ?_⟩
    unfold b_X10_parse_81
    refine ⟨fun g => absurd g (by decide), fun _ => mpStep hTm hm t1 (fun τ2 hm2 => hMe _ _ _ (hM τ2 _ hm2 (fun τ' a1 a2 a3 => ?_)))⟩
    obtain ⟨p1, p2, p3⟩ := hp τ' a1 a2 a3
    cases ok with
    | false => exact ⟨fun _ => m109 (p1 rfl), fun g => absurd rfl g⟩
    | true =>
      have q0 := (a3 rfl).2.2.1
      have ql := (hok rfl).1.1
      refine ⟨fun g => absurd g (by decide), fun _ => ?_⟩
      rw [q0]
      exact ⟨fun g => m109 (p2 rfl (fun y => g (by rw [y]; rfl))), fun g => m110 (p3 rfl ((nI_eq (b := 0) (by omega) (by decide)).1 g))⟩
  by_cases good : ok = true ∧ q' = 0
  · obtain ⟨g1, g2⟩ := good
    obtain ⟨tk, sr, Ls⟩ := hok g1
    obtain ⟨-, -, -, -, r5, r6⟩ := sr
    refine ⟨true, kyN by' (tQ by' Lb 3 0) (tS by' Lb 0) (tE by' Lb 0), L', lv', s', c', h96, fun _ => ⟨klt, by omega, ?_, fun k hk => r6 k (Nat.zero_le _) hk⟩, fun post hp => hC1 post (fun σ' a1 a2 a3 => ⟨fun y => absurd (g1.symm.trans y) (by decide), fun _ y => absurd g2 y, fun _ _ => ?_⟩), fun post τ6 f z5 z4 z8 z9 z10 z12 hp => hM1 post τ6 f z5 z4 z8 z9 z10 z12 (fun τ' a1 a2 a3 => ⟨fun y => absurd (g1.symm.trans y) (by decide), fun _ y => absurd g2 y, fun _ _ => ?_⟩)⟩
    · rw [r5]
      exact Nat.le_add_left _ _
    · obtain ⟨f, h5, hk, h0, h1, h2, h3, h4, hL, hlv, hc⟩ := a3 g1
      exact hp σ' a1 (fun _ => ⟨hk, hL, hlv, hc⟩)
    · obtain ⟨f2, h11, h5, h3, h4, hv, h8, h9, h10, h12, hc⟩ := a3 g1
      have w0 : ∀ k a j, ¬ (k = 0 ∧ a = 0 ∧ j = 2) → wr τ' 0 0 2 0 k a j = τ' k a j := fun k a j d => by
        simp only [wr]
        rw [if_neg d]
      refine hp _ (MF3_of a1) (by simp [wr]) ((w0 _ _ _ (by omega)).trans a2) (fun _ => ⟨(w0 _ _ _ (by omega)).trans h12, (w0 _ _ _ (by omega)).trans h10, fun k hk => ?_⟩)
      rw [w0 _ _ _ (by omega), w0 _ _ _ (by omega)]
      exact hc k hk
  · have bad : ok = true → q' ≠ 0 := fun y z => good ⟨y, z⟩
    refine ⟨false, 0, 0, 0, s', fun _ => 0, h96, fun g => absurd g (by decide), fun post hp => hC1 post (fun σ' a1 a2 a3 => ⟨fun _ => hp σ' a1 (fun g => absurd g (by decide)), fun _ _ => hp σ' a1 (fun g => absurd g (by decide)), fun y z => absurd z (bad y)⟩), fun post τ6 f z5 z4 z8 z9 z10 z12 hp => hM1 post τ6 f z5 z4 z8 z9 z10 z12 (fun τ' a1 a2 a3 => ?_)⟩
    have e3 : wr τ' 0 0 2 0 0 0 3 = nI s' := by simp [wr]; exact a2
    exact ⟨fun _ => hp _ (MF3_of a1) (by simp [wr]) e3 (fun g => absurd g (by decide)), fun _ _ => hp _ (MF3_of a1) (by simp [wr]) e3 (fun g => absurd g (by decide)), fun y z => absurd z (bad y)⟩
