/-! LAYER 2. The call text. -/
theorem text_rel {σ τ s3 τ' : St} {T : Nat} (hT : TX σ (τ 1 0) T) (hT14 : T ≤ 14) (hR : RR σ τ T)
    (cf : ∀ k a j, k ≠ 19 → k ≠ 21 → ¬ (k = 17 ∧ a = T) → ¬ (k = 18 ∧ a = T) → ¬ (k = 5 ∧ a = 0 ∧ j = 7) → s3 k a j = σ k a j)
    (mf : ∀ k a j, ¬ (k = 0 ∧ a = 0 ∧ 2 ≤ j ∧ j ≤ 12) → ¬ (k = 1 ∧ a = 0 ∧ (j = 1 ∨ 82 + 200 * T ≤ j)) → τ' k a j = τ k a j) (z19 : s3 19 0 0 = 0) (z2 : τ' 0 0 2 = 0) :
    RR s3 τ' T ∧ TX s3 (τ' 1 0) T := by
  obtain ⟨hI, -, hS, hL, hW⟩ := hR
  refine ⟨⟨?_, ⟨0, by decide, z19, z2, fun j hj => absurd hj (Nat.not_lt_zero j)⟩, fun k hk => ?_, fun i hi => ?_, ?_⟩, ?_⟩
  · rcases hI with ⟨a, b⟩ | ⟨a, b, n2, m2, T2, h1, h2, h3⟩
    · exact Or.inl ⟨(cf 0 0 0 (by decide) (by decide) (by omega) (by omega) (by omega)).trans a, (mf 0 0 0 (by omega) (by omega)).trans b⟩
    · refine Or.inr ⟨by rw [cf 0 0 0 (by decide) (by decide) (by omega) (by omega) (by omega)]; exact a, by rw [mf 0 0 0 (by omega) (by omega)]; exact b, n2, m2, T2, h1, RHill_eq h2 (fun k j hv => ?_) (fun j hj => mf 2 0 j (by omega) (by omega)), TX_eq h3 (fun t j ht => cf 17 t j (by decide) (by decide) (by omega) (by omega) (by omega)) (fun t ht => funext (fun j => cf 18 t j (by decide) (by decide) (by omega) (by omega) (by omega))) (fun j _ _ => mf 2 0 j (by omega) (by omega))⟩
      unfold vc at hv
      simp only [hlC]
      rw [if_neg (by omega), if_neg (by omega)]
      exact cf k 1 j (by omega) (by omega) (by omega) (by omega) (by omega)
  · exact RSh_c (hS k hk) (fun q j h => cf _ _ _ (by omega) (by omega) (by omega) (by omega) (by omega)) (mf _ _ _ (by omega) (by omega)) (mf _ _ _ (by omega) (by omega)) (fun j _ => mf _ _ _ (by omega) (by omega))
  · exact RSl_c (hL i hi) (fun j => cf _ _ _ (by decide) (by decide) (by omega) (by omega) (by omega)) (fun q j h => cf _ _ _ (by omega) (by omega) (by omega) (by omega) (by omega)) (fun q h1 h2 => mf _ _ _ (by omega) (by omega)) (fun j _ => mf _ _ _ (by omega) (by omega))
  · exact RWt_c hW (fun j => cf _ _ _ (by decide) (by decide) (by omega) (by omega) (by omega)) (cf _ _ _ (by decide) (by decide) (by omega) (by omega) (by omega)) (fun j => cf _ _ _ (by decide) (by decide) (by omega) (by omega) (by omega)) (mf _ _ _ (by omega) (by omega)) (fun j => mf _ _ _ (by omega) (by omega))
  · exact TX_eq hT (fun t j ht => cf 17 t j (by decide) (by decide) (by omega) (by omega) (by omega)) (fun t ht => funext (fun j => cf 18 t j (by decide) (by decide) (by omega) (by omega) (by omega))) (fun j h1 h2 => mf 1 0 j (by omega) (by omega))
theorem sim26 (σ τ : St) (hR : Rel σ τ) : w_X9_text (fun r σ1 => w_X10_text (fun r2 τ1 => r = r2 ∧ Rel σ1 τ1) τ) σ := by
  obtain ⟨n, m, T, hH, hT, hR2⟩ := id hR
  obtain ⟨hI, ⟨Lb, l1, l2, l3, l4⟩, hS, hL, hW⟩ := id hR2
  have T14 : T ≤ 14 := hH.2.2.2.2.2
  have t7 : σ 5 0 7 = nI T := by
    have := hH.2.2.2.2.1
    simpa [hlC] using this
  have m7 : τ 1 0 1 = nI T := by
    have := hH.1 5 7 (by unfold vm; omega)
    rw [hH.2.2.2.2.1] at this
    exact this
  have hTc : TPc σ (fun j => (σ 20 0 j).toNatClampNeg) Lb := ⟨l1, l2, fun j hj => by
    obtain ⟨b, b1, b2, b3⟩ := l4 j hj
    dsimp only
    rw [b2, cl (show b < 2 ^ 31 by omega)]
    exact ⟨b1, rfl⟩⟩
  have hTm : TPm τ (fun j => (σ 20 0 j).toNatClampNeg) Lb := ⟨l1, l3, fun j hj => by
    obtain ⟨b, b1, b2, b3⟩ := l4 j hj
    dsimp only
    rw [b2, b3, cl (show b < 2 ^ 31 by omega)]
    exact ⟨b1, rfl⟩⟩
  obtain ⟨la, hla⟩ : ∃ la, la = if T = 14 then 2882 else 86 + 200 * T := ⟨_, rfl⟩
  have la1 : 82 + 200 * T ≤ la ∧ la + 192 ≤ 3082 := by split at hla <;> omega
  obtain ⟨ok, key, L, lv, s, c, h96, hok, hC, hM⟩ := text_out hTc hTm la1.2 (i := T) (by omega)
  have hP : ∀ post : Int32 → St → Prop, (∀ τ', MF3 τ la τ' → τ' 0 0 2 = 0 → τ' 0 0 3 = nI s → (ok = true → τ' 0 0 12 = nI lv ∧ τ' 0 0 10 = nI L ∧ ∀ k, k < L → RP (nI key) (c k) (τ' 1 0 (la + 2 * k)) (τ' 1 0 (la + 2 * k + 1))) → post (if ok = true then nI key else -1) τ') → w_X10_parse post τ := by
    intro post hp
    unfold w_X10_parse
    intro a1 e1 a2 e2 a3 e3 a4 e4 a5 e5 a6 e6
    have w0 : ∀ k a j, ¬ (k = 0 ∧ a = 0 ∧ 3 ≤ j ∧ j ≤ 12) → a6 k a j = τ k a j := fun k a j d => by
      rw [e6]
      simp only [wr]
      rw [if_neg (by omega), e5]
      simp only [wr]
      rw [if_neg (by omega), e4]
      simp only [wr]
      rw [if_neg (by omega), e3]
      simp only [wr]
      rw [if_neg (by omega), e2]
      simp only [wr]
      rw [if_neg (by omega), e1]
      simp only [wr]
      rw [if_neg (by omega)]
    have z4 : a6 0 0 4 = 0 := by rw [e6, e5, e4, e3, e2, e1]; simp [wr]
    have z5 : a6 0 0 5 = 3 := by rw [e6, e5, e4, e3, e2]; simp [wr]
    have z8 : a6 0 0 8 = 0 := by rw [e6, e5, e4, e3]; simp [wr]
    have z9 : a6 0 0 9 = 0 := by rw [e6, e5, e4]; simp [wr]
    have z10 : a6 0 0 10 = 0 := by rw [e6, e5]; simp [wr]
    have z12 : a6 0 0 12 = 0 := by rw [e6]; simp [wr]
    have go : b_X10_parse_60 post a6 (nI la) := hM post a6 (fun k a j d1 d2 => w0 k a j d1) z5 z4 z8 z9 z10 z12 hp
    rw [show (1 : Int32).toNatClampNeg = 1 by decide, (w0 1 0 1 (by omega)).trans m7]
    refine ⟨vp_in_nI (n := 1) (by decide) (by decide), fun g => ?_, fun g => ⟨vp_in_nI (n := 1) (by decide) (by decide), ?_⟩⟩
    · have := (nI_leI (a := 14) (by decide) (by omega)).1 g
      rw [if_pos (by omega)] at hla
      rw [hla] at go
      exact go
    · have n14 : T ≠ 14 := fun y => g (by rw [y]; decide)
      rw [if_neg n14] at hla
      unfold w_X10_textAt
      rw [mtx]
      dsimp only
      rw [show nI (82 + 200 * T) + 4 = nI la by rw [show (4 : Int32) = nI 4 from rfl, nI_add, hla]; congr 1; omega]
      exact go
  unfold w_X9_text
  rw [t7, cl (show T < 2 ^ 31 by omega)]
  refine ⟨vp_in_nI (by omega) (by decide), hC _ (fun σ' cf co s3 e3 => ?_)⟩
  have z19 : s3 19 0 0 = 0 := by rw [e3]; simp [wr]
  have cf3 : ∀ k a j, k ≠ 19 → k ≠ 21 → ¬ (k = 17 ∧ a = T) → ¬ (k = 18 ∧ a = T) → s3 k a j = σ k a j := fun k a j d1 d2 d3 d4 => by
    rw [e3, wr_off _ _ _ (by omega)]
    exact cf k a j d2 d3 d4
  have s37 : s3 5 0 7 = nI T := (cf3 5 0 7 (by decide) (by decide) (by omega) (by omega)).trans t7
  have mf3 : ∀ τ', MF3 τ la τ' → ∀ k a j, ¬ (k = 0 ∧ a = 0 ∧ 2 ≤ j ∧ j ≤ 12) → ¬ (k = 1 ∧ a = 0 ∧ (j = 1 ∨ 82 + 200 * T ≤ j)) → τ' k a j = τ k a j := fun τ' mf k a j d1 d2 => mf k a j d1 (by omega)
  have same : ∀ τ', MF3 τ la τ' → τ' 0 0 2 = 0 → Rel s3 τ' := fun τ' mf z2 => by
    obtain ⟨r1, r2⟩ := text_rel hT T14 hR2 (fun k a j d1 d2 d3 d4 d5 => cf3 k a j d1 d2 d3 d4) (mf3 τ' mf) z19 z2
    refine ⟨n, m, T, RHill_eq hH (fun k j hv => ?_) (fun j hj => mf 1 0 j (by omega) (by omega)), r2, r1⟩
    unfold vc at hv
    simp only [hlC]
    rw [if_neg (by omega), if_neg (by omega)]
    exact cf3 k 0 j (by omega) (by omega) (by omega) (by omega)
  have one : (1 : Int32).toNatClampNeg = 1 := by decide
  cases ok with
  | false =>
    refine ⟨fun g => absurd g (fun y => nI_pos (show s < 2 ^ 31 by omega) (by rw [show nI s = -1 from y]; decide)), fun _ => ?_⟩
    unfold w_X10_text
    refine hP _ (fun τ' mf z2 z3 _ => ⟨fun g => absurd (show (0 : Int32) ≤ -1 from g) (by decide), fun _ => ⟨?_, same τ' mf z2⟩⟩)
    rw [z3]
    rfl
  | true =>
    obtain ⟨k3, L96, wf⟩ := hok rfl
    obtain ⟨x0, x2, x1, xc⟩ := co rfl
    refine ⟨fun _ => ?_, fun g => absurd rfl g⟩
    rw [s37]
    refine ⟨fun lt s6 e6 => ?_, fun nlt => ?_⟩
    · have Tlt : T < 14 := (nI_ltI (b := 14) (by omega) (by decide)).1 lt
      rw [if_neg (by omega)] at hla
      rw [nI_1] at e6
      unfold w_X10_text
      refine hP _ (fun τ' mf z2 z3 mo => ⟨fun _ => ?_, fun g => absurd (nI_le (a := 0) (Nat.zero_le key) (by omega)) g⟩)
      obtain ⟨y12, y10, yc⟩ := mo rfl
      have t1 : τ' 1 0 1 = nI T := (mf 1 0 1 (by omega) (by omega)).trans m7
      refine ⟨vp_in_nI (n := 1) (by decide) (by decide), fun _ => ⟨vp_in_nI (n := 1) (by decide) (by decide), ?_⟩, fun g => ?_⟩
      · unfold w_X10_textAt
        rw [one, t1, mtx]
        have i0 : nI (82 + 200 * T) + 0 = nI (82 + 200 * T) := by rw [show (0 : Int32) = nI 0 from rfl, nI_add, Nat.add_zero]
        have i1 : nI (82 + 200 * T) + 1 = nI (83 + 200 * T) := by rw [show (1 : Int32) = nI 1 from rfl, nI_add]; congr 1; omega
        have i2 : nI (82 + 200 * T) + 2 = nI (84 + 200 * T) := by rw [show (2 : Int32) = nI 2 from rfl, nI_add]; congr 1; omega
        dsimp only
        rw [i0, i1, i2, cl (show 82 + 200 * T < 2 ^ 31 by omega), cl (show 83 + 200 * T < 2 ^ 31 by omega), cl (show 84 + 200 * T < 2 ^ 31 by omega)]
        refine ⟨vp_in_nI (by omega) (by decide), fun s8 e8 => ⟨vp_in_nI (by omega) (by decide), fun s10 e10 => ⟨vp_in_nI (by omega) (by decide), fun s12 e12 => ⟨vp_in_nI (n := 1) (by decide) (by decide), vp_in_nI (n := 1) (by decide) (by decide), fun s15 e15 => ⟨vp_in_nI (n := 1) (by decide) (by decide), ?_⟩⟩⟩⟩⟩
        replace e8 : s8 = wr τ' 1 0 (82 + 200 * T) (nI key) := e8
        have u0 : ∀ k a j, ¬ (k = 1 ∧ a = 0 ∧ (j = 82 + 200 * T ∨ j = 83 + 200 * T ∨ j = 84 + 200 * T)) → s12 k a j = τ' k a j := fun k a j d => by
          rw [e12]
          simp only [wr]
          rw [if_neg (by omega), e10]
          simp only [wr]
          rw [if_neg (by omega), e8]
          simp only [wr]
          rw [if_neg (by omega)]
        rw [(u0 1 0 1 (by omega)).trans t1, nI_1] at e15
        have u1 : ∀ k a j, ¬ (k = 1 ∧ a = 0 ∧ j = 1) → s15 k a j = s12 k a j := fun k a j d => by
          rw [e15]
          simp only [wr]
          rw [if_neg (by omega)]
        have g1 : s15 1 0 1 = nI (T + 1) := by rw [e15]; simp [wr]
        have q0 : s15 1 0 (82 + 200 * T) = nI key := by
          rw [u1 _ _ _ (by omega), e12, wr_row, pk_un (by omega), e10, wr_row, pk_un (by omega), e8, wr_row, pk_us]
        have q1 : s15 1 0 (83 + 200 * T) = nI lv := by
          rw [u1 _ _ _ (by omega), e12, wr_row, pk_un (by omega), e10, wr_row, pk_us, e8, wr_off _ _ _ (by omega)]
          exact y12
        have q2 : s15 1 0 (84 + 200 * T) = nI L := by
          rw [u1 _ _ _ (by omega), e12, wr_row, pk_us, e10, wr_off _ _ _ (by omega), e8, wr_off _ _ _ (by omega)]
          exact y10
        have g6 : s6 5 0 7 = nI (T + 1) := by rw [e6]; simp [wr]
        have c6 : ∀ k a j, ¬ (k = 5 ∧ a = 0 ∧ j = 7) → s6 k a j = s3 k a j := fun k a j d => by
          rw [e6]
          simp only [wr]
          rw [if_neg (by omega)]
        have c0 : ∀ k a j, k ≠ 19 → k ≠ 21 → ¬ (k = 17 ∧ a = T) → ¬ (k = 18 ∧ a = T) → ¬ (k = 5 ∧ a = 0 ∧ j = 7) → s6 k a j = σ k a j := fun k a j d1 d2 d3 d4 d5 => (c6 k a j d5).trans (cf3 k a j d1 d2 d3 d4)
        have d0 : ∀ k a j, ¬ (k = 0 ∧ a = 0 ∧ 2 ≤ j ∧ j ≤ 12) → ¬ (k = 1 ∧ a = 0 ∧ (j = 1 ∨ 82 + 200 * T ≤ j)) → s15 k a j = τ k a j := fun k a j f1 f2 => ((u1 k a j (by omega)).trans (u0 k a j (by omega))).trans (mf3 τ' mf k a j f1 f2)
        obtain ⟨⟨r1, r2, r3, r4, r5⟩, r6⟩ := text_rel hT T14 hR2 c0 d0 ((c6 19 0 0 (by decide)).trans z19) (((u1 0 0 2 (by decide)).trans (u0 0 0 2 (by omega))).trans z2)
        refine ⟨by rw [g6, g1], n, m, T + 1, ?_, ?_, ?_, r2, r3, r4, r5⟩
        · obtain ⟨a, b, c', d, e, f⟩ := hH
          have hv : vm 5 7 := by unfold vm; omega
          have hn : RHill (setH (hlC σ 0) 5 7 (nI (T + 1))) (upd (τ 1 0) (mi 5 7) (nI (T + 1))) n m (T + 1) := by
            refine ⟨HM_set a hv, ⟨HO_set b.1 (by omega) (by decide) (by decide), HR_set b.2 (Or.inl rfl)⟩, ?_, d, ?_, by omega⟩
            · simp only [setH]
              rw [if_neg (by omega)]
              exact c'
            · simp [setH]
          refine RHill_eq hn (fun k j hv2 => ?_) (fun j hj => ?_)
          · unfold vc at hv2
            simp only [setH, hlC]
            by_cases z : k = 5 ∧ j = 7
            · rw [if_neg (by omega), if_pos z, z.1, z.2]
              exact g6
            · rw [if_neg (by omega), if_neg z, if_neg (by omega)]
              exact c0 k 0 j (by omega) (by omega) (by omega) (by omega) (by omega)
          · by_cases z : j = 1
            · rw [z, show mi 5 7 = 1 by decide, pk_us]
              exact g1
            · rw [show mi 5 7 = 1 by decide, pk_un z]
              exact d0 1 0 j (by omega) (by omega)
        · intro t ht
          by_cases tT : t = T
          · subst tT
            have h18 : ∀ k, k < L → s6 18 t k = c k := fun k hk => by
              rw [c6 _ _ _ (by omega), e3, wr_off _ _ _ (by omega)]
              exact xc k hk
            have h17 : ∀ j, s6 17 t j = σ' 17 t j := fun j => by
              rw [c6 _ _ _ (by omega), e3, wr_off _ _ _ (by omega)]
            refine ⟨L, L96, (h17 2).trans x2, ⟨?_, fun k hk => ?_⟩, ⟨?_, ?_, q2, fun k hk => ?_⟩, key, k3, (h17 0).trans x0⟩
            · rw [dW_eq L h18]
              exact wf.1
            · exact cOK_eq (fun j hj => h18 j (by omega)) (wf.2 k hk)
            · rw [h17, x0]
              exact q0
            · rw [h17, x1]
              exact q1
            · have := yc k hk
              rw [hla] at this
              rw [h17, x0, h18 k hk, u1 _ _ _ (by omega), u0 _ _ _ (by omega), u1 _ _ _ (by omega), u0 _ _ _ (by omega), show 87 + 200 * t + 2 * k = 86 + 200 * t + 2 * k + 1 by omega]
              exact this
          · exact r6 t (by omega)
        · rcases r1 with h | ⟨a, b, n2, m2, T2, h1, h2⟩
          · exact Or.inl h
          · exact Or.inr ⟨a, b, n2, m2, T2, by omega, h2⟩
      · rw [one, t1] at g
        exact absurd ((nI_eq (b := 14) (by omega) (by decide)).1 g) (by omega)
    · have T14e : T = 14 := by
        by_cases z : T < 14
        · exact absurd (nI_lt (b := 14) z (by decide)) nlt
        · omega
      unfold w_X10_text
      refine hP _ (fun τ' mf z2 z3 mo => ⟨fun _ => ⟨vp_in_nI (n := 1) (by decide) (by decide), fun g => ?_, fun _ => ⟨rfl, same τ' mf z2⟩⟩, fun g => absurd (nI_le (a := 0) (Nat.zero_le key) (by omega)) g⟩)
      rw [one, (mf 1 0 1 (by omega) (by omega)).trans m7] at g
      exact absurd (by rw [T14e]; rfl) g
