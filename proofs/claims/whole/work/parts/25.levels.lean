/-! LAYER 2. The levels of both parsers. -/
section Levels2
variable {σ0 τ0 : St} {by' : Nat → Nat} {Lb i la key : Nat}
/-- a level's loop: a sign of its own, what stands behind it, again -/
theorem loop_out {b m L0 s0 e0 lev f g : Nat} {c0 : Nat → Int32} {ML : (Int32 → St → Prop) → Nat → St → Prop} (hTc : TPc σ0 by' Lb) (hTm : TPm τ0 by' Lb) (hla : la + 192 ≤ 3082) (hi : i < 15) (hlev : lev < 5) (hsg : ∀ x, x < 256 → sgB (9 + lev) x = true → SG (nI x))
    (hML : ∀ (post : Int32 → St → Prop) (r : Nat) (τ : St) (q s e L lv : Nat) (c : Nat → Int32), MP τ0 by' la key b m q s e L lv c τ → TOK by' Lb q s e → (¬ (q = 3 ∧ sgB (9 + lev) (by' s) = true) → post 1 τ) → (q = 3 → sgB (9 + lev) (by' s) = true → w_X10_nextToken (fun s3 => Mfn key g (lev + 1) (fun r4 s4 => (¬ r4 = 0 → w_X10_step (fun s6 => ML post r s6) s4 2 (nI (by' s))) ∧ (r4 = 0 → post 0 s4)) s3) τ) → ML post (r + 1) τ)
    (hsub : ∀ (q s e L lv : Nat) (c : Nat → Int32), TOK by' Lb q s e → L ≤ s → OUT σ0 τ0 by' Lb i la key b m L c s e q s e L lv c (Cfn f (lev + 1)) (Mfn key g (lev + 1))) :
    ∀ (r n q s e L lv : Nat) (c : Nat → Int32), TOK by' Lb q s e → L ≤ s → SR L0 c0 s0 e0 L c s → n ≤ s → Lb - s ≤ r → OUT σ0 τ0 by' Lb i la key b m L0 c0 s0 e0 q s e L lv c (fun post σ => l_X5_readLevel_24 (G_rd f).1 (G_rd f).2.1 (G_rd f).2.2.1 (G_rd f).2.2.2.1 (G_rd f).2.2.2.2 post (r + 1) σ (nI lev) (nI 96) (nI n)) (fun post τ => ML post (r + 1) τ) := by
  have l96 := hTc.1
  intro r
  induction r with
  | zero =>
    intro n q s e L lv c ht hL hsr hn hr
    have ns : ¬ (q = 3 ∧ sgB (9 + lev) (by' s) = true) := fun y => by
      have := ht.2.2.2.2.2.1 y.1
      have := ht.2.2.1
      omega
    refine ⟨true, q, s, e, L, lv, c, by have := ht.2.1; have := ht.2.2.1; omega, fun _ => ⟨ht, hsr, hL⟩, fun σ post hc hp => ?_, fun τ post hm hp => hML post 0 τ q s e L lv c hm ht (fun _ => hp τ hm.1 hm.2.2.2.1 (fun _ => hm)) (fun y1 y2 => absurd ⟨y1, y2⟩ ns)⟩
    by_cases n96 : n < 96
    · exact cTurn hTc hlev n96 (Nat.le_refl _) hc ht (fun _ => hp σ hc.1 hc.2.2.2.2.1 (fun _ => hc)) (fun y1 y2 => absurd ⟨y1, y2⟩ ns)
    · dsimp only
      rw [uC_rl]
      unfold b_X5_readLevel_24
      exact ⟨fun _ => hp σ hc.1 hc.2.2.2.2.1 (fun _ => hc), fun g => absurd (nI_le (by omega) (by have := ht.2.1; have := ht.2.2.1; omega)) g⟩
  | succ r ih =>
    intro n q s e L lv c ht hL hsr hn hr
    by_cases y : q = 3 ∧ sgB (9 + lev) (by' s) = true
    · have es := ht.2.2.2.2.2.1 y.1
      have := ht.2.2.1
      obtain ⟨b1, -⟩ := hTc.2.2 s (by omega)
      obtain ⟨tn, tle⟩ := TOK_next (q := q) ht.2.2.1 (by' := by')
      obtain ⟨ok, q', s', e', L', lv', c', h96, hok, hC, hM⟩ := op_step (f := f) (g := g) (lev := lev) hTc hTm hla hi ht y.1 rfl b1 (hsg _ b1 y.2) hL hsr (by omega) (hsub _ _ _ L lv c tn (by omega))
      cases ok with
      | false =>
        refine ⟨false, q', s', e', L', lv', c', h96, fun g => absurd g (by decide), fun σ post hc hp => cTurn hTc hlev (by omega) (Nat.le_refl _) hc ht (fun y2 => absurd y y2) (fun _ _ => hC σ post _ hc (fun σ' a1 a2 a3 => ⟨fun g => absurd g (by decide), fun _ => hp σ' a1 a2 (fun g => absurd g (by decide))⟩)), fun τ post hm hp => hML post (r + 1) τ q s e L lv c hm ht (fun y2 => absurd y y2) (fun _ _ => hM τ post _ hm (fun τ' a1 a2 a3 => ⟨fun g => absurd g (by decide), fun _ => hp τ' a1 a2 (fun g => absurd g (by decide))⟩))⟩
      | true =>
        obtain ⟨t2, sr2, L2, lt2⟩ := hok rfl
        obtain ⟨ok2, q2, s2, e2, L3, lv2, c2, h962, hok2, hC2, hM2⟩ := ih (n + 1) q' s' e' L' lv' c' t2 L2 sr2 (by omega) (by omega)
        exact ⟨ok2, q2, s2, e2, L3, lv2, c2, h962, hok2, fun σ post hc hp => cTurn hTc hlev (by omega) (Nat.le_refl _) hc ht (fun y2 => absurd y y2) (fun _ _ => hC σ post _ hc (fun σ' a1 a2 a3 => ⟨fun _ => hC2 σ' post (a3 rfl) hp, fun g => absurd g (by decide)⟩)), fun τ post hm hp => hML post (r + 1) τ q s e L lv c hm ht (fun y2 => absurd y y2) (fun _ _ => hM τ post _ hm (fun τ' a1 a2 a3 => ⟨fun _ => hM2 τ' post (a3 rfl) hp, fun g => absurd g (by decide)⟩))⟩
    · refine ⟨true, q, s, e, L, lv, c, by have := ht.2.1; have := ht.2.2.1; omega, fun _ => ⟨ht, hsr, hL⟩, fun σ post hc hp => ?_, fun τ post hm hp => hML post (r + 1) τ q s e L lv c hm ht (fun _ => hp τ hm.1 hm.2.2.2.1 (fun _ => hm)) (fun y1 y2 => absurd ⟨y1, y2⟩ y)⟩
      by_cases n96 : n < 96
      · exact cTurn hTc hlev n96 (Nat.le_refl _) hc ht (fun _ => hp σ hc.1 hc.2.2.2.2.1 (fun _ => hc)) (fun y1 y2 => absurd ⟨y1, y2⟩ y)
      · dsimp only
        rw [uC_rl]
        unfold b_X5_readLevel_24
        exact ⟨fun _ => hp σ hc.1 hc.2.2.2.2.1 (fun _ => hc), fun g => absurd (nI_le (by omega) (by have := ht.2.1; have := ht.2.2.1; omega)) g⟩
/-- what stands first, then the level's signs -/
theorem level_out {b m lev f g q s e L lv : Nat} {c : Nat → Int32} {M2 : (Int32 → St → Prop) → St → Prop} (hlev : lev < 5)
    (hMW : ∀ (post : Int32 → St → Prop) (τ : St), Mfn key g (lev + 1) (fun r1 s1 => (¬ r1 = 0 → M2 post s1) ∧ (r1 = 0 → post 0 s1)) τ → Mfn key (g + 1) lev post τ)
    (hsub : OUT σ0 τ0 by' Lb i la key b m L c s e q s e L lv c (Cfn f (lev + 1)) (Mfn key g (lev + 1)))
    (hloop : ∀ (q1 s1 e1 L1 lv1 : Nat) (c1 : Nat → Int32), TOK by' Lb q1 s1 e1 → L1 ≤ s1 → SR L c s e L1 c1 s1 → OUT σ0 τ0 by' Lb i la key b m L c s e q1 s1 e1 L1 lv1 c1 (fun post σ => (¬ nI lev = 2 → ∃ n5, l_X5_readLevel_24 (G_rd f).1 (G_rd f).2.1 (G_rd f).2.2.1 (G_rd f).2.2.2.1 (G_rd f).2.2.2.2 post n5 σ (nI lev) 96 0) ∧ (nI lev = 2 → ∃ n6, l_X5_readLevel_24 (G_rd f).1 (G_rd f).2.1 (G_rd f).2.2.1 (G_rd f).2.2.2.1 (G_rd f).2.2.2.2 post n6 σ (nI lev) 1 0)) M2) :
    OUT σ0 τ0 by' Lb i la key b m L c s e q s e L lv c (fun post σ => (G_rd (f + 1)).1 post σ (nI lev)) (Mfn key (g + 1) lev) := by
  obtain ⟨ok, q1, s1, e1, L1, lv1, c1, h96, hok, hC, hM⟩ := hsub
  have hCf : ∀ post σ, (G_rd f).2.2.2.2 (fun r2 s2 => (¬ r2 = 0 → ((¬ nI lev = 2 → ∃ n5, l_X5_readLevel_24 (G_rd f).1 (G_rd f).2.1 (G_rd f).2.2.1 (G_rd f).2.2.2.1 (G_rd f).2.2.2.2 post n5 s2 (nI lev) 96 0) ∧ (nI lev = 2 → ∃ n6, l_X5_readLevel_24 (G_rd f).1 (G_rd f).2.1 (G_rd f).2.2.1 (G_rd f).2.2.2.1 (G_rd f).2.2.2.2 post n6 s2 (nI lev) 1 0))) ∧ (r2 = 0 → post 0 s2)) σ (nI lev) → (G_rd (f + 1)).1 post σ (nI lev) := by
    intro post σ hw
    rw [G_rd_s]
    show wb_X5_readLevel _ _ _ _ _ post σ (nI lev)
    unfold wb_X5_readLevel
    exact hw
  have hCe : ∀ post σ, Cfn f (lev + 1) post σ = (G_rd f).2.2.2.2 post σ (nI lev) := fun post σ => (if_neg (by omega)).trans (if_neg (by omega))
  cases ok with
  | false =>
    refine ⟨false, q1, s1, e1, L1, lv1, c1, h96, fun g => absurd g (by decide), fun σ post hc hp => hCf post σ ?_, fun τ post hm hp => hMW post τ (hM τ _ hm (fun τ' a1 a2 a3 => ⟨fun g => absurd rfl g, fun _ => hp τ' a1 a2 (fun g => absurd g (by decide))⟩))⟩
    rw [← hCe]
    exact hC σ _ hc (fun σ' a1 a2 a3 => ⟨fun g => absurd rfl g, fun _ => hp σ' a1 a2 (fun g => absurd g (by decide))⟩)
  | true =>
    obtain ⟨t1, sr1, L1s⟩ := hok rfl
    obtain ⟨ok2, q2, s2, e2, L2, lv2, c2, h962, hok2, hC2, hM2⟩ := hloop q1 s1 e1 L1 lv1 c1 t1 L1s sr1
    refine ⟨ok2, q2, s2, e2, L2, lv2, c2, h962, hok2, fun σ post hc hp => hCf post σ ?_, fun τ post hm hp => hMW post τ (hM τ _ hm (fun τ' a1 a2 a3 => ⟨fun _ => hM2 τ' post (a3 rfl) hp, fun g => absurd g (by decide)⟩))⟩
    rw [← hCe]
    exact hC σ _ hc (fun σ' a1 a2 a3 => ⟨fun _ => hC2 σ' post (a3 rfl) hp, fun g => absurd g (by decide)⟩)
theorem by_lt {q s e : Nat} (hTm : TPm τ0 by' Lb) (ht : TOK by' Lb q s e) : s < e → by' s < 256 := fun h => (hTm.2.2 s (by have := ht.2.2.1; omega)).1
theorem uM_either (R0 R1 R2 R3 R4 R5 : (Int32 → St → Prop) → St → Int32 → Prop) (post : Int32 → St → Prop) (q : Nat) : l_X10_either_10 R0 R1 R2 R3 R4 R5 post (q + 1) = b_X10_either_10 R0 R1 R2 R3 R4 R5 (l_X10_either_10 R0 R1 R2 R3 R4 R5 post q) post := rfl
theorem turn_either {b m g : Nat} (hTm : TPm τ0 by' Lb) (post : Int32 → St → Prop) (r : Nat) (τ : St) (q s e L lv : Nat) (c : Nat → Int32) (hm : MP τ0 by' la key b m q s e L lv c τ) (ht : TOK by' Lb q s e) (h0 : ¬ (q = 3 ∧ sgB (9 + 0) (by' s) = true) → post 1 τ) (h1 : q = 3 → sgB (9 + 0) (by' s) = true → w_X10_nextToken (fun s3 => Mfn key g (0 + 1) (fun r4 s4 => (¬ r4 = 0 → w_X10_step (fun s6 => l_X10_either_10 (G_ex g).1 (G_ex g).2.1 (G_ex g).2.2.1 (G_ex g).2.2.2.1 (G_ex g).2.2.2.2.1 (G_ex g).2.2.2.2.2 post r s6 (nI key)) s4 2 (nI (by' s))) ∧ (r4 = 0 → post 0 s4)) s3) τ) : l_X10_either_10 (G_ex g).1 (G_ex g).2.1 (G_ex g).2.2.1 (G_ex g).2.2.2.1 (G_ex g).2.2.2.2.1 (G_ex g).2.2.2.2.2 post (r + 1) τ (nI key) := by
  rw [uM_either]
  unfold b_X10_either_10
  have hb := by_lt hTm ht
  refine mIsSign (x := 124) hm ht hb (by decide) ?_
  by_cases y : q = 3 ∧ by' s = 124
  · rw [if_pos y]
    have w := h1 y.1 (by rw [y.2]; decide +kernel)
    rw [y.2] at w
    exact ⟨fun g => absurd g (by decide), fun _ => w⟩
  · rw [if_neg y]
    refine ⟨fun _ => h0 (fun z => y ⟨z.1, ?_⟩), fun g => absurd rfl g⟩
    have lt := hb (by have := ht.2.2.2.2.2.1 z.1; omega)
    have z2 := z.2
    rw [show 9 + 0 = 9 from rfl, sg9 _ lt] at z2
    simpa using z2
theorem uM_both (R0 R1 R2 R3 R4 R5 : (Int32 → St → Prop) → St → Int32 → Prop) (post : Int32 → St → Prop) (q : Nat) : l_X10_both_10 R0 R1 R2 R3 R4 R5 post (q + 1) = b_X10_both_10 R0 R1 R2 R3 R4 R5 (l_X10_both_10 R0 R1 R2 R3 R4 R5 post q) post := rfl
theorem turn_both {b m g : Nat} (hTm : TPm τ0 by' Lb) (post : Int32 → St → Prop) (r : Nat) (τ : St) (q s e L lv : Nat) (c : Nat → Int32) (hm : MP τ0 by' la key b m q s e L lv c τ) (ht : TOK by' Lb q s e) (h0 : ¬ (q = 3 ∧ sgB (9 + 1) (by' s) = true) → post 1 τ) (h1 : q = 3 → sgB (9 + 1) (by' s) = true → w_X10_nextToken (fun s3 => Mfn key g (1 + 1) (fun r4 s4 => (¬ r4 = 0 → w_X10_step (fun s6 => l_X10_both_10 (G_ex g).1 (G_ex g).2.1 (G_ex g).2.2.1 (G_ex g).2.2.2.1 (G_ex g).2.2.2.2.1 (G_ex g).2.2.2.2.2 post r s6 (nI key)) s4 2 (nI (by' s))) ∧ (r4 = 0 → post 0 s4)) s3) τ) : l_X10_both_10 (G_ex g).1 (G_ex g).2.1 (G_ex g).2.2.1 (G_ex g).2.2.2.1 (G_ex g).2.2.2.2.1 (G_ex g).2.2.2.2.2 post (r + 1) τ (nI key) := by
  rw [uM_both]
  unfold b_X10_both_10
  have hb := by_lt hTm ht
  refine mIsSign (x := 38) hm ht hb (by decide) ?_
  by_cases y : q = 3 ∧ by' s = 38
  · rw [if_pos y]
    have w := h1 y.1 (by rw [y.2]; decide +kernel)
    rw [y.2] at w
    exact ⟨fun g => absurd g (by decide), fun _ => w⟩
  · rw [if_neg y]
    refine ⟨fun _ => h0 (fun z => y ⟨z.1, ?_⟩), fun g => absurd rfl g⟩
    have lt := hb (by have := ht.2.2.2.2.2.1 z.1; omega)
    have z2 := z.2
    rw [show 9 + 1 = 10 from rfl, sg10 _ lt] at z2
    simpa using z2
theorem uM_sum (R0 R1 R2 R3 R4 R5 : (Int32 → St → Prop) → St → Int32 → Prop) (post : Int32 → St → Prop) (q : Nat) : l_X10_sum_10 R0 R1 R2 R3 R4 R5 post (q + 1) = b_X10_sum_10 R0 R1 R2 R3 R4 R5 (l_X10_sum_10 R0 R1 R2 R3 R4 R5 post q) post := rfl
theorem turn_sum {b m g : Nat} (hTm : TPm τ0 by' Lb) (post : Int32 → St → Prop) (r : Nat) (τ : St) (q s e L lv : Nat) (c : Nat → Int32) (hm : MP τ0 by' la key b m q s e L lv c τ) (ht : TOK by' Lb q s e) (h0 : ¬ (q = 3 ∧ sgB (9 + 3) (by' s) = true) → post 1 τ) (h1 : q = 3 → sgB (9 + 3) (by' s) = true → w_X10_nextToken (fun s3 => Mfn key g (3 + 1) (fun r4 s4 => (¬ r4 = 0 → w_X10_step (fun s6 => l_X10_sum_10 (G_ex g).1 (G_ex g).2.1 (G_ex g).2.2.1 (G_ex g).2.2.2.1 (G_ex g).2.2.2.2.1 (G_ex g).2.2.2.2.2 post r s6 (nI key)) s4 2 (nI (by' s))) ∧ (r4 = 0 → post 0 s4)) s3) τ) : l_X10_sum_10 (G_ex g).1 (G_ex g).2.1 (G_ex g).2.2.1 (G_ex g).2.2.2.1 (G_ex g).2.2.2.2.1 (G_ex g).2.2.2.2.2 post (r + 1) τ (nI key) := by
  rw [uM_sum]
  unfold b_X10_sum_10
  have hb := by_lt hTm ht
  have b28 : q = 3 → sgB (9 + 3) (by' s) = true → b_X10_sum_28 (G_ex g).1 (G_ex g).2.1 (G_ex g).2.2.1 (G_ex g).2.2.2.1 (G_ex g).2.2.2.2.1 (G_ex g).2.2.2.2.2 (l_X10_sum_10 (G_ex g).1 (G_ex g).2.1 (G_ex g).2.2.1 (G_ex g).2.2.2.1 (G_ex g).2.2.2.2.1 (G_ex g).2.2.2.2.2 post r) post τ (nI key) := by
    intro y1 y2
    unfold b_X10_sum_28
    intro v ev
    have e7 : v = nI (by' s) := ev.trans (hm.2.2.2.2.2.1.1 y1)
    subst e7
    exact h1 y1 y2
  refine mIsSign (x := 43) hm ht hb (by decide) ?_
  by_cases y : q = 3 ∧ by' s = 43
  · rw [if_pos y]
    exact ⟨fun _ => b28 y.1 (by rw [y.2]; decide +kernel), fun g => absurd g (by decide)⟩
  · rw [if_neg y]
    refine ⟨fun g => absurd rfl g, fun _ => mIsSign (x := 45) hm ht hb (by decide) ?_⟩
    by_cases y2 : q = 3 ∧ by' s = 45
    · rw [if_pos y2]
      exact ⟨fun g => absurd g (by decide), fun _ => b28 y2.1 (by rw [y2.2]; decide +kernel)⟩
    · rw [if_neg y2]
      refine ⟨fun _ => h0 (fun z => ?_), fun g => absurd rfl g⟩
      have lt := hb (by have := ht.2.2.2.2.2.1 z.1; omega)
      have z2 := z.2
      rw [show 9 + 3 = 12 from rfl, sg12 _ lt] at z2
      simp only [decide_eq_true_eq] at z2
      rcases z2 with z2 | z2
      · exact y ⟨z.1, z2⟩
      · exact y2 ⟨z.1, z2⟩
theorem uM_term (R0 R1 R2 R3 R4 R5 : (Int32 → St → Prop) → St → Int32 → Prop) (post : Int32 → St → Prop) (q : Nat) : l_X10_term_10 R0 R1 R2 R3 R4 R5 post (q + 1) = b_X10_term_10 R0 R1 R2 R3 R4 R5 (l_X10_term_10 R0 R1 R2 R3 R4 R5 post q) post := rfl
theorem turn_term {b m g : Nat} (hTm : TPm τ0 by' Lb) (post : Int32 → St → Prop) (r : Nat) (τ : St) (q s e L lv : Nat) (c : Nat → Int32) (hm : MP τ0 by' la key b m q s e L lv c τ) (ht : TOK by' Lb q s e) (h0 : ¬ (q = 3 ∧ sgB (9 + 4) (by' s) = true) → post 1 τ) (h1 : q = 3 → sgB (9 + 4) (by' s) = true → w_X10_nextToken (fun s3 => Mfn key g (4 + 1) (fun r4 s4 => (¬ r4 = 0 → w_X10_step (fun s6 => l_X10_term_10 (G_ex g).1 (G_ex g).2.1 (G_ex g).2.2.1 (G_ex g).2.2.2.1 (G_ex g).2.2.2.2.1 (G_ex g).2.2.2.2.2 post r s6 (nI key)) s4 2 (nI (by' s))) ∧ (r4 = 0 → post 0 s4)) s3) τ) : l_X10_term_10 (G_ex g).1 (G_ex g).2.1 (G_ex g).2.2.1 (G_ex g).2.2.2.1 (G_ex g).2.2.2.2.1 (G_ex g).2.2.2.2.2 post (r + 1) τ (nI key) := by
  rw [uM_term]
  unfold b_X10_term_10
  have hb := by_lt hTm ht
  have b28 : q = 3 → sgB (9 + 4) (by' s) = true → b_X10_term_28 (G_ex g).1 (G_ex g).2.1 (G_ex g).2.2.1 (G_ex g).2.2.2.1 (G_ex g).2.2.2.2.1 (G_ex g).2.2.2.2.2 (l_X10_term_10 (G_ex g).1 (G_ex g).2.1 (G_ex g).2.2.1 (G_ex g).2.2.2.1 (G_ex g).2.2.2.2.1 (G_ex g).2.2.2.2.2 post r) post τ (nI key) := by
    intro y1 y2
    unfold b_X10_term_28
    intro v ev
    have e7 : v = nI (by' s) := ev.trans (hm.2.2.2.2.2.1.1 y1)
    subst e7
    exact h1 y1 y2
  refine mIsSign (x := 42) hm ht hb (by decide) ?_
  by_cases y : q = 3 ∧ by' s = 42
  · rw [if_pos y]
    exact ⟨fun _ => b28 y.1 (by rw [y.2]; decide +kernel), fun g => absurd g (by decide)⟩
  · rw [if_neg y]
    refine ⟨fun g => absurd rfl g, fun _ => mIsSign (x := 47) hm ht hb (by decide) ?_⟩
    by_cases y2 : q = 3 ∧ by' s = 47
    · rw [if_pos y2]
      exact ⟨fun g => absurd g (by decide), fun _ => b28 y2.1 (by rw [y2.2]; decide +kernel)⟩
    · rw [if_neg y2]
      refine ⟨fun _ => h0 (fun z => ?_), fun g => absurd rfl g⟩
      have lt := hb (by have := ht.2.2.2.2.2.1 z.1; omega)
      have z2 := z.2
      rw [show 9 + 4 = 13 from rfl, sg13 _ lt] at z2
      simp only [decide_eq_true_eq] at z2
      rcases z2 with z2 | z2
      · exact y ⟨z.1, z2⟩
      · exact y2 ⟨z.1, z2⟩
noncomputable def MT (key g : Nat) (post : Int32 → St → Prop) (τ : St) : Prop := w_X10_isSign (fun r3 s3 => ((¬ r3 = 0 → (b_X10_test_37 (G_ex g).1 (G_ex g).2.1 (G_ex g).2.2.1 (G_ex g).2.2.2.1 (G_ex g).2.2.2.2.1 (G_ex g).2.2.2.2.2 post s3 (nI key))) ∧ (r3 = 0 → (w_X10_isSign (fun r5 s5 => ((¬ r5 = 0 → (b_X10_test_37 (G_ex g).1 (G_ex g).2.1 (G_ex g).2.2.1 (G_ex g).2.2.2.1 (G_ex g).2.2.2.2.1 (G_ex g).2.2.2.2.2 post s5 (nI key))) ∧ (r5 = 0 → (w_X10_isSign (fun r7 s7 => ((r7 = 0 → (post 1 s7)) ∧ (¬ r7 = 0 → (b_X10_test_37 (G_ex g).1 (G_ex g).2.1 (G_ex g).2.2.1 (G_ex g).2.2.2.1 (G_ex g).2.2.2.2.1 (G_ex g).2.2.2.2.2 post s7 (nI key))))) s5 (62 : Int32))))) s3 (61 : Int32))))) τ (60 : Int32)
theorem turn_test {b m g : Nat} (hTm : TPm τ0 by' Lb) (post : Int32 → St → Prop) (τ : St) (q s e L lv : Nat) (c : Nat → Int32) (hm : MP τ0 by' la key b m q s e L lv c τ) (ht : TOK by' Lb q s e) (h0 : ¬ (q = 3 ∧ sgB (9 + 2) (by' s) = true) → post 1 τ) (h1 : q = 3 → sgB (9 + 2) (by' s) = true → w_X10_nextToken (fun s3 => Mfn key g (2 + 1) (fun r4 s4 => (¬ r4 = 0 → w_X10_step (fun s6 => post 1 s6) s4 2 (nI (by' s))) ∧ (r4 = 0 → post 0 s4)) s3) τ) : MT key g post τ := by
  unfold MT
  have hb := by_lt hTm ht
  have b37 : q = 3 → sgB (9 + 2) (by' s) = true → b_X10_test_37 (G_ex g).1 (G_ex g).2.1 (G_ex g).2.2.1 (G_ex g).2.2.2.1 (G_ex g).2.2.2.2.1 (G_ex g).2.2.2.2.2 post τ (nI key) := by
    intro y1 y2
    unfold b_X10_test_37
    intro v ev
    have e7 : v = nI (by' s) := ev.trans (hm.2.2.2.2.2.1.1 y1)
    subst e7
    exact h1 y1 y2
  refine mIsSign (x := 60) hm ht hb (by decide) ?_
  by_cases y : q = 3 ∧ by' s = 60
  · rw [if_pos y]
    exact ⟨fun _ => b37 y.1 (by rw [y.2]; decide +kernel), fun g => absurd g (by decide)⟩
  · rw [if_neg y]
    refine ⟨fun g => absurd rfl g, fun _ => mIsSign (x := 61) hm ht hb (by decide) ?_⟩
    by_cases y2 : q = 3 ∧ by' s = 61
    · rw [if_pos y2]
      exact ⟨fun _ => b37 y2.1 (by rw [y2.2]; decide +kernel), fun g => absurd g (by decide)⟩
    · rw [if_neg y2]
      refine ⟨fun g => absurd rfl g, fun _ => mIsSign (x := 62) hm ht hb (by decide) ?_⟩
      by_cases y3 : q = 3 ∧ by' s = 62
      · rw [if_pos y3]
        exact ⟨fun g => absurd g (by decide), fun _ => b37 y3.1 (by rw [y3.2]; decide +kernel)⟩
      · rw [if_neg y3]
        refine ⟨fun _ => h0 (fun z => ?_), fun g => absurd rfl g⟩
        have lt := hb (by have := ht.2.2.2.2.2.1 z.1; omega)
        have z2 := z.2
        rw [show 9 + 2 = 11 from rfl, sg11 _ lt] at z2
        simp only [decide_eq_true_eq] at z2
        rcases z2 with z2 | z2 | z2
        · exact y ⟨z.1, z2⟩
        · exact y2 ⟨z.1, z2⟩
        · exact y3 ⟨z.1, z2⟩
theorem sg_SG (lev : Nat) (hlev : lev < 5) : ∀ x, x < 256 → sgB (9 + lev) x = true → SG (nI x) := by
  intro x hx h
  unfold SG
  rcases (show lev = 0 ∨ lev = 1 ∨ lev = 2 ∨ lev = 3 ∨ lev = 4 by omega) with rfl | rfl | rfl | rfl | rfl
  · rw [show 9 + 0 = 9 from rfl, sg9 x hx] at h
    simp only [decide_eq_true_eq] at h
    subst h
    decide
  · rw [show 9 + 1 = 10 from rfl, sg10 x hx] at h
    simp only [decide_eq_true_eq] at h
    subst h
    decide
  · rw [show 9 + 2 = 11 from rfl, sg11 x hx] at h
    simp only [decide_eq_true_eq] at h
    rcases h with rfl | rfl | rfl <;> decide
  · rw [show 9 + 3 = 12 from rfl, sg12 x hx] at h
    simp only [decide_eq_true_eq] at h
    rcases h with rfl | rfl <;> decide
  · rw [show 9 + 4 = 13 from rfl, sg13 x hx] at h
    simp only [decide_eq_true_eq] at h
    rcases h with rfl | rfl <;> decide
/-- a level below the pieces, out of the next one -/
theorem lev_out {b m lev f g : Nat} (hTc : TPc σ0 by' Lb) (hTm : TPm τ0 by' Lb) (hla : la + 192 ≤ 3082) (hi : i < 15) (hlev : lev < 5) (hsub : ∀ (q s e L lv : Nat) (c : Nat → Int32), TOK by' Lb q s e → L ≤ s → OUT σ0 τ0 by' Lb i la key b m L c s e q s e L lv c (Cfn f (lev + 1)) (Mfn key g (lev + 1))) (q s e L lv : Nat) (c : Nat → Int32) (ht : TOK by' Lb q s e) (hL : L ≤ s) : OUT σ0 τ0 by' Lb i la key b m L c s e q s e L lv c (fun post σ => (G_rd (f + 1)).1 post σ (nI lev)) (Mfn key (g + 1) lev) := by
  have l96 := hTc.1
  have a0 : lev = 0 → OUT σ0 τ0 by' Lb i la key b m L c s e q s e L lv c (fun post σ => (G_rd (f + 1)).1 post σ (nI lev)) (Mfn key (g + 1) lev) := by
    intro el
    subst el
    refine level_out (M2 := fun post s1 => ∃ n3, l_X10_either_10 (G_ex g).1 (G_ex g).2.1 (G_ex g).2.2.1 (G_ex g).2.2.2.1 (G_ex g).2.2.2.2.1 (G_ex g).2.2.2.2.2 post n3 s1 (nI key)) (by decide) (fun post τ hw => hw) (hsub q s e L lv c ht hL) (fun q1 s1 e1 L1 lv1 c1 t1 h1 sr1 => ?_)
    obtain ⟨ok, q2, s2, e2, L2, lv2, c2, h96, hok, hC, hM⟩ := loop_out (lev := 0) (g := g) (ML := fun post r τ => l_X10_either_10 (G_ex g).1 (G_ex g).2.1 (G_ex g).2.2.1 (G_ex g).2.2.2.1 (G_ex g).2.2.2.2.1 (G_ex g).2.2.2.2.2 post r τ (nI key)) hTc hTm hla hi (by decide) (sg_SG 0 (by decide)) (fun post r τ q s e L lv c hm ht h0 h1 => turn_either hTm post r τ q s e L lv c hm ht h0 h1) hsub 96 0 q1 s1 e1 L1 lv1 c1 t1 h1 sr1 (Nat.zero_le _) (by omega)
    exact ⟨ok, q2, s2, e2, L2, lv2, c2, h96, hok, fun σ post hc hp => ⟨fun _ => ⟨_, hC σ post hc hp⟩, fun g => absurd g (by decide)⟩, fun τ post hm hp => ⟨_, hM τ post hm hp⟩⟩
  have a1 : lev = 1 → OUT σ0 τ0 by' Lb i la key b m L c s e q s e L lv c (fun post σ => (G_rd (f + 1)).1 post σ (nI lev)) (Mfn key (g + 1) lev) := by
    intro el
    subst el
    refine level_out (M2 := fun post s1 => ∃ n3, l_X10_both_10 (G_ex g).1 (G_ex g).2.1 (G_ex g).2.2.1 (G_ex g).2.2.2.1 (G_ex g).2.2.2.2.1 (G_ex g).2.2.2.2.2 post n3 s1 (nI key)) (by decide) (fun post τ hw => hw) (hsub q s e L lv c ht hL) (fun q1 s1 e1 L1 lv1 c1 t1 h1 sr1 => ?_)
    obtain ⟨ok, q2, s2, e2, L2, lv2, c2, h96, hok, hC, hM⟩ := loop_out (lev := 1) (g := g) (ML := fun post r τ => l_X10_both_10 (G_ex g).1 (G_ex g).2.1 (G_ex g).2.2.1 (G_ex g).2.2.2.1 (G_ex g).2.2.2.2.1 (G_ex g).2.2.2.2.2 post r τ (nI key)) hTc hTm hla hi (by decide) (sg_SG 1 (by decide)) (fun post r τ q s e L lv c hm ht h0 h1 => turn_both hTm post r τ q s e L lv c hm ht h0 h1) hsub 96 0 q1 s1 e1 L1 lv1 c1 t1 h1 sr1 (Nat.zero_le _) (by omega)
    exact ⟨ok, q2, s2, e2, L2, lv2, c2, h96, hok, fun σ post hc hp => ⟨fun _ => ⟨_, hC σ post hc hp⟩, fun g => absurd g (by decide)⟩, fun τ post hm hp => ⟨_, hM τ post hm hp⟩⟩
  have a3 : lev = 3 → OUT σ0 τ0 by' Lb i la key b m L c s e q s e L lv c (fun post σ => (G_rd (f + 1)).1 post σ (nI lev)) (Mfn key (g + 1) lev) := by
    intro el
    subst el
    refine level_out (M2 := fun post s1 => ∃ n3, l_X10_sum_10 (G_ex g).1 (G_ex g).2.1 (G_ex g).2.2.1 (G_ex g).2.2.2.1 (G_ex g).2.2.2.2.1 (G_ex g).2.2.2.2.2 post n3 s1 (nI key)) (by decide) (fun post τ hw => hw) (hsub q s e L lv c ht hL) (fun q1 s1 e1 L1 lv1 c1 t1 h1 sr1 => ?_)
    obtain ⟨ok, q2, s2, e2, L2, lv2, c2, h96, hok, hC, hM⟩ := loop_out (lev := 3) (g := g) (ML := fun post r τ => l_X10_sum_10 (G_ex g).1 (G_ex g).2.1 (G_ex g).2.2.1 (G_ex g).2.2.2.1 (G_ex g).2.2.2.2.1 (G_ex g).2.2.2.2.2 post r τ (nI key)) hTc hTm hla hi (by decide) (sg_SG 3 (by decide)) (fun post r τ q s e L lv c hm ht h0 h1 => turn_sum hTm post r τ q s e L lv c hm ht h0 h1) hsub 96 0 q1 s1 e1 L1 lv1 c1 t1 h1 sr1 (Nat.zero_le _) (by omega)
    exact ⟨ok, q2, s2, e2, L2, lv2, c2, h96, hok, fun σ post hc hp => ⟨fun _ => ⟨_, hC σ post hc hp⟩, fun g => absurd g (by decide)⟩, fun τ post hm hp => ⟨_, hM τ post hm hp⟩⟩
  have a4 : lev = 4 → OUT σ0 τ0 by' Lb i la key b m L c s e q s e L lv c (fun post σ => (G_rd (f + 1)).1 post σ (nI lev)) (Mfn key (g + 1) lev) := by
    intro el
    subst el
    refine level_out (M2 := fun post s1 => ∃ n3, l_X10_term_10 (G_ex g).1 (G_ex g).2.1 (G_ex g).2.2.1 (G_ex g).2.2.2.1 (G_ex g).2.2.2.2.1 (G_ex g).2.2.2.2.2 post n3 s1 (nI key)) (by decide) (fun post τ hw => hw) (hsub q s e L lv c ht hL) (fun q1 s1 e1 L1 lv1 c1 t1 h1 sr1 => ?_)
    obtain ⟨ok, q2, s2, e2, L2, lv2, c2, h96, hok, hC, hM⟩ := loop_out (lev := 4) (g := g) (ML := fun post r τ => l_X10_term_10 (G_ex g).1 (G_ex g).2.1 (G_ex g).2.2.1 (G_ex g).2.2.2.1 (G_ex g).2.2.2.2.1 (G_ex g).2.2.2.2.2 post r τ (nI key)) hTc hTm hla hi (by decide) (sg_SG 4 (by decide)) (fun post r τ q s e L lv c hm ht h0 h1 => turn_term hTm post r τ q s e L lv c hm ht h0 h1) hsub 96 0 q1 s1 e1 L1 lv1 c1 t1 h1 sr1 (Nat.zero_le _) (by omega)
    exact ⟨ok, q2, s2, e2, L2, lv2, c2, h96, hok, fun σ post hc hp => ⟨fun _ => ⟨_, hC σ post hc hp⟩, fun g => absurd g (by decide)⟩, fun τ post hm hp => ⟨_, hM τ post hm hp⟩⟩
  have a2 : lev = 2 → OUT σ0 τ0 by' Lb i la key b m L c s e q s e L lv c (fun post σ => (G_rd (f + 1)).1 post σ (nI lev)) (Mfn key (g + 1) lev) := by
    intro el
    subst el
    refine level_out (M2 := MT key g) (by decide) (fun post τ hw => hw) (hsub q s e L lv c ht hL) (fun q1 s1 e1 L1 lv1 c1 t1 h1 sr1 => ?_)
    by_cases y : q1 = 3 ∧ sgB (9 + 2) (by' s1) = true
    · have es := t1.2.2.2.2.2.1 y.1
      have := t1.2.2.1
      obtain ⟨b1, -⟩ := hTc.2.2 s1 (by omega)
      obtain ⟨tn, tle⟩ := TOK_next (q := q1) t1.2.2.1 (by' := by')
      obtain ⟨ok, q', s', e', L', lv', c', h96, hok, hC, hM⟩ := op_step (f := f) (g := g) (lev := 2) hTc hTm hla hi t1 y.1 rfl b1 (sg_SG 2 (by decide) _ b1 y.2) h1 sr1 (by decide) (hsub _ _ _ L1 lv1 c1 tn (by omega))
      refine ⟨ok, q', s', e', L', lv', c', h96, fun g => ⟨(hok g).1, (hok g).2.1, (hok g).2.2.1⟩, fun σ post hc hp => ⟨fun g => absurd rfl g, fun _ => ⟨2, ?_⟩⟩, fun τ post hm hp => turn_test hTm post τ q1 s1 e1 L1 lv1 c1 hm t1 (fun y2 => absurd y y2) (fun _ _ => hM τ post _ hm (fun τ' a1 a2 a3 => ?_))⟩
      · refine cTurn (n := 0) (most := 1) hTc (by decide) (by decide) (by decide) hc t1 (fun y2 => absurd y y2) (fun _ _ => hC σ post _ hc (fun σ' a1 a2 a3 => ?_))
        have g := hp σ' a1 a2 a3
        refine ⟨fun e => ?_, fun e => ?_⟩
        · rw [if_pos e] at g
          rw [uC_rl]
          unfold b_X5_readLevel_24
          exact ⟨fun _ => g, fun x => absurd (by decide) x⟩
        · rw [if_neg (by rw [e]; decide)] at g
          exact g
      · have g := hp τ' a1 a2 a3
        refine ⟨fun e => ?_, fun e => ?_⟩
        · rw [if_pos e] at g
          exact g
        · rw [if_neg (by rw [e]; decide)] at g
          exact g
    · refine ⟨true, q1, s1, e1, L1, lv1, c1, by have := t1.2.1; have := t1.2.2.1; omega, fun _ => ⟨t1, sr1, h1⟩, fun σ post hc hp => ⟨fun g => absurd rfl g, fun _ => ⟨1, ?_⟩⟩, fun τ post hm hp => turn_test hTm post τ q1 s1 e1 L1 lv1 c1 hm t1 (fun _ => hp τ hm.1 hm.2.2.2.1 (fun _ => hm)) (fun y1 y2 => absurd ⟨y1, y2⟩ y)⟩
      exact cTurn (n := 0) (most := 1) hTc (by decide) (by decide) (by decide) hc t1 (fun _ => hp σ hc.1 hc.2.2.2.2.1 (fun _ => hc)) (fun y1 y2 => absurd ⟨y1, y2⟩ y)
  rcases (show lev = 0 ∨ lev = 1 ∨ lev = 2 ∨ lev = 3 ∨ lev = 4 by omega) with el | el | el | el | el
  · exact a0 el
  · exact a1 el
  · exact a2 el
  · exact a3 el
  · exact a4 el
end Levels2
