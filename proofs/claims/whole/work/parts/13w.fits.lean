/-! LAYER 2. Fits: the class thinks; the model's search; the call. -/
theorem uC_t72 (K : St → Nat → Int32 → Int32 → Prop) (post : St → Prop) (q : Nat) : l_X0_think_72 K post (q + 1) = b_X0_think_72 K (l_X0_think_72 K post q) post := rfl
theorem uC_t65 (post : St → Prop) (q : Nat) : l_X0_think_65 post (q + 1) = b_X0_think_65 (l_X0_think_65 post q) post := rfl
theorem uC_t7 (post : St → Prop) (q : Nat) : l_X0_think_7 post (q + 1) = b_X0_think_7 (l_X0_think_7 post q) post := rfl
theorem cTable {post : St → Prop} {σ s0 : St} {n t c : Nat} {ρ : Nat → Nat} {D : Nat → Nat → Nat} (hn : n ≤ 12) (ht : t < 2) (hp : PP (hlC σ 0) n t c ρ) (hB0 : BF σ s0 c ρ) (hD9 : ∀ i k, D i k ≤ 9) (hD : ∀ i k, i < c → k < 6 → dwV (hlC σ 0) (ρ i) (6 * t + k) = nI (D i k)) (h6 : ∀ j, s0 29 6 j = 0) (h : ∀ s' : St, BF σ s' c ρ → (∀ x, x < 2 ^ c → s' 29 0 x = nI (Wf D c 6 (bits x))) → (∀ q, q < 6 → s' 27 0 q = orN (chF D c ρ 6 (bits (2 ^ c - 1)) q)) → post s') : ∃ n2, l_X0_think_65 post n2 s0 0 (nI t) 5 := by
  have hc6 := hp.1
  have h64 : (2 : Nat) ^ c ≤ 2 ^ 6 := Nat.pow_le_pow_right (by decide) hc6
  have lst : ∀ s1 : St, BF σ s1 c ρ → (∀ k, k ≤ 6 → ∀ x, x < 2 ^ c → s1 29 k x = nI (Wf D c (6 - k) (bits x))) → w_X0_choose (fun s2 => post s2) s1 0 (nI t) := by
    intro s1 hB1 htb
    refine cChoose hn ht hp hB1 hD9 hD htb (fun s' hB' g29 g27 => h s' hB' (fun x hx => ?_) g27)
    rw [g29, htb 0 (by omega) x hx]
  refine ⟨7, ?_⟩
  suffices H : ∀ q (s1 : St), q ≤ 6 → BF σ s1 c ρ → (∀ k, q ≤ k → k ≤ 6 → ∀ x, x < 2 ^ c → s1 29 k x = nI (Wf D c (6 - k) (bits x))) → l_X0_think_65 post (q + 1) s1 0 (nI t) (nI q - 1) by
    refine H 6 s0 (by omega) hB0 (fun k h1 h2 x hx => ?_)
    obtain rfl : k = 6 := by omega
    rw [h6]
    rfl
  intro q
  induction q with
  | zero =>
    intro s1 _ hB1 htb
    rw [uC_t65]
    unfold b_X0_think_65
    exact ⟨fun _ => lst s1 hB1 (fun k h2 => htb k (Nat.zero_le _) h2), fun g => absurd (by decide) g⟩
  | succ q ih =>
    intro s1 hq hB1 htb
    rw [uC_t65, nI_pred]
    unfold b_X0_think_65
    refine ⟨fun g => absurd g (nI_pos (by omega)), fun _ => ⟨2 ^ c + 1, ?_⟩⟩
    suffices H2 : ∀ r x (s2 : St), x + r = 2 ^ c → BF σ s2 c ρ → (∀ k, q + 1 ≤ k → k ≤ 6 → ∀ x, x < 2 ^ c → s2 29 k x = nI (Wf D c (6 - k) (bits x))) → (∀ y, y < x → s2 29 q y = nI (Wf D c (6 - q) (bits y))) → l_X0_think_72 (l_X0_think_65 post (q + 1)) post (r + 1) s2 0 (nI t) (nI q) (nI x) by
      exact H2 (2 ^ c) 0 s1 (by omega) hB1 htb (fun y hy => absurd hy (Nat.not_lt_zero _))
    intro r
    induction r with
    | zero =>
      intro x s2 hx hB2 t1 t2
      obtain rfl : x = 2 ^ c := by omega
      rw [uC_t72]
      unfold b_X0_think_72
      rw [hB2.2.1, one_shl c (by omega)]
      refine ⟨fun _ v ev => ?_, fun g => absurd (nI_le (Nat.le_refl _) (by omega)) g⟩
      have ev : v = nI q - 1 := by rw [ev, Int32.sub_eq_add_neg]
      subst ev
      refine ih s2 (by omega) hB2 (fun k h1 h2 y hy => ?_)
      by_cases e : k = q
      · rw [e]
        exact t2 y hy
      · exact t1 k (by omega) h2 y hy
    | succ r ih2 =>
      intro x s2 hx hB2 t1 t2
      rw [uC_t72]
      unfold b_X0_think_72
      rw [hB2.2.1, one_shl c (by omega)]
      refine ⟨fun g => absurd g (nI_ge (by omega) (by omega)), fun _ => ⟨vp_in_nI (by omega) (by decide), ?_⟩⟩
      refine cMostFrom (j := 5 - q) hn ht hp hB2 hD9 hD (by omega) (by omega) (fun y hy => ?_) ?_
      · rw [t1 (q + 1) (by omega) (by omega) y hy, show 6 - (q + 1) = 5 - q by omega]
      · rw [cl (show x < 2 ^ 31 by omega), cl (show q < 2 ^ 31 by omega)]
        refine ⟨vp_in_nI (by omega) (by decide), fun s6 e6 v ev => ?_⟩
        subst ev
        rw [nI_1]
        subst e6
        refine ih2 (x + 1) _ (by omega) (BF_wr hB2 (Or.inr ⟨rfl, by omega⟩)) (fun k h1 h2 y hy => ?_) (fun y hy => ?_)
        · rw [wr_off _ _ _ (by omega)]
          exact t1 k h1 h2 y hy
        · rw [wr_row]
          by_cases e : y = x
          · rw [e, pk_us, show 6 - q = 5 - q + 1 by omega]
          · rw [pk_un e]
            exact t2 y (by omega)
theorem cThink {post : St → Prop} {σ : St} {n t : Nat} (hi : HI (hlC σ 0) n) (ht : t < 2) (h6 : ∀ j, σ 29 6 j = 0) (h : ∀ (c : Nat) (ρ : Nat → Nat) (s' : St), PP (hlC σ 0) n t c ρ → BF σ s' c ρ → (∀ x, x < 2 ^ c → s' 29 0 x = nI (Wf (DD (hlC σ 0) t c ρ) c 6 (bits x))) → (∀ q, q < 6 → s' 27 0 q = orN (chF (DD (hlC σ 0) t c ρ) c ρ 6 (bits (2 ^ c - 1)) q)) → post s') : w_X0_think post σ 0 (nI t) := by
  have hn := hi.1.1.1
  have e50 : σ 5 0 0 = nI n := hi.1.1.2.1
  unfold w_X0_think
  intro s1 e1
  refine ⟨n + 1, ?_⟩
  have go : ∀ (c : Nat) (ρ : Nat → Nat) (s2 : St), PP (hlC σ 0) n t c ρ → BF σ s2 c ρ → ∃ n2, l_X0_think_65 post n2 s2 0 (nI t) 5 := by
    intro c ρ s2 hp hB
    obtain ⟨d1, d2⟩ := DD_n hi ht hp
    exact cTable hn ht hp hB d1 d2 (fun j => (hB.1 29 6 j (by decide) (by decide) (by decide) (by omega)).trans (h6 j)) (fun s' hB' g29 g27 => h c ρ s' hp hB' g29 g27)
  suffices H : ∀ q r c (ρ : Nat → Nat) (s2 : St), r + q = n → PP (hlC σ 0) r t c ρ → BF σ s2 c ρ → l_X0_think_7 post (q + 1) s2 0 (nI t) (nI r) by
    refine H n 0 0 (fun _ => 0) s1 (by omega) ⟨by omega, fun i hi => absurd hi (Nat.not_lt_zero _), fun i i2 _ h2 => absurd h2 (Nat.not_lt_zero _), fun r hr => absurd hr (Nat.not_lt_zero _)⟩ ⟨fun k a j c1 c2 c3 c4 => by rw [e1, wr_off _ _ _ (by omega)], by rw [e1]; simp [wr, nI_0], fun p hp => absurd hp (Nat.not_lt_zero _)⟩
  intro q
  induction q with
  | zero =>
    intro r c ρ s2 hr hp hB
    obtain rfl : r = n := by omega
    rw [uC_t7]
    unfold b_X0_think_7
    rw [hB.1 5 0 0 (by decide) (by decide) (by decide) (by omega), e50]
    exact ⟨fun _ => go c ρ s2 hp hB, fun g => absurd (nI_le (Nat.le_refl _) (by omega)) g⟩
  | succ q ih =>
    intro r c ρ s2 hr hp hB
    rw [uC_t7]
    unfold b_X0_think_7
    have hc6 := hp.1
    rw [hB.1 5 0 0 (by decide) (by decide) (by decide) (by omega), e50, hB.2.1, cl (show r < 2 ^ 31 by omega), hB.1 9 0 r (by decide) (by decide) (by decide) (by omega)]
    refine ⟨fun g => absurd g (nI_ge (by omega) (by omega)), fun _ => ⟨fun g => ?_, fun g => ⟨vp_in_nI (by omega) (by decide), sX9_townOf ⟨fun ne v ev => ?_, fun e => ?_⟩⟩⟩⟩
    · have g6 := (nI_leI (a := 6) (by decide) (by omega)).1 g
      exact go c ρ s2 (PP_full hi.1 ht (by omega) hp (Or.inl (by omega))) hB
    · subst ev
      rw [nI_1]
      refine ih (r + 1) c ρ s2 (by omega) ⟨hp.1, fun i hi => ⟨by have := (hp.2.1 i hi).1; omega, (hp.2.1 i hi).2⟩, hp.2.2.1, fun k hk ek => ?_⟩ hB
      by_cases x : k = r
      · rw [x] at ek
        exact absurd ek ne
      · exact hp.2.2.2 k (by omega) ek
    · have c5 : c < 6 := by
        have : ¬ 6 ≤ c := fun y => g (nI_le (a := 6) y (by omega))
        omega
      rw [hB.2.1, cl (show c < 2 ^ 31 by omega)]
      refine ⟨vp_in_nI (by omega) (by decide), fun s10 e10 s11 e11 v ev => ?_⟩
      subst ev
      rw [nI_1]
      have q10 : s10 25 0 0 = nI c := by rw [e10, wr_off _ _ _ (by omega)]; exact hB.2.1
      rw [q10, nI_1] at e11
      refine ih (r + 1) (c + 1) (fun p => if p = c then r else ρ p) s11 (by omega) ⟨by omega, fun i hi => ?_, fun i i2 h1 h2 => ?_, fun k hk ek => ?_⟩ ⟨fun k a j c1 c2 c3 c4 => ?_, by rw [e11]; simp [wr], fun p hp2 => ?_⟩
      · show (if i = c then r else ρ i) < r + 1 ∧ tw (hlC σ 0 9 (if i = c then r else ρ i)) = nI t
        by_cases x : i = c
        · rw [if_pos x]
          exact ⟨Nat.lt_succ_self _, e⟩
        · rw [if_neg x]
          have := hp.2.1 i (by omega)
          exact ⟨by omega, this.2⟩
      · show (if i = c then r else ρ i) < (if i2 = c then r else ρ i2)
        rw [if_neg (show ¬ i = c by omega)]
        by_cases x : i2 = c
        · rw [if_pos x]
          exact (hp.2.1 i (by omega)).1
        · rw [if_neg x]
          exact hp.2.2.1 i i2 h1 (by omega)
      · by_cases x : k = r
        · exact ⟨c, Nat.lt_succ_self _, by simp [x]⟩
        · obtain ⟨i, hi2, ei⟩ := hp.2.2.2 k (by omega) ek
          refine ⟨i, by omega, ?_⟩
          show (if i = c then r else ρ i) = k
          rw [if_neg (by omega)]
          exact ei
      · rw [e11, wr_off _ _ _ (by omega), e10, wr_off _ _ _ (by omega)]
        exact hB.1 k a j c1 c2 c3 c4
      · show s11 26 0 p = nI (if p = c then r else ρ p)
        rw [e11, wr_off _ _ _ (by omega), e10, wr_row]
        by_cases x : p = c
        · rw [x, pk_us, if_pos rfl]
        · rw [pk_un x, if_neg x]
          exact hB.2.2 p (by omega)
/-! the model's search -/
def Lft (c : Nat) (ρ : Nat → Nat) (left : Nat) (S : Nat → Bool) : Prop := left < 4096 ∧ ∀ r, r < 12 → (left.testBit r = true ↔ ∃ i, i < c ∧ ρ i = r ∧ S i = true)
theorem G_lf_s (f : Nat) : G_lf (f + 1) = wb_X10_laysFrom (G_lf f) := rfl
theorem uM_l71 (R0 : (St → Prop) → St → Int32 → Int32 → Int32 → Int32 → Prop) (post : St → Prop) (q : Nat) : l_X10_laysFrom_71 R0 post (q + 1) = b_X10_laysFrom_71 R0 (l_X10_laysFrom_71 R0 post q) post := rfl
theorem uM_l24 (R0 : (St → Prop) → St → Int32 → Int32 → Int32 → Int32 → Prop) (post : St → Prop) (q : Nat) : l_X10_laysFrom_24 R0 post (q + 1) = b_X10_laysFrom_24 R0 (l_X10_laysFrom_24 R0 post q) post := rfl
/-- nothing but the search's own rows -/
def FL (τ τ' : St) (k : Nat) : Prop := (∀ a b i, ¬ (a = 0 ∧ b = 0 ∧ i = 1) → a ≠ 12 → a ≠ 13 → τ' a b i = τ a b i) ∧ ∀ q, q < k → τ' 12 0 q = τ 12 0 q
theorem Lft_rm {c left r i n : Nat} {ρ : Nat → Nat} {S : Nat → Bool} (h : Lft c ρ left S) (hinj : ∀ i i2, i < i2 → i2 < c → ρ i < ρ i2) (hi : i < c) (er : ρ i = r) (hr : r < 12) : ∃ left2, nI left &&& ((1 <<< (nI r &&& 31)) ^^^ (-1)) = nI left2 ∧ Lft c ρ left2 (rm S i) := by
  refine ⟨left &&& (2 ^ r ^^^ (2 ^ 32 - 1)), ?_, ?_⟩
  · rw [one_shl r (by omega), show (-1 : Int32) = nI (2 ^ 32 - 1) by decide, nI_xor, nI_and]
  · refine ⟨Nat.lt_of_le_of_lt Nat.and_le_left h.1, fun q hq => ?_⟩
    rw [Nat.testBit_and, Nat.testBit_xor, Nat.testBit_two_pow, Nat.testBit_two_pow_sub_one]
    have inj : ∀ i2, i2 < c → ρ i2 = r → i2 = i := fun i2 h2 e2 => by
      rcases Nat.lt_trichotomy i2 i with l | l | l
      · have := hinj i2 i l hi
        omega
      · exact l
      · have := hinj i i2 l h2
        omega
    by_cases e : q = r
    · subst e
      have : ¬ ∃ i2, i2 < c ∧ ρ i2 = q ∧ rm S i i2 = true := fun ⟨i2, h2, e2, g⟩ => by
        rw [inj i2 h2 e2] at g
        simp [rm] at g
      simp [this, show q < 32 by omega]
    · have : (∃ i2, i2 < c ∧ ρ i2 = q ∧ rm S i i2 = true) ↔ ∃ i2, i2 < c ∧ ρ i2 = q ∧ S i2 = true := by
        constructor
        · rintro ⟨i2, h2, e2, g⟩
          refine ⟨i2, h2, e2, ?_⟩
          simp only [rm] at g
          split at g
          · exact absurd g (by simp)
          · exact g
        · rintro ⟨i2, h2, e2, g⟩
          refine ⟨i2, h2, e2, ?_⟩
          simp only [rm]
          rw [if_neg (fun y => by
            rw [y] at e2
            omega)]
          exact g
      rw [this, ← h.2 q hq]
      simp [Ne.symm e, show q < 32 by omega]
theorem mLays {h : Hl} {n t c : Nat} {ρ : Nat → Nat} {D : Nat → Nat → Nat} (hi : HI h n) (ht : t < 2) (hp : PP h n t c ρ) (hD9 : ∀ i k, D i k ≤ 9) (hD : ∀ i k, i < c → k < 6 → dwV h (ρ i) (6 * t + k) = nI (D i k)) : ∀ (j f : Nat), j ≤ 6 → j ≤ f → ∀ (post : St → Prop) (τ : St) (S : Nat → Bool) (left dry md : Nat), HM h (τ 1 0) → Lft c ρ left S → dry + 9 * j ≤ 54 → md ≤ 100 → τ 0 0 1 = nI md - 1 → (∀ τ' : St, FL τ τ' (6 - j) → (if md < dry + Wf D c j S + 1 then τ' 0 0 1 = nI (dry + Wf D c j S) ∧ (∀ q, q < 6 → τ' 13 0 q = if q < 6 - j then τ 12 0 q else chF D c ρ j S q) else τ' 0 0 1 = τ 0 0 1 ∧ ∀ q, q < 6 → τ' 13 0 q = τ 13 0 q) → post τ') → G_lf (f + 1) post τ (nI t) (nI (6 - j)) (nI left) (nI dry) := by
  have hn := hi.1.1.1
  intro j
  induction j with
  | zero =>
    intro f _ _ post τ S left dry md hm hL hdry hmd e01 hpost
    rw [G_lf_s]
    unfold wb_X10_laysFrom
    refine ⟨fun g => absurd rfl g, fun _ => ?_⟩
    have w0 : Wf D c 0 S = 0 := rfl
    rw [w0] at hpost
    have cmp : nI dry ≤ τ 0 0 1 ↔ ¬ md < dry + 0 + 1 := by
      rw [e01]
      rcases Nat.eq_zero_or_pos md with z | z
      · subst z
        exact ⟨fun g => absurd g (m1_lt (show dry < 2 ^ 31 by omega)), fun g => absurd (by omega) g⟩
      · rw [show nI md - 1 = nI (md - 1) from pk_sub (b := 1) z, nI_leI (by omega) (by omega)]
        omega
    refine ⟨fun g => hpost τ ⟨fun _ _ _ _ _ _ => rfl, fun _ _ => rfl⟩ ?_, fun g s6 e6 => ⟨7, ?_⟩⟩
    · rw [if_neg (cmp.1 g)]
      exact ⟨rfl, fun _ _ => rfl⟩
    · have g' : md < dry + 0 + 1 := Nat.lt_of_not_le (fun y => g (cmp.2 (by omega)))
      suffices H : ∀ q x (s : St), x + q = 6 → (∀ a b i, a ≠ 13 → s a b i = s6 a b i) → (∀ i, i < x → s 13 0 i = τ 12 0 i) → l_X10_laysFrom_24 (G_lf f) post (q + 1) s (nI x) by
        exact H 6 0 s6 (by omega) (fun _ _ _ _ => rfl) (fun i hi => absurd hi (Nat.not_lt_zero _))
      intro q
      induction q with
      | zero =>
        intro x s hx g1 g2
        obtain rfl : x = 6 := by omega
        rw [uM_l24]
        unfold b_X10_laysFrom_24
        refine ⟨fun _ => hpost s ⟨fun a b i c1 c2 c3 => ?_, fun q hq => ?_⟩ ?_, fun g => absurd (by decide) g⟩
        · rw [g1 a b i c3, e6]
          simp only [wr]
          rw [if_neg (by omega)]
        · rw [g1 12 0 q (by decide), e6, wr_off _ _ _ (by omega)]
        · rw [if_pos g']
          refine ⟨by rw [g1 0 0 1 (by decide), e6]; simp [wr], fun q hq => ?_⟩
          rw [if_pos (by omega)]
          exact g2 q hq
      | succ q ih =>
        intro x s hx g1 g2
        rw [uM_l24]
        unfold b_X10_laysFrom_24
        rw [cl (show x < 2 ^ 31 by omega)]
        refine ⟨fun g => absurd g (nI_ge (b := 6) (by omega) (by decide)), fun _ => ⟨vp_in_nI (by omega) (by decide), vp_in_nI (by omega) (by decide), fun s4 e4 v ev => ?_⟩⟩
        subst ev
        rw [nI_1]
        refine ih (x + 1) s4 (by omega) (fun a b i c1 => by rw [e4, wr_off _ _ _ (by omega)]; exact g1 a b i c1) (fun i hi2 => ?_)
        rw [e4, wr_row]
        by_cases y : i = x
        · rw [y, pk_us, g1 12 0 x (by decide), e6, wr_off _ _ _ (by omega)]
        · rw [pk_un y]
          exact g2 i (by omega)
  | succ j ih =>
    intro f hj hf post τ S left dry md hm hL hdry hmd e01 hpost
    obtain ⟨f, rfl⟩ : ∃ f', f = f' + 1 := ⟨f - 1, by omega⟩
    have hk : 6 - (j + 1) = 5 - j := by omega
    have k6 : 5 - j + 1 = 6 - j := by omega
    rw [hk] at hpost ⊢
    rw [G_lf_s]
    unfold wb_X10_laysFrom
    rw [show (58 : Int32) + 6 * nI t = nI (58 + 6 * t) by rw [show (6 : Int32) * nI t = nI (6 * t) from pk_mul 6 t]; exact nI_add 58 _, nI_add, cl (show 58 + 6 * t + (5 - j) < 2 ^ 31 by omega), show 58 + 6 * t + (5 - j) = 58 + (6 * t + (5 - j)) by omega, mPe hm (show 6 * t + (5 - j) < 12 by omega)]
    refine ⟨fun _ => ⟨vp_in_nI (by omega) (by decide), fun v ev => ⟨n + 1, ?_⟩⟩, fun g => absurd ((nI_eq (b := 6) (by omega) (by decide)).1 g) (by omega)⟩
    subst ev
    obtain ⟨p1, p2, p3, p4⟩ := hp
    have wle := Wf_le (c := c) hD9 j
    have vle : ∀ i, vW D c j (Wf D c j) S i ≤ 9 + 9 * j := fun i => by
      unfold vW
      have := wle (rm S i)
      have := wle S
      have := hD9 i (5 - j)
      split <;> omega
    have ct : (nI (5 - j)).toNatClampNeg = 5 - j := cl (by omega)
    -- what the state is, by the best so far
    obtain ⟨cho, hcho⟩ : ∃ cho : Nat → Nat → Int32, cho = fun p q => if q < 5 - j then τ 12 0 q else if q = 5 - j then (if p < c then nI (ρ p) else -1) else chF D c ρ j (if p < c then rm S p else S) q := ⟨_, rfl⟩
    obtain ⟨Q, hQ⟩ : ∃ Q : Option Nat → St → Prop, Q = fun o s => match o with
      | none => s 0 0 1 = τ 0 0 1 ∧ ∀ q, q < 6 → s 13 0 q = τ 13 0 q
      | some p => if md < dry + vW D c j (Wf D c j) S p + 1 then s 0 0 1 = nI (dry + vW D c j (Wf D c j) S p) ∧ ∀ q, q < 6 → s 13 0 q = cho p q else s 0 0 1 = τ 0 0 1 ∧ ∀ q, q < 6 → s 13 0 q = τ 13 0 q := ⟨_, rfl⟩
    -- the most so far
    have mdOf : ∀ o s, Q o s → ∃ m1, m1 ≤ 100 ∧ s 0 0 1 = nI m1 - 1 ∧ m1 = (match o with
      | none => md
      | some p => if md < dry + vW D c j (Wf D c j) S p + 1 then dry + vW D c j (Wf D c j) S p + 1 else md) := by
      intro o s hq
      rw [hQ] at hq
      cases o with
      | none => exact ⟨md, hmd, hq.1.trans e01, rfl⟩
      | some p =>
        by_cases g : md < dry + vW D c j (Wf D c j) S p + 1
        · simp only [if_pos g] at hq
          refine ⟨dry + vW D c j (Wf D c j) S p + 1, ?_, ?_, by simp [g]⟩
          · have := vle p
            omega
          · rw [hq.1, nI_pred]
        · simp only [if_neg g] at hq
          exact ⟨md, hmd, hq.1.trans e01, by simp [g]⟩
    -- one candidate more
    have step : ∀ (i : Nat) (s s' : St) (x : Int32) (S2 : Nat → Bool) (d : Nat) (m1 : Nat), aF c S i = true → Q (top (aF c S) (vW D c j (Wf D c j) S) i) s → m1 = (match top (aF c S) (vW D c j (Wf D c j) S) i with
      | none => md
      | some p => if md < dry + vW D c j (Wf D c j) S p + 1 then dry + vW D c j (Wf D c j) S p + 1 else md) → d + Wf D c j S2 = dry + vW D c j (Wf D c j) S i → (∀ q, q < 5 - j → s 12 0 q = τ 12 0 q) → (∀ q, 5 - j < q → cho i q = chF D c ρ j S2 q) → x = cho i (5 - j) → (if m1 < d + Wf D c j S2 + 1 then s' 0 0 1 = nI (d + Wf D c j S2) ∧ (∀ q, q < 6 → s' 13 0 q = if q < 6 - j then wr s 12 0 (5 - j) x 12 0 q else chF D c ρ j S2 q) else s' 0 0 1 = s 0 0 1 ∧ ∀ q, q < 6 → s' 13 0 q = s 13 0 q) → Q (top (aF c S) (vW D c j (Wf D c j) S) (i + 1)) s' := by
      intro i s s' x S2 d m1 ha hq hm1 hd h12 hch hx hs'
      rw [hd] at hs'
      have newC : (∀ q, q < 6 → s' 13 0 q = if q < 6 - j then wr s 12 0 (5 - j) x 12 0 q else chF D c ρ j S2 q) → ∀ q, q < 6 → s' 13 0 q = cho i q := by
        intro hg q hq6
        rw [hg q hq6]
        by_cases y : q < 6 - j
        · rw [if_pos y, wr_row]
          by_cases z : q = 5 - j
          · rw [z, pk_us]
            exact hx
          · rw [pk_un z, h12 q (by omega), hcho]
            show _ = (if q < 5 - j then τ 12 0 q else _)
            rw [if_pos (by omega)]
        · rw [if_neg y]
          exact (hch q (by omega)).symm
      rw [top, if_pos ha]
      rw [hQ] at hq ⊢
      cases et : top (aF c S) (vW D c j (Wf D c j) S) i with
      | none =>
        rw [et] at hq hm1
        simp only at hq hm1
        subst hm1
        show (if m1 < dry + vW D c j (Wf D c j) S i + 1 then _ else _)
        by_cases g : m1 < dry + vW D c j (Wf D c j) S i + 1
        · rw [if_pos g] at hs' ⊢
          exact ⟨hs'.1, newC hs'.2⟩
        · rw [if_neg g] at hs' ⊢
          exact ⟨hs'.1.trans hq.1, fun q h6 => (hs'.2 q h6).trans (hq.2 q h6)⟩
      | some p =>
        rw [et] at hq hm1
        simp only at hq hm1
        by_cases gp : md < dry + vW D c j (Wf D c j) S p + 1
        · rw [if_pos gp] at hq hm1
          by_cases g : vW D c j (Wf D c j) S p < vW D c j (Wf D c j) S i
          · simp only [if_pos g]
            rw [if_pos (by omega)] at hs' ⊢
            exact ⟨hs'.1, newC hs'.2⟩
          · simp only [if_neg g]
            rw [if_neg (by omega)] at hs'
            rw [if_pos gp]
            exact ⟨hs'.1.trans hq.1, fun q h6 => (hs'.2 q h6).trans (hq.2 q h6)⟩
        · rw [if_neg gp] at hq hm1
          subst hm1
          by_cases g : vW D c j (Wf D c j) S p < vW D c j (Wf D c j) S i
          · simp only [if_pos g]
            by_cases g2 : m1 < dry + vW D c j (Wf D c j) S i + 1
            · rw [if_pos g2] at hs' ⊢
              exact ⟨hs'.1, newC hs'.2⟩
            · rw [if_neg g2] at hs' ⊢
              exact ⟨hs'.1.trans hq.1, fun q h6 => (hs'.2 q h6).trans (hq.2 q h6)⟩
          · simp only [if_neg g]
            rw [if_neg (by omega)] at hs'
            rw [if_neg gp]
            exact ⟨hs'.1.trans hq.1, fun q h6 => (hs'.2 q h6).trans (hq.2 q h6)⟩
    suffices H : ∀ q r i (s : St), r + q = n → i ≤ c → (∀ p, p < i → ρ p < r) → (∀ p, i ≤ p → p < c → r ≤ ρ p) → FL τ s (5 - j) → Q (top (aF c S) (vW D c j (Wf D c j) S) i) s → l_X10_laysFrom_71 (G_lf (f + 1)) post (q + 1) s (nI t) (nI (5 - j)) (nI left) (nI dry) (h 10 (6 * t + (5 - j))) (nI r) by
      exact H n 0 0 τ (by omega) (Nat.zero_le _) (fun p hp => absurd hp (Nat.not_lt_zero _)) (fun _ _ _ => Nat.zero_le _) ⟨fun _ _ _ _ _ _ => rfl, fun _ _ => rfl⟩ (by rw [hQ]; exact ⟨rfl, fun _ _ => rfl⟩)
    intro q
    induction q with
    | zero =>
      intro r i s hr hic h1 h2 fl hq
      obtain rfl : r = n := by omega
      have ic : i = c := by
        refine Nat.le_antisymm hic (Nat.le_of_not_lt (fun y => ?_))
        have := h2 i (Nat.le_refl _) y
        have := (p2 i y).1
        omega
      subst ic
      rw [uM_l71]
      unfold b_X10_laysFrom_71
      have e10 : s 1 0 0 = nI r := (fl.1 1 0 0 (by omega) (by decide) (by decide)).trans (mN hm hi.1.1)
      rw [show (0 : Int32).toNatClampNeg = 0 by decide, e10, ct]
      refine ⟨vp_in_nI (n := 0) (by decide) (by decide), fun _ => ⟨vp_in_nI (by omega) (by decide), fun s4 e4 => ?_⟩, fun g => absurd (nI_le (Nat.le_refl _) (by omega)) g⟩
      obtain ⟨m1, hm100, em1, hm1⟩ := mdOf _ _ hq
      have vc : vW D i j (Wf D i j) S i = Wf D i j S := by
        unfold vW
        rw [if_neg (by omega)]
      rw [nI_1, show 5 - j + 1 = 6 - j by omega]
      refine ih f (by omega) (by omega) _ s4 S left dry m1 ?_ hL (by omega) hm100 ?_ (fun τ' fl' hs' => hpost τ' ?_ ?_)
      · rw [e4, wr_off _ _ _ (by omega), show s 1 0 = τ 1 0 from funext (fun x => fl.1 1 0 x (by omega) (by decide) (by decide))]
        exact hm
      · rw [e4, wr_off _ _ _ (by omega)]
        exact em1
      · refine ⟨fun a b x c1 c2 c3 => ?_, fun q hq5 => ?_⟩
        · rw [fl'.1 a b x c1 c2 c3, e4, wr_off _ _ _ (by omega)]
          exact fl.1 a b x c1 c2 c3
        · rw [fl'.2 q (by omega), e4, wr_row, pk_un (by omega)]
          exact fl.2 q hq5
      · have g := step i s τ' (-1) S dry m1 (by simp [aF]) hq hm1 (by rw [vc]) fl.2 (fun q h5 => by rw [hcho]; show (if q < 5 - j then _ else if q = 5 - j then _ else chF D i ρ j (if i < i then rm S i else S) q) = _; rw [if_neg (by omega), if_neg (by omega), if_neg (by omega)]) (by rw [hcho]; show _ = (if 5 - j < 5 - j then _ else if 5 - j = 5 - j then (if i < i then nI (ρ i) else -1) else _); rw [if_neg (by omega), if_pos rfl, if_neg (by omega)]) (by
          rw [e4] at hs'
          rw [wr_off s (a := 0) (b := 0) _ _ (by omega), wr_off s (a := 13) (b := 0) _ _ (by omega)] at hs'
          exact hs')
        obtain ⟨k1, k2, k3, k4, k5, k6⟩ := pick_spec D i j S
        rw [k1, hQ] at g
        simp only at g
        rw [k4]
        by_cases y : md < dry + vW D i j (Wf D i j) S (pick D i j S) + 1
        · rw [if_pos y] at g ⊢
          refine ⟨g.1, fun q h6 => (g.2 q h6).trans ?_⟩
          rw [hcho]
          rfl
        · rw [if_neg y] at g ⊢
          exact g
    | succ q ih2 =>
      intro r i s hr hic h1 h2 fl hq
      rw [uM_l71]
      unfold b_X10_laysFrom_71
      have e10 : s 1 0 0 = nI n := (fl.1 1 0 0 (by omega) (by decide) (by decide)).trans (mN hm hi.1.1)
      rw [show (0 : Int32).toNatClampNeg = 0 by decide, e10, ct]
      have ebit : ((nI left >>> (nI r &&& 31)) &&& 1) = if left.testBit r = true then 1 else 0 := bitOf_t (by have := hL.1; omega) (by omega)
      rw [ebit]
      have hbit := hL.2 r (by omega)
      refine ⟨vp_in_nI (n := 0) (by decide) (by decide), fun g => absurd g (nI_ge (by omega) (by omega)), fun _ => ⟨fun g v ev => ?_, fun g => ⟨vp_in_nI (by omega) (by decide), fun s9 e9 => ?_⟩⟩⟩
      · subst ev
        rw [nI_1]
        have nb : ¬ left.testBit r = true := fun y => g (if_pos y)
        by_cases y : i < c ∧ ρ i = r
        · have nS : ¬ S i = true := fun z => nb (hbit.2 ⟨i, y.1, y.2, z⟩)
          refine ih2 (r + 1) (i + 1) s (by omega) y.1 (fun p hp => ?_) (fun p hp1 hp2 => ?_) fl ?_
          · by_cases z : p = i
            · rw [z, y.2]; exact Nat.lt_succ_self _
            · have := h1 p (by omega); omega
          · have := p3 i p (by omega) hp2
            omega
          · rw [top, if_neg (by unfold aF; rw [if_pos y.1]; exact nS)]
            exact hq
        · refine ih2 (r + 1) i s (by omega) hic (fun p hp => by have := h1 p hp; omega) (fun p hp1 hp2 => ?_) fl hq
          have a1 := h2 i (Nat.le_refl _) (by omega)
          have a2 : ρ i ≠ r := fun z => y ⟨by omega, z⟩
          by_cases z : p = i
          · rw [z]; omega
          · have := p3 i p (by omega) hp2
            omega
      · have hb : left.testBit r = true := by
          by_cases z : left.testBit r = true
          · exact z
          · rw [if_neg z] at g
            exact absurd g (by decide)
        obtain ⟨i2, hi2, er, hS⟩ := hbit.1 hb
        have ei : i2 = i := by
          rcases Nat.lt_trichotomy i2 i with l | l | l
          · have := h1 i2 l
            omega
          · exact l
          · have := p3 i i2 l hi2
            have := h2 i (Nat.le_refl _) (by omega)
            omega
        subst ei
        have hm9 : HM h (s9 1 0) := by
          rw [e9, wr_off _ _ _ (by omega), show s 1 0 = τ 1 0 from funext (fun x => fl.1 1 0 x (by omega) (by decide) (by decide))]
          exact hm
        refine sX10_covers hm9 (by omega) ?_
        have eD := hD i2 (5 - j) hi2 (by omega)
        have least : ∀ P : Int32 → St → Prop, P (nI (D i2 (5 - j))) s9 → w_X10_least P s9 (h 10 (6 * t + (5 - j))) (kCovers (h 6 r) (h 7 r)) := by
          intro P hP
          rw [← eD, er] at hP
          unfold dwV at hP
          unfold w_X10_least
          refine ⟨fun c1 => ?_, fun c1 => ?_⟩
          · by_cases c2 : kCovers (h 6 r) (h 7 r) < h 10 (6 * t + (5 - j))
            · rw [if_pos c2] at hP
              exact hP
            · rw [if_neg c2] at hP
              rw [Int32.le_antisymm c1 (Int32.not_lt.mp c2)]
              exact hP
          · rw [if_neg (fun c2 => c1 (Int32.le_of_lt c2))] at hP
            exact hP
        refine least _ ?_
        obtain ⟨m1, hm100, em1, hm1⟩ := mdOf _ _ hq
        obtain ⟨left2, el, hL2⟩ := Lft_rm (n := n) hL p3 hi2 er (by omega)
        rw [el, nI_add, nI_1 (5 - j), k6]
        have d9 := hD9 i2 (5 - j)
        have vi : vW D c j (Wf D c j) S i2 = D i2 (5 - j) + Wf D c j (rm S i2) := by
          unfold vW
          rw [if_pos hi2]
        refine ih f (by omega) (by omega) _ s9 (rm S i2) left2 (dry + D i2 (5 - j)) m1 hm9 hL2 (by omega) hm100 ?_ (fun τ' fl' hs' v ev => ?_)
        · rw [e9, wr_off _ _ _ (by omega)]
          exact em1
        · subst ev
          rw [nI_1]
          refine ih2 (r + 1) (i2 + 1) τ' (by omega) hi2 (fun p hp => ?_) (fun p hp1 hp2 => ?_) ⟨fun a b x c1 c2 c3 => ?_, fun q hq5 => ?_⟩ ?_
          · by_cases z : p = i2
            · rw [z, er]; exact Nat.lt_succ_self _
            · have := h1 p (by omega); omega
          · have := p3 i2 p (by omega) hp2
            omega
          · rw [fl'.1 a b x c1 c2 c3, e9, wr_off _ _ _ (by omega)]
            exact fl.1 a b x c1 c2 c3
          · rw [fl'.2 q (by omega), e9, wr_row, pk_un (by omega)]
            exact fl.2 q hq5
          · refine step i2 s τ' (nI r) (rm S i2) (dry + D i2 (5 - j)) m1 (by unfold aF; rw [if_pos hi2]; exact hS) hq hm1 (by rw [vi]; omega) fl.2 (fun q h5 => ?_) ?_ (by
              rw [e9] at hs'
              rw [wr_off s (a := 0) (b := 0) _ _ (by omega), wr_off s (a := 13) (b := 0) _ _ (by omega)] at hs'
              exact hs')
            · rw [hcho]
              show (if q < 5 - j then _ else if q = 5 - j then _ else chF D c ρ j (if i2 < c then rm S i2 else S) q) = _
              rw [if_neg (by omega), if_neg (by omega), if_pos hi2]
            · rw [hcho]
              show _ = (if 5 - j < 5 - j then _ else if 5 - j = 5 - j then (if i2 < c then nI (ρ i2) else -1) else _)
              rw [if_neg (by omega), if_pos rfl, if_pos hi2, er]
