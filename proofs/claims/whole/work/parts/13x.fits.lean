/-! LAYER 2. Fits: the call. -/
theorem ge_m1 {x : Int32} (h : ¬ x < -1) : x = -1 ∨ ¬ x < 0 := by
  by_cases c : x < 0
  · left
    refine Int32.le_antisymm ?_ (Int32.not_lt.1 h)
    rw [Int32.le_iff_toInt_le]
    rw [Int32.lt_iff_toInt_lt] at c
    have e1 : (-1 : Int32).toInt = -1 := by decide
    have e0 : (0 : Int32).toInt = 0 := by decide
    omega
  · exact Or.inr c
theorem chF_or {D : Nat → Nat → Nat} {c : Nat} {ρ : Nat → Nat} (hρ : ∀ i, i < c → ρ i < 12) : ∀ j S q, chF D c ρ j S q = -1 ∨ ∃ k, k < 2 ^ 31 ∧ chF D c ρ j S q = nI k := by
  intro j
  induction j with
  | zero => intro S q; exact Or.inl rfl
  | succ j ih =>
    intro S q
    unfold chF
    by_cases e : q = 5 - j
    · rw [if_pos e]
      by_cases c1 : pick D c j S < c
      · rw [if_pos c1]
        have := hρ _ c1
        exact Or.inr ⟨_, by omega, rfl⟩
      · rw [if_neg c1]
        exact Or.inl rfl
    · rw [if_neg e]
      exact ih _ _
def itsN (h : Hl) (t : Nat) : Nat → Nat
  | 0 => 0
  | k + 1 => if tw (h 9 k) = nI t then itsN h t k ||| 2 ^ k else itsN h t k
theorem itsN_lt (h : Hl) (t : Nat) : ∀ k, itsN h t k < 2 ^ k := by
  intro k
  induction k with
  | zero => exact Nat.one_pos
  | succ k ih =>
    have h2 : (2 : Nat) ^ (k + 1) = 2 ^ k + 2 ^ k := by omega
    unfold itsN
    split
    · exact Nat.or_lt_two_pow (by omega) (by have := Nat.two_pow_pos k; omega)
    · omega
theorem itsN_bit (h : Hl) (t j : Nat) : ∀ k, (itsN h t k).testBit j = true ↔ j < k ∧ tw (h 9 j) = nI t := by
  intro k
  induction k with
  | zero => simp [itsN]
  | succ k ih =>
    unfold itsN
    by_cases e : j = k
    · subst e
      have h0 : (itsN h t j).testBit j = false := Nat.testBit_lt_two_pow (itsN_lt h t j)
      split
      · rename_i c
        simp [h0, c, Nat.testBit_or, Nat.testBit_two_pow_self]
      · rename_i c
        simp [h0, c]
    · have h1 : (2 ^ k).testBit j = false := by rw [Nat.testBit_two_pow]; simp; omega
      have h2 : j < k + 1 ↔ j < k := by omega
      split
      · rw [Nat.testBit_or, h1, Bool.or_false, ih, h2]
      · rw [ih, h2]
theorem uM_fits (post : Int32 → St → Prop) (q : Nat) : l_X10_fits_29 post (q + 1) = b_X10_fits_29 (l_X10_fits_29 post q) post := rfl
theorem sim15 (σ τ : St) (a0 a1 : Int32) (hR : Rel σ τ) : w_X9_fits (fun r σ1 => w_X10_fits (fun r2 τ1 => r = r2 ∧ Rel σ1 τ1) τ a0 a1) σ a0 a1 := by
  obtain ⟨n, m, T, hH, hT, -, -, -, -, ⟨w, ⟨-, h6⟩, -⟩⟩ := id hR
  obtain ⟨hm, hi, -⟩ := hH
  have hn := hi.1.1.1
  rcases wv_10 a0 0 1 with ⟨e0, q0⟩ | ⟨e0, q0⟩
  · exact gTC0 e0 (gTM0 e0 ⟨rfl, hR⟩)
  rcases wv_10 a1 (-1) 5 with ⟨e1, q1⟩ | ⟨e1, q1⟩
  · exact gTC1 e0 (gC0' e1 (gTM1 e0 (gM0' e1 ⟨rfl, hR⟩)))
  obtain ⟨t, _, ht, rfl⟩ := wv_n (a := 0) (b := 1) (by decide) (by decide) q0
  have ht2 : t < 2 := by omega
  refine gTC1 e0 (gC1' e1 (cThink hi ht2 h6 (fun c ρ s hp hB g29 g27 => ?_)))
  obtain ⟨d1, d2⟩ := DD_n hi ht2 hp
  have hc6 := hp.1
  have h64 : (2 : Nat) ^ c ≤ 2 ^ 6 := Nat.pow_le_pow_right (by decide) hc6
  have hpos := Nat.two_pow_pos c
  have hρ : ∀ i, i < c → ρ i < 12 := fun i hi2 => by have := (hp.2.1 i hi2).1; omega
  have w54 := Wf_le (c := c) d1 6 (bits (2 ^ c - 1))
  have ecS : EC σ s := fun k a j c1 c2 c3 c4 c5 => hB.1 k a j (by omega) (by omega) (by omega) (by omega)
  have mod : ∀ P : Int32 → St → Prop, (∀ τ' : St, (∀ a b i, ¬ (a = 0 ∧ b = 0 ∧ i = 1) → a ≠ 12 → a ≠ 13 → τ' a b i = τ a b i) → τ' 0 0 1 = nI (Wf (DD (hlC σ 0) t c ρ) c 6 (bits (2 ^ c - 1))) → (∀ q, q < 6 → τ' 13 0 q = chF (DD (hlC σ 0) t c ρ) c ρ 6 (bits (2 ^ c - 1)) q) → (0 ≤ a1 → (vp_in a1 6 ∧ w_X10_orNone (fun r7 s7 => P r7 s7) τ' (τ' 13 0 a1.toNatClampNeg))) ∧ (¬ 0 ≤ a1 → P (τ' 0 0 1) τ')) → w_X10_fits P τ (nI t) a1 := by
    intro P hP
    unfold w_X10_fits
    refine gTM1 e0 (gM1' e1 ⟨n + 1, ?_⟩)
    suffices H : ∀ q k, k + q = n → l_X10_fits_29 P (q + 1) τ (nI t) a1 (nI (itsN (hlC σ 0) t k)) (nI k) by
      exact H n 0 (by omega)
    intro q
    induction q with
    | zero =>
      intro k hk
      obtain rfl : k = n := by omega
      rw [uM_fits]
      unfold b_X10_fits_29
      rw [mN hm hi.1.1]
      refine ⟨vp_in_nI (n := 0) (by decide) (by decide), fun _ s3 e3 => ?_, fun g => absurd (nI_le (Nat.le_refl _) (by omega)) g⟩
      have hL : Lft c ρ (itsN (hlC σ 0) t k) (bits (2 ^ c - 1)) := by
        refine ⟨Nat.lt_of_lt_of_le (itsN_lt _ _ k) (Nat.pow_le_pow_right (by decide) hn : 2 ^ k ≤ 2 ^ 12), fun r hr => ?_⟩
        rw [itsN_bit]
        constructor
        · rintro ⟨g1, g2⟩
          obtain ⟨i, hi2, er⟩ := hp.2.2.2 r g1 g2
          refine ⟨i, hi2, er, ?_⟩
          show (2 ^ c - 1).testBit i = true
          rw [Nat.testBit_two_pow_sub_one]
          simp [hi2]
        · rintro ⟨i, hi2, er, _⟩
          have := hp.2.1 i hi2
          rw [er] at this
          exact this
      unfold w_X10_laysFrom
      refine mLays hi ht2 hp d1 d2 6 7 (by decide) (by decide) _ s3 (bits (2 ^ c - 1)) _ 0 0 (by rw [e3, wr_off _ _ _ (by omega)]; exact hm) hL (by decide) (by decide) (by rw [e3]; simp [wr, nI_0]) (fun τ' fl hs' => ?_)
      rw [if_pos (by omega), Nat.zero_add] at hs'
      refine hP τ' (fun a b i c1 c2 c3 => ?_) hs'.1 (fun q hq => ?_)
      · rw [fl.1 a b i c1 c2 c3, e3]
        simp only [wr]
        rw [if_neg (by omega)]
      · rw [hs'.2 q hq, if_neg (by omega)]
    | succ q ih =>
      intro k hk
      rw [uM_fits]
      unfold b_X10_fits_29
      rw [mN hm hi.1.1]
      have nx := ih (k + 1) (by omega)
      rw [itsN] at nx
      refine ⟨vp_in_nI (n := 0) (by decide) (by decide), fun g => absurd g (nI_ge (by omega) (by omega)), fun _ => sX10_townOf hm hi.1.1 (by omega) ⟨fun ne v ev v2 ev2 => ?_, fun e v ev v2 ev2 => ?_⟩⟩
      · subst ev
        subst ev2
        rw [if_neg ne] at nx
        rw [Int32.or_zero, nI_1]
        exact nx
      · subst ev
        subst ev2
        rw [if_pos e] at nx
        rw [one_shl k (by omega), nI_or, nI_1]
        exact nx
  have fin : ∀ τ' : St, (∀ a b i, ¬ (a = 0 ∧ b = 0 ∧ i = 1) → a ≠ 12 → a ≠ 13 → τ' a b i = τ a b i) → Rel s τ' := fun τ' f => Rel_same hR ecS (fun k j c1 c2 => hB.1 k 0 j (by omega) (by omega) (by omega) (by omega)) (fun k a j hc => f k a j (by omega) (by omega) (by omega)) (fun j _ => f 1 0 j (by omega) (by decide) (by decide))
  rcases ge_m1 q1.1 with e | hge
  · subst e
    refine ⟨fun g => absurd rfl g, fun _ => ?_⟩
    unfold w_X0_dry
    rw [hB.2.1, one_shl c (by omega), show nI (2 ^ c) - 1 = nI (2 ^ c - 1) from pk_sub (b := 1) hpos, cl (show 2 ^ c - 1 < 2 ^ 31 by omega), show (0 : Int32).toNatClampNeg = 0 by decide]
    refine ⟨vp_in_nI (n := 0) (by decide) (by decide), vp_in_nI (by omega) (by decide), mod _ (fun τ' f g1 g2 => ⟨fun g => absurd g (by decide), fun _ => ⟨?_, fin τ' f⟩⟩)⟩
    rw [g29 _ (by omega), g1]
  · obtain ⟨q, _, hq, rfl⟩ := wv_n (a := 0) (b := 5) (by decide) (by decide) ⟨hge, q1.2⟩
    have cq : (nI q).toNatClampNeg = q := cl (by omega)
    refine ⟨fun _ => ?_, fun e => absurd e (nI_m1 (by omega))⟩
    unfold w_X0_roofFor
    rw [cq]
    refine ⟨vp_in_nI (by omega) (by decide), mod _ (fun τ' f g1 g2 => ⟨fun _ => ⟨vp_in_nI (by omega) (by decide), ?_⟩, fun g => absurd (nI_pos' (by omega)) g⟩)⟩
    rw [cq, g2 q (by omega), g27 q (by omega)]
    unfold w_X10_orNone
    rcases chF_or (D := DD (hlC σ 0) t c ρ) hρ 6 (bits (2 ^ c - 1)) q with e | ⟨k, hk, e⟩
    · rw [e]
      exact ⟨fun g => absurd g (by decide), fun _ => ⟨rfl, fin τ' f⟩⟩
    · rw [e]
      refine ⟨fun _ => ⟨?_, fin τ' f⟩, fun g => absurd (nI_pos' hk) g⟩
      unfold orN
      rw [if_neg (nI_m1 hk)]
