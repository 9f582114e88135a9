/-! LAYER 2. Copies of sheets; slots. -/
theorem cPlaces {post : Int32 → St → Prop} {σ : St} {i m : Nat} {x y : Int32} (hm : m ≤ 24) (e : σ 22 i 1 = nI m) (hp : (∃ p q, x = nI p ∧ y = nI q ∧ p + q ≤ m) → post 1 σ) (hn : ¬ (∃ p q, x = nI p ∧ y = nI q ∧ p + q ≤ m) → post 0 σ) : w_X6_hasPlaces post σ i x y := by
  unfold w_X6_hasPlaces
  rw [e]
  refine ⟨fun c => hn (fun ⟨p, q, e1, e2, h⟩ => nI_pos (show p < 2 ^ 31 by omega) (e1 ▸ c)), fun c => ⟨fun c2 => hn (fun ⟨p, q, e1, e2, h⟩ => nI_pos (show q < 2 ^ 31 by omega) (e2 ▸ c2)), fun c2 => ?_⟩⟩
  obtain ⟨p, hp', rfl⟩ := nI_of c
  obtain ⟨q, hq', rfl⟩ := nI_of c2
  have inj : ∀ p' q', nI p = nI p' → nI q = nI q' → p' + q' ≤ m → p + q ≤ m := fun p' q' e1 e2 h => by
    rw [(nI_eq hp' (by omega)).1 e1, (nI_eq hq' (by omega)).1 e2]
    exact h
  refine ⟨fun c3 => hn (fun ⟨p', q', e1, e2, h⟩ => ?_), fun c3 => ?_⟩
  · have := inj p' q' e1 e2 h
    have := (nI_ltI (by omega) hp').1 c3
    omega
  · have hpm : p ≤ m := Nat.le_of_not_lt (fun g => c3 (nI_lt g hp'))
    rw [pk_sub hpm]
    refine ⟨fun c4 => hn (fun ⟨p', q', e1, e2, h⟩ => ?_), fun c4 => hp ⟨p, q, rfl, rfl, ?_⟩⟩
    · have := inj p' q' e1 e2 h
      have := (nI_ltI (by omega) hq').1 c4
      omega
    · have : ¬ m - p < q := fun g => c4 (nI_lt g hq')
      omega
theorem lgc_sum {p q m : Nat} (hp : p < 2 ^ 31) (hq : q < 2 ^ 31) (hm : m < 2 ^ 31) : (0 < lg_cmp ((nI p).toInt64 + (nI q).toInt64) (nI m).toInt64 ↔ m < p + q) ∧ (lg_cmp ((nI p).toInt64 + (nI q).toInt64) (nI m).toInt64 ≤ 0 ↔ p + q ≤ m) := by
  rw [nI_l hp, nI_l hq, nI_l hm, lN_add]
  unfold lg_cmp
  by_cases c : m < p + q
  · rw [if_pos (show lN (p + q) > lN m from (pk_lLT (by omega) (by omega)).2 c)]
    exact ⟨⟨fun _ => c, fun _ => by decide⟩, ⟨fun g => absurd g (by decide), fun g => by omega⟩⟩
  · rw [if_neg (show ¬ lN (p + q) > lN m from fun g => c ((pk_lLT (by omega) (by omega)).1 g))]
    refine ⟨⟨fun g => ?_, fun g => absurd g c⟩, ⟨fun _ => by omega, fun _ => ?_⟩⟩
    · split at g <;> exact absurd g (by decide)
    · split <;> decide
theorem uM_cp1 (post : Int32 → St → Prop) (q : Nat) : l_X10_copy_113 post (q + 1) = b_X10_copy_113 (l_X10_copy_113 post q) post := rfl
theorem uM_cp2 (post : Int32 → St → Prop) (q : Nat) : l_X10_copy_150 post (q + 1) = b_X10_copy_150 (l_X10_copy_150 post q) post := rfl
theorem mCopy {post : Int32 → St → Prop} {τ : St} {f t p a q : Nat} (hf : f < 4) (ht : t < 4) (h1 : p + q ≤ 24) (h2 : a + q ≤ 24) (h : ∀ τ' : St, (∀ j, τ' 6 0 j = if 24 * t + a ≤ j ∧ j < 24 * t + a + q then τ 6 0 (24 * f + p + (j - (24 * t + a))) else τ 6 0 j) → (∀ k x j, ¬ (k = 6 ∧ x = 0) → k ≠ 18 → τ' k x j = τ k x j) → post (nI q) τ') : ∃ n, l_X10_copy_113 post n τ (nI f) (nI p) (nI t) (nI a) (nI q) 0 := by
  refine ⟨q + 1, ?_⟩
  suffices H : ∀ r k (s : St), k + r = q → (∀ j, j < k → s 18 0 j = τ 6 0 (24 * f + p + j)) → (∀ k x j, k ≠ 18 → s k x j = τ k x j) → l_X10_copy_113 post (r + 1) s (nI f) (nI p) (nI t) (nI a) (nI q) (nI k) by
    exact H q 0 τ (by omega) (fun j hj => absurd hj (Nat.not_lt_zero _)) (fun _ _ _ _ => rfl)
  intro r
  induction r with
  | zero =>
    intro k s hk g1 g2
    obtain rfl : k = q := by omega
    rw [uM_cp1]
    unfold b_X10_copy_113
    refine ⟨fun _ => ⟨k + 1, ?_⟩, fun c => absurd (nI_le (Nat.le_refl _) (by omega)) c⟩
    suffices H2 : ∀ r i (s2 : St), i + r = k → (∀ j, s2 6 0 j = if 24 * t + a ≤ j ∧ j < 24 * t + a + i then τ 6 0 (24 * f + p + (j - (24 * t + a))) else τ 6 0 j) → (∀ k x j, ¬ (k = 6 ∧ x = 0) → s2 k x j = s k x j) → l_X10_copy_150 post (r + 1) s2 (nI t) (nI a) (nI k) (nI i) by
      exact H2 k 0 s (by omega) (fun j => by rw [if_neg (by omega)]; exact g2 6 0 j (by decide)) (fun _ _ _ _ => rfl)
    intro r
    induction r with
    | zero =>
      intro i s2 hi f1 f2
      obtain rfl : i = k := by omega
      rw [uM_cp2]
      unfold b_X10_copy_150
      exact ⟨fun _ => h s2 f1 (fun k x j c1 c2 => (f2 k x j c1).trans (g2 k x j c2)), fun c => absurd (nI_le (Nat.le_refl _) (by omega)) c⟩
    | succ r ih =>
      intro i s2 hi f1 f2
      rw [uM_cp2]
      unfold b_X10_copy_150
      rw [mi24, nI_add, cl (show i < 2 ^ 31 by omega), cl (show 24 * t + a + i < 2 ^ 31 by omega)]
      refine ⟨fun c => absurd c (nI_ge (by omega) (by omega)), fun _ => ⟨vp_in_nI (by omega) (by decide), vp_in_nI (by omega) (by decide), fun s4 e4 v ev => ?_⟩⟩
      subst ev
      rw [nI_1]
      refine ih (i + 1) s4 (by omega) (fun j => ?_) (fun k x j c => ?_)
      · rw [e4, wr_row]
        by_cases cj : j = 24 * t + a + i
        · rw [cj, pk_us, if_pos (by omega), f2 18 0 i (by omega), g1 i (by omega), show 24 * t + a + i - (24 * t + a) = i by omega]
        · rw [pk_un cj, f1 j]
          by_cases c2 : 24 * t + a ≤ j ∧ j < 24 * t + a + i
          · rw [if_pos c2, if_pos (by omega)]
          · rw [if_neg c2, if_neg (by omega)]
      · rw [e4, wr_off _ _ _ (by omega)]
        exact f2 k x j c
  | succ r ih =>
    intro k s hk g1 g2
    rw [uM_cp1]
    unfold b_X10_copy_113
    rw [mi24, nI_add, cl (show k < 2 ^ 31 by omega), cl (show 24 * f + p + k < 2 ^ 31 by omega)]
    refine ⟨fun c => absurd c (nI_ge (by omega) (by omega)), fun _ => ⟨vp_in_nI (by omega) (by decide), vp_in_nI (by omega) (by decide), fun s4 e4 v ev => ?_⟩⟩
    subst ev
    rw [nI_1]
    refine ih (k + 1) s4 (by omega) (fun j hj => ?_) (fun k2 x j c => ?_)
    · rw [e4, wr_row]
      by_cases cj : j = k
      · rw [cj, pk_us]
        exact g2 6 0 _ (by decide)
      · rw [pk_un cj]
        exact g1 j (by omega)
    · rw [e4, wr_off _ _ _ (by omega)]
      exact g2 k2 x j c
theorem sim33 (σ τ : St) (a0 a1 a2 a3 a4 : Int32) (hR : Rel σ τ) : w_X9_copy (fun r σ1 => w_X10_copy (fun r2 τ1 => r = r2 ∧ Rel σ1 τ1) τ a0 a1 a2 a3 a4) σ a0 a1 a2 a3 a4 := by
  rcases wv_10 a0 0 3 with ⟨e0, q0⟩ | ⟨e0, q0⟩
  · exact gSC0 e0 (gSM0 e0 ⟨rfl, hR⟩)
  rcases wv_10 a2 0 3 with ⟨e1, q1⟩ | ⟨e1, q1⟩
  · exact gSC1 e0 (gSC0' e1 (gSM1 e0 (gSM0' e1 ⟨rfl, hR⟩)))
  obtain ⟨f, _, hf, rfl⟩ := wv_n (a := 0) (b := 3) (by decide) (by decide) q0
  obtain ⟨t, _, ht, rfl⟩ := wv_n (a := 0) (b := 3) (by decide) (by decide) q1
  have hf4 : f < 4 := by omega
  have ht4 : t < 4 := by omega
  have hvf : vp_in (nI f) 4 := vp_in_nI hf4 (by decide)
  have hvt : vp_in (nI t) 4 := vp_in_nI ht4 (by decide)
  have cf : (nI f).toNatClampNeg = f := cl (by omega)
  have ct : (nI t).toNatClampNeg = t := cl (by omega)
  obtain ⟨n, m', T, -, -, -, -, hS, -⟩ := id hR
  obtain ⟨y1, y2, mf, y3, y4, y5, y6⟩ := hS f hf4
  obtain ⟨z1, z2, mt, z3, z4, z5, z6⟩ := hS t ht4
  have hgf := sort_ge y2
  have hgt := sort_ge z2
  refine gSC1 e0 (gSC1' e1 ?_)
  rw [cf, ct]
  refine ⟨hvf, hvt, ?_⟩
  by_cases cm : σ 22 f 0 = -1
  · refine cMiss1 cm ⟨fun _ => gSM1 e0 (gSM1' e1 ?_), fun c => absurd c (by decide)⟩
    rw [cf, ct, ← y1]
    exact ⟨hvf, fun _ => ⟨rfl, hR⟩, fun c => absurd (hgf.2.2 cm) c⟩
  have nf : ¬ σ 22 f 0 < 0 := fun c => cm (hgf.2.1 c)
  refine cMiss0 cm ⟨fun c => absurd rfl c, fun _ => ?_⟩
  by_cases cm2 : σ 22 t 0 = -1
  · refine cMiss1 cm2 ⟨fun c => absurd c (by decide), fun _ => gSM1 e0 (gSM1' e1 ?_)⟩
    rw [cf, ct, ← y1, ← z1]
    exact ⟨hvf, fun c => absurd c nf, fun _ => ⟨hvt, fun c => absurd cm2 (hgt.1.1 c), fun _ => ⟨rfl, hR⟩⟩⟩
  have nt : 0 ≤ σ 22 t 0 := hgt.1.2 cm2
  refine cMiss0 cm2 ⟨fun _ => ?_, fun c => absurd rfl c⟩
  by_cases cs : ¬ σ 22 f 0 = σ 22 t 0
  · refine ⟨fun c => absurd c cs, fun _ => gSM1 e0 (gSM1' e1 ?_)⟩
    rw [cf, ct, ← y1, ← z1]
    exact ⟨hvf, fun c => absurd c nf, fun _ => ⟨hvt, fun _ => ⟨hvf, hvt, fun c => absurd c cs, fun _ => ⟨rfl, hR⟩⟩, fun c => absurd nt c⟩⟩
  have cs : σ 22 f 0 = σ 22 t 0 := Classical.not_not.1 cs
  refine ⟨fun _ => ?_, fun c => absurd cs c⟩
  have mod : ∀ P : Int32 → St → Prop, ((a1 < 0 → P (-1000000013) τ) ∧ (¬ a1 < 0 → ((a3 < 0 → P (-1000000013) τ) ∧ (¬ a3 < 0 → ((a4 < 0 → P (-1000000013) τ) ∧ (¬ a4 < 0 → ((0 < lg_cmp (a1.toInt64 + a4.toInt64) (nI mf).toInt64 → P (-1000000013) τ) ∧ (¬ 0 < lg_cmp (a1.toInt64 + a4.toInt64) (nI mf).toInt64 → ((lg_cmp (a3.toInt64 + a4.toInt64) (nI mt).toInt64 ≤ 0 → ∃ n, l_X10_copy_113 P n τ (nI f) a1 (nI t) a3 a4 0) ∧ (¬ lg_cmp (a3.toInt64 + a4.toInt64) (nI mt).toInt64 ≤ 0 → P (-1000000013) τ)))))))))) → w_X10_copy P τ (nI f) a1 (nI t) a3 a4 := by
    intro P hP
    unfold w_X10_copy
    refine gSM1 e0 (gSM1' e1 ?_)
    rw [cf, ct, ← y1, ← z1, y5, z5]
    refine ⟨hvf, fun c => absurd c nf, fun _ => ⟨hvt, fun _ => ⟨hvf, hvt, fun _ => ⟨hP.1, fun c1 => ⟨(hP.2 c1).1, fun c2 => ⟨((hP.2 c1).2 c2).1, fun c3 => ⟨hvf, (((hP.2 c1).2 c2).2 c3).1, fun c4 => ⟨hvt, ((((hP.2 c1).2 c2).2 c3).2 c4)⟩⟩⟩⟩⟩, fun c => absurd cs c⟩, fun c => absurd nt c⟩⟩
  have bad : ∀ (P : Int32 → St → Prop), P (-1000000013) τ → (¬ (∃ p q, a1 = nI p ∧ a4 = nI q ∧ p + q ≤ mf) ∨ ¬ (∃ p q, a3 = nI p ∧ a4 = nI q ∧ p + q ≤ mt)) → w_X10_copy P τ (nI f) a1 (nI t) a3 a4 := by
    intro P hP hno
    refine mod P ⟨fun _ => hP, fun c1 => ⟨fun _ => hP, fun c2 => ⟨fun _ => hP, fun c3 => ⟨fun _ => hP, fun c4 => ⟨fun c5 => ?_, fun _ => hP⟩⟩⟩⟩⟩
    exfalso
    obtain ⟨p, hp, rfl⟩ := nI_of c1
    obtain ⟨a, ha, rfl⟩ := nI_of c2
    obtain ⟨q, hq, rfl⟩ := nI_of c3
    have g4 : ¬ mf < p + q := fun g => c4 ((lgc_sum hp hq (by omega)).1.2 g)
    have g5 := (lgc_sum ha hq (show mt < 2 ^ 31 by omega)).2.1 c5
    rcases hno with hno | hno
    · exact hno ⟨p, q, rfl, rfl, by omega⟩
    · exact hno ⟨a, q, rfl, rfl, g5⟩
  refine cPlaces y3 y4 (fun hp1 => ⟨fun c => absurd c (by decide), fun _ => cPlaces z3 z4 (fun hp2 => ⟨fun _ => ?_, fun c => absurd c (by decide)⟩) (fun hn2 => ⟨fun c => absurd rfl c, fun _ => bad _ ⟨rfl, hR⟩ (Or.inr hn2)⟩)⟩) (fun hn1 => ⟨fun _ => bad _ ⟨rfl, hR⟩ (Or.inl hn1), fun c => absurd rfl c⟩)
  obtain ⟨p, q, rfl, rfl, hpq⟩ := hp1
  obtain ⟨a, q', rfl, eq', haq⟩ := hp2
  have hqq : q = q' := (nI_eq (by omega) (by omega)).1 eq'
  subst hqq
  rw [cl (show p < 2 ^ 31 by omega), cl (show a < 2 ^ 31 by omega), cl (show q < 2 ^ 31 by omega)]
  refine ⟨⟨nI_pos (by omega), nI_pos (by omega), nI_pos (by omega), by omega, by omega⟩, fun s es => mod _ ⟨fun c => absurd c (nI_pos (by omega)), fun _ => ⟨fun c => absurd c (nI_pos (by omega)), fun _ => ⟨fun c => absurd c (nI_pos (by omega)), fun _ => ⟨fun c => ?_, fun _ => ⟨fun _ => ?_, fun c => ?_⟩⟩⟩⟩⟩⟩
  · have := (lgc_sum (show p < 2 ^ 31 by omega) (show q < 2 ^ 31 by omega) (show mf < 2 ^ 31 by omega)).1.1 c
    omega
  · refine mCopy hf4 ht4 (by omega) (by omega) (fun τ' t1 t2 => ⟨rfl, ?_⟩)
    subst es
    refine Rel_sheet ht4 hR (fun b c j h => by rw [wrR_off _ _ (by omega)]) (fun b c j h1 h2 h3 h4 => ?_) ⟨?_, ?_, mt, z3, ?_, ?_, fun j hj => ?_⟩
    · by_cases cb : b = 6 ∧ c = 0
      · obtain ⟨rfl, rfl⟩ := cb
        rw [t1 j, if_neg (by omega)]
      · exact t2 b c j cb h4
    · rw [wrR_off _ _ (by omega), t2 _ _ _ (by decide) (by decide)]; exact z1
    · rw [wrR_off _ _ (by omega)]; exact z2
    · rw [wrR_off _ _ (by omega)]; exact z4
    · rw [t2 _ _ _ (by decide) (by decide)]; exact z5
    · rw [wrR_row, t1]
      by_cases cj : a ≤ j ∧ j < a + q
      · rw [pk_cpy_in cj.1 cj.2, if_pos (by omega), y6 _ (by omega)]
        congr 1
        omega
      · rw [pk_cpy_out (by omega), if_neg (by omega)]
        exact z6 j hj
  · exact absurd haq (fun g => c ((lgc_sum (show a < 2 ^ 31 by omega) (show q < 2 ^ 31 by omega) (show mt < 2 ^ 31 by omega)).2.2 g))
theorem cBL6 {post : St → Prop} {σ : St} {i k : Nat} (hik : i ≠ k) (h : ∀ σ' : St, σ' 22 i 0 = σ 22 k 0 → σ' 22 i 1 = σ 22 k 1 → (∀ j, j < 24 → σ' 23 i j = σ 23 k j) → (∀ q a j, ¬ ((q = 22 ∨ q = 23) ∧ a = i) → σ' q a j = σ q a j) → post σ') : w_X6_becomeLike post σ i k := by
  unfold w_X6_becomeLike
  intro s1 e1 s2 e2
  refine ⟨by decide, fun s4 e4 => h s4 ?_ ?_ (fun j hj => ?_) (fun q a j hc => ?_)⟩
  · rw [e4, wrR_off _ _ (by omega), e2, e1]
    simp [wr]
  · rw [e4, wrR_off _ _ (by omega), e2, wr_row, pk_us, e1, wr_off _ _ _ (by omega)]
  · rw [e4, wrR_row, show (0 : Int32).toNatClampNeg = 0 by decide, show (24 : Int32).toNatClampNeg = 24 by decide, pk_cpy_in (by omega) (by omega), e2, wr_off _ _ _ (by omega), e1, wr_off _ _ _ (by omega)]
    congr 1
    omega
  · rw [e4, wrR_off _ _ (by omega), e2, wr_off _ _ _ (by omega), e1, wr_off _ _ _ (by omega)]
theorem uM_lay (post : Int32 → St → Prop) (q : Nat) : l_X10_lay_150 post (q + 1) = b_X10_lay_150 (l_X10_lay_150 post q) post := rfl
theorem mLay {post : Int32 → St → Prop} {τ : St} {i k : Nat} {v : Int32} (hi : i < 5) (hk : k < 4) (h : ∀ τ' : St, (∀ j, j < 24 → τ' 11 0 (24 * i + j) = τ 6 0 (24 * k + j)) → (∀ q a j, ¬ (q = 11 ∧ 24 * i ≤ j ∧ j < 24 * i + 24) → τ' q a j = τ q a j) → post v τ') : ∃ n, l_X10_lay_150 post n τ (nI i) (nI k) v 0 := by
  refine ⟨25, ?_⟩
  suffices H : ∀ q t (s : St), t + q = 24 → (∀ j, j < t → s 11 0 (24 * i + j) = τ 6 0 (24 * k + j)) → (∀ q a j, ¬ (q = 11 ∧ 24 * i ≤ j ∧ j < 24 * i + 24) → s q a j = τ q a j) → l_X10_lay_150 post (q + 1) s (nI i) (nI k) v (nI t) by
    exact H 24 0 τ (by omega) (fun j hj => absurd hj (Nat.not_lt_zero _)) (fun _ _ _ _ => rfl)
  intro q
  induction q with
  | zero =>
    intro t s ht g1 g2
    obtain rfl : t = 24 := by omega
    rw [uM_lay]
    unfold b_X10_lay_150
    exact ⟨fun _ => h s g1 g2, fun c => absurd (by decide) c⟩
  | succ q ih =>
    intro t s ht g1 g2
    rw [uM_lay]
    unfold b_X10_lay_150
    rw [mi24, mi24, cl (show 24 * k + t < 2 ^ 31 by omega), cl (show 24 * i + t < 2 ^ 31 by omega)]
    refine ⟨fun c => absurd c (nI_ge (b := 24) (by omega) (by decide)), fun _ => ⟨vp_in_nI (by omega) (by decide), vp_in_nI (by omega) (by decide), fun s4 e4 w ew => ?_⟩⟩
    subst ew
    rw [nI_1]
    refine ih (t + 1) s4 (by omega) (fun j hj => ?_) (fun q a j hc => ?_)
    · rw [e4, wr_row]
      by_cases cj : j = t
      · rw [cj, pk_us]
        exact g2 6 0 _ (by omega)
      · rw [pk_un (by omega)]
        exact g1 j (by omega)
    · rw [e4]
      simp only [wr]
      rw [if_neg (by omega)]
      exact g2 q a j hc
theorem mLayBad {P : Int32 → St → Prop} {τ : St} {x1 x2 x3 y : Int32} (hP : P (-1000000001) τ) (h : wv x1 0 4 = 0 ∨ y = 0) : b_X10_lay_39 P τ y x1 x2 x3 := by
  unfold b_X10_lay_39
  rcases wv_10 x1 0 4 with ⟨e0, q0⟩ | ⟨e0, q0⟩
  · exact gLM0 e0 hP
  · rcases h with h | h
    · rw [e0] at h
      exact absurd h (by decide)
    · exact gLM1 e0 ⟨fun c => absurd h c, fun _ => hP⟩
theorem sim34 (σ τ : St) (a0 a1 a2 : Int32) (hR : Rel σ τ) : w_X9_lay (fun r σ1 => w_X10_lay (fun r2 τ1 => r = r2 ∧ Rel σ1 τ1) τ a0 a1 a2) σ a0 a1 a2 := by
  obtain ⟨n, m', T, hH, hT, hRR⟩ := id hR
  obtain ⟨hm, hi, -⟩ := id hH
  have hn := hi.1.1.1
  have e50 : σ 5 0 0 = nI n := hi.1.1.2.1
  have e10 : τ 1 0 0 = nI n := mN hm hi.1.1
  rcases wv_10 a0 0 4 with ⟨e0, q0⟩ | ⟨e0, q0⟩
  · refine gLC0 e0 ?_
    have b39 : ∀ y, b_X10_lay_39 (fun r2 τ1 => (-1000000001 : Int32) = r2 ∧ Rel σ τ1) τ y a0 a1 a2 := fun y => mLayBad ⟨rfl, hR⟩ (Or.inl e0)
    have b22 : b_X10_lay_22 (fun r2 τ1 => (-1000000001 : Int32) = r2 ∧ Rel σ τ1) τ a0 a1 a2 := by
      unfold b_X10_lay_22
      exact ⟨fun _ => b39 0, fun _ => mW (lo := 0) (hi := 3) (by decide) (by decide) ⟨fun _ => b39 0, fun _ => b39 1⟩⟩
    exact ⟨fun _ => b39 1, fun _ => ⟨fun _ => b39 1, fun _ => ⟨fun _ => b22, fun _ => mRoof e10 ⟨fun _ => b39 1, fun _ => b22⟩⟩⟩⟩
  obtain ⟨i, _, hi4, rfl⟩ := wv_n (a := 0) (b := 4) (by decide) (by decide) q0
  have hi5 : i < 5 := by omega
  have hvi : vp_in (nI i) 5 := vp_in_nI hi5 (by decide)
  have ci : (nI i).toNatClampNeg = i := cl (by omega)
  refine gLC1 e0 ?_
  rcases wv_10 a1 0 3 with ⟨e1, q1⟩ | ⟨e1, q1⟩
  · refine gC0' e1 ?_
    have h0 : ¬ a1 = 0 := fun c => absurd q1 (by rw [c]; decide)
    have h1 : ¬ a1 = 1 := fun c => absurd q1 (by rw [c]; decide)
    have h2 : ¬ a1 = 2 := fun c => absurd q1 (by rw [c]; decide)
    have h3 : ¬ a1 = 3 := fun c => absurd q1 (by rw [c]; decide)
    have b39 : b_X10_lay_39 (fun r2 τ1 => (-1000000001 : Int32) = r2 ∧ Rel σ τ1) τ 0 (nI i) a1 a2 := mLayBad ⟨rfl, hR⟩ (Or.inr rfl)
    refine ⟨fun c => absurd c h0, fun _ => ⟨fun c => absurd c h3, fun _ => ⟨fun _ => ?_, fun c => absurd c h1⟩⟩⟩
    unfold b_X10_lay_22
    exact ⟨fun _ => b39, fun c => absurd c h2⟩
  obtain ⟨b, _, hb, rfl⟩ := wv_n (a := 0) (b := 3) (by decide) (by decide) q1
  obtain ⟨q, b1, b2, b3, -⟩ := hRR.2.2.2.1 i hi5
  refine gC1' e1 ?_
  -- what both do then
  have fin : ∀ (σ' : St) (h8 h9 : Int32) (P : Int32 → St → Prop), (P (nI q) (wr (wr (wr τ 7 0 i (nI b)) 8 0 i h8) 9 0 i h9)) → b ≠ 2 → b_X10_lay_129 P (wr (wr τ 7 0 i (nI b)) 8 0 i h8) h9 (nI i) (nI i) (nI b) a2 (nI q) := by
    intro σ' h8 h9 P hP hb2
    unfold b_X10_lay_129
    rw [ci]
    refine ⟨hvi, fun s es => ⟨fun _ => by rw [es]; exact hP, fun c => absurd ((nI_eq (b := 2) (by omega) (by decide)).1 c) hb2⟩⟩
  have b74 : ∀ P : Int32 → St → Prop, ((¬ nI b = 1 → b_X10_lay_109 P (wr τ 7 0 i (nI b)) a2 (nI i) (nI i) (nI b) a2 (nI q)) ∧ (nI b = 1 → w_X10_of (fun r6 s6 => b_X10_lay_109 P s6 r6 (nI i) (nI i) (nI b) a2 (nI q)) (wr τ 7 0 i (nI b)) a2 0)) → b_X10_lay_74 P τ (nI i) (nI b) a2 := by
    intro P hP
    unfold b_X10_lay_74
    rw [ci, b3]
    refine ⟨hvi, fun v ev => ⟨hvi, fun s es => ?_⟩⟩
    subst ev
    subst es
    exact hP
  have fr : ∀ (x y z : Int32) (q2 a j : Nat), ¬ (7 ≤ q2 ∧ q2 ≤ 10 ∧ j = i) → wr (wr (wr τ 7 0 i x) 8 0 i y) 9 0 i z q2 a j = τ q2 a j := by
    intro x y z q2 a j h
    simp only [wr]
    rw [if_neg (by omega), if_neg (by omega), if_neg (by omega)]
  rcases (show b = 0 ∨ b = 1 ∨ b = 2 ∨ b = 3 by omega) with rfl | rfl | rfl | rfl
  · refine ⟨fun _ => ?_, fun c => absurd c (by decide)⟩
    unfold b_X9_lay_32
    refine ⟨fun _ => ?_, fun c => absurd c (by decide)⟩
    unfold b_X9_lay_47
    refine ⟨fun _ => ?_, fun c => absurd c (by decide)⟩
    unfold b_X9_lay_67
    rw [ci, b2]
    refine ⟨hvi, fun v ev s es => ⟨fun _ => ⟨fun _ => ⟨fun _ => ?_, fun c => absurd c (by decide)⟩, fun c => absurd c (by decide)⟩, fun c => absurd c (by decide)⟩⟩
    subst ev
    subst es
    refine ⟨fun _ => ?_, fun c => absurd rfl c⟩
    unfold b_X10_lay_34 b_X10_lay_39
    refine gLM1 e0 ⟨fun _ => ⟨fun _ => b74 _ ⟨fun _ => ?_, fun c => absurd c (by decide)⟩, fun c => absurd c (by decide)⟩, fun c => absurd c (by decide)⟩
    unfold b_X10_lay_109
    rw [ci]
    refine ⟨hvi, fun s es => ⟨fun _ => ?_, fun c => absurd c (by decide)⟩⟩
    rw [es]
    refine fin σ a2 0 _ ⟨rfl, Rel_slot hi5 hR (fun q2 a j h1 h2 => by rw [wr_off _ _ _ (by omega)]) (fun q2 a j h1 h2 => fr _ _ _ q2 a j h1) ⟨0, by decide, by simp [wr, nI_0], by simp [wr, nI_0], fun c => absurd c (by decide), fun c => absurd c (by decide), fun c => absurd c (by decide)⟩⟩ (by decide)
  · refine ⟨fun c => absurd rfl c, fun _ => ?_⟩
    rcases wv_10 a2 0 (nI n - 1) with ⟨e2, q2⟩ | ⟨e2, q2⟩
    · refine gRC0 e50 e2 ⟨fun c => absurd c (by decide), fun _ => ⟨fun c => absurd c (by decide), fun _ => ⟨fun c => absurd rfl c, fun _ => gRM0' e10 e2 ?_⟩⟩⟩
      unfold b_X10_lay_22
      exact ⟨fun _ => mLayBad ⟨rfl, hR⟩ (Or.inr rfl), fun c => absurd c (by decide)⟩
    obtain ⟨r, hr, rfl⟩ := wv_r (by omega) q2
    have hr12 : r < 12 := by omega
    obtain ⟨⟨kd, hkd, ekd⟩, -, -⟩ := hi.2.1 r hr
    refine gRC1 e50 e2 ?_
    unfold b_X9_lay_32
    refine ⟨fun _ => ?_, fun c => absurd c (by decide)⟩
    unfold b_X9_lay_47
    refine ⟨fun _ => ?_, fun c => absurd c (by decide)⟩
    unfold b_X9_lay_67
    rw [ci, b2, cl (show r < 2 ^ 31 by omega)]
    have hvr : vp_in (nI r) 12 := vp_in_nI hr12 (by decide)
    refine ⟨hvi, fun v ev s es => ⟨fun c => absurd rfl c, fun _ => ⟨hvr, fun s11 e11 => ⟨hvr, fun s13 e13 => ?_⟩⟩⟩⟩
    subst ev
    have f6 : s 6 0 r = σ 6 0 r := by rw [es, wr_off _ _ _ (by omega)]
    have f7 : s11 7 0 r = σ 7 0 r := by rw [e11, wr_off _ _ _ (by omega), es, wr_off _ _ _ (by omega)]
    rw [f6] at e11
    rw [f7] at e13
    refine ⟨fun c => absurd c (by decide), fun _ => ⟨fun c => absurd c (by decide), fun _ => ⟨fun c => absurd rfl c, fun _ => gRM1' e10 e2 ?_⟩⟩⟩
    unfold b_X10_lay_34 b_X10_lay_39
    refine gLM1 e0 ⟨fun _ => ⟨fun _ => b74 _ ⟨fun c => absurd rfl c, fun _ => ?_⟩, fun c => absurd c (by decide)⟩, fun c => absurd c (by decide)⟩
    refine sOf0 (h := hlC σ 0) (by rw [wr_off _ _ _ (by omega)]; exact hm) hr12 ?_
    unfold b_X10_lay_109
    rw [ci]
    refine ⟨hvi, fun s9 e9 => ⟨fun c => absurd rfl c, fun _ => sX10_worth (h := hlC σ 0) (by rw [e9, wr_off _ _ _ (by omega), wr_off _ _ _ (by omega)]; exact hm) hr12 ?_⟩⟩
    rw [e9]
    refine fin σ (hlC σ 0 6 r) _ _ ⟨rfl, Rel_slot hi5 hR (fun q2 a j h1 h2 => ?_) (fun q2 a j h1 h2 => fr _ _ _ q2 a j h1) ⟨1, by decide, ?_, by simp [wr], fun _ => ⟨?_, ⟨kd, hkd, ?_⟩, ?_⟩, fun c => absurd c (by decide), fun c => absurd c (by decide)⟩⟩ (by decide)
    · rw [e13, wr_off _ _ _ (by omega), e11, wr_off _ _ _ (by omega), es, wr_off _ _ _ (by omega)]
    · rw [e13, e11, es]
      simp [wr]
    · rw [e13, e11]
      simp [wr, hlC]
    · rw [e13, e11]
      simp [wr]
      exact ekd
    · rw [e13, e11]
      simp [wr, hlC]
  · refine ⟨fun _ => ?_, fun c => absurd c (by decide)⟩
    unfold b_X9_lay_32
    refine ⟨fun c => absurd rfl c, fun _ => ?_⟩
    rcases wv_10 a2 0 3 with ⟨e2, q2⟩ | ⟨e2, q2⟩
    · refine gSC0' e2 ⟨fun c => absurd c (by decide), fun _ => ⟨fun c => absurd c (by decide), fun _ => ⟨fun _ => ?_, fun c => absurd c (by decide)⟩⟩⟩
      unfold b_X10_lay_22
      refine ⟨fun c => absurd rfl c, fun _ => gSM0 e2 ?_⟩
      exact mLayBad ⟨rfl, hR⟩ (Or.inr rfl)
    obtain ⟨k, _, hk, rfl⟩ := wv_n (a := 0) (b := 3) (by decide) (by decide) q2
    have hk4 : k < 4 := by omega
    have hvk : vp_in (nI k) 4 := vp_in_nI hk4 (by decide)
    have ck : (nI k).toNatClampNeg = k := cl (by omega)
    obtain ⟨z1, z2, m, z3, z4, z5, z6⟩ := hRR.2.2.1 k hk4
    have hg := sort_ge z2
    refine gSC1' e2 ?_
    unfold b_X9_lay_47
    rw [ck]
    refine ⟨fun c => absurd rfl c, fun _ => ⟨hvk, ?_⟩⟩
    have mod : ∀ P : Int32 → St → Prop, ((0 ≤ σ 22 k 0 → b_X10_lay_74 P τ (nI i) 2 (nI k)) ∧ (¬ 0 ≤ σ 22 k 0 → P (-1000000011) τ)) → w_X10_lay P τ (nI i) (nI 2) (nI k) := by
      intro P hP
      refine ⟨fun c => absurd c (by decide), fun _ => ⟨fun c => absurd c (by decide), fun _ => ⟨fun _ => ?_, fun c => absurd c (by decide)⟩⟩⟩
      unfold b_X10_lay_22
      refine ⟨fun c => absurd rfl c, fun _ => gSM1 e2 ?_⟩
      unfold b_X10_lay_34 b_X10_lay_39
      refine gLM1 e0 ?_
      rw [ck, ← z1]
      exact ⟨fun _ => ⟨fun c => absurd rfl c, fun _ => ⟨hvk, hP⟩⟩, fun c => absurd c (by decide)⟩
    by_cases cm : σ 22 k 0 = -1
    · exact cMiss1 cm ⟨fun c => absurd c (by decide), fun _ => mod _ ⟨fun c => absurd cm (hg.1.1 c), fun _ => ⟨rfl, hR⟩⟩⟩
    refine cMiss0 cm ⟨fun _ => ?_, fun c => absurd rfl c⟩
    unfold b_X9_lay_67
    rw [ci, ck, b2]
    refine ⟨hvi, fun v ev s es => ⟨fun _ => ⟨fun c => absurd rfl c, fun _ => ⟨hvk, cBL6 (by omega) (fun σ' g1 g2 g3 g4 => mod _ ⟨fun _ => b74 _ ⟨fun _ => ?_, fun c => absurd c (by decide)⟩, fun c => absurd (hg.1.2 cm) c⟩)⟩⟩, fun c => absurd c (by decide)⟩⟩
    subst ev
    unfold b_X10_lay_109
    rw [ci]
    refine ⟨hvi, fun s9 e9 => ⟨fun _ => ?_, fun c => absurd c (by decide)⟩⟩
    unfold b_X10_lay_129
    rw [ci, ck]
    refine ⟨hvi, fun s2 e2 => ⟨fun c => absurd rfl c, fun _ => ⟨hvk, hvi, fun s6 e6 => mLay hi5 hk4 (fun τ' t1 t2 => ⟨rfl, ?_⟩)⟩⟩⟩
    have h6 : ∀ q2 a j, ¬ (7 ≤ q2 ∧ q2 ≤ 10 ∧ j = i) → s6 q2 a j = τ q2 a j := by
      intro q2 a j h
      rw [e6]
      simp only [wr]
      rw [if_neg (by omega), e2]
      simp only [wr]
      rw [if_neg (by omega), e9]
      simp only [wr]
      rw [if_neg (by omega), if_neg (by omega)]
    have h5 : s2 5 0 k = nI m := by
      rw [e2, wr_off _ _ _ (by omega), e9, wr_off _ _ _ (by omega), wr_off _ _ _ (by omega)]
      exact z5
    refine Rel_slot hi5 hR (fun q2 a j h1 h2 => ?_) (fun q2 a j h1 h2 => ?_) ⟨2, by decide, ?_, ?_, fun c => absurd c (by decide), fun _ => ⟨m, z3, ?_, ?_, fun j hj => ?_⟩, fun c => absurd c (by decide)⟩
    · rw [g4 _ _ _ (by omega), es, wr_off _ _ _ (by omega)]
    · rw [t2 _ _ _ h2, h6 _ _ _ h1]
    · rw [g4 _ _ _ (by omega), es, wr_row, pk_us]
    · rw [t2 _ _ _ (by omega), e6, wr_off _ _ _ (by omega), e2, wr_off _ _ _ (by omega), e9, wr_off _ _ _ (by omega), wr_row, pk_us]
    · rw [g2, es, wr_off _ _ _ (by omega)]
      exact z4
    · rw [t2 _ _ _ (by omega), e6, wr_row, pk_us]
      exact h5
    · rw [g3 j (by omega), es, wr_off _ _ _ (by omega), t1 j (by omega), h6 _ _ _ (by omega)]
      exact z6 j hj
  · refine ⟨fun _ => ?_, fun c => absurd c (by decide)⟩
    unfold b_X9_lay_32
    refine ⟨fun _ => ?_, fun c => absurd c (by decide)⟩
    unfold b_X9_lay_47
    refine ⟨fun _ => ?_, fun c => absurd c (by decide)⟩
    unfold b_X9_lay_67
    rw [ci, b2]
    refine ⟨hvi, fun v ev s es => ⟨fun _ => ⟨fun _ => ⟨fun c => absurd rfl c, fun _ s7 e7 => ?_⟩, fun c => absurd c (by decide)⟩, fun c => absurd c (by decide)⟩⟩
    subst ev
    refine ⟨fun c => absurd c (by decide), fun _ => ⟨fun _ => ?_, fun c => absurd rfl c⟩⟩
    unfold b_X10_lay_34 b_X10_lay_39
    refine gLM1 e0 ⟨fun _ => ⟨fun _ => b74 _ ⟨fun _ => ?_, fun c => absurd c (by decide)⟩, fun c => absurd c (by decide)⟩, fun c => absurd c (by decide)⟩
    unfold b_X10_lay_109
    rw [ci]
    refine ⟨hvi, fun s9 e9 => ⟨fun _ => ?_, fun c => absurd c (by decide)⟩⟩
    rw [e9]
    refine fin σ a2 0 _ ⟨rfl, Rel_slot hi5 hR (fun q2 a j h1 h2 => ?_) (fun q2 a j h1 h2 => fr _ _ _ q2 a j h1) ⟨3, by decide, ?_, by simp [wr], fun c => absurd c (by decide), fun c => absurd c (by decide), fun _ => ?_⟩⟩ (by decide)
    · rw [e7, wr_off _ _ _ (by omega), es, wr_off _ _ _ (by omega)]
    · rw [e7, es]
      simp [wr]
    · rw [e7]
      simp [wr]
theorem sim35 (σ τ : St) (a0 a1 : Int32) (hR : Rel σ τ) : w_X9_ask (fun r σ1 => w_X10_ask (fun r2 τ1 => r = r2 ∧ Rel σ1 τ1) τ a0 a1) σ a0 a1 := by
  obtain ⟨n, m', T, hH, hT, hRR⟩ := id hR
  rcases wv_10 a0 0 4 with ⟨e0, q0⟩ | ⟨e0, q0⟩
  · exact gLC0 e0 (gLM0 e0 ⟨rfl, hR⟩)
  rcases wv_10 a1 0 5 with ⟨e1, q1⟩ | ⟨e1, q1⟩
  · exact gLC1 e0 (gKC0' e1 (gLM1 e0 (gM0' e1 ⟨rfl, hR⟩)))
  obtain ⟨i, _, hi4, rfl⟩ := wv_n (a := 0) (b := 4) (by decide) (by decide) q0
  obtain ⟨p, _, hp, rfl⟩ := wv_n (a := 0) (b := 5) (by decide) (by decide) q1
  have hi5 : i < 5 := by omega
  have hvi : vp_in (nI i) 5 := vp_in_nI hi5 (by decide)
  have ci : (nI i).toNatClampNeg = i := cl (by omega)
  obtain ⟨q, b1, b2, b3, b4, -⟩ := hRR.2.2.2.1 i hi5
  refine gLC1 e0 (gKC1' e1 ?_)
  rw [ci, b2]
  refine ⟨hvi, ?_⟩
  have mod : ∀ P : Int32 → St → Prop, ((¬ nI q = 0 → ((¬ nI q = 1 → P (-1000000012) τ) ∧ (nI q = 1 → w_X10_isOf (fun r10 s10 => (r10 = 0 → P (-1000000012) s10) ∧ (¬ r10 = 0 → (vp_in (nI i) 5 ∧ P (s10 9 0 i) s10))) τ (τ 8 0 i) (nI p)))) ∧ (nI q = 0 → P (-1000000011) τ)) → w_X10_ask P τ (nI i) (nI p) := by
    intro P hP
    unfold w_X10_ask
    refine gLM1 e0 (gM1' e1 ?_)
    rw [ci, b3]
    exact ⟨hvi, fun c => ⟨hvi, (hP.1 c).1, fun c2 => ⟨hvi, (hP.1 c).2 c2⟩⟩, hP.2⟩
  by_cases c0 : nI q = 0
  · exact ⟨fun c => absurd c0 c, fun _ => mod _ ⟨fun c => absurd c0 c, fun _ => ⟨rfl, hR⟩⟩⟩
  refine ⟨fun _ => ?_, fun c => absurd c c0⟩
  by_cases c1 : nI q = 1
  · have hq1 : q = 1 := (nI_eq (b := 1) (by omega) (by decide)).1 c1
    obtain ⟨g1, ⟨d, hd, g2⟩, g3⟩ := b4 hq1
    refine ⟨fun c => absurd c1 c, fun _ => ?_⟩
    rw [g2]
    refine sX2_isOne hd (by omega) ?_
    have hP : w_X10_isOf (fun r10 s10 => (r10 = 0 → (fun r2 τ1 => (if one d p = true then kWorth (nI d) (σ 24 i 2) else -1000000012) = r2 ∧ Rel σ τ1) (-1000000012) s10) ∧ (¬ r10 = 0 → (vp_in (nI i) 5 ∧ (fun r2 τ1 => (if one d p = true then kWorth (nI d) (σ 24 i 2) else -1000000012) = r2 ∧ Rel σ τ1) (s10 9 0 i) s10))) τ (τ 8 0 i) (nI p) := by
      rw [← g1, g2]
      refine sX10_isOf hd (by omega) ?_
      by_cases co : one d p = true
      · rw [if_pos co]
        refine ⟨fun c => absurd c (by decide), fun _ => ⟨hvi, ?_, hR⟩⟩
        rw [if_pos co, g3, g2]
      · rw [if_neg co]
        exact ⟨fun _ => ⟨if_neg co, hR⟩, fun c => absurd rfl c⟩
    have m2 := mod (fun r2 τ1 => (if one d p = true then kWorth (nI d) (σ 24 i 2) else -1000000012) = r2 ∧ Rel σ τ1) ⟨fun _ => ⟨fun c => absurd c1 c, fun _ => hP⟩, fun c => absurd c c0⟩
    by_cases co : one d p = true
    · rw [if_pos co] at m2 ⊢
      exact ⟨fun _ => sX2_worth (by rw [g2]; exact m2), fun c => absurd c (by decide)⟩
    · rw [if_neg co] at m2 ⊢
      exact ⟨fun c => absurd rfl c, fun _ => m2⟩
  · exact ⟨fun _ => mod _ ⟨fun _ => ⟨fun _ => ⟨rfl, hR⟩, fun c => absurd c c1⟩, fun c => absurd c c0⟩, fun c => absurd c c1⟩
theorem sim36 (σ τ : St) (a0 a1 : Int32) (hR : Rel σ τ) : w_X9_item (fun r σ1 => w_X10_item (fun r2 τ1 => r = r2 ∧ Rel σ1 τ1) τ a0 a1) σ a0 a1 := by
  obtain ⟨n, m', T, hH, hT, hRR⟩ := id hR
  rcases wv_10 a0 0 4 with ⟨e0, q0⟩ | ⟨e0, q0⟩
  · exact gLC0' e0 (gLM0' e0 ⟨rfl, hR⟩)
  obtain ⟨i, _, hi4, rfl⟩ := wv_n (a := 0) (b := 4) (by decide) (by decide) q0
  have hi5 : i < 5 := by omega
  have hvi : vp_in (nI i) 5 := vp_in_nI hi5 (by decide)
  have ci : (nI i).toNatClampNeg = i := cl (by omega)
  obtain ⟨q, b1, b2, b3, b4, b5, -⟩ := hRR.2.2.2.1 i hi5
  refine gLC1' e0 ?_
  rw [ci, b2]
  refine ⟨hvi, ?_⟩
  by_cases c0 : nI q = 0
  · refine ⟨fun c => absurd c0 c, fun _ => gLM1' e0 ?_⟩
    rw [ci, b3]
    exact ⟨hvi, fun c => absurd (c0.symm.trans c) (by decide), fun _ => ⟨hvi, fun c => absurd c0 c, fun _ => ⟨rfl, hR⟩⟩⟩
  refine ⟨fun _ => ?_, fun c => absurd c c0⟩
  by_cases c2 : nI q = 2
  · have hq2 : q = 2 := (nI_eq (b := 2) (by omega) (by decide)).1 c2
    obtain ⟨m, g1, g2, g3, g4⟩ := b5 hq2
    refine ⟨fun _ => cPlace g1 g2 ?_, fun c => absurd c2 c⟩
    have mod : ∀ P : Int32 → St → Prop, w_X10_isIn (fun r6 s6 => (¬ r6 = 0 → (vp_in (24 * nI i + a1) 120 ∧ (∀ v9 : Int32, v9 = s6 11 0 (24 * nI i + a1).toNatClampNeg → ((¬ v9 = -1000000005 → P v9 s6) ∧ (v9 = -1000000005 → P (-1000000012) s6))))) ∧ (r6 = 0 → P (-1000000013) s6)) τ a1.toInt64 0 ((nI m - 1).toInt64) → w_X10_item P τ (nI i) a1 := by
      intro P hP
      unfold w_X10_item
      refine gLM1' e0 ?_
      rw [ci, b3, g3]
      exact ⟨hvi, fun _ => ⟨hvi, hP⟩, fun c => absurd c2 c⟩
    rcases wv_10 a1 0 (nI m - 1) with ⟨e1, q1⟩ | ⟨e1, q1⟩
    · rw [e1]
      exact ⟨fun c => absurd rfl c, fun _ => mod _ (gM0' e1 ⟨rfl, hR⟩)⟩
    obtain ⟨p, hp, rfl⟩ := wv_r g1 q1
    rw [e1]
    refine ⟨fun _ => cIsNum (by omega) ?_, fun c => absurd c (by decide)⟩
    have mod2 : ∀ P : Int32 → St → Prop, ((¬ σ 23 (i + 4) p = -1000000005 → P (σ 23 (i + 4) p) τ) ∧ (σ 23 (i + 4) p = -1000000005 → P (-1000000012) τ)) → w_X10_item P τ (nI i) (nI p) := by
      intro P hP
      refine mod P (gM1' e1 ?_)
      rw [mi24, cl (show 24 * i + p < 2 ^ 31 by omega), ← g4 p hp]
      refine ⟨vp_in_nI (by omega) (by decide), fun v ev => ?_⟩
      subst ev
      exact hP
    by_cases cn : σ 23 (i + 4) p = NON
    · rw [if_pos cn]
      exact ⟨fun _ => mod2 _ ⟨fun c => absurd cn c, fun _ => ⟨rfl, hR⟩⟩, fun c => absurd rfl c⟩
    · rw [if_neg cn]
      refine ⟨fun c => absurd c (by decide), fun _ => ?_⟩
      rw [cl (show p < 2 ^ 31 by omega)]
      exact ⟨vp_in_nI (by omega) (by decide), mod2 _ ⟨fun _ => ⟨rfl, hR⟩, fun c => absurd c cn⟩⟩
  · refine ⟨fun c => absurd c c2, fun _ => gLM1' e0 ?_⟩
    rw [ci, b3]
    exact ⟨hvi, fun c => absurd c c2, fun _ => ⟨hvi, fun _ => ⟨rfl, hR⟩, fun c => absurd c c0⟩⟩
theorem sim37 (σ τ : St) (a0 a1 : Int32) (hR : Rel σ τ) : w_X9_rest (fun r σ1 => w_X10_rest (fun r2 τ1 => r = r2 ∧ Rel σ1 τ1) τ a0 a1) σ a0 a1 := by
  obtain ⟨n, m', T, hH, hT, hRR⟩ := id hR
  rcases wv_10 a0 0 4 with ⟨e0, q0⟩ | ⟨e0, q0⟩
  · exact gLC0' e0 (gLM0' e0 ⟨rfl, hR⟩)
  obtain ⟨i, _, hi4, rfl⟩ := wv_n (a := 0) (b := 4) (by decide) (by decide) q0
  have hi5 : i < 5 := by omega
  have hvi : vp_in (nI i) 5 := vp_in_nI hi5 (by decide)
  have ci : (nI i).toNatClampNeg = i := cl (by omega)
  obtain ⟨q, b1, b2, b3, b4, b5, b6⟩ := hRR.2.2.2.1 i hi5
  refine gLC1' e0 ?_
  rw [ci, b2]
  refine ⟨hvi, ?_⟩
  have mod : ∀ P : Int32 → St → Prop, ((nI q = 3 → ((¬ a1 = 0 → P (jrem (τ 8 0 i) a1) τ) ∧ (a1 = 0 → P (-1000000002) τ))) ∧ (¬ nI q = 3 → ((¬ nI q = 0 → P (-1000000012) τ) ∧ (nI q = 0 → P (-1000000011) τ)))) → w_X10_rest P τ (nI i) a1 := by
    intro P hP
    unfold w_X10_rest
    refine gLM1' e0 ?_
    rw [ci, b3]
    refine ⟨hvi, fun c => ⟨fun c2 => ⟨hvi, c2, fun v ev => ?_⟩, (hP.1 c).2⟩, fun c => ⟨hvi, hP.2 c⟩⟩
    subst ev
    exact (hP.1 c).1 c2
  by_cases c0 : nI q = 0
  · exact ⟨fun c => absurd c0 c, fun _ => mod _ ⟨fun c => absurd (c0.symm.trans c) (by decide), fun _ => ⟨fun c => absurd c0 c, fun _ => ⟨rfl, hR⟩⟩⟩⟩
  refine ⟨fun _ => ?_, fun c => absurd c c0⟩
  by_cases c3 : nI q = 3
  · have hq3 : q = 3 := (nI_eq (b := 3) (by omega) (by decide)).1 c3
    have g := b6 hq3
    refine ⟨fun _ => ⟨fun c => ⟨c, fun v ev => mod _ ⟨fun _ => ⟨fun _ => ⟨by rw [ev, g], hR⟩, fun c2 => absurd c2 c⟩, fun c2 => absurd c3 c2⟩⟩, fun c => mod _ ⟨fun _ => ⟨fun c2 => absurd c c2, fun _ => ⟨rfl, hR⟩⟩, fun c2 => absurd c3 c2⟩⟩, fun c => absurd c3 c⟩
  · exact ⟨fun c => absurd c c3, fun _ => mod _ ⟨fun c => absurd c c3, fun _ => ⟨fun _ => ⟨rfl, hR⟩, fun c => absurd c c0⟩⟩⟩
