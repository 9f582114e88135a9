/-! LAYER 2. Sheets and slots. -/
theorem cMiss0 {post : Int32 → St → Prop} {σ : St} {i : Nat} (h : ¬ σ 22 i 0 = -1) (hp : post 0 σ) : w_X6_isMissing post σ i := ⟨fun _ => hp, fun c => absurd c h⟩
theorem cMiss1 {post : Int32 → St → Prop} {σ : St} {i : Nat} (h : σ 22 i 0 = -1) (hp : post 1 σ) : w_X6_isMissing post σ i := ⟨fun c => absurd h c, fun _ => hp⟩
theorem cPlace {post : Int32 → St → Prop} {σ : St} {i m : Nat} {x : Int32} (hm : m ≤ 24) (e : σ 22 i 1 = nI m) (hp : post (wv x 0 (nI m - 1)) σ) : w_X6_hasPlace post σ i x := by
  unfold w_X6_hasPlace
  rw [e]
  rcases wv_10 x 0 (nI m - 1) with ⟨e0, q0⟩ | ⟨e0, q0⟩
  · rw [e0] at hp
    refine ⟨fun _ => hp, fun c => ⟨fun _ => hp, fun c2 => ?_⟩⟩
    exfalso
    rcases q0 with q0 | q0
    · exact c q0
    · obtain ⟨j, hj, rfl⟩ := nI_of c
      rcases Nat.eq_zero_or_pos m with h0 | h0
      · subst h0
        exact c2 (nI_le (Nat.zero_le _) hj)
      · rw [show nI m - 1 = nI (m - 1) from pk_sub (b := 1) h0] at q0
        have := (nI_ltI (by omega) hj).1 q0
        exact c2 (nI_le (by omega) hj)
  · rw [e0] at hp
    obtain ⟨q, hq, rfl⟩ := wv_r hm q0
    exact ⟨fun c => absurd c (nI_pos (by omega)), fun _ => ⟨fun c => absurd c (nI_ge hq (by omega)), fun _ => hp⟩⟩
theorem cIsNum {post : Int32 → St → Prop} {σ : St} {i q : Nat} (hq : q < 24) (hp : post (if σ 23 i q = NON then 0 else 1) σ) : w_X6_isNumber post σ i (nI q) := by
  unfold w_X6_isNumber
  rw [cl (show q < 2 ^ 31 by omega)]
  refine ⟨vp_in_nI hq (by decide), fun c => ?_, fun c => ?_⟩
  · rw [if_pos c] at hp
    exact hp
  · rw [if_neg c] at hp
    exact hp
theorem sort_ge {s : Int32} (h : s = -1 ∨ s = 0 ∨ s = 1) : (0 ≤ s ↔ ¬ s = -1) ∧ (s < 0 ↔ s = -1) := by
  rcases h with rfl | rfl | rfl <;> decide
theorem mi24 (k j : Nat) : (24 : Int32) * nI k + nI j = nI (24 * k + j) := by
  rw [show (24 : Int32) = nI 24 from rfl, pk_mul, nI_add]
theorem cRenew {post : St → Prop} {σ : St} {k n : Nat} {s : Int32} (hn : n ≤ 24) (h : ∀ σ' : St, σ' 22 k 0 = s → σ' 22 k 1 = nI n → (∀ j, j < n → σ' 23 k j = 0) → (∀ q a j, ¬ ((q = 22 ∨ q = 23) ∧ a = k) → σ' q a j = σ q a j) → post σ') : w_X6_renew post σ k s (nI n) := by
  unfold w_X6_renew
  intro s1 e1 s2 e2
  have f0 : s2 22 k 0 = s := by rw [e2, e1]; simp [wr]
  have f1 : s2 22 k 1 = nI n := by rw [e2, e1]; simp [wr]
  have f2 : ∀ q a j, ¬ ((q = 22 ∨ q = 23) ∧ a = k) → s2 q a j = σ q a j := fun q a j hc => by
    rw [e2, wr_off _ _ _ (by omega), e1, wr_off _ _ _ (by omega)]
  refine ⟨n + 1, ?_⟩
  suffices H : ∀ q t (s3 : St), t + q = n → s3 22 k 0 = s → s3 22 k 1 = nI n → (∀ j, j < t → s3 23 k j = 0) → (∀ q a j, ¬ ((q = 22 ∨ q = 23) ∧ a = k) → s3 q a j = σ q a j) → l_X6_renew_12 post (q + 1) s3 k (nI n) (nI t) by
    exact H n 0 s2 (by omega) f0 f1 (fun j hj => absurd hj (Nat.not_lt_zero _)) f2
  intro q
  induction q with
  | zero =>
    intro t s3 ht g0 g1 g2 g3
    obtain rfl : t = n := by omega
    show b_X6_renew_12 _ post s3 k _ _
    unfold b_X6_renew_12
    exact ⟨fun _ => h s3 g0 g1 g2 g3, fun c => absurd (nI_le (Nat.le_refl _) (by omega)) c⟩
  | succ q ih =>
    intro t s3 ht g0 g1 g2 g3
    show b_X6_renew_12 (l_X6_renew_12 post (q + 1)) post s3 k _ _
    unfold b_X6_renew_12
    rw [cl (show t < 2 ^ 31 by omega)]
    refine ⟨fun c => absurd c (nI_ge (by omega) (by omega)), fun _ => ⟨vp_in_nI (by omega) (by decide), fun s4 e4 v ev => ?_⟩⟩
    subst ev
    rw [nI_1]
    refine ih (t + 1) s4 (by omega) ?_ ?_ (fun j hj => ?_) (fun q a j hc => ?_)
    · rw [e4, wr_off _ _ _ (by omega)]; exact g0
    · rw [e4, wr_off _ _ _ (by omega)]; exact g1
    · rw [e4, wr_row]
      by_cases cj : j = t
      · rw [cj, pk_us]
      · rw [pk_un cj]
        exact g2 j (by omega)
    · rw [e4, wr_off _ _ _ (by omega)]
      exact g3 q a j hc
theorem mRenew {post : Int32 → St → Prop} {τ : St} {k : Nat} (hk : k < 4) (h : ∀ τ' : St, (∀ j, j < 24 → τ' 6 0 (24 * k + j) = 0) → (∀ q a j, ¬ (q = 6 ∧ 24 * k ≤ j ∧ j < 24 * k + 24) → τ' q a j = τ q a j) → post (τ' 5 0 k) τ') : ∃ n3 : Nat, l_X10_sheet_69 post n3 τ (nI k) 0 := by
  refine ⟨25, ?_⟩
  suffices H : ∀ q t (s3 : St), t + q = 24 → (∀ j, j < t → s3 6 0 (24 * k + j) = 0) → (∀ q a j, ¬ (q = 6 ∧ 24 * k ≤ j ∧ j < 24 * k + 24) → s3 q a j = τ q a j) → l_X10_sheet_69 post (q + 1) s3 (nI k) (nI t) by
    exact H 24 0 τ (by omega) (fun j hj => absurd hj (Nat.not_lt_zero _)) (fun _ _ _ _ => rfl)
  intro q
  induction q with
  | zero =>
    intro t s3 ht g2 g3
    obtain rfl : t = 24 := by omega
    show b_X10_sheet_69 _ post s3 _ _
    unfold b_X10_sheet_69
    rw [cl (show k < 2 ^ 31 by omega)]
    exact ⟨fun _ => ⟨vp_in_nI hk (by decide), h s3 g2 g3⟩, fun c => absurd (by decide) c⟩
  | succ q ih =>
    intro t s3 ht g2 g3
    show b_X10_sheet_69 (l_X10_sheet_69 post (q + 1)) post s3 _ _
    unfold b_X10_sheet_69
    rw [mi24, cl (show 24 * k + t < 2 ^ 31 by omega)]
    refine ⟨fun c => absurd c (nI_ge (b := 24) (by omega) (by decide)), fun _ => ⟨vp_in_nI (by omega) (by decide), fun s4 e4 v ev => ?_⟩⟩
    subst ev
    rw [nI_1]
    refine ih (t + 1) s4 (by omega) (fun j hj => ?_) (fun q a j hc => ?_)
    · rw [e4, wr_row]
      by_cases cj : j = t
      · rw [cj, pk_us]
      · rw [pk_un (by omega)]
        exact g2 j (by omega)
    · rw [e4]
      simp only [wr]
      rw [if_neg (by omega)]
      exact g3 q a j hc
theorem sort_in {x : Int32} (h : ¬ x < -1 ∧ ¬ 1 < x) : x = -1 ∨ x = 0 ∨ x = 1 := by
  by_cases c : x < 0
  · left
    refine Int32.le_antisymm ?_ (Int32.not_lt.1 h.1)
    rw [Int32.le_iff_toInt_le]
    rw [Int32.lt_iff_toInt_lt] at c
    have e1 : (-1 : Int32).toInt = -1 := by decide
    have e0 : (0 : Int32).toInt = 0 := by decide
    omega
  · obtain ⟨q, _, hq, rfl⟩ := wv_n (a := 0) (b := 1) (by decide) (by decide) ⟨c, h.2⟩
    rcases (show q = 0 ∨ q = 1 by omega) with rfl | rfl
    · exact Or.inr (Or.inl rfl)
    · exact Or.inr (Or.inr rfl)
theorem sim29 (σ τ : St) (a0 a1 a2 : Int32) (hR : Rel σ τ) : w_X9_sheet (fun r σ1 => w_X10_sheet (fun r2 τ1 => r = r2 ∧ Rel σ1 τ1) τ a0 a1 a2) σ a0 a1 a2 := by
  rcases wv_10 a0 0 3 with ⟨e0, q0⟩ | ⟨e0, q0⟩
  · exact gSC0 e0 (gSM0 e0 ⟨rfl, hR⟩)
  rcases wv_10 a1 (-1) 1 with ⟨e1, q1⟩ | ⟨e1, q1⟩
  · exact gSC1 e0 (gC0' e1 (gSM1 e0 (gM0 e1 ⟨rfl, hR⟩)))
  obtain ⟨k, _, hk, rfl⟩ := wv_n (a := 0) (b := 3) (by decide) (by decide) q0
  have hk4 : k < 4 := by omega
  have hvk : vp_in (nI k) 4 := vp_in_nI hk4 (by decide)
  have ck : (nI k).toNatClampNeg = k := cl (by omega)
  have hs := sort_in q1
  refine gSC1 e0 (gC1' e1 ?_)
  rw [ck]
  have fin : ∀ (n : Nat) (s : Int32) (σ' : St), n ≤ 24 → (s = -1 ∨ s = 0 ∨ s = 1) → σ' 22 k 0 = s → σ' 22 k 1 = nI n → (∀ j, j < n → σ' 23 k j = 0) → (∀ q a j, ¬ ((q = 22 ∨ q = 23) ∧ a = k) → σ' q a j = σ q a j) → b_X10_sheet_65 (fun r2 τ1 => nI n = r2 ∧ Rel σ' τ1) (wr τ 4 0 k s) (nI n) (nI k) (nI k) := by
    intro n s σ' hn hs g0 g1 g2 g3
    unfold b_X10_sheet_65
    rw [ck]
    refine ⟨hvk, fun s2 es2 => mRenew hk4 (fun τ' t1 t2 => ?_)⟩
    have e5 : τ' 5 0 k = nI n := by rw [t2 _ _ _ (by omega), es2, wr_row, pk_us]
    have e4 : τ' 4 0 k = s := by rw [t2 _ _ _ (by omega), es2, wr_off _ _ _ (by omega), wr_row, pk_us]
    refine ⟨e5.symm, Rel_sheet hk4 hR g3 (fun q a j h1 h2 h3 h4 => ?_) ⟨g0.trans e4.symm, by rw [g0]; exact hs, n, hn, g1, e5, fun j hj => ?_⟩⟩
    · rw [t2 _ _ _ h3, es2]
      simp only [wr]
      rw [if_neg (by omega), if_neg (by omega)]
    · rw [g2 j hj, t1 j (by omega)]
  by_cases cm : a1 = -1
  · subst cm
    refine ⟨fun c => absurd rfl c, fun _ => ⟨hvk, cRenew (n := 0) (by decide) (fun σ' g0 g1 g2 g3 => gSM1 e0 (gM1 e1 ⟨fun _ => ?_, fun c => absurd (by decide) c⟩))⟩⟩
    unfold b_X10_sheet_32 b_X10_sheet_44
    rw [ck]
    exact ⟨fun _ => ⟨hvk, fun s2 es2 => ⟨fun c => absurd c (by decide), fun _ => by rw [es2]; exact fin 0 (-1) σ' (by decide) (by decide) g0 g1 g2 g3⟩⟩, fun c => absurd (by decide) c⟩
  · have h0 : 0 ≤ a1 := (sort_ge hs).1.2 cm
    have hn0 : ¬ a1 < 0 := fun c => cm ((sort_ge hs).2.1 c)
    refine ⟨fun _ => ?_, fun c => absurd c cm⟩
    by_cases c24 : a2 ≤ 24
    · by_cases cn : 0 ≤ a2
      · obtain ⟨n, _, hn, rfl⟩ := wv_n (x := a2) (a := 0) (b := 24) (by decide) (by decide) ⟨Int32.not_lt.2 cn, Int32.not_lt.2 c24⟩
        refine ⟨fun _ => ⟨fun _ => ⟨hvk, cRenew hn (fun σ' g0 g1 g2 g3 => gSM1 e0 (gM1 e1 ⟨fun c => absurd c hn0, fun _ => ⟨fun _ => ?_, fun c => absurd c24 c⟩⟩))⟩, fun c => absurd cn c⟩, fun c => absurd c24 c⟩
        unfold b_X10_sheet_32 b_X10_sheet_44
        rw [ck]
        exact ⟨fun c => absurd c hn0, fun _ => ⟨fun _ => ⟨hvk, fun s2 es2 => ⟨fun _ => by rw [es2]; exact fin n a1 σ' hn hs g0 g1 g2 g3, fun c => absurd h0 c⟩⟩, fun c => absurd cn c⟩⟩
      · refine ⟨fun _ => ⟨fun c => absurd c cn, fun _ => gSM1 e0 (gM1 e1 ⟨fun c => absurd c hn0, fun _ => ⟨fun _ => ?_, fun c => absurd c24 c⟩⟩)⟩, fun c => absurd c24 c⟩
        unfold b_X10_sheet_32
        exact ⟨fun c => absurd c hn0, fun _ => ⟨fun c => absurd c cn, fun _ => ⟨rfl, hR⟩⟩⟩
    · exact ⟨fun c => absurd c c24, fun _ => gSM1 e0 (gM1 e1 ⟨fun c => absurd c hn0, fun _ => ⟨fun c => absurd c c24, fun _ => ⟨rfl, hR⟩⟩⟩)⟩
theorem sim30 (σ τ : St) (a0 a1 a2 : Int32) (hR : Rel σ τ) : w_X9_mark (fun r σ1 => w_X10_mark (fun r2 τ1 => r = r2 ∧ Rel σ1 τ1) τ a0 a1 a2) σ a0 a1 a2 := by
  rcases wv_10 a0 0 3 with ⟨e0, q0⟩ | ⟨e0, q0⟩
  · exact gSC0' e0 (gSM0' e0 ⟨rfl, hR⟩)
  obtain ⟨k, _, hk, rfl⟩ := wv_n (a := 0) (b := 3) (by decide) (by decide) q0
  have hk4 : k < 4 := by omega
  have hvk : vp_in (nI k) 4 := vp_in_nI hk4 (by decide)
  have ck : (nI k).toNatClampNeg = k := cl (by omega)
  obtain ⟨n, m', T, -, -, -, -, hS, -⟩ := id hR
  obtain ⟨z1, z2, m, z3, z4, z5, z6⟩ := hS k hk4
  have hg := sort_ge z2
  refine gSC1' e0 ?_
  rw [ck]
  refine ⟨hvk, ?_⟩
  by_cases cm : σ 22 k 0 = -1
  · refine cMiss1 cm ⟨fun c => absurd c (by decide), fun _ => gSM1' e0 ?_⟩
    rw [ck, ← z1]
    exact ⟨hvk, fun c => absurd cm (hg.1.1 c), fun _ => ⟨rfl, hR⟩⟩
  have h0 : 0 ≤ σ 22 k 0 := hg.1.2 cm
  refine cMiss0 cm ⟨fun _ => cPlace z3 z4 ?_, fun c => absurd rfl c⟩
  have mod : ∀ P : Int32 → St → Prop, w_X10_isIn (fun r6 s6 => (¬ r6 = 0 → (vp_in (nI k) 4 ∧ ((¬ s6 4 0 k = 0 → b_X10_mark_63 P s6 (nI k) a1 a2) ∧ (s6 4 0 k = 0 → ((¬ a2 = -1000000005 → b_X10_mark_63 P s6 (nI k) a1 a2) ∧ (a2 = -1000000005 → P (-1000000012) s6)))))) ∧ (r6 = 0 → P (-1000000013) s6)) τ a1.toInt64 0 ((nI m - 1).toInt64) → w_X10_mark P τ (nI k) a1 a2 := by
    intro P hP
    unfold w_X10_mark
    refine gSM1' e0 ?_
    rw [ck, z5, ← z1]
    exact ⟨hvk, fun _ => ⟨hvk, hP⟩, fun c => absurd h0 c⟩
  rcases wv_10 a1 0 (nI m - 1) with ⟨e1, q1⟩ | ⟨e1, q1⟩
  · rw [e1]
    exact ⟨fun c => absurd rfl c, fun _ => mod _ (gM0' e1 ⟨rfl, hR⟩)⟩
  obtain ⟨p, hp, rfl⟩ := wv_r z3 q1
  have hp24 : p < 24 := by omega
  have cp : (nI p).toNatClampNeg = p := cl (by omega)
  rw [e1, cp]
  refine ⟨fun _ => ?_, fun c => absurd c (by decide)⟩
  have upd1 : ∀ (v : Int32), b_X10_mark_126 (fun r2 τ1 => (1 : Int32) = r2 ∧ Rel (wr σ 23 k p v) τ1) τ v (24 * nI k + nI p) := by
    intro v
    unfold b_X10_mark_126
    rw [mi24, cl (show 24 * k + p < 2 ^ 31 by omega)]
    refine ⟨vp_in_nI (by omega) (by decide), fun s2 e2 => ⟨rfl, ?_⟩⟩
    subst e2
    refine Rel_sheet hk4 hR (fun q a j h => by rw [wr_off _ _ _ (by omega)]) (fun q a j h1 h2 h3 h4 => ?_) ⟨?_, ?_, m, z3, ?_, ?_, fun j hj => ?_⟩
    · simp only [wr]
      rw [if_neg (by omega)]
    · rw [wr_off _ _ _ (by omega), wr_off _ _ _ (by omega)]; exact z1
    · rw [wr_off _ _ _ (by omega)]; exact z2
    · rw [wr_off _ _ _ (by omega)]; exact z4
    · rw [wr_off _ _ _ (by omega)]; exact z5
    · rw [wr_row, wr_row]
      by_cases cj : j = p
      · rw [cj, pk_us, pk_us]
      · rw [pk_un cj, pk_un (by omega)]
        exact z6 j hj
  rcases z2 with c | c | c
  · exact absurd c cm
  · refine ⟨fun g => absurd c g, fun _ => ⟨fun g => ⟨vp_in_nI hp24 (by decide), fun s es => mod _ (gM1' e1 ⟨hvk, fun g2 => absurd (z1.symm.trans c) g2, fun _ => ⟨fun _ => ?_, fun g2 => absurd g2 g⟩⟩)⟩, fun g => mod _ (gM1' e1 ⟨hvk, fun g2 => absurd (z1.symm.trans c) g2, fun _ => ⟨fun g2 => absurd g g2, fun _ => ⟨rfl, hR⟩⟩⟩)⟩⟩
    subst es
    unfold b_X10_mark_63
    rw [ck, ← z1, c]
    refine ⟨hvk, fun _ => ?_, fun g2 => absurd g2 (by decide)⟩
    unfold b_X10_mark_96
    rw [ck, ← z1, c]
    refine ⟨hvk, fun g2 => absurd rfl g2, fun _ => ?_⟩
    rw [sh16]
    exact upd1 _
  · have e41 : τ 4 0 k = 1 := z1.symm.trans c
    have tail : ∀ (h : b_X10_mark_63 (fun r2 τ1 => (1 : Int32) = r2 ∧ Rel (wr σ 23 k p a2) τ1) τ (nI k) (nI p) a2), b_X9_mark_92 (fun r σ1 => w_X10_mark (fun r2 τ1 => r = r2 ∧ Rel σ1 τ1) τ (nI k) (nI p) a2) σ (nI p) a2 k := by
      intro h
      unfold b_X9_mark_92
      rw [cp]
      refine ⟨vp_in_nI hp24 (by decide), fun s es => mod _ (gM1' e1 ⟨hvk, fun _ => ?_, fun g2 => absurd (g2.symm.trans e41) (by decide)⟩)⟩
      subst es
      exact h
    have ne0 : ¬ σ 22 k 0 = 0 := by rw [c]; decide
    refine ⟨fun _ => ⟨fun g => tail ?_, fun g => ?_⟩, fun g => absurd g ne0⟩
    · unfold b_X10_mark_63
      rw [ck, e41]
      refine ⟨hvk, fun g2 => absurd rfl g2, fun _ => ⟨fun _ => ?_, fun g2 => absurd g g2⟩⟩
      unfold b_X10_mark_96
      rw [ck, e41]
      exact ⟨hvk, fun _ => upd1 _, fun g2 => absurd g2 (by decide)⟩
    · rcases wv_10 a2 (-99999) 99999 with ⟨e2, q2⟩ | ⟨e2, q2⟩
      · refine gC0' e2 (mod _ (gM1' e1 ⟨hvk, fun _ => ?_, fun g2 => absurd (g2.symm.trans e41) (by decide)⟩))
        unfold b_X10_mark_63
        rw [ck, e41]
        exact ⟨hvk, fun g2 => absurd rfl g2, fun _ => ⟨fun g2 => absurd g2 g, fun _ => gM0' e2 ⟨rfl, hR⟩⟩⟩
      · refine gC1' e2 (tail ?_)
        unfold b_X10_mark_63
        rw [ck, e41]
        refine ⟨hvk, fun g2 => absurd rfl g2, fun _ => ⟨fun g2 => absurd g2 g, fun _ => gM1' e2 ?_⟩⟩
        unfold b_X10_mark_96
        rw [ck, e41]
        exact ⟨hvk, fun _ => upd1 _, fun g2 => absurd g2 (by decide)⟩
theorem uM_pour (post : Int32 → St → Prop) (q : Nat) : l_X10_pour_27 post (q + 1) = b_X10_pour_27 (l_X10_pour_27 post q) post := rfl
theorem uC_pour (post : Int32 → St → Prop) (q : Nat) : l_X9_pour_32 post (q + 1) = b_X9_pour_32 (l_X9_pour_32 post q) post := rfl
theorem uM_reads (post : Int32 → St → Prop) (q : Nat) : l_X10_reads_25 post (q + 1) = b_X10_reads_25 (l_X10_reads_25 post q) post := rfl
theorem uC_reads (post : Int32 → St → Prop) (q : Nat) : l_X9_reads_29 post (q + 1) = b_X9_reads_29 (l_X9_reads_29 post q) post := rfl
def pourH (row : Nat → Int32) : Nat → Hl → Hl
  | 0, h => h
  | t + 1, h => setH (pourH row t h) 8 t (if row t = NON then pourH row t h 8 t else heldV (row t))
def pourN (row : Nat → Int32) (h : Hl) : Nat → Int32
  | 0 => 0
  | t + 1 => pourN row h t + (if row t = NON then 0 else if heldV (row t) = pourH row t h 8 t then 0 else 1)
theorem setH_same (h : Hl) (k j : Nat) : setH h k j (h k j) = h := by
  funext a b
  simp only [setH]
  split
  · rename_i c
    rw [c.1, c.2]
  · rfl
theorem HI_pour (row : Nat → Int32) {h : Hl} {n : Nat} (hi : HI h n) : ∀ t, t ≤ n → HI (pourH row t h) n := by
  intro t
  induction t with
  | zero => intro _; exact hi
  | succ t ih =>
    intro ht
    have g := ih (by omega)
    unfold pourH
    by_cases c : row t = NON
    · rw [if_pos c, setH_same]
      exact g
    · rw [if_neg c]
      obtain ⟨q, hq, e⟩ := heldV_n (row t)
      rw [e]
      exact ⟨HO_set g.1 (by omega) (by decide) (by decide), HR_leak g.2 hq⟩
theorem pour_k (row : Nat → Int32) (h : Hl) (k j : Nat) (hk : k ≠ 8) : ∀ t, pourH row t h k j = h k j := by
  intro t
  induction t with
  | zero => rfl
  | succ t ih =>
    unfold pourH
    simp only [setH]
    rw [if_neg (by omega), ih]
theorem sim31 (σ τ : St) (a0 : Int32) (hR : Rel σ τ) : w_X9_pour (fun r σ1 => w_X10_pour (fun r2 τ1 => r = r2 ∧ Rel σ1 τ1) τ a0) σ a0 := by
  rcases wv_10 a0 0 3 with ⟨e0, q0⟩ | ⟨e0, q0⟩
  · exact gSC0' e0 (gSM0' e0 ⟨rfl, hR⟩)
  obtain ⟨k, _, hk, rfl⟩ := wv_n (a := 0) (b := 3) (by decide) (by decide) q0
  have hk4 : k < 4 := by omega
  have hvk : vp_in (nI k) 4 := vp_in_nI hk4 (by decide)
  have ck : (nI k).toNatClampNeg = k := cl (by omega)
  obtain ⟨n, m', T, hH, hT, hRR⟩ := id hR
  obtain ⟨hm, hi, h55, hm9, h57, hT14⟩ := id hH
  obtain ⟨z1, z2, m, z3, z4, z5, z6⟩ := hRR.2.2.1 k hk4
  have hn := hi.1.1.1
  have e50 : σ 5 0 0 = nI n := hi.1.1.2.1
  have hg := sort_ge z2
  refine gSC1' e0 ?_
  rw [ck]
  refine ⟨hvk, ?_⟩
  by_cases cm : σ 22 k 0 = -1
  · refine cMiss1 cm ⟨fun c => absurd c (by decide), fun _ => gSM1' e0 ?_⟩
    rw [ck, ← z1]
    exact ⟨hvk, fun c => absurd cm (hg.1.1 c), fun _ => ⟨rfl, hR⟩⟩
  have h0 : 0 ≤ σ 22 k 0 := hg.1.2 cm
  obtain ⟨c, hc1, hc2, hc3⟩ : ∃ c, c ≤ n ∧ c ≤ m ∧ (c = n ∨ c = m) := by
    by_cases g : n ≤ m
    · exact ⟨n, Nat.le_refl _, g, Or.inl rfl⟩
    · exact ⟨m, by omega, Nat.le_refl _, Or.inr rfl⟩
  refine cMiss0 cm ⟨fun _ => ⟨c + 1, ?_⟩, fun c => absurd rfl c⟩
  have mod : ∀ σ' : St, hlC σ' 0 = pourH (σ 23 k) c (hlC σ 0) → FR σ σ' 0 → w_X10_pour (fun r2 τ1 => pourN (σ 23 k) (hlC σ 0) c = r2 ∧ Rel σ' τ1) τ (nI k) := by
    intro σ' e f
    unfold w_X10_pour
    refine gSM1' e0 ?_
    rw [ck, ← z1]
    refine ⟨hvk, fun _ => ⟨c + 1, ?_⟩, fun c => absurd h0 c⟩
    suffices H : ∀ q t (t1 : St), t + q = c → HM (pourH (σ 23 k) t (hlC σ 0)) (t1 1 0) → FM τ t1 → l_X10_pour_27 (fun r2 τ1 => pourN (σ 23 k) (hlC σ 0) c = r2 ∧ Rel σ' τ1) (q + 1) t1 (nI k) (pourN (σ 23 k) (hlC σ 0) t) (nI t) by
      exact H c 0 τ (by omega) hm FM.rf
    intro q
    induction q with
    | zero =>
      intro t t1 ht hm1 f1
      obtain rfl : t = c := by omega
      rw [uM_pour]
      unfold b_X10_pour_27
      have e5 : t1 5 0 k = nI m := (f1 5 0 k (by decide) (by decide) (by omega)).trans z5
      have e10 : t1 1 0 0 = nI n := (hm1 5 0 (by unfold vm; omega)).trans ((pour_k _ _ _ _ (by decide) t).trans hi.1.1.2.1)
      rw [ck, e5, show (0 : Int32).toNatClampNeg = 0 by decide, e10]
      have fin : pourN (σ 23 k) (hlC σ 0) t = pourN (σ 23 k) (hlC σ 0) t ∧ Rel σ' t1 := by
        refine ⟨rfl, Rel_mk hH hT hRR (EC_FR (by decide) f) (EM_FM f1) (n' := n) (m' := m') ?_⟩
        rw [e]
        exact ⟨hm1, HI_pour _ hi t hc1, by rw [pour_k _ _ _ _ (by decide)]; exact h55, hm9, by rw [pour_k _ _ _ _ (by decide)]; exact h57, hT14⟩
      refine ⟨hvk, fun _ => fin, fun g => ⟨vp_in_nI (n := 0) (by decide) (by decide), fun _ => fin, fun g2 => ?_⟩⟩
      exfalso
      rcases hc3 with hc3 | hc3
      · exact g2 (nI_le (by omega) (by omega))
      · exact g (nI_le (by omega) (by omega))
    | succ q ih =>
      intro t t1 ht hm1 f1
      rw [uM_pour]
      unfold b_X10_pour_27
      have e5 : t1 5 0 k = nI m := (f1 5 0 k (by decide) (by decide) (by omega)).trans z5
      have e10 : t1 1 0 0 = nI n := (hm1 5 0 (by unfold vm; omega)).trans ((pour_k _ _ _ _ (by decide) t).trans hi.1.1.2.1)
      have e6 : t1 6 0 (24 * k + t) = σ 23 k t := (f1 6 0 _ (by decide) (by decide) (by omega)).trans (z6 t (by omega)).symm
      have e8 : t1 1 0 (10 + 4 * t + 2) = pourH (σ 23 k) t (hlC σ 0) 8 t := by
        have g := hm1 8 t (by unfold vm; omega)
        rw [mi8] at g
        exact g
      rw [ck, e5, show (0 : Int32).toNatClampNeg = 0 by decide, e10, mi24, cl (show 24 * k + t < 2 ^ 31 by omega), e6]
      refine ⟨hvk, fun g => absurd g (nI_ge (by omega) (by omega)), fun _ => ⟨vp_in_nI (n := 0) (by decide) (by decide), fun g => absurd g (nI_ge (by omega) (by omega)), fun _ => ⟨vp_in_nI (by omega) (by decide), fun v ev => ?_⟩⟩⟩
      subst ev
      have nx : ∀ y, y = (if σ 23 k t = NON then pourH (σ 23 k) t (hlC σ 0) 8 t else heldV (σ 23 k t)) → HM (pourH (σ 23 k) (t + 1) (hlC σ 0)) (wr t1 1 0 (10 + 4 * t + 2) y 1 0) ∧ FM τ (wr t1 1 0 (10 + 4 * t + 2) y) := by
        intro y ey
        refine ⟨?_, f1.tr (FM_wr (by omega) (by omega))⟩
        have g := HM_set (k := 8) (j := t) (v := y) hm1 (by unfold vm; omega)
        rw [mi8] at g
        rw [wr1]
        unfold pourH
        rw [← ey]
        exact g
      have pN : pourN (σ 23 k) (hlC σ 0) (t + 1) = pourN (σ 23 k) (hlC σ 0) t + (if σ 23 k t = NON then 0 else if heldV (σ 23 k t) = pourH (σ 23 k) t (hlC σ 0) 8 t then 0 else 1) := rfl
      refine ⟨fun g => sX10_held ?_, fun g => ?_⟩
      · obtain ⟨x1, x2⟩ := nx _ rfl
        rw [if_neg g] at x1 x2
        rw [if_neg g] at pN
        unfold b_X10_pour_90
        rw [show (2 : Int32) = nI 2 from rfl, mofx]
        refine sX10_changes (by omega) ?_
        rw [e8]
        refine ⟨fun g2 v1 ev1 v2 ev2 => ?_, fun g2 v1 ev1 v2 ev2 => ?_⟩
        · subst ev1
          subst ev2
          rw [if_neg g2] at pN
          rw [nI_1, ← pN]
          exact ih (t + 1) _ (by omega) x1 x2
        · subst ev1
          subst ev2
          rw [if_pos g2] at pN
          rw [nI_1, ← pN]
          exact ih (t + 1) _ (by omega) x1 x2
      · obtain ⟨x1, x2⟩ := nx _ rfl
        rw [if_pos g] at x1 x2
        rw [if_pos g] at pN
        unfold b_X10_pour_90
        rw [show (2 : Int32) = nI 2 from rfl, mofx, cl (show 10 + 4 * t + 2 < 2 ^ 31 by omega), e8]
        refine ⟨vp_in_nI (by omega) (by decide), sX10_changes (by omega) ?_⟩
        rw [e8]
        refine ⟨fun g2 => absurd rfl g2, fun _ v1 ev1 v2 ev2 => ?_⟩
        subst ev1
        subst ev2
        rw [nI_1, ← pN]
        exact ih (t + 1) _ (by omega) x1 x2
  suffices H : ∀ q t (s1 : St), t + q = c → hlC s1 0 = pourH (σ 23 k) t (hlC σ 0) → FR σ s1 0 → l_X9_pour_32 (fun r σ1 => w_X10_pour (fun r2 τ1 => r = r2 ∧ Rel σ1 τ1) τ (nI k)) (q + 1) s1 k (pourN (σ 23 k) (hlC σ 0) t) (nI t) by
    exact H c 0 σ (by omega) rfl FR.rf
  intro q
  induction q with
  | zero =>
    intro t s1 ht e f
    obtain rfl : t = c := by omega
    rw [uC_pour]
    unfold b_X9_pour_32
    have g50 : s1 5 0 0 = nI n := by
      have g : hlC s1 0 5 0 = pourH (σ 23 k) t (hlC σ 0) 5 0 := by rw [e]
      exact g.trans ((pour_k _ _ _ _ (by decide) t).trans hi.1.1.2.1)
    have g22 : s1 22 k 1 = nI m := (f 22 k 1 (by decide) (by omega)).trans z4
    rw [g50, g22]
    refine ⟨fun _ => mod s1 e f, fun g => ⟨fun _ => mod s1 e f, fun g2 => ?_⟩⟩
    exfalso
    rcases hc3 with hc3 | hc3
    · exact g (nI_le (by omega) (by omega))
    · exact g2 (nI_le (by omega) (by omega))
  | succ q ih =>
    intro t s1 ht e f
    rw [uC_pour]
    unfold b_X9_pour_32
    have g50 : s1 5 0 0 = nI n := by
      have g : hlC s1 0 5 0 = pourH (σ 23 k) t (hlC σ 0) 5 0 := by rw [e]
      exact g.trans ((pour_k _ _ _ _ (by decide) t).trans hi.1.1.2.1)
    have g22 : s1 22 k 1 = nI m := (f 22 k 1 (by decide) (by omega)).trans z4
    have g23 : s1 23 k t = σ 23 k t := f 23 k t (by decide) (by omega)
    have g8 : s1 8 0 t = pourH (σ 23 k) t (hlC σ 0) 8 t := by
      have g : hlC s1 0 8 t = pourH (σ 23 k) t (hlC σ 0) 8 t := by rw [e]
      exact g
    have pN : pourN (σ 23 k) (hlC σ 0) (t + 1) = pourN (σ 23 k) (hlC σ 0) t + (if σ 23 k t = NON then 0 else if heldV (σ 23 k t) = pourH (σ 23 k) t (hlC σ 0) 8 t then 0 else 1) := rfl
    have pH : pourH (σ 23 k) (t + 1) (hlC σ 0) = setH (pourH (σ 23 k) t (hlC σ 0)) 8 t (if σ 23 k t = NON then pourH (σ 23 k) t (hlC σ 0) 8 t else heldV (σ 23 k t)) := rfl
    rw [g50, g22]
    refine ⟨fun g => absurd g (nI_ge (by omega) (by omega)), fun _ => ⟨fun g => absurd g (nI_ge (by omega) (by omega)), fun _ => cIsNum (by omega) ?_⟩⟩
    rw [g23]
    by_cases g : σ 23 k t = NON
    · rw [if_pos g] at pN pH
      rw [setH_same] at pH
      rw [if_pos g]
      refine ⟨fun _ v ev => ?_, fun g2 => absurd rfl g2⟩
      subst ev
      rw [Int32.add_zero] at pN
      rw [nI_1, ← pN]
      exact ih (t + 1) s1 (by omega) (by rw [pH]; exact e) f
    · rw [if_neg g] at pN pH
      rw [if_neg g]
      refine ⟨fun g2 => absurd g2 (by decide), fun _ => ?_⟩
      rw [cl (show t < 2 ^ 31 by omega), g23]
      refine ⟨vp_in_nI (by omega) (by decide), sX9_heldWithin ⟨vp_in_nI (by omega) (by decide), fun g2 v ev => ?_, fun g2 => ⟨vp_in_nI (by omega) (by decide), fun s2 e2 v1 ev1 v2 ev2 => ?_⟩⟩⟩
      · subst ev
        rw [g8] at g2
        rw [if_pos g2, Int32.add_zero] at pN
        rw [nI_1, ← pN]
        refine ih (t + 1) s1 (by omega) ?_ f
        rw [pH, g2, setH_same]
        exact e
      · subst e2
        subst ev1
        subst ev2
        rw [g8] at g2
        rw [if_neg g2] at pN
        rw [nI_1, ← pN]
        refine ih (t + 1) _ (by omega) ?_ (f.tr (FR_wr (by decide) (by decide) (by omega)))
        rw [pH, hl_wr (by decide), e]
def rdF (row : Nat → Int32) (h : Hl) (n : Nat) : Nat → Nat → Int32
  | 0, _ => NON
  | m + 1, k => if row k = NON then rdF row h n m (k + 1) else if n ≤ k then nI k else if row k = h 9 k then rdF row h n m (k + 1) else nI k
theorem sim32 (σ τ : St) (a0 : Int32) (hR : Rel σ τ) : w_X9_reads (fun r σ1 => w_X10_reads (fun r2 τ1 => r = r2 ∧ Rel σ1 τ1) τ a0) σ a0 := by
  rcases wv_10 a0 0 3 with ⟨e0, q0⟩ | ⟨e0, q0⟩
  · exact gSC0' e0 (gSM0' e0 ⟨rfl, hR⟩)
  obtain ⟨k, _, hk, rfl⟩ := wv_n (a := 0) (b := 3) (by decide) (by decide) q0
  have hk4 : k < 4 := by omega
  have hvk : vp_in (nI k) 4 := vp_in_nI hk4 (by decide)
  have ck : (nI k).toNatClampNeg = k := cl (by omega)
  obtain ⟨n, m', T, hH, hT, hRR⟩ := id hR
  obtain ⟨hm, hi, h55, hm9, h57, hT14⟩ := id hH
  obtain ⟨z1, z2, m, z3, z4, z5, z6⟩ := hRR.2.2.1 k hk4
  have hn := hi.1.1.1
  have e50 : σ 5 0 0 = nI n := hi.1.1.2.1
  have e10 : τ 1 0 0 = nI n := mN hm hi.1.1
  have hg := sort_ge z2
  refine gSC1' e0 ?_
  rw [ck]
  refine ⟨hvk, ?_⟩
  by_cases cm : σ 22 k 0 = -1
  · refine cMiss1 cm ⟨fun c => absurd c (by decide), fun _ => gSM1' e0 ?_⟩
    rw [ck, ← z1]
    exact ⟨hvk, fun c => absurd cm (hg.1.1 c), fun _ => ⟨rfl, hR⟩⟩
  have h0 : 0 ≤ σ 22 k 0 := hg.1.2 cm
  refine cMiss0 cm ⟨fun _ => ⟨m + 1, ?_⟩, fun c => absurd rfl c⟩
  have c0 : (0 : Int32).toNatClampNeg = 0 := by decide
  have mod : w_X10_reads (fun r2 τ1 => rdF (σ 23 k) (hlC σ 0) n m 0 = r2 ∧ Rel σ τ1) τ (nI k) := by
    unfold w_X10_reads
    refine gSM1' e0 ?_
    rw [ck, ← z1]
    refine ⟨hvk, fun _ => ⟨m + 1, ?_⟩, fun c => absurd h0 c⟩
    suffices H : ∀ q t, t + q = m → rdF (σ 23 k) (hlC σ 0) n q t = rdF (σ 23 k) (hlC σ 0) n m 0 → l_X10_reads_25 (fun r2 τ1 => rdF (σ 23 k) (hlC σ 0) n m 0 = r2 ∧ Rel σ τ1) (q + 1) τ (nI k) (nI t) by
      exact H m 0 (by omega) rfl
    intro q
    induction q with
    | zero =>
      intro t ht er
      obtain rfl : t = m := by omega
      rw [uM_reads]
      unfold b_X10_reads_25
      rw [ck, z5]
      exact ⟨hvk, fun _ => ⟨er.symm, hR⟩, fun c => absurd (nI_le (Nat.le_refl _) (by omega)) c⟩
    | succ q ih =>
      intro t ht er
      rw [uM_reads]
      unfold b_X10_reads_25
      rw [ck, z5, mi24, cl (show 24 * k + t < 2 ^ 31 by omega), ← z6 t (by omega), c0, e10]
      rw [rdF] at er
      refine ⟨hvk, fun c => absurd c (nI_ge (by omega) (by omega)), fun _ => ⟨vp_in_nI (by omega) (by decide), fun v ev => ?_⟩⟩
      subst ev
      refine ⟨fun g w ew => ?_, fun g => ⟨vp_in_nI (n := 0) (by decide) (by decide), fun g2 => ?_, fun g2 => ?_⟩⟩
      · subst ew
        rw [if_pos g] at er
        rw [nI_1]
        exact ih (t + 1) (by omega) er
      · rw [if_neg g, if_pos ((nI_leI (by omega) (by omega)).1 g2)] at er
        exact ⟨er.symm, hR⟩
      · have ht12 : ¬ n ≤ t := fun x => g2 (nI_le x (by omega))
        rw [if_neg g, if_neg ht12] at er
        refine sOf3 hm (by omega) ⟨fun g3 w ew => ?_, fun g3 => ?_⟩
        · subst ew
          rw [if_pos g3] at er
          rw [nI_1]
          exact ih (t + 1) (by omega) er
        · rw [if_neg g3] at er
          exact ⟨er.symm, hR⟩
  suffices H : ∀ q t, t + q = m → rdF (σ 23 k) (hlC σ 0) n q t = rdF (σ 23 k) (hlC σ 0) n m 0 → l_X9_reads_29 (fun r σ1 => w_X10_reads (fun r2 τ1 => r = r2 ∧ Rel σ1 τ1) τ (nI k)) (q + 1) σ k (nI t) by
    exact H m 0 (by omega) rfl
  intro q
  induction q with
  | zero =>
    intro t ht er
    obtain rfl : t = m := by omega
    rw [uC_reads]
    unfold b_X9_reads_29
    rw [z4]
    refine ⟨fun _ => ?_, fun c => absurd (nI_le (Nat.le_refl _) (by omega)) c⟩
    rw [← er] at mod
    exact mod
  | succ q ih =>
    intro t ht er
    rw [uC_reads]
    unfold b_X9_reads_29
    rw [z4]
    rw [rdF] at er
    refine ⟨fun c => absurd c (nI_ge (by omega) (by omega)), fun _ => cIsNum (by omega) ?_⟩
    by_cases g : σ 23 k t = NON
    · rw [if_pos g] at er
      rw [if_pos g]
      refine ⟨fun _ v ev => ?_, fun c => absurd rfl c⟩
      subst ev
      rw [nI_1]
      exact ih (t + 1) (by omega) er
    · rw [if_neg g] at er
      rw [if_neg g]
      refine ⟨fun c => absurd c (by decide), fun _ => ?_⟩
      rw [e50, cl (show t < 2 ^ 31 by omega)]
      refine ⟨fun g2 => ?_, fun g2 => ?_⟩
      · rw [if_pos ((nI_leI (by omega) (by omega)).1 g2)] at er
        rw [← er] at mod
        exact mod
      · have ht12 : ¬ n ≤ t := fun x => g2 (nI_le x (by omega))
        rw [if_neg ht12] at er
        refine ⟨vp_in_nI (by omega) (by decide), vp_in_nI (by omega) (by decide), fun g3 v ev => ?_, fun g3 => ?_⟩
        · subst ev
          rw [if_pos (show σ 23 k t = hlC σ 0 9 t from g3)] at er
          rw [nI_1]
          exact ih (t + 1) (by omega) er
        · rw [if_neg (show ¬ σ 23 k t = hlC σ 0 9 t from g3)] at er
          rw [← er] at mod
          exact mod
