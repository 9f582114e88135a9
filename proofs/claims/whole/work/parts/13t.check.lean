/-! LAYER 2. Like, check. -/
/-- at how many of its first places a row is where a roof is -/
def lk (sp : Int32 → Int32 → Int32 → Int32) (n m : Nat) (row : Nat → Int32) (h : Hl) (r : Nat) : Nat → Nat
  | 0 => 0
  | k + 1 => lk sp n m row h r k + (if row k = NON then 0 else if row k = passH sp n k m h 9 r then 1 else 0)
theorem lk_le (sp : Int32 → Int32 → Int32 → Int32) (n m : Nat) (row : Nat → Int32) (h : Hl) (r : Nat) : ∀ k, lk sp n m row h r k ≤ k := by
  intro k
  induction k with
  | zero => exact Nat.le_refl _
  | succ k ih =>
    unfold lk
    split
    · omega
    · split <;> omega
def bN (f : Nat → Nat) : Nat → Nat
  | 0 => 0
  | k + 1 => if f (k + 1) ≤ f (bN f k) then bN f k else k + 1
theorem bN_le (f : Nat → Nat) : ∀ k, bN f k ≤ k := by
  intro k
  induction k with
  | zero => exact Nat.le_refl _
  | succ k ih =>
    unfold bN
    split <;> omega
theorem uC_h61 (K : St → Nat → Int32 → Prop) (post : St → Prop) (q : Nat) : l_X9_countHits_61 K post (q + 1) = b_X9_countHits_61 K (l_X9_countHits_61 K post q) post := rfl
theorem uC_h39 (post : St → Prop) (q : Nat) : l_X9_countHits_39 post (q + 1) = b_X9_countHits_39 (l_X9_countHits_39 post q) post := rfl
theorem uC_h2 (post : St → Prop) (q : Nat) : l_X9_countHits_2 post (q + 1) = b_X9_countHits_2 (l_X9_countHits_2 post q) post := rfl
theorem uC_like (post : Int32 → St → Prop) (q : Nat) : l_X9_like_60 post (q + 1) = b_X9_like_60 (l_X9_like_60 post q) post := rfl
theorem uM_like (post : Int32 → St → Prop) (q : Nat) : l_X10_like_41 post (q + 1) = b_X10_like_41 (l_X10_like_41 post q) post := rfl
theorem uM_ones (post : Int32 → St → Prop) (q : Nat) : l_X10_likeOnes_9 post (q + 1) = b_X10_likeOnes_9 (l_X10_likeOnes_9 post q) post := rfl
/-- one place of the row: the hits of all roofs -/
theorem cHits1 {K : St → Nat → Int32 → Prop} {post : St → Prop} {σ : St} {i n len k : Nat} {sp : Int32 → Int32 → Int32 → Int32} {m : Nat} {row : Nat → Int32} {h : Hl} (hn : n ≤ 12) (hk : k < len) (hl : len ≤ 24) (hp : ∀ s : St, Th σ s → hlC s 2 = passH sp n k m h → s 5 2 7 = h 5 7 → (∀ j, j < n → s 2 0 j = nI (lk sp n m row h j (k + 1))) → K s i (nI (k + 1))) : ∀ (q r : Nat) (s : St), r + q = n → Th σ s → s 5 0 0 = nI n → s 23 i k = row k → hlC s 2 = passH sp n k m h → s 5 2 7 = h 5 7 → (∀ j, j < n → s 2 0 j = nI (if j < r then lk sp n m row h j (k + 1) else lk sp n m row h j k)) → l_X9_countHits_61 K post (q + 1) s i (nI k) (nI r) := by
  intro q
  induction q with
  | zero =>
    intro r s hr th g5 g23 gh g7 gj
    obtain rfl : r = n := by omega
    rw [uC_h61]
    unfold b_X9_countHits_61
    rw [g5]
    refine ⟨fun _ v ev => ?_, fun c => absurd (nI_le (Nat.le_refl _) (by omega)) c⟩
    subst ev
    rw [nI_1]
    refine hp s th gh g7 (fun j hj => ?_)
    have g := gj j hj
    rw [if_pos hj] at g
    exact g
  | succ q ih =>
    intro r s hr th g5 g23 gh g7 gj
    rw [uC_h61]
    unfold b_X9_countHits_61
    rw [g5]
    have lkr : lk sp n m row h r (k + 1) = lk sp n m row h r k + (if row k = NON then 0 else if row k = passH sp n k m h 9 r then 1 else 0) := rfl
    have same : (if row k = NON then 0 else if row k = passH sp n k m h 9 r then 1 else 0) = 0 → ∀ j, j < n → s 2 0 j = nI (if j < r + 1 then lk sp n m row h j (k + 1) else lk sp n m row h j k) := by
      intro e j hj
      have g := gj j hj
      by_cases cj : j = r
      · subst cj
        rw [if_neg (by omega)] at g
        rw [if_pos (by omega), lkr, e, Nat.add_zero]
        exact g
      · by_cases c2 : j < r
        · rw [if_pos c2] at g
          rw [if_pos (by omega)]
          exact g
        · rw [if_neg c2] at g
          rw [if_neg (by omega)]
          exact g
    refine ⟨fun c => absurd c (nI_ge (by omega) (by omega)), fun _ => cIsNum (by omega) ?_⟩
    rw [g23]
    by_cases g : row k = NON
    · rw [if_pos g]
      refine ⟨fun _ v ev => ?_, fun c => absurd rfl c⟩
      subst ev
      rw [nI_1]
      exact ih (r + 1) s (by omega) th g5 g23 gh g7 (same (by rw [if_pos g]))
    · rw [if_neg g]
      refine ⟨fun c => absurd c (by decide), fun _ => ?_⟩
      rw [cl (show k < 2 ^ 31 by omega), cl (show r < 2 ^ 31 by omega), g23]
      have e9 : s 9 2 r = passH sp n k m h 9 r := by rw [← gh]; rfl
      rw [e9]
      have hvr : vp_in (nI r) 12 := vp_in_nI (by omega) (by decide)
      refine ⟨vp_in_nI (by omega) (by decide), hvr, fun c v ev => ?_, fun c => ⟨hvr, hvr, fun s12 e12 v ev => ?_⟩⟩
      · subst ev
        rw [nI_1]
        exact ih (r + 1) s (by omega) th g5 g23 gh g7 (same (by rw [if_neg g, if_neg c]))
      · subst ev
        rw [nI_1]
        have gr := gj r (by omega)
        rw [if_neg (by omega)] at gr
        rw [gr, nI_1] at e12
        have w : ∀ a x j, a ≠ 2 → s12 a x j = s a x j := fun a x j ha => by rw [e12, wr_off _ _ _ (by omega)]
        have hh : hlC s12 2 = hlC s 2 := by
          funext a j
          simp only [hlC]
          by_cases ca : a = 16
          · rw [if_pos ca, if_pos ca]
          · rw [if_neg ca, if_neg ca]
            by_cases c2 : a = 2
            · subst c2
              rw [e12, wr_off _ _ _ (by omega)]
            · exact w a 2 j c2
        refine ih (r + 1) s12 (by omega) ⟨fun a x j c1 c2 c3 c4 c5 => (w a x j c1).trans (th.1 a x j c1 c2 c3 c4 c5), fun a j c1 c2 => (w a 0 j (by omega)).trans (th.2 a j c1 c2)⟩ ((w 5 0 0 (by decide)).trans g5) ((w 23 i k (by decide)).trans g23) (by rw [hh]; exact gh) ((w 5 2 7 (by decide)).trans g7) (fun j hj => ?_)
        rw [e12, wr_row]
        by_cases cj : j = r
        · subst cj
          rw [pk_us, if_pos (by omega), lkr, if_neg g, if_pos c]
        · rw [pk_un cj, gj j hj]
          by_cases c2 : j < r
          · rw [if_pos c2, if_pos (by omega)]
          · rw [if_neg c2, if_neg (by omega)]
theorem cHits {post : St → Prop} {σ : St} {i n m T len : Nat} {g : Nat → Int32} (hi : HI (hlC σ 0) n) (h55 : hlC σ 0 5 5 = nI m) (h57 : hlC σ 0 5 7 = nI T) (hm9 : m ≤ 9999) (hT14 : T ≤ 14) (hx : TX σ g T) (hlen : len ≤ 24) (e22 : σ 22 i 1 = nI len) (hp : ∀ (h1 : Hl) (s : St), EqH h1 (hlC σ 0) → Th σ s → (∀ j, j < n → s 2 0 j = nI (lk (spT σ T) n m (σ 23 i) h1 j len)) → post s) : w_X9_countHits post σ i := by
  have hn := hi.1.1.1
  have e50 : σ 5 0 0 = nI n := hi.1.1.2.1
  have th50 : ∀ s, Th σ s → s 5 0 0 = nI n := fun s th => (th.2 5 0 (by decide) (by decide)).trans e50
  have th22 : ∀ s, Th σ s → s 22 i 1 = nI len := fun s th => (th.1 22 i 1 (by decide) (by decide) (by decide) (by omega) (by omega)).trans e22
  have th23 : ∀ s j, Th σ s → s 23 i j = σ 23 i j := fun s j th => th.1 23 i j (by decide) (by decide) (by decide) (by omega) (by omega)
  refine ⟨n + 1, ?_⟩
  suffices H : ∀ q k (s : St), k + q = n → (∀ j, j < k → s 2 0 j = 0) → (∀ a x j, a ≠ 2 → s a x j = σ a x j) → l_X9_countHits_2 post (q + 1) s i (nI k) by
    exact H n 0 σ (by omega) (fun j hj => absurd hj (Nat.not_lt_zero _)) (fun _ _ _ _ => rfl)
  intro q
  induction q with
  | succ q ih =>
    intro k s hk g1 g2
    rw [uC_h2]
    unfold b_X9_countHits_2
    rw [g2 5 0 0 (by decide), e50, cl (show k < 2 ^ 31 by omega)]
    refine ⟨fun c => absurd c (nI_ge (by omega) (by omega)), fun _ => ⟨vp_in_nI (by omega) (by decide), fun s5 e5 v ev => ?_⟩⟩
    subst ev
    rw [nI_1]
    refine ih (k + 1) s5 (by omega) (fun j hj => ?_) (fun a x j ha => ?_)
    · rw [e5, wr_row]
      by_cases cj : j = k
      · rw [cj, pk_us]
      · rw [pk_un cj]
        exact g1 j (by omega)
    · rw [e5, wr_off _ _ _ (by omega)]
      exact g2 a x j ha
  | zero =>
    intro k s hk g1 g2
    obtain rfl : k = n := by omega
    rw [uC_h2]
    unfold b_X9_countHits_2
    rw [g2 5 0 0 (by decide), e50]
    refine ⟨fun _ => sX1_becomeLike (fun s1 eq1 f1 => ⟨len + 1, ?_⟩), fun c => absurd (nI_le (Nat.le_refl _) (by omega)) c⟩
    have th0 : Th σ s := ⟨fun a x j c1 _ _ _ _ => g2 a x j c1, fun a j c1 _ => g2 a 0 j (by omega)⟩
    have eq1 : EqH (hlC s1 2) (hlC σ 0) := fun a b hv => (eq1 a b hv).trans (Th_hl th0 a b hv)
    have th1 := Th_FH th0 f1
    have i1 : HI (hlC s1 2) k := HI_eq eq1 hi
    have q55 : hlC s1 2 5 5 = nI m := (eq1 5 5 (by unfold vc; omega)).trans h55
    have q57 : hlC s1 2 5 7 = nI T := (eq1 5 7 (by unfold vc; omega)).trans h57
    have hits1 : ∀ j, j < k → s1 2 0 j = 0 := fun j hj => (f1 2 0 j (by omega)).trans (g1 j hj)
    obtain ⟨h1, eh1⟩ : ∃ h1, h1 = hlC s1 2 := ⟨_, rfl⟩
    rw [← eh1] at eq1 i1 q55 q57
    suffices H : ∀ q t (s2 : St), t + q = len → Th σ s2 → hlC s2 2 = passH (spT σ T) k (t - 1) m h1 → s2 5 2 7 = h1 5 7 → (∀ j, j < k → s2 2 0 j = nI (lk (spT σ T) k m (σ 23 i) h1 j t)) → l_X9_countHits_39 post (q + 1) s2 i (nI t) by
      refine H len 0 s1 (by omega) th1 eh1.symm (by rw [eh1]; rfl) (fun j hj => ?_)
      rw [hits1 j hj]
      rfl
    intro q
    induction q with
    | zero =>
      intro t s2 ht th gh g7 gj
      obtain rfl : t = len := by omega
      rw [uC_h39]
      unfold b_X9_countHits_39
      rw [th22 s2 th]
      exact ⟨fun _ => hp h1 s2 eq1 th gj, fun c => absurd (nI_le (Nat.le_refl _) (by omega)) c⟩
    | succ q ih =>
      intro t s2 ht th gh g7 gj
      rw [uC_h39]
      unfold b_X9_countHits_39
      rw [th22 s2 th]
      have step : ∀ s3 : St, Th σ s3 → hlC s3 2 = passH (spT σ T) k t m h1 → s3 5 2 7 = h1 5 7 → (∀ j, j < k → s3 2 0 j = nI (lk (spT σ T) k m (σ 23 i) h1 j t)) → ∃ n3 : Nat, l_X9_countHits_61 (l_X9_countHits_39 post (q + 1)) post n3 s3 i (nI t) 0 := by
        intro s3 th3 gh3 g73 gj3
        refine ⟨k + 1, cHits1 (len := len) (sp := spT σ T) (m := m) (row := σ 23 i) (h := h1) hn (by omega) hlen (fun s4 th4 gh4 g74 gj4 => ih (t + 1) s4 (by omega) th4 (by rw [Nat.add_sub_cancel]; exact gh4) g74 gj4) k 0 s3 (by omega) th3 (th50 s3 th3) (th23 s3 t th3) gh3 g73 (fun j hj => ?_)⟩
        rw [if_neg (by omega)]
        exact gj3 j hj
      refine ⟨fun c => absurd c (nI_ge (by omega) (by omega)), fun _ => ⟨fun c => ?_, fun c => ?_⟩⟩
      · have t0 : t = 0 := Nat.le_zero.1 ((nI_leI (b := 0) (by omega) (by decide)).1 c)
        subst t0
        exact step s2 th gh g7 gj
      · have t0 : 0 < t := Nat.pos_of_ne_zero (fun e => c (by rw [e]; decide))
        have i2 : HI (passH (spT σ T) k (t - 1) m h1) k := HI_pass (spT_R σ T) _ _ _ i1
        refine sX1_pass (c := 1) (n := k) (m := m + (t - 1)) (by rw [gh]; exact i2.1.1) (by
          have x : hlC s2 2 5 5 = nI (m + (t - 1)) := by rw [gh]; exact pass_55 _ _ _ q55
          exact x) (by omega) (spiteTh hT14 hx th.1 (g7.trans q57)) (fun s3 e3 f3 => step s3 (Th_FR th f3) ?_ ((f3 5 2 7 (by decide) (by omega)).trans g7) (fun j hj => (f3 2 0 j (by decide) (by omega)).trans (gj j hj)))
        rw [e3, gh, passH, passH]
        have x := pass_succ (sp := spT σ T) (n := k) (t - 1) m h1
        rw [show t - 1 + 1 = t by omega] at x
        exact x.symm
theorem mOnes {P : Int32 → St → Prop} {σ τ t0 : St} {i n m T len r : Nat} {h1 : Hl} (hm : HM h1 (τ 1 0)) (hi : HI h1 n) (h55 : h1 5 5 = nI m) (hm9 : m ≤ 9999) (hT14 : T ≤ 14) (h11 : τ 1 0 1 = nI T) (hT : TX σ (τ 1 0) T) (hi4 : i < 4) (hlen : len ≤ 24) (e5 : τ 5 0 i = nI len) (e6 : ∀ j, j < len → σ 23 i j = τ 6 0 (24 * i + j)) (hr : r < 12) (em : ∀ k a j, k ≠ 14 → k ≠ 16 → k ≠ 17 → (k ≠ 1 ∨ 82 ≤ j ∨ j = 1) → t0 k a j = τ k a j) (e1 : ∀ j, t0 1 0 j = τ 1 0 j) (hp : ∀ t' : St, MTh τ t' → (∀ j, t' 1 0 j = τ 1 0 j) → P (nI (lk (spT σ T) n m (σ 23 i) h1 r len)) t') : w_X10_likeOnes P t0 (nI i) (nI r) := by
  unfold w_X10_likeOnes
  refine mBy (fun t1 hM1 g1 => ⟨len + 1, ?_⟩)
  have hM1' : MTh τ t1 := ⟨fun j hj => (hM1.1 j hj).trans (e1 j), fun k a j c1 c2 c3 c4 => (hM1.2 k a j c1 c2 c3 c4).trans (em k a j c1 c2 c3 c4)⟩
  have ci : (nI i).toNatClampNeg = i := cl (by omega)
  have hvi : vp_in (nI i) 4 := vp_in_nI hi4 (by decide)
  suffices H : ∀ q k (t : St), k + q = len → MTh τ t → HM (passH (spT σ T) n k m h1) (t 1 0) → l_X10_likeOnes_9 P (q + 1) t (nI i) (nI r) (nI (lk (spT σ T) n m (σ 23 i) h1 r k)) (nI k) by
    exact H len 0 t1 (by omega) hM1' (by rw [passH]; exact HM_of hm (fun j _ => (g1 j).trans (e1 j)))
  intro q
  induction q with
  | zero =>
    intro k t hk hM hmk
    obtain rfl : k = len := by omega
    rw [uM_ones]
    unfold b_X10_likeOnes_9
    rw [ci, hM.2 5 0 i (by decide) (by decide) (by decide) (by omega), e5]
    exact ⟨hvi, fun _ => mBack hM hp, fun c => absurd (nI_le (Nat.le_refl _) (by omega)) c⟩
  | succ q ih =>
    intro k t hk hM hmk
    rw [uM_ones]
    unfold b_X10_likeOnes_9
    rw [ci, hM.2 5 0 i (by decide) (by decide) (by decide) (by omega), e5, mi24, cl (show 24 * i + k < 2 ^ 31 by omega), hM.2 6 0 _ (by decide) (by decide) (by decide) (by omega), ← e6 k (by omega)]
    have ik := HI_pass (spT_R σ T) k m h1 hi
    have lkr : lk (spT σ T) n m (σ 23 i) h1 r (k + 1) = lk (spT σ T) n m (σ 23 i) h1 r k + (if σ 23 i k = NON then 0 else if σ 23 i k = passH (spT σ T) n k m h1 9 r then 1 else 0) := rfl
    have nx : ∀ y : Nat, y = (if σ 23 i k = NON then 0 else if σ 23 i k = passH (spT σ T) n k m h1 9 r then 1 else 0) → b_X10_likeOnes_58 (l_X10_likeOnes_9 P (q + 1)) P t (nI y) (nI (lk (spT σ T) n m (σ 23 i) h1 r k)) (nI i) (nI r) (nI k) := by
      intro y ey
      unfold b_X10_likeOnes_58
      intro v ev
      rw [nI_add, ey, ← lkr] at ev
      subst ev
      refine sX10_goesOn (m := m + k) (spiteMTh hT14 h11 hT hM) (spT_R σ T) hmk ik (pass_55 _ _ _ h55) (by omega) (fun t2 hm2 f2 w ew => ?_)
      subst ew
      rw [nI_1]
      exact ih (k + 1) t2 (by omega) (MTh_FM hM f2) (by rw [pass_succ]; exact hm2)
    refine ⟨hvi, fun c => absurd c (nI_ge (by omega) (by omega)), fun _ => ⟨vp_in_nI (by omega) (by decide), fun v ev => ?_⟩⟩
    subst ev
    refine ⟨fun c => ?_, fun c => sOf3 hmk hr ⟨fun c2 => ?_, fun c2 => ?_⟩⟩
    · unfold b_X10_likeOnes_57
      exact nx 0 (by rw [if_pos c])
    · unfold b_X10_likeOnes_57
      exact nx 0 (by rw [if_neg c, if_neg c2])
    · exact nx 1 (by rw [if_neg c, if_pos c2])
theorem sim21 (σ τ : St) (a0 a1 : Int32) (hR : Rel σ τ) : w_X9_like (fun r σ1 => w_X10_like (fun r2 τ1 => r = r2 ∧ Rel σ1 τ1) τ a0 a1) σ a0 a1 := by
  obtain ⟨n, m, T, hH, hT, hRR⟩ := id hR
  obtain ⟨hm, hi, h55, hm9, h57, hT14⟩ := id hH
  have hn := hi.1.1.1
  have e50 : σ 5 0 0 = nI n := hi.1.1.2.1
  have e10 : τ 1 0 0 = nI n := mN hm hi.1.1
  have h11 : τ 1 0 1 = nI T := (hm 5 7 (by unfold vm; omega)).trans h57
  rcases wv_10 a0 0 3 with ⟨e0, q0⟩ | ⟨e0, q0⟩
  · exact gSC0 e0 (gSM0 e0 ⟨rfl, hR⟩)
  rcases wv_10 a1 0 1 with ⟨e1, q1⟩ | ⟨e1, q1⟩
  · exact gSC1 e0 (gC0' e1 (gSM1 e0 (gM0' e1 ⟨rfl, hR⟩)))
  obtain ⟨i, _, hi3, rfl⟩ := wv_n (a := 0) (b := 3) (by decide) (by decide) q0
  have hi4 : i < 4 := by omega
  have hvi : vp_in (nI i) 4 := vp_in_nI hi4 (by decide)
  have ci : (nI i).toNatClampNeg = i := cl (by omega)
  obtain ⟨z1, z2, len, z3, z4, z5, z6⟩ := hRR.2.2.1 i hi4
  have hg := sort_ge z2
  refine gSC1 e0 (gC1' e1 ?_)
  rw [ci]
  refine ⟨hvi, ?_⟩
  have mod : ∀ P : Int32 → St → Prop, ((0 ≤ σ 22 i 0 → ∃ n7, l_X10_like_41 P n7 τ (nI i) a1 (-1) (-1) 0) ∧ (¬ 0 ≤ σ 22 i 0 → P (-1000000011) τ)) → w_X10_like P τ (nI i) a1 := by
    intro P hP
    unfold w_X10_like
    refine gSM1 e0 (gM1' e1 ?_)
    rw [ci, ← z1]
    exact ⟨hvi, hP⟩
  by_cases cm : σ 22 i 0 = -1
  · exact cMiss1 cm ⟨fun c => absurd c (by decide), fun _ => mod _ ⟨fun c => absurd cm (hg.1.1 c), fun _ => ⟨rfl, hR⟩⟩⟩
  have h0 : 0 ≤ σ 22 i 0 := hg.1.2 cm
  refine cMiss0 cm ⟨fun _ => ?_, fun c => absurd rfl c⟩
  rw [e50]
  by_cases cn : nI n = 0
  · refine ⟨fun c => absurd cn c, fun _ => mod _ ⟨fun _ => ⟨1, ?_⟩, fun c => absurd h0 c⟩⟩
    rw [uM_like]
    unfold b_X10_like_41
    rw [show (0 : Int32).toNatClampNeg = 0 by decide, e10, cn]
    exact ⟨vp_in_nI (n := 0) (by decide) (by decide), fun _ => ⟨fun c => absurd c (by decide), fun _ => ⟨rfl, hR⟩⟩, fun c => absurd (by decide) c⟩
  have hn0 : 0 < n := Nat.pos_of_ne_zero (fun e => cn (by rw [e]; rfl))
  refine ⟨fun _ => cHits hi h55 h57 hm9 hT14 hT z3 z4 (fun h1 s eq1 th gj => ⟨n, ?_⟩), fun c => absurd c cn⟩
  have i1 : HI h1 n := HI_eq eq1 hi
  have q55 : h1 5 5 = nI m := (eq1 5 5 (by unfold vc; omega)).trans h55
  obtain ⟨f, hf⟩ : ∃ f : Nat → Nat, f = fun r => lk (spT σ T) n m (σ 23 i) h1 r len := ⟨_, rfl⟩
  have fle : ∀ r, f r ≤ 24 := fun r => by
    rw [hf]
    exact Nat.le_trans (lk_le _ _ _ _ _ _ _) z3
  have modL : ∀ v, v = (if a1 = 0 then nI (bN f (n - 1)) else nI (f (bN f (n - 1)))) → w_X10_like (fun r2 τ1 => v = r2 ∧ Rel s τ1) τ (nI i) a1 := by
    intro v hv
    refine mod _ ⟨fun _ => ⟨n + 1, ?_⟩, fun c => absurd h0 c⟩
    suffices H : ∀ q k (t : St), k + q = n → (∀ k a j, k ≠ 14 → k ≠ 16 → k ≠ 17 → (k ≠ 1 ∨ 82 ≤ j ∨ j = 1) → t k a j = τ k a j) → (∀ j, t 1 0 j = τ 1 0 j) → l_X10_like_41 (fun r2 τ1 => v = r2 ∧ Rel s τ1) (q + 1) t (nI i) a1 (if k = 0 then -1 else nI (bN f (k - 1))) (if k = 0 then -1 else nI (f (bN f (k - 1)))) (nI k) by
      exact H n 0 τ (by omega) (fun _ _ _ _ _ _ _ => rfl) (fun _ => rfl)
    intro q
    induction q with
    | zero =>
      intro k t hk em g1
      obtain rfl : k = n := by omega
      rw [uM_like]
      unfold b_X10_like_41
      rw [show (0 : Int32).toNatClampNeg = 0 by decide, g1, e10, if_neg (by omega), if_neg (by omega)]
      have hb := bN_le f (k - 1)
      have hR2 : Rel s t := Rel_same hR th.1 th.2 (fun a x j c => em a x j (by omega) (by omega) (by omega) (by omega)) (fun j _ => g1 j)
      refine ⟨vp_in_nI (n := 0) (by decide) (by decide), fun _ => ⟨fun _ => ⟨fun c => ⟨by rw [hv, if_neg c], hR2⟩, fun c => ⟨by rw [hv, if_pos c], hR2⟩⟩, fun c => absurd (nI_pos' (by omega)) c⟩, fun c => absurd (nI_le (Nat.le_refl _) (by omega)) c⟩
    | succ q ih =>
      intro k t hk em g1
      rw [uM_like]
      unfold b_X10_like_41
      rw [show (0 : Int32).toNatClampNeg = 0 by decide, g1, e10]
      refine ⟨vp_in_nI (n := 0) (by decide) (by decide), fun c => absurd c (nI_ge (by omega) (by omega)), fun _ => ?_⟩
      refine mOnes (HM_eq hm eq1) i1 q55 hm9 hT14 h11 hT hi4 z3 z5 z6 (show k < 12 by omega) em g1 (fun t' hM' g' => ?_)
      have ef : lk (spT σ T) n m (σ 23 i) h1 k len = f k := by rw [hf]
      rw [ef]
      have nx := ih (k + 1) t' (by omega) hM'.2 g'
      rw [if_neg (by omega), if_neg (by omega), Nat.add_sub_cancel] at nx
      have fk := fle k
      unfold b_X10_like_74
      by_cases ck : k = 0
      · subst ck
        rw [if_pos rfl, if_pos rfl]
        refine ⟨fun c => absurd c (m1_lt (by omega)), fun _ => ⟨fun c => absurd c (m1_lt (by omega)), fun _ w ew => ?_⟩⟩
        subst ew
        rw [nI_1]
        exact nx
      · rw [if_neg ck, if_neg ck]
        obtain ⟨k', rfl⟩ : ∃ k', k = k' + 1 := ⟨k - 1, by omega⟩
        rw [bN] at nx
        rw [Nat.add_sub_cancel]
        have fb := fle (bN f k')
        by_cases c : f (k' + 1) ≤ f (bN f k')
        · rw [if_pos c] at nx
          have c' := nI_le c (show f (bN f k') < 2 ^ 31 by omega)
          refine ⟨fun _ => ⟨fun _ w ew => ?_, fun g => absurd c' g⟩, fun g => absurd c' g⟩
          subst ew
          rw [nI_1]
          exact nx
        · rw [if_neg c] at nx
          have c' : ¬ nI (f (k' + 1)) ≤ nI (f (bN f k')) := nI_ge (by omega) (by omega)
          refine ⟨fun g => absurd g c', fun _ => ⟨fun g => absurd g c', fun _ w ew => ?_⟩⟩
          subst ew
          rw [nI_1]
          exact nx
  have e5s : s 5 0 0 = nI n := (th.2 5 0 (by decide) (by decide)).trans e50
  have gf : ∀ j, j < n → s 2 0 j = nI (f j) := fun j hj => by rw [gj j hj, hf]
  suffices H : ∀ q k, k + 1 + q = n → l_X9_like_60 (fun r σ1 => w_X10_like (fun r2 τ1 => r = r2 ∧ Rel σ1 τ1) τ (nI i) a1) (q + 1) s a1 (nI (bN f k)) (nI (k + 1)) by
    have := H (n - 1) 0 (by omega)
    rw [show n - 1 + 1 = n by omega] at this
    exact this
  intro q
  induction q with
  | zero =>
    intro k hk
    rw [uC_like]
    unfold b_X9_like_60
    have hb := bN_le f k
    rw [e5s, cl (show bN f k < 2 ^ 31 by omega), gf _ (show bN f k < n by omega)]
    have kn : k = n - 1 := by omega
    refine ⟨fun _ => ⟨fun c => ⟨vp_in_nI (by omega) (by decide), modL _ ?_⟩, fun c => modL _ ?_⟩, fun c => absurd (nI_le (by omega) (by omega)) c⟩
    · rw [if_neg c, kn]
    · rw [if_pos c, kn]
  | succ q ih =>
    intro k hk
    rw [uC_like]
    unfold b_X9_like_60
    have hb := bN_le f k
    rw [e5s, cl (show bN f k < 2 ^ 31 by omega), gf _ (show bN f k < n by omega), cl (show k + 1 < 2 ^ 31 by omega), gf _ (show k + 1 < n by omega)]
    have nx := ih (k + 1) (by omega)
    rw [bN] at nx
    have f1 := fle (k + 1)
    have f2 := fle (bN f k)
    refine ⟨fun c => absurd c (nI_ge (by omega) (by omega)), fun _ => ⟨vp_in_nI (by omega) (by decide), vp_in_nI (by omega) (by decide), fun c w ew => ?_, fun c w ew => ?_⟩⟩
    · subst ew
      rw [if_pos ((nI_leI (by omega) (by omega)).1 c)] at nx
      rw [nI_1]
      exact nx
    · subst ew
      rw [if_neg (fun g => c (nI_le g (by omega)))] at nx
      rw [nI_1]
      exact nx
