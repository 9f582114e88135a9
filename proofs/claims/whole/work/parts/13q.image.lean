/-! LAYER 2. Hills that are the same in their cells; images; what is laid by. -/
theorem eq_set {h h' : Hl} {k j : Nat} {v : Int32} (e : EqH h' h) : EqH (setH h' k j v) (setH h k j v) := by
  intro a b hv
  simp only [setH]
  split
  · rfl
  · exact e a b hv
theorem eq_loot {h h' : Hl} {t : Nat} (e : EqH h' h) (ht : t < 2) : ∀ k, k ≤ 12 → lootTo h' t k = lootTo h t k := by
  intro k
  induction k with
  | zero => intro _; rfl
  | succ k ih =>
    intro hk
    unfold lootTo
    rw [ih (by omega), e 9 k (by unfold vc; omega), e 13 t (by unfold vc; omega), e 6 k (by unfold vc; omega), e 7 k (by unfold vc; omega)]
theorem eq_free {h h' : Hl} (e : EqH h' h) : ∀ m b, b + m ≤ 12 → freeFrom h' b m = freeFrom h b m := by
  intro m
  induction m with
  | zero => intro b _; rfl
  | succ m ih =>
    intro b hb
    unfold freeFrom
    rw [e 12 b (by unfold vc; omega), ih _ (by omega)]
theorem eq_home {h h' : Hl} {t : Nat} (e : EqH h' h) (ht : t < 2) : homeV h' t = homeV h t := eq_free e 6 (6 * t) (by omega)
theorem eq_draw {h h' : Hl} (e : EqH h' h) : EqH (drawH h') (drawH h) ∧ drawV h' = drawV h := by
  have g := e 5 6 (by unfold vc; omega)
  unfold drawH drawV
  rw [g]
  exact ⟨eq_set e, rfl⟩
theorem eq_carry {sp : Int32 → Int32 → Int32 → Int32} {h h' : Hl} {r a : Nat} (e : EqH h' h) (hr : r < 12) : EqH (carryH sp h' r a) (carryH sp h r a) := by
  unfold carryH putH
  rw [e 9 r (by unfold vc; omega), e 8 r (by unfold vc; omega), e 7 r (by unfold vc; omega), e 5 5 (by unfold vc; omega), e 5 2 (by unfold vc; omega)]
  exact eq_set (eq_set (eq_set (eq_set (eq_set e))))
theorem eq_goOut {sp : Int32 → Int32 → Int32 → Int32} {h h' : Hl} {t n : Nat} (e : EqH h' h) (hs : HS h n) (ht : t < 2) : EqH (goOutH sp h' t n) (goOutH sp h t n) := by
  unfold goOutH
  obtain ⟨d1, v1⟩ := eq_draw e
  obtain ⟨d2, v2⟩ := eq_draw d1
  rw [eq_loot e ht n hs.1, eq_home e ht, v1, v2]
  split
  · exact e
  · split
    · exact e
    · unfold stealH
      split
      · exact d2
      · rename_i c1 c2 c3
        obtain ⟨k, _, hk, ek⟩ := (nthS_in _ 12 0 _).resolve_left c3
        rw [ek, cl (show k < 2 ^ 31 by omega)]
        obtain ⟨b, hb, e9⟩ := hs.2.2.1 k (by omega)
        have e9' : drawH (drawH h) 9 k = nI b := by simpa [drawH, setH] using e9
        rw [d2 9 k (by unfold vc; omega), e9', cl (show b < 2 ^ 31 by omega), d2 11 b (by unfold vc; omega), d2 5 3 (by unfold vc; omega)]
        split
        · exact eq_carry d2 (by omega)
        · exact eq_set d2
theorem eq_sum {f g : Nat → Int32} : ∀ n, (∀ k, k < n → f k = g k) → sumTo f n = sumTo g n := by
  intro n
  induction n with
  | zero => intro _; rfl
  | succ n ih =>
    intro h
    unfold sumTo
    rw [ih (fun k hk => h k (by omega)), h n (by omega)]
theorem eq_leaks {h h' : Hl} {n : Nat} (e : EqH h' h) (hn : n ≤ 12) : sumTo (h' 8) n = sumTo (h 8) n := eq_sum n (fun k hk => e 8 k (by unfold vc; omega))
theorem eq_rain {h h' : Hl} {n : Nat} (e : EqH h' h) (hn : n ≤ 12) : rainV h' n = rainV h n := by
  have e1 : dripsTo h' n = dripsTo h n := eq_sum n (fun k hk => by rw [e 6 k (by unfold vc; omega), e 8 k (by unfold vc; omega)])
  unfold rainV
  rw [e1]
  have key : ∀ m, m ≤ 12 → rainTo h' (dripsTo h n) m = rainTo h (dripsTo h n) m := by
    intro m
    induction m with
    | zero => intro _; rfl
    | succ m ih =>
      intro hm
      unfold rainTo
      rw [ih (by omega), e 10 m (by unfold vc; omega), e 12 m (by unfold vc; omega)]
  exact key 12 (Nat.le_refl _)
theorem eq_dryOf {h h' : Hl} {n t : Nat} (e : EqH h' h) (hs : HS h n) (ht : t < 2) : dryOf h' t = dryOf h t := by
  refine eq_sum 6 (fun j hj => ?_)
  show dryAt h' (6 * t + j) = dryAt h (6 * t + j)
  unfold dryAt
  rw [e 12 (6 * t + j) (by unfold vc; omega), e 10 (6 * t + j) (by unfold vc; omega)]
  rcases hs.2.2.2 (6 * t + j) (by omega) with g | ⟨k, hk, g⟩
  · rw [if_pos g, if_pos g]
  · rw [g, cl (show k < 2 ^ 31 by omega), e 6 k (by unfold vc; omega), e 7 k (by unfold vc; omega)]
theorem eq_night {sp : Int32 → Int32 → Int32 → Int32} {h h' : Hl} {n m : Nat} (e : EqH h' h) (hs : HS h n) : EqH (nightH sp h' n m) (nightH sp h n m) := by
  have e1 := eq_goOut (sp := sp) (t := m % 2) e hs (by omega)
  have hs1 : HS (goOutH sp h (m % 2) n) n := HS_goOut (by omega) hs
  have e2 := eq_goOut (sp := sp) (t := 1 - m % 2) e1 hs1 (by omega)
  unfold nightH
  refine eq_set ?_
  generalize goOutH sp (goOutH sp h' (m % 2) n) (1 - m % 2) n = g' at e2 ⊢
  generalize goOutH sp (goOutH sp h (m % 2) n) (1 - m % 2) n = g at e2 ⊢
  obtain ⟨d1, v1⟩ := eq_draw e2
  unfold wetH
  rw [e2 5 1 (by unfold vc; omega), v1, eq_rain d1 hs.1, d1 5 4 (by unfold vc; omega)]
  split
  · exact d1
  · exact eq_set d1
theorem eq_pass {sp : Int32 → Int32 → Int32 → Int32} {n : Nat} : ∀ (c m : Nat) (h h' : Hl), EqH h' h → HS h n → EqH (passH sp n c m h') (passH sp n c m h) := by
  intro c
  induction c with
  | zero => intro m h h' e _; rw [passH, passH]; exact e
  | succ c ih => intro m h h' e hs; rw [passH, passH]; exact ih _ _ _ (eq_night e hs) (HS_night hs)
theorem pass_succ {sp : Int32 → Int32 → Int32 → Int32} {n : Nat} : ∀ (c m : Nat) (h : Hl), passH sp n (c + 1) m h = nightH sp (passH sp n c m h) n (m + c) := by
  intro c
  induction c with
  | zero => intro m h; rw [passH, passH, passH, Nat.add_zero]
  | succ c ih =>
    intro m h
    rw [passH, ih (m + 1), passH, show m + 1 + c = m + (c + 1) by omega]
theorem spT_eq {σ s : St} {T : Nat} (c : EC σ s) : spT s T = spT σ T := by
  have e17 : ∀ t j, s 17 t j = σ 17 t j := fun t j => c 17 t j (by decide) (by decide) (by decide) (by omega) (by omega)
  have e18 : ∀ t, s 18 t = σ 18 t := fun t => funext (fun j => c 18 t j (by decide) (by decide) (by decide) (by omega) (by omega))
  unfold spT
  simp only [e17, e18]
theorem spiteTh {σ s : St} {g : Nat → Int32} {T : Nat} (hT : T ≤ 14) (hx : TX σ g T) (c : EC σ s) (h7 : s 5 2 7 = nI T) : SpiteAt s 2 12 (spT σ T) := by
  rw [← spT_eq c]
  exact spiteAt hT h7 (TX_eq hx (fun t j _ => c 17 t j (by decide) (by decide) (by decide) (by omega) (by omega)) (fun t _ => funext (fun j => c 18 t j (by decide) (by decide) (by decide) (by omega) (by omega))) (fun _ _ _ => rfl))
/-- the class' state while it thinks -/
def Th (σ s : St) : Prop := EC σ s ∧ ∀ k j, 5 ≤ k → k ≤ 13 → s k 0 j = σ k 0 j
theorem Th.rf {σ : St} : Th σ σ := ⟨EC.rf, fun _ _ _ _ => rfl⟩
theorem Th_FR {σ s s' : St} (h : Th σ s) (f : FR s s' 2) : Th σ s' := ⟨h.1.tr (EC_FR (by decide) f), fun k j h1 h2 => (f k 0 j (by omega) (by omega)).trans (h.2 k j h1 h2)⟩
theorem Th_FH {σ s s' : St} (h : Th σ s) (f : FH s s' 2) : Th σ s' := ⟨h.1.tr (EC_FH (by decide) f), fun k j h1 h2 => (f k 0 j (by omega)).trans (h.2 k j h1 h2)⟩
theorem Th_hl {σ s : St} (h : Th σ s) : EqH (hlC s 0) (hlC σ 0) := fun k j hv => by
  unfold vc at hv
  simp only [hlC]
  rw [if_neg (by omega), if_neg (by omega)]
  exact h.2 k j (by omega) (by omega)
theorem Th_wr {σ s : St} {k j : Nat} {v : Int32} (h : Th σ s) (h1 : 5 ≤ k) (h2 : k ≤ 13) : Th σ (wr s k 2 j v) := ⟨fun a b c c1 c2 c3 c4 c5 => (by rw [wr_off _ _ _ (by omega)]; exact h.1 a b c c1 c2 c3 c4 c5), fun a b c1 c2 => by rw [wr_off _ _ _ (by omega)]; exact h.2 a b c1 c2⟩
theorem hl_wr2 {s : St} {k j : Nat} {v : Int32} (hk : k ≠ 16) : hlC (wr s k 2 j v) 2 = setH (hlC s 2) k j v := hl_wr hk
/-- the model's state while it thinks -/
def MTh (τ t : St) : Prop := (∀ j, j < 82 → t 14 0 j = τ 1 0 j) ∧ (∀ k a j, k ≠ 14 → k ≠ 16 → k ≠ 17 → (k ≠ 1 ∨ 82 ≤ j ∨ j = 1) → t k a j = τ k a j)
theorem MTh_FM {τ t t' : St} (h : MTh τ t) (f : FM t t') : MTh τ t' := ⟨fun j hj => (f 14 0 j (by decide) (by decide) (by omega)).trans (h.1 j hj), fun k a j c1 c2 c3 c4 => (f k a j c2 c3 c4).trans (h.2 k a j c1 c2 c3 c4)⟩
theorem MTh_EM {τ t : St} (h : MTh τ t) : EM τ t := fun k a j c => h.2 k a j (by omega) (by omega) (by omega) (by omega)
theorem spiteMTh {σ τ t : St} {T : Nat} (hT : T ≤ 14) (h1 : τ 1 0 1 = nI T) (hx : TX σ (τ 1 0) T) (h : MTh τ t) : SpiteM t (spT σ T) :=
  spiteM hT ((h.2 1 0 1 (by decide) (by decide) (by decide) (by omega)).trans h1) (TX_eq hx (fun _ _ _ => rfl) (fun _ _ => rfl) (fun j hj _ => h.2 1 0 j (by decide) (by decide) (by decide) (by omega)))
theorem uM_by (post : St → Prop) (q : Nat) : l_X10_laysBy_2 post (q + 1) = b_X10_laysBy_2 (l_X10_laysBy_2 post q) post := rfl
theorem uM_back (post : St → Prop) (q : Nat) : l_X10_laysBack_2 post (q + 1) = b_X10_laysBack_2 (l_X10_laysBack_2 post q) post := rfl
theorem mBy {post : St → Prop} {τ : St} (h : ∀ t : St, MTh τ t → (∀ j, t 1 0 j = τ 1 0 j) → post t) : w_X10_laysBy post τ := by
  refine ⟨83, ?_⟩
  suffices H : ∀ q k (t : St), k + q = 82 → (∀ j, j < k → t 14 0 j = τ 1 0 j) → (∀ a b j, a ≠ 14 → t a b j = τ a b j) → l_X10_laysBy_2 post (q + 1) t (nI k) by
    exact H 82 0 τ (by omega) (fun j hj => absurd hj (Nat.not_lt_zero _)) (fun _ _ _ _ => rfl)
  intro q
  induction q with
  | zero =>
    intro k t hk g1 g2
    obtain rfl : k = 82 := by omega
    rw [uM_by]
    unfold b_X10_laysBy_2
    exact ⟨fun _ => h t ⟨g1, fun a b j c _ _ _ => g2 a b j c⟩ (fun j => g2 1 0 j (by decide)), fun c => absurd (by decide) c⟩
  | succ q ih =>
    intro k t hk g1 g2
    rw [uM_by]
    unfold b_X10_laysBy_2
    rw [cl (show k < 2 ^ 31 by omega)]
    refine ⟨fun c => absurd c (nI_ge (b := 82) (by omega) (by decide)), fun _ => ⟨vp_in_nI (by omega) (by decide), vp_in_nI (by omega) (by decide), fun s es v ev => ?_⟩⟩
    subst ev
    rw [nI_1]
    refine ih (k + 1) s (by omega) (fun j hj => ?_) (fun a b j c => ?_)
    · rw [es, wr_row]
      by_cases cj : j = k
      · rw [cj, pk_us]
        exact g2 1 0 k (by decide)
      · rw [pk_un cj]
        exact g1 j (by omega)
    · rw [es, wr_off _ _ _ (by omega)]
      exact g2 a b j c
theorem mBack {post : St → Prop} {τ t : St} (hM : MTh τ t) (h : ∀ t' : St, MTh τ t' → (∀ j, t' 1 0 j = τ 1 0 j) → post t') : w_X10_laysBack post t := by
  refine ⟨83, ?_⟩
  suffices H : ∀ q k (t1 : St), k + q = 82 → (∀ j, j < k → t1 1 0 j = τ 1 0 j) → (∀ a b j, a ≠ 1 ∨ b ≠ 0 ∨ 82 ≤ j → t1 a b j = t a b j) → l_X10_laysBack_2 post (q + 1) t1 (nI k) by
    exact H 82 0 t (by omega) (fun j hj => absurd hj (Nat.not_lt_zero _)) (fun _ _ _ _ => rfl)
  intro q
  induction q with
  | zero =>
    intro k t1 hk g1 g2
    obtain rfl : k = 82 := by omega
    rw [uM_back]
    unfold b_X10_laysBack_2
    have e1 : ∀ j, t1 1 0 j = τ 1 0 j := fun j => by
      by_cases c : j < 82
      · exact g1 j c
      · exact (g2 1 0 j (by omega)).trans (hM.2 1 0 j (by decide) (by decide) (by decide) (by omega))
    refine ⟨fun _ => h t1 ⟨fun j hj => (g2 14 0 j (by omega)).trans (hM.1 j hj), fun a b j c1 c2 c3 c4 => ?_⟩ e1, fun c => absurd (by decide) c⟩
    by_cases c5 : a = 1 ∧ b = 0
    · rw [c5.1, c5.2]
      exact e1 j
    · exact (g2 a b j (by omega)).trans (hM.2 a b j c1 c2 c3 c4)
  | succ q ih =>
    intro k t1 hk g1 g2
    rw [uM_back]
    unfold b_X10_laysBack_2
    rw [cl (show k < 2 ^ 31 by omega)]
    refine ⟨fun c => absurd c (nI_ge (b := 82) (by omega) (by decide)), fun _ => ⟨vp_in_nI (by omega) (by decide), vp_in_nI (by omega) (by decide), fun s es v ev => ?_⟩⟩
    subst ev
    rw [nI_1]
    refine ih (k + 1) s (by omega) (fun j hj => ?_) (fun a b j c => ?_)
    · rw [es, wr_row]
      by_cases cj : j = k
      · rw [cj, pk_us, g2 14 0 k (by omega)]
        exact hM.1 k (by omega)
      · rw [pk_un cj]
        exact g1 j (by omega)
    · rw [es]
      simp only [wr]
      rw [if_neg (by omega)]
      exact g2 a b j c
theorem uM_sa13 (post : St → Prop) (q : Nat) : l_X10_setAside_1_3_2 post (q + 1) = b_X10_setAside_1_3_2 (l_X10_setAside_1_3_2 post q) post := rfl
theorem mSa13 {post : St → Prop} {τ : St} (h : ∀ t : St, (∀ j, j < 2882 → t 3 0 j = τ 1 0 j) → (∀ a b j, ¬ (a = 3 ∧ b = 0 ∧ j < 2882) → t a b j = τ a b j) → post t) : w_X10_setAside_1_3 post τ := by
  refine ⟨2883, ?_⟩
  suffices H : ∀ q k (t : St), k + q = 2882 → (∀ j, j < k → t 3 0 j = τ 1 0 j) → (∀ a b j, ¬ (a = 3 ∧ b = 0 ∧ j < 2882) → t a b j = τ a b j) → l_X10_setAside_1_3_2 post (q + 1) t (nI k) by
    exact H 2882 0 τ (by omega) (fun j hj => absurd hj (Nat.not_lt_zero _)) (fun _ _ _ _ => rfl)
  intro q
  induction q with
  | zero =>
    intro k t hk g1 g2
    obtain rfl : k = 2882 := by omega
    rw [uM_sa13]
    unfold b_X10_setAside_1_3_2
    exact ⟨fun _ => h t g1 g2, fun c => absurd (by decide) c⟩
  | succ q ih =>
    intro k t hk g1 g2
    rw [uM_sa13]
    unfold b_X10_setAside_1_3_2
    rw [cl (show k < 2 ^ 31 by omega)]
    refine ⟨fun c => absurd c (nI_ge (b := 2882) (by omega) (by decide)), fun _ => ⟨vp_in_nI (by omega) (by decide), vp_in_nI (by omega) (by decide), fun s es v ev => ?_⟩⟩
    subst ev
    rw [nI_1]
    refine ih (k + 1) s (by omega) (fun j hj => ?_) (fun a b j c => ?_)
    · rw [es, wr_row]
      by_cases cj : j = k
      · rw [cj, pk_us]
        exact g2 1 0 k (by omega)
      · rw [pk_un cj]
        exact g1 j (by omega)
    · rw [es]
      simp only [wr]
      rw [if_neg (by omega)]
      exact g2 a b j c
theorem uM_sa21 (post : St → Prop) (q : Nat) : l_X10_setAside_2_1_2 post (q + 1) = b_X10_setAside_2_1_2 (l_X10_setAside_2_1_2 post q) post := rfl
theorem mSa21 {post : St → Prop} {τ : St} (h : ∀ t : St, (∀ j, j < 2882 → t 1 0 j = τ 2 0 j) → (∀ a b j, ¬ (a = 1 ∧ b = 0 ∧ j < 2882) → t a b j = τ a b j) → post t) : w_X10_setAside_2_1 post τ := by
  refine ⟨2883, ?_⟩
  suffices H : ∀ q k (t : St), k + q = 2882 → (∀ j, j < k → t 1 0 j = τ 2 0 j) → (∀ a b j, ¬ (a = 1 ∧ b = 0 ∧ j < 2882) → t a b j = τ a b j) → l_X10_setAside_2_1_2 post (q + 1) t (nI k) by
    exact H 2882 0 τ (by omega) (fun j hj => absurd hj (Nat.not_lt_zero _)) (fun _ _ _ _ => rfl)
  intro q
  induction q with
  | zero =>
    intro k t hk g1 g2
    obtain rfl : k = 2882 := by omega
    rw [uM_sa21]
    unfold b_X10_setAside_2_1_2
    exact ⟨fun _ => h t g1 g2, fun c => absurd (by decide) c⟩
  | succ q ih =>
    intro k t hk g1 g2
    rw [uM_sa21]
    unfold b_X10_setAside_2_1_2
    rw [cl (show k < 2 ^ 31 by omega)]
    refine ⟨fun c => absurd c (nI_ge (b := 2882) (by omega) (by decide)), fun _ => ⟨vp_in_nI (by omega) (by decide), vp_in_nI (by omega) (by decide), fun s es v ev => ?_⟩⟩
    subst ev
    rw [nI_1]
    refine ih (k + 1) s (by omega) (fun j hj => ?_) (fun a b j c => ?_)
    · rw [es, wr_row]
      by_cases cj : j = k
      · rw [cj, pk_us]
        exact g2 2 0 k (by omega)
      · rw [pk_un cj]
        exact g1 j (by omega)
    · rw [es]
      simp only [wr]
      rw [if_neg (by omega)]
      exact g2 a b j c
theorem uM_sa31 (post : St → Prop) (q : Nat) : l_X10_setAside_3_1_2 post (q + 1) = b_X10_setAside_3_1_2 (l_X10_setAside_3_1_2 post q) post := rfl
theorem mSa31 {post : St → Prop} {τ : St} (h : ∀ t : St, (∀ j, j < 2882 → t 1 0 j = τ 3 0 j) → (∀ a b j, ¬ (a = 1 ∧ b = 0 ∧ j < 2882) → t a b j = τ a b j) → post t) : w_X10_setAside_3_1 post τ := by
  refine ⟨2883, ?_⟩
  suffices H : ∀ q k (t : St), k + q = 2882 → (∀ j, j < k → t 1 0 j = τ 3 0 j) → (∀ a b j, ¬ (a = 1 ∧ b = 0 ∧ j < 2882) → t a b j = τ a b j) → l_X10_setAside_3_1_2 post (q + 1) t (nI k) by
    exact H 2882 0 τ (by omega) (fun j hj => absurd hj (Nat.not_lt_zero _)) (fun _ _ _ _ => rfl)
  intro q
  induction q with
  | zero =>
    intro k t hk g1 g2
    obtain rfl : k = 2882 := by omega
    rw [uM_sa31]
    unfold b_X10_setAside_3_1_2
    exact ⟨fun _ => h t g1 g2, fun c => absurd (by decide) c⟩
  | succ q ih =>
    intro k t hk g1 g2
    rw [uM_sa31]
    unfold b_X10_setAside_3_1_2
    rw [cl (show k < 2 ^ 31 by omega)]
    refine ⟨fun c => absurd c (nI_ge (b := 2882) (by omega) (by decide)), fun _ => ⟨vp_in_nI (by omega) (by decide), vp_in_nI (by omega) (by decide), fun s es v ev => ?_⟩⟩
    subst ev
    rw [nI_1]
    refine ih (k + 1) s (by omega) (fun j hj => ?_) (fun a b j c => ?_)
    · rw [es, wr_row]
      by_cases cj : j = k
      · rw [cj, pk_us]
        exact g2 3 0 k (by omega)
      · rw [pk_un cj]
        exact g1 j (by omega)
    · rw [es]
      simp only [wr]
      rw [if_neg (by omega)]
      exact g2 a b j c
theorem uM_sa12 (post : St → Prop) (q : Nat) : l_X10_setAside_1_2_2 post (q + 1) = b_X10_setAside_1_2_2 (l_X10_setAside_1_2_2 post q) post := rfl
theorem mSa12 {post : St → Prop} {τ : St} (h : ∀ t : St, (∀ j, j < 2882 → t 2 0 j = τ 1 0 j) → (∀ a b j, ¬ (a = 2 ∧ b = 0 ∧ j < 2882) → t a b j = τ a b j) → post t) : w_X10_setAside_1_2 post τ := by
  refine ⟨2883, ?_⟩
  suffices H : ∀ q k (t : St), k + q = 2882 → (∀ j, j < k → t 2 0 j = τ 1 0 j) → (∀ a b j, ¬ (a = 2 ∧ b = 0 ∧ j < 2882) → t a b j = τ a b j) → l_X10_setAside_1_2_2 post (q + 1) t (nI k) by
    exact H 2882 0 τ (by omega) (fun j hj => absurd hj (Nat.not_lt_zero _)) (fun _ _ _ _ => rfl)
  intro q
  induction q with
  | zero =>
    intro k t hk g1 g2
    obtain rfl : k = 2882 := by omega
    rw [uM_sa12]
    unfold b_X10_setAside_1_2_2
    exact ⟨fun _ => h t g1 g2, fun c => absurd (by decide) c⟩
  | succ q ih =>
    intro k t hk g1 g2
    rw [uM_sa12]
    unfold b_X10_setAside_1_2_2
    rw [cl (show k < 2 ^ 31 by omega)]
    refine ⟨fun c => absurd c (nI_ge (b := 2882) (by omega) (by decide)), fun _ => ⟨vp_in_nI (by omega) (by decide), vp_in_nI (by omega) (by decide), fun s es v ev => ?_⟩⟩
    subst ev
    rw [nI_1]
    refine ih (k + 1) s (by omega) (fun j hj => ?_) (fun a b j c => ?_)
    · rw [es, wr_row]
      by_cases cj : j = k
      · rw [cj, pk_us]
        exact g2 1 0 k (by omega)
      · rw [pk_un cj]
        exact g1 j (by omega)
    · rw [es]
      simp only [wr]
      rw [if_neg (by omega)]
      exact g2 a b j c
theorem sim40 (σ τ : St) (hR : Rel σ τ) : w_X9_keep (fun r σ1 => w_X10_keep (fun r2 τ1 => r = r2 ∧ Rel σ1 τ1) τ) σ := by
  obtain ⟨n, m, T, hH, hT, hI, hTp, hS, hL, hW⟩ := id hR
  have hT14 := hH.2.2.2.2.2
  unfold w_X9_keep
  refine sX1_becomeLike (fun s e f s2 e2 => ?_)
  unfold w_X10_keep
  intro t1 et1
  refine mSa12 (fun t g1 g2 => ⟨vp_in_nI (n := 0) (by decide) (by decide), ?_, ?_⟩)
  · rw [e2, wr_off _ _ _ (by omega), show (0 : Int32).toNatClampNeg = 0 by decide, g2 1 0 0 (by omega), et1, wr_off _ _ _ (by omega)]
    exact (show s 5 1 0 = σ 5 0 0 from e 5 0 (by unfold vc; omega)).trans ((hH.1 5 0 (by unfold vm; omega))).symm
  · have c : ∀ q a j, ¬ (5 ≤ q ∧ q ≤ 13 ∧ a = 1) → ¬ (q = 0 ∧ a = 0 ∧ j = 0) → s2 q a j = σ q a j := fun q a j h1 h2 => by
      rw [e2]
      simp only [wr]
      rw [if_neg (by omega)]
      exact f q a j (by omega)
    have d : ∀ q a j, ¬ (q = 2 ∧ a = 0 ∧ j < 2882) → ¬ (q = 0 ∧ a = 0 ∧ j = 0) → t q a j = τ q a j := fun q a j h1 h2 => by
      rw [g2 q a j h1, et1]
      simp only [wr]
      rw [if_neg (by omega)]
    have d2 : ∀ j, j < 2882 → t 2 0 j = τ 1 0 j := fun j hj => by
      rw [g1 j hj, et1, wr_off _ _ _ (by omega)]
    refine ⟨n, m, T, RHill_eq hH (fun k j hv => ?_) (fun j _ => d 1 0 j (by omega) (by omega)), TX_eq hT (fun t j _ => c 17 t j (by omega) (by omega)) (fun t _ => funext (fun j => c 18 t j (by omega) (by omega))) (fun j _ _ => d 1 0 j (by omega) (by omega)), Or.inr ⟨?_, ?_, n, m, T, Nat.le_refl _, RHill_eq hH (fun k j hv => ?_) (fun j hj => d2 j (by omega)), TX_eq hT (fun t j _ => c 17 t j (by omega) (by omega)) (fun t _ => funext (fun j => c 18 t j (by omega) (by omega))) (fun j _ hj => d2 j (by omega))⟩, ?_, fun k hk => ?_, fun i hi => ?_, ?_⟩
    · unfold vc at hv
      simp only [hlC]
      rw [if_neg (by omega), if_neg (by omega)]
      exact c k 0 j (by omega) (by omega)
    · rw [e2]
      simp [wr]
    · rw [g2 0 0 0 (by omega), et1]
      simp [wr]
    · have g := e k j hv
      unfold vc at hv
      simp only [hlC] at g ⊢
      rw [if_neg (by omega), if_neg (by omega)] at g
      rw [if_neg (by omega), if_neg (by omega), e2, wr_off _ _ _ (by omega)]
      exact g
    · exact RTp_c hTp (fun q j h => c _ _ _ (by omega) (by omega)) (d _ _ _ (by omega) (by omega)) (fun j => d _ _ _ (by omega) (by omega))
    · exact RSh_c (hS k hk) (fun q j h => c _ _ _ (by omega) (by omega)) (d _ _ _ (by omega) (by omega)) (d _ _ _ (by omega) (by omega)) (fun j _ => d _ _ _ (by omega) (by omega))
    · exact RSl_c (hL i hi) (fun j => c _ _ _ (by omega) (by omega)) (fun q j h => c _ _ _ (by omega) (by omega)) (fun q h1 h2 => d _ _ _ (by omega) (by omega)) (fun j _ => d _ _ _ (by omega) (by omega))
    · exact RWt_c hW (fun j => c _ _ _ (by omega) (by omega)) (c _ _ _ (by omega) (by omega)) (fun j => c _ _ _ (by omega) (by omega)) (d _ _ _ (by omega) (by omega)) (fun j => d _ _ _ (by omega) (by omega))
theorem sim41 (σ τ : St) (hR : Rel σ τ) : w_X9_back (fun r σ1 => w_X10_back (fun r2 τ1 => r = r2 ∧ Rel σ1 τ1) τ) σ := by
  obtain ⟨n, m, T, hH, hT, hI, hTp, hS, hL, hW⟩ := id hR
  unfold w_X9_back w_X10_back
  rcases hI with ⟨a, b⟩ | ⟨a, b, n2, m2, T2, hT2, h2, h3⟩
  · exact ⟨fun c => absurd a c, fun _ => ⟨fun c => absurd b c, fun _ => ⟨rfl, hR⟩⟩⟩
  · have hT14 := h2.2.2.2.2.2
    refine ⟨fun _ => sX1_becomeLike (fun s e f => ⟨fun _ => mSa21 (fun t g1 g2 => ⟨vp_in_nI (n := 0) (by decide) (by decide), ?_, ?_⟩), fun c => absurd c b⟩), fun c => absurd c a⟩
    · rw [show (0 : Int32).toNatClampNeg = 0 by decide, g1 0 (by decide)]
      exact (show s 5 0 0 = σ 5 1 0 from e 5 0 (by unfold vc; omega)).trans ((h2.1 5 0 (by unfold vm; omega))).symm
    · have c : ∀ q a j, ¬ (5 ≤ q ∧ q ≤ 13 ∧ a = 0) → s q a j = σ q a j := fun q a j h1 => f q a j (by omega)
      have d : ∀ q a j, ¬ (q = 1 ∧ a = 0 ∧ j < 2882) → t q a j = τ q a j := g2
      refine ⟨n2, m2, T2, RHill_eq h2 e (fun j hj => g1 j (by omega)), TX_eq h3 (fun t j _ => c 17 t j (by omega)) (fun t _ => funext (fun j => c 18 t j (by omega))) (fun j _ hj => g1 j (by omega)), Or.inr ⟨by rw [c 0 0 0 (by omega)]; exact a, by rw [d 0 0 0 (by omega)]; exact b, n2, m2, T2, Nat.le_refl _, RHill_eq h2 (fun k j hv => ?_) (fun j hj => d 2 0 j (by omega)), TX_eq h3 (fun t j _ => c 17 t j (by omega)) (fun t _ => funext (fun j => c 18 t j (by omega))) (fun j _ hj => d 2 0 j (by omega))⟩, ?_, fun k hk => ?_, fun i hi => ?_, ?_⟩
      · unfold vc at hv
        simp only [hlC]
        rw [if_neg (by omega), if_neg (by omega)]
        exact c k 1 j (by omega)
      · exact RTp_c hTp (fun q j h => c _ _ _ (by omega)) (d _ _ _ (by omega)) (fun j => d _ _ _ (by omega))
      · exact RSh_c (hS k hk) (fun q j h => c _ _ _ (by omega)) (d _ _ _ (by omega)) (d _ _ _ (by omega)) (fun j _ => d _ _ _ (by omega))
      · exact RSl_c (hL i hi) (fun j => c _ _ _ (by omega)) (fun q j h => c _ _ _ (by omega)) (fun q h1 h2 => d _ _ _ (by omega)) (fun j _ => d _ _ _ (by omega))
      · exact RWt_c hW (fun j => c _ _ _ (by omega)) (c _ _ _ (by omega)) (fun j => c _ _ _ (by omega)) (d _ _ _ (by omega)) (fun j => d _ _ _ (by omega))
