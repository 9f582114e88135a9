/-! LAYER 2. What texts give: the class and the model. -/
def joinV (s a b : Int32) : Int32 := if s = 38 then (if a = 0 then 0 else if b = 0 then 0 else 1) else if s = 42 then a * b else if s = 43 then a + b else if s = 45 then a - b else if s = 60 then (if b ≤ a then 0 else 1) else if s = 61 then (if a = b then 1 else 0) else if s = 62 then (if a ≤ b then 0 else 1) else if s = 124 then (if a = 0 then (if b = 0 then 0 else 1) else 1) else (if b = 0 then 0 else a / b)
theorem sX4_joined {post : Int32 → St → Prop} {σ : St} {s a b : Int32} (h : post (joinV s a b) σ) : w_X4_joined post σ s a b := by
  unfold joinV at h
  unfold w_X4_joined
  refine ⟨fun c => ⟨fun c2 => ?_, fun c2 => ⟨fun c3 => ?_, fun c3 => ?_⟩⟩, fun c => ⟨fun c => ?_, fun c => ⟨fun c => ?_, fun c => ⟨fun c => ?_, fun c => ⟨fun c => ⟨fun c2 => ?_, fun c2 => ?_⟩, fun c => ⟨fun c => ⟨fun c2 => ?_, fun c2 => ?_⟩, fun c => ⟨fun c => ⟨fun c2 => ?_, fun c2 => ?_⟩, fun c => ⟨fun c => ⟨fun c2 => ?_, fun c2 => ⟨fun c3 => ?_, fun c3 => ?_⟩⟩, fun c => ⟨fun c2 => ⟨c2, ?_⟩, fun c2 => ?_⟩⟩⟩⟩⟩⟩⟩⟩⟩ <;> simp_all
def SG (s : Int32) : Prop := s = 38 ∨ s = 42 ∨ s = 43 ∨ s = 45 ∨ s = 47 ∨ s = 60 ∨ s = 61 ∨ s = 62 ∨ s = 124
theorem div_m1 (a : Int32) : a / (-1) = -a := by
  apply Int32.toInt_inj.1
  have e : (-1 : Int32).toInt = -1 := by decide
  rw [Int32.toInt_div, e, Int32.toInt_neg]
  have e2 : a.toInt.tdiv (-1) = -a.toInt := by rw [Int.tdiv_neg, Int.tdiv_one]
  rw [e2]
theorem sX10_joined {post : Int32 → St → Prop} {τ : St} {s a b : Int32} (hs : SG s) (hp : post (joinV s a b) τ) : w_X10_joined post τ s a b := by
  unfold SG at hs
  unfold joinV at hp
  unfold w_X10_joined
  rcases hs with rfl | rfl | rfl | rfl | rfl | rfl | rfl | rfl | rfl
  · simp only [show ¬ (38 : Int32) = 42 by decide, if_true] at hp
    refine ⟨fun _ => ⟨fun c => ?_, fun c => ⟨fun c2 => ?_, fun c2 => ?_⟩⟩, fun c => absurd rfl c⟩ <;> simp_all
  · simp at hp ⊢
    exact hp
  · simp at hp ⊢
    exact hp
  · simp at hp ⊢
    exact hp
  · simp at hp ⊢
    refine ⟨fun c => ⟨fun c2 => ?_, fun c2 => ?_⟩, fun c => ?_⟩
    · rw [if_neg c] at hp
      exact ⟨c, hp⟩
    · subst c2
      rw [if_neg (by decide), div_m1] at hp
      exact hp
    · rw [if_pos c] at hp
      exact hp
  · by_cases c : b ≤ a
    · rw [if_pos c] at hp
      simp at hp ⊢
      exact ⟨fun _ => hp, fun c2 => absurd c (Int32.not_le.mpr c2)⟩
    · rw [if_neg c] at hp
      simp at hp ⊢
      exact ⟨fun c2 => absurd c2 c, fun _ => hp⟩
  · by_cases c : a = b
    · rw [if_pos c] at hp
      simp at hp ⊢
      exact ⟨fun c2 => absurd c c2, fun _ => hp⟩
    · rw [if_neg c] at hp
      simp at hp ⊢
      exact ⟨fun _ => hp, fun c2 => absurd c2 c⟩
  · by_cases c : a ≤ b
    · rw [if_pos c] at hp
      simp at hp ⊢
      exact ⟨fun _ => hp, fun c2 => absurd c (Int32.not_le.mpr c2)⟩
    · rw [if_neg c] at hp
      simp at hp ⊢
      exact ⟨fun c2 => absurd c2 c, fun _ => hp⟩
  · simp at hp ⊢
    refine ⟨fun c => ?_, fun c => ⟨fun c2 => ?_, fun c2 => ?_⟩⟩
    · rw [if_neg c] at hp
      exact hp
    · rw [if_pos c, if_pos c2] at hp
      exact hp
    · rw [if_pos c, if_neg c2] at hp
      exact hp
def dW (c : Nat → Int32) : Nat → Nat
  | 0 => 0
  | k + 1 => if c k < 10000 then dW c k + 1 else if c k = 10033 then dW c k else dW c k - 1
theorem dW_le (c : Nat → Int32) : ∀ k, dW c k ≤ k := by
  intro k
  induction k with
  | zero => exact Nat.le_refl _
  | succ k ih =>
    unfold dW
    split
    · omega
    · split <;> omega
def nmV (p f s u : Int32) : Int32 := if p = 0 then f else if p = 1 then s else u
def kW (c : Nat → Int32) (f s u : Int32) : Nat → Nat → Int32
  | 0 => fun _ => 0
  | k + 1 => if c k < 10000 then upd (kW c f s u k) (dW c k) (if c k < 0 then nmV (-1 - c k) f s u else c k) else if c k = 10033 then upd (kW c f s u k) (dW c k - 1) (if kW c f s u k (dW c k - 1) = 0 then 1 else 0) else upd (kW c f s u k) (dW c k - 2) (joinV (c k - 10000) (kW c f s u k (dW c k - 2)) (kW c f s u k (dW c k - 1)))
def WFc (c : Nat → Int32) (L : Nat) : Prop := 1 ≤ dW c L ∧ ∀ k, k < L → c k < 10000 ∨ (c k = 10033 ∧ 1 ≤ dW c k) ∨ (10000 < c k ∧ c k ≠ 10033 ∧ 2 ≤ dW c k)
theorem sX4_named {post : Int32 → St → Prop} {σ : St} {p f s u : Int32} (h : post (nmV p f s u) σ) : w_X4_named post σ p f s u := by
  unfold nmV at h
  unfold w_X4_named
  refine ⟨fun c => ⟨fun c2 => ?_, fun c2 => ?_⟩, fun c => ?_⟩ <;> simp_all
theorem sX4_workOut {post : Int32 → St → Prop} {σ : St} {t L : Nat} {f s u : Int32} (hL : σ 17 t 2 = nI L) (h96 : L ≤ 96) (hw : WFc (σ 18 t) L) (hp : ∀ σ' : St, (∀ k a j, k ≠ 16 → σ' k a j = σ k a j) → post (kW (σ 18 t) f s u L 0) σ') : w_X4_workOut post σ t f s u := by
  refine ⟨L + 1, ?_⟩
  suffices H : ∀ m k (s1 : St), k + m = L → (∀ q a j, q ≠ 16 → s1 q a j = σ q a j) → (∀ i, i < dW (σ 18 t) k → s1 16 0 i = kW (σ 18 t) f s u k i) → l_X4_workOut_6 post (m + 1) s1 t f s u (nI (dW (σ 18 t) k)) (nI k) by
    exact H L 0 σ (by omega) (fun _ _ _ _ => rfl) (fun i hi => absurd hi (Nat.not_lt_zero i))
  intro m
  induction m with
  | zero =>
    intro k s1 hk hs he
    obtain rfl : k = L := by omega
    show b_X4_workOut_6 _ post s1 t f s u _ _
    unfold b_X4_workOut_6
    rw [hs 17 t 2 (by decide), hL]
    refine ⟨fun _ => ⟨vp_in_nI (n := 0) (by decide) (by decide), ?_⟩, fun c => absurd (nI_le (Nat.le_refl _) (by omega)) c⟩
    rw [show (0 : Int32).toNatClampNeg = 0 from by decide, he 0 hw.1]
    exact hp s1 hs
  | succ m ih =>
    intro k s1 hk hs he
    show b_X4_workOut_6 (l_X4_workOut_6 post (m + 1)) post s1 t f s u _ _
    unfold b_X4_workOut_6
    rw [hs 17 t 2 (by decide), hL, cl (show k < 2 ^ 31 by omega), hs 18 t k (by decide)]
    have hd := dW_le (σ 18 t) k
    have hd1 : dW (σ 18 t) (k + 1) = if σ 18 t k < 10000 then dW (σ 18 t) k + 1 else if σ 18 t k = 10033 then dW (σ 18 t) k else dW (σ 18 t) k - 1 := rfl
    have hk1 : kW (σ 18 t) f s u (k + 1) = if σ 18 t k < 10000 then upd (kW (σ 18 t) f s u k) (dW (σ 18 t) k) (if σ 18 t k < 0 then nmV (-1 - σ 18 t k) f s u else σ 18 t k) else if σ 18 t k = 10033 then upd (kW (σ 18 t) f s u k) (dW (σ 18 t) k - 1) (if kW (σ 18 t) f s u k (dW (σ 18 t) k - 1) = 0 then 1 else 0) else upd (kW (σ 18 t) f s u k) (dW (σ 18 t) k - 2) (joinV (σ 18 t k - 10000) (kW (σ 18 t) f s u k (dW (σ 18 t) k - 2)) (kW (σ 18 t) f s u k (dW (σ 18 t) k - 1))) := rfl
    have hws : ∀ (d : Nat) (x : Int32) q a j, q ≠ 16 → wr s1 16 0 d x q a j = σ q a j := fun d x q a j hq => by
      rw [wr_off _ _ _ (fun e => hq e.1)]
      exact hs q a j hq
    refine ⟨fun c => absurd c (nI_ge (by omega) (by omega)), fun _ => ⟨vp_in_nI (by omega) (by decide), fun v ev => ?_⟩⟩
    subst ev
    rcases hw.2 k (by omega) with c1 | ⟨c1, c2⟩ | ⟨c1, c2, c3⟩
    · rw [if_pos c1] at hd1 hk1
      have leaf : ∀ x, x = (if σ 18 t k < 0 then nmV (-1 - σ 18 t k) f s u else σ 18 t k) → b_X4_workOut_66 (l_X4_workOut_6 post (m + 1)) post s1 x (nI (dW (σ 18 t) k)) t f s u (nI (dW (σ 18 t) k)) (nI k) := by
        intro x ex
        unfold b_X4_workOut_66
        rw [cl (by omega)]
        refine ⟨vp_in_nI (by omega) (by decide), fun s2 e2 v ev v2 ev2 => ?_⟩
        subst e2
        subst ev
        subst ev2
        have g := ih (k + 1) (wr s1 16 0 (dW (σ 18 t) k) x) (by omega) (hws _ _) (fun i hi => by
          rw [wr_row, hk1, ← ex]
          by_cases ei : i = dW (σ 18 t) k
          · rw [ei, pk_us, pk_us]
          · rw [pk_un ei, pk_un ei]
            exact he i (by omega))
        rw [hd1] at g
        rw [nI_1, nI_1]
        exact g
      refine ⟨fun q => absurd q (Int32.not_le.mpr c1), fun _ => ⟨fun q => absurd (show nI 96 ≤ nI (dW (σ 18 t) k) from q) (nI_ge (by omega) (by omega)), fun _ => ⟨fun q => sX4_named (leaf _ (by rw [if_pos q])), fun q => leaf _ (by rw [if_neg q])⟩⟩⟩
    · have g0 : ¬ σ 18 t k < 10000 := by rw [c1]; decide
      rw [if_neg g0, if_pos c1] at hd1 hk1
      have nt : ∀ x, x = (if kW (σ 18 t) f s u k (dW (σ 18 t) k - 1) = 0 then 1 else 0) → b_X4_workOut_112 (l_X4_workOut_6 post (m + 1)) post s1 x (nI (dW (σ 18 t) k - 1)) t f s u (nI (dW (σ 18 t) k)) (nI k) := by
        intro x ex
        unfold b_X4_workOut_112
        rw [cl (by omega)]
        refine ⟨vp_in_nI (by omega) (by decide), fun s2 e2 v ev => ?_⟩
        subst e2
        subst ev
        have g := ih (k + 1) (wr s1 16 0 (dW (σ 18 t) k - 1) x) (by omega) (hws _ _) (fun i hi => by
          rw [wr_row, hk1, ← ex]
          by_cases ei : i = dW (σ 18 t) k - 1
          · rw [ei, pk_us, pk_us]
          · rw [pk_un ei, pk_un ei]
            exact he i (by omega))
        rw [hd1] at g
        rw [nI_1]
        exact g
      refine ⟨fun _ => ?_, fun q => absurd (by rw [c1]; decide) q⟩
      unfold b_X4_workOut_73
      refine ⟨fun q => absurd c1 q, fun _ => ⟨fun q => absurd (show nI (dW (σ 18 t) k) < nI 1 from q) (nI_nlt (by omega) (by omega)), fun _ => ?_⟩⟩
      rw [show nI (dW (σ 18 t) k) - 1 = nI (dW (σ 18 t) k - 1) from pk_sub (b := 1) c2, cl (show dW (σ 18 t) k - 1 < 2 ^ 31 by omega), he (dW (σ 18 t) k - 1) (by omega)]
      exact ⟨vp_in_nI (by omega) (by decide), fun q => nt _ (by rw [if_neg q]), fun q => nt _ (by rw [if_pos q])⟩
    · have g0 : ¬ σ 18 t k < 10000 := fun q => absurd (Int32.lt_trans c1 q) (by decide)
      rw [if_neg g0, if_neg c2] at hd1 hk1
      have b116 : b_X4_workOut_116 (l_X4_workOut_6 post (m + 1)) post s1 t f s u (nI (dW (σ 18 t) k)) (nI k) (σ 18 t k) := by
        unfold b_X4_workOut_116
        refine ⟨fun q => absurd q (Int32.not_le.mpr c1), fun _ => ⟨fun q => absurd (show nI (dW (σ 18 t) k) < nI 2 from q) (nI_nlt (by omega) (by omega)), fun _ v ev => ?_⟩⟩
        have ev : v = nI (dW (σ 18 t) k - 1) := by
          rw [ev]
          obtain ⟨q, hq⟩ : ∃ q, dW (σ 18 t) k = q + 1 := ⟨dW (σ 18 t) k - 1, by omega⟩
          rw [hq]
          exact pk_m1 q
        subst ev
        rw [show nI (dW (σ 18 t) k - 1) - 1 = nI (dW (σ 18 t) k - 2) from pk_sub (b := 1) (by omega), cl (show dW (σ 18 t) k - 1 < 2 ^ 31 by omega), cl (show dW (σ 18 t) k - 2 < 2 ^ 31 by omega), he (dW (σ 18 t) k - 1) (by omega), he (dW (σ 18 t) k - 2) (by omega)]
        refine ⟨vp_in_nI (by omega) (by decide), vp_in_nI (by omega) (by decide), sX4_joined ⟨vp_in_nI (by omega) (by decide), fun s2 e2 v2 ev2 => ?_⟩⟩
        subst e2
        subst ev2
        have g := ih (k + 1) (wr s1 16 0 (dW (σ 18 t) k - 2) (joinV (σ 18 t k - 10000) (kW (σ 18 t) f s u k (dW (σ 18 t) k - 2)) (kW (σ 18 t) f s u k (dW (σ 18 t) k - 1)))) (by omega) (hws _ _) (fun i hi => by
          rw [wr_row, hk1]
          by_cases ei : i = dW (σ 18 t) k - 2
          · rw [ei, pk_us, pk_us]
          · rw [pk_un ei, pk_un ei]
            exact he i (by omega))
        rw [hd1] at g
        rw [nI_1]
        exact g
      refine ⟨fun _ => ?_, fun q => absurd (Int32.le_of_lt c1) q⟩
      unfold b_X4_workOut_73
      exact ⟨fun _ => b116, fun q => absurd q c2⟩
/-- a name's letter, by the key and its place -/
def ltr (key : Int32) (p : Nat) : Nat := if p = 2 then 110 else if key = 1 then (if p = 0 then 116 else 119) else (if p = 0 then 108 else 115)
/-- a code of the class, and a step of the model -/
def RP (key c what v : Int32) : Prop := (what = 0 ∧ v = c ∧ ¬ c < 0 ∧ c < 10000) ∨ (what = 1 ∧ ∃ p, p < 3 ∧ (p = 2 → key = 0) ∧ c = -1 - nI p ∧ v = nI (ltr key p)) ∨ (what = 2 ∧ c = 10033 ∧ v = 33) ∨ (what = 2 ∧ SG v ∧ c = 10000 + v)
def TXM (g : Nat → Int32) (t : Nat) (key lv : Int32) (L : Nat) (c : Nat → Int32) : Prop := g (82 + 200 * t) = key ∧ g (83 + 200 * t) = lv ∧ g (84 + 200 * t) = nI L ∧ ∀ k, k < L → RP key (c k) (g (86 + 200 * t + 2 * k)) (g (87 + 200 * t + 2 * k))
theorem mtx (t : Nat) : (82 : Int32) + 200 * nI t = nI (82 + 200 * t) := by
  rw [show (200 : Int32) = nI 200 from rfl, pk_mul]
  exact nI_add 82 _
theorem nm_back {p : Nat} (hp : p < 3) : (-1 : Int32) - (-1 - nI p) = nI p ∧ (-1 - nI p) < 0 ∧ (-1 - nI p) < 10000 := by
  rcases (show p = 0 ∨ p = 1 ∨ p = 2 by omega) with rfl | rfl | rfl <;> decide
theorem SG_code {v : Int32} (h : SG v) : ¬ (10000 + v) < 10000 ∧ ¬ (10000 + v) = 10033 ∧ (10000 + v) - 10000 = v ∧ v ≠ 33 := by
  unfold SG at h
  rcases h with rfl | rfl | rfl | rfl | rfl | rfl | rfl | rfl | rfl <;> decide
theorem sX10_worked {post : Int32 → St → Prop} {τ : St} {t L : Nat} {key lv f s u : Int32} {c : Nat → Int32} (ht : t < 14) (hT : TXM (τ 1 0) t key lv L c) (h96 : L ≤ 96) (hw : WFc c L) (hnm : ∀ p, p < 3 → (p = 2 → key = 0) → τ 16 0 (ltr key p) = nmV (nI p) f s u) (hp : ∀ τ' : St, (∀ k a j, k ≠ 17 → τ' k a j = τ k a j) → post (kW c f s u L 0) τ') : w_X10_worked post τ (nI t) := by
  obtain ⟨-, -, hL, hst⟩ := hT
  refine ⟨L + 1, ?_⟩
  suffices H : ∀ m k (s1 : St), k + m = L → (∀ q a j, q ≠ 17 → s1 q a j = τ q a j) → (∀ i, i < dW c k → s1 17 0 i = kW c f s u k i) → l_X10_worked_4 post (m + 1) s1 (nI t) (nI (dW c k)) (nI k) by
    exact H L 0 τ (by omega) (fun _ _ _ _ => rfl) (fun i hi => absurd hi (Nat.not_lt_zero i))
  intro m
  induction m with
  | zero =>
    intro k s1 hk hs he
    obtain rfl : k = L := by omega
    show b_X10_worked_4 _ post s1 _ _ _
    unfold b_X10_worked_4 w_X10_textAt
    dsimp only
    rw [mtx, show nI (82 + 200 * t) + 2 = nI (84 + 200 * t) from by rw [show (84 + 200 * t) = (82 + 200 * t) + 2 by omega]; exact nI_add _ 2, cl (show 84 + 200 * t < 2 ^ 31 by omega), hs 1 0 _ (by decide), hL]
    refine ⟨vp_in_nI (by omega) (by decide), fun _ => ⟨vp_in_nI (n := 0) (by decide) (by decide), ?_⟩, fun c => absurd (nI_le (Nat.le_refl _) (by omega)) c⟩
    rw [show (0 : Int32).toNatClampNeg = 0 from by decide, he 0 hw.1]
    exact hp s1 hs
  | succ m ih =>
    intro k s1 hk hs he
    show b_X10_worked_4 (l_X10_worked_4 post (m + 1)) post s1 _ _ _
    unfold b_X10_worked_4 w_X10_textAt
    dsimp only
    have hd := dW_le c k
    have ix : nI (82 + 200 * t) + 4 + 2 * nI k = nI (86 + 200 * t + 2 * k) := by
      rw [show (4 : Int32) = nI 4 from rfl, show (2 : Int32) = nI 2 from rfl, nI_add, pk_mul, nI_add]
      congr 1
      omega
    rw [mtx, show nI (82 + 200 * t) + 2 = nI (84 + 200 * t) from by rw [show (84 + 200 * t) = (82 + 200 * t) + 2 by omega]; exact nI_add _ 2, cl (show 84 + 200 * t < 2 ^ 31 by omega), hs 1 0 _ (by decide), hL, ix, nI_1, cl (show 86 + 200 * t + 2 * k < 2 ^ 31 by omega), cl (show 86 + 200 * t + 2 * k + 1 < 2 ^ 31 by omega), hs 1 0 _ (by decide), hs 1 0 _ (by decide), show 86 + 200 * t + 2 * k + 1 = 87 + 200 * t + 2 * k by omega]
    refine ⟨vp_in_nI (by omega) (by decide), fun c => absurd c (nI_ge (by omega) (by omega)), fun _ => ⟨vp_in_nI (by omega) (by decide), fun what ew => ⟨vp_in_nI (by omega) (by decide), fun v ev => ?_⟩⟩⟩
    have hrp := hst k (by omega)
    rw [← ew, ← ev] at hrp
    have hd1 : dW c (k + 1) = if c k < 10000 then dW c k + 1 else if c k = 10033 then dW c k else dW c k - 1 := rfl
    have hk1 : kW c f s u (k + 1) = if c k < 10000 then upd (kW c f s u k) (dW c k) (if c k < 0 then nmV (-1 - c k) f s u else c k) else if c k = 10033 then upd (kW c f s u k) (dW c k - 1) (if kW c f s u k (dW c k - 1) = 0 then 1 else 0) else upd (kW c f s u k) (dW c k - 2) (joinV (c k - 10000) (kW c f s u k (dW c k - 2)) (kW c f s u k (dW c k - 1))) := rfl
    have hws : ∀ (d : Nat) (x : Int32) q a j, q ≠ 17 → wr s1 17 0 d x q a j = τ q a j := fun d x q a j hq => by
      rw [wr_off _ _ _ (fun e => hq e.1)]
      exact hs q a j hq
    have leaf : c k < 10000 → ∀ x, x = (if c k < 0 then nmV (-1 - c k) f s u else c k) → b_X10_worked_86 (l_X10_worked_4 post (m + 1)) post s1 x (nI (dW c k)) (nI t) (nI (dW c k)) (nI k) := by
      intro c1 x ex
      rw [if_pos c1] at hd1 hk1
      unfold b_X10_worked_86
      rw [cl (by omega)]
      refine ⟨vp_in_nI (by omega) (by decide), fun s2 e2 v ev v2 ev2 => ?_⟩
      subst e2
      subst ev
      subst ev2
      have g := ih (k + 1) (wr s1 17 0 (dW c k) x) (by omega) (hws _ _) (fun i hi => by
        rw [wr_row, hk1, ← ex]
        by_cases ei : i = dW c k
        · rw [ei, pk_us, pk_us]
        · rw [pk_un ei, pk_un ei]
          exact he i (by omega))
      rw [hd1] at g
      rw [nI_1, nI_1]
      exact g
    rcases hrp with ⟨w1, w2, w3, w4⟩ | ⟨w1, p, w2, w3, w4, w5⟩ | ⟨w1, w2, w3⟩ | ⟨w1, w2, w3⟩
    · rw [w1]
      refine ⟨fun q => absurd q (by decide), fun _ => ⟨fun q => absurd rfl q, fun _ => leaf w4 _ (by rw [if_neg w3, w2])⟩⟩
    · rw [w1]
      obtain ⟨g1, g2, g3⟩ := nm_back w2
      have hl : ltr key p < 128 := by
        unfold ltr
        split
        · decide
        · split <;> split <;> decide
      refine ⟨fun q => absurd q (by decide), fun _ => ⟨fun _ => ⟨by rw [w5]; exact vp_in_nI hl (by decide), ?_⟩, fun q => absurd q (by decide)⟩⟩
      rw [w5, cl (show ltr key p < 2 ^ 31 by omega), hs 16 0 _ (by decide), hnm p w2 w3]
      exact leaf (by rw [w4]; exact g3) _ (by rw [w4, if_pos g2, g1])
    · rw [w1, w3]
      have hwf : 1 ≤ dW c k := by
        rcases hw.2 k (by omega) with c1 | ⟨_, c2⟩ | ⟨_, c2, _⟩
        · rw [w2] at c1
          exact absurd c1 (by decide)
        · exact c2
        · exact absurd w2 c2
      have g0 : ¬ c k < 10000 := by rw [w2]; decide
      rw [if_neg g0, if_pos w2] at hd1 hk1
      have nt : ∀ x, x = (if kW c f s u k (dW c k - 1) = 0 then 1 else 0) → b_X10_worked_123 (l_X10_worked_4 post (m + 1)) post s1 x (nI (dW c k - 1)) (nI t) (nI (dW c k)) (nI k) := by
        intro x ex
        unfold b_X10_worked_123
        rw [cl (by omega)]
        refine ⟨vp_in_nI (by omega) (by decide), fun s2 e2 v ev => ?_⟩
        subst e2
        subst ev
        have g := ih (k + 1) (wr s1 17 0 (dW c k - 1) x) (by omega) (hws _ _) (fun i hi => by
          rw [wr_row, hk1, ← ex]
          by_cases ei : i = dW c k - 1
          · rw [ei, pk_us, pk_us]
          · rw [pk_un ei, pk_un ei]
            exact he i (by omega))
        rw [hd1] at g
        rw [nI_1]
        exact g
      refine ⟨fun _ => ⟨fun q => absurd rfl q, fun _ => ?_⟩, fun q => absurd rfl q⟩
      rw [show nI (dW c k) - 1 = nI (dW c k - 1) from pk_sub (b := 1) hwf, cl (show dW c k - 1 < 2 ^ 31 by omega), he (dW c k - 1) (by omega)]
      exact ⟨vp_in_nI (by omega) (by decide), fun q => nt _ (by rw [if_neg q]), fun q => nt _ (by rw [if_pos q])⟩
    · rw [w1]
      obtain ⟨g1, g2, g3, g4⟩ := SG_code w2
      rw [← w3] at g1 g2 g3
      have hwf : 2 ≤ dW c k := by
        rcases hw.2 k (by omega) with c1 | ⟨c1, _⟩ | ⟨_, _, c2⟩
        · exact absurd c1 g1
        · exact absurd c1 g2
        · exact c2
      rw [if_neg g1, if_neg g2, g3] at hk1
      rw [if_neg g1, if_neg g2] at hd1
      refine ⟨fun _ => ⟨fun _ v2 ev2 => ?_, fun q => absurd q g4⟩, fun q => absurd rfl q⟩
      have ev2 : v2 = nI (dW c k - 1) := by
        rw [ev2]
        obtain ⟨q, hq⟩ : ∃ q, dW c k = q + 1 := ⟨dW c k - 1, by omega⟩
        rw [hq]
        exact pk_m1 q
      subst ev2
      rw [show nI (dW c k - 1) - 1 = nI (dW c k - 2) from pk_sub (b := 1) (by omega), cl (show dW c k - 1 < 2 ^ 31 by omega), cl (show dW c k - 2 < 2 ^ 31 by omega), he (dW c k - 1) (by omega), he (dW c k - 2) (by omega)]
      refine ⟨vp_in_nI (by omega) (by decide), vp_in_nI (by omega) (by decide), sX10_joined w2 ⟨vp_in_nI (by omega) (by decide), fun s2 e2 v3 ev3 => ?_⟩⟩
      subst e2
      subst ev3
      have g := ih (k + 1) (wr s1 17 0 (dW c k - 2) (joinV v (kW c f s u k (dW c k - 2)) (kW c f s u k (dW c k - 1)))) (by omega) (hws _ _) (fun i hi => by
        rw [wr_row, hk1]
        by_cases ei : i = dW c k - 2
        · rw [ei, pk_us, pk_us]
        · rw [pk_un ei, pk_un ei]
          exact he i (by omega))
      rw [hd1] at g
      rw [nI_1]
      exact g
/-- the text that counts -/
def lastT (ky : Nat → Int32) (key : Int32) : Nat → Option Nat
  | 0 => none
  | T + 1 => if ky T = key then some T else lastT ky key T
theorem lastT_lt {ky : Nat → Int32} {key : Int32} : ∀ {T t : Nat}, lastT ky key T = some t → t < T ∧ ky t = key := by
  intro T
  induction T with
  | zero => intro t h; simp [lastT] at h
  | succ T ih =>
    intro t h
    unfold lastT at h
    split at h
    · rename_i c
      cases h
      exact ⟨by omega, c⟩
    · have := ih h
      exact ⟨by omega, this.2⟩
theorem sX4_lastOf {post : Int32 → St → Prop} {σ : St} {T : Nat} {key : Int32} (hT : T ≤ 14) (hp : post ((lastT (fun t => σ 17 t 0) key T).elim NON nI) σ) : w_X4_lastOf post σ key (nI T) := by
  unfold w_X4_lastOf
  intro v ev
  subst ev
  refine ⟨T + 1, ?_⟩
  revert hp
  induction T with
  | zero =>
    intro hp
    show b_X4_lastOf_4 _ post σ _ _
    unfold b_X4_lastOf_4
    exact ⟨fun _ => hp, fun c => absurd (show nI 0 - 1 < 0 by decide) c⟩
  | succ T ih =>
    intro hp
    show b_X4_lastOf_4 (l_X4_lastOf_4 post (T + 1)) post σ _ _
    unfold b_X4_lastOf_4
    rw [nI_pred, cl (show T < 2 ^ 31 by omega)]
    unfold lastT at hp
    refine ⟨fun c => absurd c (nI_pos (by omega)), fun _ => ⟨vp_in_nI (by omega) (by decide), fun c w ew => ?_, fun c => ?_⟩⟩
    · rw [if_neg c] at hp
      have ew : w = nI T - 1 := by rw [ew, Int32.sub_eq_add_neg]
      subst ew
      exact ih (by omega) hp
    · rw [if_pos c] at hp
      exact hp
theorem sX4_counting {post : Option Nat → St → Prop} {σ : St} {T : Nat} {key : Int32} (hT : T ≤ 14) (hp : post (lastT (fun t => σ 17 t 0) key T) σ) : w_X4_counting post σ key (nI T) := by
  unfold w_X4_counting
  refine sX4_lastOf hT ?_
  cases e : lastT (fun t => σ 17 t 0) key T with
  | none =>
    rw [e] at hp
    exact ⟨fun c => absurd rfl c, fun _ => hp⟩
  | some t =>
    rw [e] at hp
    have ht := (lastT_lt e).1
    show ((¬ nI t = NON → _) ∧ (nI t = NON → _))
    refine ⟨fun _ => ⟨vp_in_nI (by omega) (by decide), ?_⟩, fun c => absurd c (nI_NON (by omega))⟩
    show post (some (nI t).toNatClampNeg) σ
    rw [cl (by omega)]
    exact hp
theorem sX10_counts {post : Int32 → St → Prop} {τ : St} {T : Nat} {key : Int32} (hT : T ≤ 14) (h1 : τ 1 0 1 = nI T) (hp : post ((lastT (fun t => τ 1 0 (82 + 200 * t)) key T).elim (-1) nI) τ) : w_X10_counts post τ key := by
  refine ⟨T + 1, ?_⟩
  have c1 : (1 : Int32).toNatClampNeg = 1 := by decide
  suffices H : ∀ m k, k + m = T → l_X10_counts_4 post (m + 1) τ key ((lastT (fun t => τ 1 0 (82 + 200 * t)) key k).elim (-1) nI) (nI k) by
    exact H T 0 (by omega)
  intro m
  induction m with
  | zero =>
    intro k hk
    obtain rfl : k = T := by omega
    show b_X10_counts_4 _ post τ _ _ _
    unfold b_X10_counts_4
    rw [c1, h1]
    exact ⟨vp_in_nI (n := 1) (by decide) (by decide), fun _ => hp, fun c => absurd (nI_le (Nat.le_refl _) (by omega)) c⟩
  | succ m ih =>
    intro k hk
    show b_X10_counts_4 (l_X10_counts_4 post (m + 1)) post τ _ _ _
    unfold b_X10_counts_4 w_X10_textAt
    dsimp only
    rw [c1, h1, mtx, cl (show 82 + 200 * k < 2 ^ 31 by omega)]
    have g := ih (k + 1) (by omega)
    unfold lastT at g
    refine ⟨vp_in_nI (n := 1) (by decide) (by decide), fun c => absurd c (nI_ge (by omega) (by omega)), fun _ => ⟨vp_in_nI (by omega) (by decide), fun c v ev => ?_, fun c v ev => ?_⟩⟩
    · subst ev
      rw [if_neg c] at g
      rw [nI_1]
      exact g
    · subst ev
      rw [if_pos c] at g
      rw [nI_1]
      exact g
/-- texts of the class and of the model are the same -/
def TX (σ : St) (g : Nat → Int32) (T : Nat) : Prop := ∀ t, t < T → ∃ L, L ≤ 96 ∧ σ 17 t 2 = nI L ∧ WFc (σ 18 t) L ∧ TXM g t (σ 17 t 0) (σ 17 t 1) L (σ 18 t) ∧ ∃ q, q < 3 ∧ σ 17 t 0 = nI q
theorem TX_le {σ : St} {g : Nat → Int32} {T T2 : Nat} (h : TX σ g T) (h2 : T2 ≤ T) : TX σ g T2 := fun t ht => h t (by omega)
theorem TX_eq {σ σ' : St} {g g' : Nat → Int32} {T : Nat} (h : TX σ g T) (h1 : ∀ t j, t < T → σ' 17 t j = σ 17 t j) (h2 : ∀ t, t < T → σ' 18 t = σ 18 t) (h3 : ∀ j, 82 ≤ j → j < 82 + 200 * T → g' j = g j) : TX σ' g' T := by
  intro t ht
  obtain ⟨L, a, b, c, ⟨d1, d2, d3, d4⟩, e⟩ := h t ht
  refine ⟨L, a, ?_, ?_, ⟨?_, ?_, ?_, ?_⟩, ?_⟩
  · rw [h1 t 2 ht]; exact b
  · rw [h2 t ht]; exact c
  · rw [h1 t 0 ht, h3 _ (by omega) (by omega)]; exact d1
  · rw [h1 t 1 ht, h3 _ (by omega) (by omega)]; exact d2
  · rw [h3 _ (by omega) (by omega)]; exact d3
  · intro k hk
    rw [h1 t 0 ht, h2 t ht, h3 _ (by omega) (by omega), h3 _ (by omega) (by omega)]
    exact d4 k hk
  · rw [h1 t 0 ht]; exact e
theorem lastT_eq {ky ky' : Nat → Int32} {key : Int32} : ∀ {T : Nat}, (∀ t, t < T → ky' t = ky t) → lastT ky' key T = lastT ky key T := by
  intro T
  induction T with
  | zero => intro _; rfl
  | succ T ih =>
    intro h
    unfold lastT
    rw [h T (by omega), ih (fun t ht => h t (by omega))]
def heldV (x : Int32) : Int32 := if 0 < (if x < 99 then x else 99) then (if x < 99 then x else 99) else 0
theorem heldV_n (x : Int32) : ∃ q, q ≤ 99 ∧ heldV x = nI q := by
  unfold heldV
  by_cases c : x < 99
  · rw [if_pos c]
    by_cases c2 : 0 < x
    · rw [if_pos c2]
      obtain ⟨j, hj, e⟩ := nI_of (x := x) (fun q => absurd (Int32.lt_trans c2 q) (by decide))
      subst e
      exact ⟨j, by have := (nI_ltI (b := 99) hj (by decide)).1 c; omega, rfl⟩
    · rw [if_neg c2]
      exact ⟨0, by decide, rfl⟩
  · rw [if_neg c, if_pos (by decide)]
    exact ⟨99, by decide, rfl⟩
theorem sX9_heldWithin {post : Int32 → St → Prop} {σ : St} {x : Int32} (hp : post (heldV x) σ) : w_X9_heldWithin post σ x 0 99 := by
  unfold w_X9_heldWithin
  intro v ev v2 ev2
  subst ev
  subst ev2
  exact hp
theorem sX10_held {post : Int32 → St → Prop} {τ : St} {x : Int32} (hp : post (heldV x) τ) : w_X10_within post τ x 99 := by
  unfold w_X10_within
  unfold heldV at hp
  refine ⟨fun c => ⟨fun c2 => ?_, fun c2 => ?_⟩, fun c => ?_⟩
  · by_cases c3 : x < 99
    · rw [if_pos c3] at hp
      by_cases c4 : 0 < x
      · rw [if_pos c4] at hp
        exact hp
      · rw [if_neg c4] at hp
        rw [Int32.le_antisymm (Int32.not_lt.mp c4) c]
        exact hp
    · rw [if_neg c3, if_pos (by decide)] at hp
      rw [Int32.le_antisymm c2 (Int32.not_lt.mp c3)]
      exact hp
  · rw [if_neg (fun q => c2 (Int32.le_of_lt q)), if_pos (by decide)] at hp
    exact hp
  · have c3 : x < 0 := Int32.not_le.mp c
    rw [if_pos (Int32.lt_trans c3 (by decide)), if_neg (fun q => absurd (Int32.lt_trans c3 q) Int32.lt_irrefl)] at hp
    exact hp
/-- what spite gives -/
def spT (σ : St) (T : Nat) : Int32 → Int32 → Int32 → Int32 := fun l z u => match lastT (fun t => σ 17 t 0) 0 T with
  | none => 5
  | some t => heldV (kW (σ 18 t) l z u (σ 17 t 2).toNatClampNeg 0)
theorem spT_R (σ : St) (T : Nat) : SpR (spT σ T) := by
  intro a b c
  unfold spT
  split
  · exact ⟨5, by decide, rfl⟩
  · exact heldV_n _
theorem spiteAt {σ : St} {g : Nat → Int32} {i T : Nat} (hT : T ≤ 14) (h7 : σ 5 i 7 = nI T) (hx : TX σ g T) : SpiteAt σ i 12 (spT σ T) := by
  intro s1 f post r hr hp
  have h17 : ∀ t j, s1 17 t j = σ 17 t j := fun t j => f 17 t j (by decide) (by omega)
  have h18 : ∀ t, s1 18 t = σ 18 t := fun t => funext (fun j => f 18 t j (by decide) (by omega))
  have h57 : s1 5 i 7 = nI T := (f 5 i 7 (by decide) (by omega)).trans h7
  unfold w_X4_spiteOf
  rw [h57]
  refine sX4_counting hT ?_
  rw [lastT_eq (ky := fun t => σ 17 t 0) (fun t _ => h17 t 0)]
  cases e : lastT (fun t => σ 17 t 0) 0 T with
  | none =>
    simp only [spT, e] at hp
    exact ⟨fun _ => hp s1 (fun _ _ _ _ => rfl), fun j q => absurd q (by simp)⟩
  | some t =>
    simp only [spT, e] at hp
    obtain ⟨L, a1, a2, a3, -, -⟩ := hx t (lastT_lt e).1
    rw [a2, cl (show L < 2 ^ 31 by omega)] at hp
    refine ⟨fun q => absurd q (by simp), fun j q => ?_⟩
    cases q
    rw [cl (show r < 2 ^ 31 by omega)]
    refine ⟨vp_in_nI hr (by decide), vp_in_nI hr (by decide), sX4_workOut (L := L) (by rw [h17]; exact a2) a1 (by rw [h18]; exact a3) (fun s2 hs2 => sX9_heldWithin ?_)⟩
    rw [h18]
    exact hp s2 hs2
theorem HM_of {h : Hl} {f g : Nat → Int32} (hm : HM h f) (e : ∀ j, j < 82 → g j = f j) : HM h g := fun k j hv => (e _ (mi_lt hv)).trans (hm k j hv)
theorem spiteM {σ τ : St} {T : Nat} (hT : T ≤ 14) (h1 : τ 1 0 1 = nI T) (hx : TX σ (τ 1 0) T) : SpiteM τ (spT σ T) := by
  intro t1 h f hm post r hr hp
  have hx1 : TX σ (t1 1 0) T := TX_eq hx (fun _ _ _ => rfl) (fun _ _ => rfl) (fun j hj _ => f 1 0 j (by decide) (by decide) (by omega))
  have h11 : t1 1 0 1 = nI T := (f 1 0 1 (by decide) (by decide) (by omega)).trans h1
  unfold w_X10_spiteOf
  refine sX10_counts hT h11 ?_
  have el : lastT (fun t => t1 1 0 (82 + 200 * t)) 0 T = lastT (fun t => σ 17 t 0) 0 T := lastT_eq (fun t ht => by
    obtain ⟨L, -, -, -, ⟨d1, -⟩, -⟩ := hx1 t ht
    exact d1)
  rw [el]
  cases e : lastT (fun t => σ 17 t 0) 0 T with
  | none =>
    simp only [spT, e] at hp
    exact ⟨fun q => absurd q (by decide), fun _ => hp t1 hm FM.rf⟩
  | some t =>
    simp only [spT, e] at hp
    have htT := (lastT_lt e).1
    have hkey := (lastT_lt e).2
    obtain ⟨L, a1, a2, a3, a4, -⟩ := hx1 t htT
    rw [a2, cl (show L < 2 ^ 31 by omega)] at hp
    rw [show σ 17 t 0 = 0 from hkey] at a4
    refine ⟨fun _ => ?_, fun q => absurd (nI_pos' (by omega)) q⟩
    have c108 : (108 : Int32).toNatClampNeg = 108 := by decide
    have c115 : (115 : Int32).toNatClampNeg = 115 := by decide
    have c110 : (110 : Int32).toNatClampNeg = 110 := by decide
    have c2 : (2 : Int32).toNatClampNeg = 2 := by decide
    rw [c108, c115, c110, c2]
    refine sOf2 hm hr ⟨vp_in_nI (n := 108) (by decide) (by decide), fun s5 e5 => ?_⟩
    have hm5 : HM h (s5 1 0) := by rw [e5, wr_off _ _ _ (by omega)]; exact hm
    refine sOf1 hm5 hr ⟨vp_in_nI (n := 115) (by decide) (by decide), fun s8 e8 => ⟨vp_in_nI (n := 2) (by decide) (by decide), vp_in_nI (n := 110) (by decide) (by decide), fun s11 e11 => ?_⟩⟩
    have hm8 : HM h (s8 1 0) := by rw [e8, wr_off _ _ _ (by omega)]; exact hm5
    have hm11 : HM h (s11 1 0) := by rw [e11, wr_off _ _ _ (by omega)]; exact hm8
    have e2 : s8 1 0 2 = h 5 5 := hm8 5 5 (by unfold vm; omega)
    rw [e2] at e11
    have f11 : FM t1 s11 := by
      rw [e11, e8, e5]
      exact ((FM_wr2 (by omega)).tr (FM_wr2 (by omega))).tr (FM_wr2 (by omega))
    have a5 : TXM (s11 1 0) t 0 (σ 17 t 1) L (σ 18 t) := by
      have q : s11 1 0 = t1 1 0 := by rw [e11, wr_off _ _ _ (by omega), e8, wr_off _ _ _ (by omega), e5, wr_off _ _ _ (by omega)]
      rw [q]
      exact a4
    refine sX10_worked (f := h 8 r) (s := h 7 r) (u := h 5 5) (by omega) a5 a1 a3 ?_ (fun t2 ht2 => sX10_held ?_)
    · intro p hp3 _
      rcases (show p = 0 ∨ p = 1 ∨ p = 2 by omega) with rfl | rfl | rfl <;> simp [ltr, nmV, e11, e8, e5, wr, nI_0, show nI 1 = 1 from rfl, show nI 2 = 2 from rfl]
    · refine hp t2 ?_ (f11.tr (fun k a j h16 h17 _ => ht2 k a j h17))
      rw [show t2 1 0 = s11 1 0 from funext (fun j => ht2 1 0 j (by decide))]
      exact hm11
