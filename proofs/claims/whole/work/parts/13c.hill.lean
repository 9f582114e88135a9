/-! LAYER 2. A hill: homes, loot, rain. -/
def freeFrom (h : Hl) (b : Nat) : Nat → Int32
  | 0 => NON
  | m + 1 => if h 12 b = NON then nI b else freeFrom h (b + 1) m
def homeV (h : Hl) (t : Nat) : Int32 := freeFrom h (6 * t) 6
def tw (x : Int32) : Int32 := if 6 ≤ x then 1 else 0
def lootTo (h : Hl) (t : Nat) : Nat → Int32
  | 0 => 0
  | k + 1 => if tw (h 9 k) = nI t then lootTo h t k else if h 13 t < kWeighs (h 6 k) (h 7 k) then lootTo h t k else lootTo h t k ||| (1 <<< (nI k &&& 31))
theorem sX1_homeOf {post : Int32 → St → Prop} {σ : St} {i t : Nat} (ht : t < 2) (h : post (homeV (hlC σ i) t) σ) : w_X1_homeOf post σ i (nI t) := by
  unfold w_X1_homeOf
  refine sX9_firstHouse ⟨7, ?_⟩
  suffices H : ∀ m b, b + m = 6 * t + 6 → post (freeFrom (hlC σ i) b m) σ → l_X1_homeOf_7 post (m + 1) σ i (nI (6 * t)) (nI b) by
    exact H 6 (6 * t) (by omega) h
  intro m
  induction m with
  | zero =>
    intro b hb hp
    show b_X1_homeOf_7 _ post σ i _ _
    unfold b_X1_homeOf_7
    have e : nI (6 * t) + 6 = nI (6 * t + 6) := nI_add _ _
    rw [e]
    exact ⟨fun _ => hp, fun c => absurd (nI_le (by omega) (by omega)) c⟩
  | succ m ih =>
    intro b hb hp
    show b_X1_homeOf_7 (l_X1_homeOf_7 post (m + 1)) post σ i _ _
    unfold b_X1_homeOf_7
    have e : nI (6 * t) + 6 = nI (6 * t + 6) := nI_add _ _
    rw [e]
    refine ⟨fun c => absurd c (nI_ge (by omega) (by omega)), fun _ => ⟨vp_in_nI (by omega) (by decide), ?_⟩⟩
    rw [cl (show b < 2 ^ 31 by omega)]
    unfold freeFrom at hp
    refine ⟨fun c v e => ?_, fun c => ?_⟩
    · subst e
      rw [if_neg (show ¬ hlC σ i 12 b = NON from c)] at hp
      rw [nI_1]
      exact ih (b + 1) (by omega) hp
    · rw [if_pos (show hlC σ i 12 b = NON from c)] at hp
      exact hp
theorem sX9_townOf {post : Int32 → St → Prop} {σ : St} {x : Int32} (h : post (tw x) σ) : w_X9_townOf post σ x := by
  unfold tw at h
  unfold w_X9_townOf
  refine ⟨fun c => ?_, fun c => ?_⟩ <;> simp_all
theorem sX1_mayCarry {post : Int32 → St → Prop} {σ : St} {i t n : Nat} (ht : t < 2) (hn : σ 5 i 0 = nI n) (h12 : n ≤ 12) (h : post (lootTo (hlC σ i) t n) σ) : w_X1_mayCarry post σ i (nI t) := by
  refine ⟨n + 1, ?_⟩
  suffices H : ∀ m k, k + m = n → l_X1_mayCarry_4 post (m + 1) σ i (nI t) (lootTo (hlC σ i) t k) (nI k) by
    exact H n 0 (by omega)
  intro m
  induction m with
  | zero =>
    intro k hk
    obtain rfl : k = n := by omega
    show b_X1_mayCarry_4 _ post σ i _ _ _
    unfold b_X1_mayCarry_4
    rw [hn]
    exact ⟨fun _ => h, fun c => absurd (nI_le (Nat.le_refl _) (by omega)) c⟩
  | succ m ih =>
    intro k hk
    show b_X1_mayCarry_4 (l_X1_mayCarry_4 post (m + 1)) post σ i _ _ _
    unfold b_X1_mayCarry_4
    rw [hn]
    have hi : vp_in (nI k) 12 := vp_in_nI (by omega) (by omega)
    have hs := ih (k + 1) (by omega)
    unfold lootTo at hs
    refine ⟨fun c => absurd c (nI_ge (by omega) (by omega)), fun _ => ⟨hi, sX9_townOf ?_⟩⟩
    rw [cl (show k < 2 ^ 31 by omega)]
    refine ⟨fun c v e => ?_, fun c => ⟨hi, hi, sX2_weighs ⟨vp_in_nI ht (by decide), ?_⟩⟩⟩
    · subst e
      rw [if_pos (show tw (hlC σ i 9 k) = nI t from c)] at hs
      rw [nI_1]
      exact hs
    · rw [if_neg (show ¬ tw (hlC σ i 9 k) = nI t from c)] at hs
      rw [cl (show t < 2 ^ 31 by omega)]
      refine ⟨fun c v e => ?_, fun c v e v2 e2 => ?_⟩
      · subst e
        rw [if_pos (show hlC σ i 13 t < kWeighs (hlC σ i 6 k) (hlC σ i 7 k) from c)] at hs
        rw [nI_1]
        exact hs
      · subst e
        subst e2
        rw [if_neg (show ¬ hlC σ i 13 t < kWeighs (hlC σ i 6 k) (hlC σ i 7 k) from c)] at hs
        rw [nI_1]
        exact hs
def dripsTo (h : Hl) : Nat → Int32 := sumTo (fun k => kDrips (h 6 k) (h 8 k))
def rainTo (h : Hl) (x : Int32) : Nat → Int32
  | 0 => x
  | a + 1 => if h 10 a ≤ 0 then rainTo h x a else if h 12 a = NON then rainTo h x a + 20 else rainTo h x a
def rainV (h : Hl) (n : Nat) : Int32 := rainTo h (dripsTo h n) 12
theorem sX1_rainsIn {post : Int32 → St → Prop} {σ : St} {i n : Nat} (hn : σ 5 i 0 = nI n) (h12 : n ≤ 12) (h : post (rainV (hlC σ i) n) σ) : w_X1_rainsIn post σ i := by
  refine ⟨n + 1, ?_⟩
  suffices H : ∀ m k, k + m = n → l_X1_rainsIn_4 post (m + 1) σ i (dripsTo (hlC σ i) k) (nI k) by
    exact H n 0 (by omega)
  intro m
  induction m with
  | zero =>
    intro k hk
    obtain rfl : k = n := by omega
    show b_X1_rainsIn_4 _ post σ i _ _
    unfold b_X1_rainsIn_4
    rw [hn]
    refine ⟨fun _ => ⟨13, ?_⟩, fun c => absurd (nI_le (Nat.le_refl _) (by omega)) c⟩
    suffices H2 : ∀ m a, a + m = 12 → l_X1_rainsIn_38 post (m + 1) σ i (rainTo (hlC σ i) (dripsTo (hlC σ i) k) a) (nI a) by
      exact H2 12 0 (by omega)
    intro m
    induction m with
    | zero =>
      intro a ha
      obtain rfl : a = 12 := by omega
      show b_X1_rainsIn_38 _ post σ i _ _
      unfold b_X1_rainsIn_38
      exact ⟨fun _ => h, fun c => absurd (show (12 : Int32) ≤ nI 12 by decide) c⟩
    | succ m ih =>
      intro a ha
      show b_X1_rainsIn_38 (l_X1_rainsIn_38 post (m + 1)) post σ i _ _
      unfold b_X1_rainsIn_38
      have hi : vp_in (nI a) 12 := vp_in_nI (by omega) (by omega)
      have hs := ih (a + 1) (by omega)
      unfold rainTo at hs
      refine ⟨fun c => absurd (show nI 12 ≤ nI a from c) (nI_ge (by omega) (by omega)), fun _ => ⟨hi, ?_⟩⟩
      rw [cl (show a < 2 ^ 31 by omega)]
      refine ⟨fun c v e => ?_, fun c => ⟨hi, fun c2 v e => ?_, fun c2 v e v2 e2 => ?_⟩⟩
      · subst e
        rw [if_pos (show hlC σ i 10 a ≤ 0 from c)] at hs
        rw [nI_1]
        exact hs
      · subst e
        rw [if_neg (show ¬ hlC σ i 10 a ≤ 0 from c), if_neg (show ¬ hlC σ i 12 a = NON from c2)] at hs
        rw [nI_1]
        exact hs
      · subst e
        subst e2
        rw [if_neg (show ¬ hlC σ i 10 a ≤ 0 from c), if_pos (show hlC σ i 12 a = NON from c2)] at hs
        rw [nI_1]
        exact hs
  | succ m ih =>
    intro k hk
    show b_X1_rainsIn_4 (l_X1_rainsIn_4 post (m + 1)) post σ i _ _
    unfold b_X1_rainsIn_4
    rw [hn]
    have hi : vp_in (nI k) 12 := vp_in_nI (by omega) (by omega)
    refine ⟨fun c => absurd c (nI_ge (by omega) (by omega)), fun _ => ⟨hi, hi, sX2_drips (fun v e v2 e2 => ?_)⟩⟩
    subst e
    subst e2
    rw [cl (show k < 2 ^ 31 by omega), nI_1]
    exact ih (k + 1) (by omega)
