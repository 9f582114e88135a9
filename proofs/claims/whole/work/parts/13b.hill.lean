/-! LAYER 2. A hill: what is counted over its roofs and houses. -/
abbrev Hl : Type := Nat → Nat → Int32
abbrev NON : Int32 := -1000000005
def sumTo (f : Nat → Int32) : Nat → Int32
  | 0 => 0
  | k + 1 => sumTo f k + f k
def dryAt (h : Hl) (a : Nat) : Int32 := if h 12 a = NON then 0 else if kCovers (h 6 (h 12 a).toNatClampNeg) (h 7 (h 12 a).toNatClampNeg) < h 10 a then kCovers (h 6 (h 12 a).toNatClampNeg) (h 7 (h 12 a).toNatClampNeg) else h 10 a
def dryOf (h : Hl) (t : Nat) : Int32 := sumTo (fun j => dryAt h (6 * t + j)) 6
abbrev hlC (σ : St) (i : Nat) : Hl := fun k j => if k = 16 then 0 else σ k i j
theorem cl {n : Nat} (h : n < 2 ^ 31) : (nI n).toNatClampNeg = n := nI_clamp h
theorem sX1_leakOfAll {post : Int32 → St → Prop} {σ : St} {i n : Nat} (hn : σ 5 i 0 = nI n) (h12 : n ≤ 12) (h : post (sumTo (fun k => σ 8 i k) n) σ) : w_X1_leakOfAll post σ i := by
  refine ⟨n + 1, ?_⟩
  suffices H : ∀ m k, k + m = n → l_X1_leakOfAll_4 post (m + 1) σ i (sumTo (fun k => σ 8 i k) k) (nI k) by
    exact H n 0 (by omega)
  intro m
  induction m with
  | zero =>
    intro k hk
    obtain rfl : k = n := by omega
    show b_X1_leakOfAll_4 _ post σ i _ _
    unfold b_X1_leakOfAll_4
    rw [hn]
    exact ⟨fun _ => h, fun c => absurd (nI_le (Nat.le_refl _) (by omega)) c⟩
  | succ m ih =>
    intro k hk
    show b_X1_leakOfAll_4 (l_X1_leakOfAll_4 post (m + 1)) post σ i _ _
    unfold b_X1_leakOfAll_4
    rw [hn]
    refine ⟨fun c => absurd c (nI_ge (by omega) (by omega)), fun _ => ⟨vp_in_nI (by omega) (by omega), fun v e v2 e2 => ?_⟩⟩
    subst e
    subst e2
    rw [cl (by omega), nI_1]
    exact ih (k + 1) (by omega)
theorem sX9_firstHouse {post : Int32 → St → Prop} {σ : St} {t : Nat} (h : post (nI (6 * t)) σ) : w_X9_firstHouse post σ (nI t) := by
  unfold w_X9_firstHouse
  have e : nI t * 6 = nI (6 * t) := by rw [show (6 : Int32) = nI 6 from rfl, pk_mul, Nat.mul_comm]
  rw [e]
  exact h
theorem sX1_dryIn {post : Int32 → St → Prop} {σ : St} {i a : Nat} (ha : a < 12) (hr : σ 12 i a = NON ∨ ∃ k, k < 12 ∧ σ 12 i a = nI k) (h : post (dryAt (hlC σ i) a) σ) : w_X1_dryIn post σ i (nI a) := by
  unfold w_X1_dryIn
  rw [cl (by omega)]
  refine ⟨vp_in_nI ha (by decide), fun v e => ?_⟩
  subst e
  unfold dryAt at h
  refine ⟨fun c => ?_, fun c => ?_⟩
  · rw [if_neg (show ¬ hlC σ i 12 a = NON from c)] at h
    obtain ⟨k, hk, e⟩ := hr.resolve_left c
    replace h : post (if kCovers (σ 6 i (σ 12 i a).toNatClampNeg) (σ 7 i (σ 12 i a).toNatClampNeg) < σ 10 i a then kCovers (σ 6 i (σ 12 i a).toNatClampNeg) (σ 7 i (σ 12 i a).toNatClampNeg) else σ 10 i a) σ := h
    rw [e] at h ⊢
    unfold w_X1_dryWere
    rw [cl (show a < 2 ^ 31 by omega)]
    refine ⟨vp_in_nI ha (by decide), vp_in_nI hk (by decide), vp_in_nI hk (by decide), sX2_covers ?_⟩
    intro v e
    subst e
    exact h
  · rw [if_pos (show hlC σ i 12 a = NON from c)] at h
    exact h
theorem sX1_dryOf {post : Int32 → St → Prop} {σ : St} {i t : Nat} (ht : t < 2) (hr : ∀ a, a < 12 → σ 12 i a = NON ∨ ∃ k, k < 12 ∧ σ 12 i a = nI k) (h : post (dryOf (hlC σ i) t) σ) : w_X1_dryOf post σ i (nI t) := by
  unfold w_X1_dryOf
  refine sX9_firstHouse ⟨7, ?_⟩
  suffices H : ∀ m k, k + m = 6 → l_X1_dryOf_10 post (m + 1) σ i (nI (6 * t)) (sumTo (fun j => dryAt (hlC σ i) (6 * t + j)) k) (nI (6 * t + k)) by
    exact H 6 0 (by omega)
  intro m
  induction m with
  | zero =>
    intro k hk
    obtain rfl : k = 6 := by omega
    show b_X1_dryOf_10 _ post σ i _ _ _
    unfold b_X1_dryOf_10
    have e : nI (6 * t) + 6 = nI (6 * t + 6) := nI_add _ _
    rw [e]
    exact ⟨fun _ => h, fun c => absurd (nI_le (Nat.le_refl _) (by omega)) c⟩
  | succ m ih =>
    intro k hk
    show b_X1_dryOf_10 (l_X1_dryOf_10 post (m + 1)) post σ i _ _ _
    unfold b_X1_dryOf_10
    have e : nI (6 * t) + 6 = nI (6 * t + 6) := nI_add _ _
    rw [e]
    refine ⟨fun c => absurd c (nI_ge (by omega) (by omega)), fun _ => sX1_dryIn (by omega) (hr _ (by omega)) (fun v e v2 e2 => ?_)⟩
    subst e
    subst e2
    rw [nI_1]
    exact ih (k + 1) (by omega)
