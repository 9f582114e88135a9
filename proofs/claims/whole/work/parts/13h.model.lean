/-! LAYER 2. The model: its row of numbers as a hill. -/
/-- where the model's row has a hill's cell -/
def mi (k j : Nat) : Nat := if k = 5 then (if j = 0 then 0 else if j = 1 then 5 else if j = 2 then 6 else if j = 3 then 7 else if j = 4 then 8 else if j = 5 then 2 else if j = 6 then 9 else 1) else if k = 13 then 3 + j else if k = 10 then 58 + j else if k = 11 then 70 + j else 4 + 4 * j + k
/-- the cells that the model has (not the houses' roofs) -/
def vm (k j : Nat) : Prop := (k = 5 ∧ j < 8) ∨ (6 ≤ k ∧ k ≤ 11 ∧ j < 12) ∨ (k = 13 ∧ j < 2)
theorem mi_lt {k j : Nat} (h : vm k j) : mi k j < 82 := by
  unfold vm at h
  unfold mi
  repeat' split
  all_goals omega
theorem mi_ne {k j : Nat} (h : vm k j) (h2 : ¬ (k = 5 ∧ j = 7)) : mi k j ≠ 1 := by
  unfold vm at h
  unfold mi
  repeat' split
  all_goals omega
theorem mi_inj {k j k2 j2 : Nat} (h : vm k j) (h2 : vm k2 j2) (e : mi k j = mi k2 j2) : k = k2 ∧ j = j2 := by
  unfold vm at h h2
  unfold mi at e
  repeat' split at e
  all_goals omega
def HM (h : Hl) (f : Nat → Int32) : Prop := ∀ k j, vm k j → f (mi k j) = h k j
theorem HM_set {h : Hl} {f : Nat → Int32} {k j : Nat} {v : Int32} (hm : HM h f) (hv : vm k j) : HM (setH h k j v) (upd f (mi k j) v) := by
  intro k2 j2 hv2
  simp only [setH, upd]
  by_cases e : mi k2 j2 = mi k j
  · obtain ⟨rfl, rfl⟩ := mi_inj hv2 hv e
    simp
  · rw [if_neg e, if_neg (fun q => e (by rw [q.1, q.2]))]
    exact hm k2 j2 hv2
theorem HM_set12 {h : Hl} {f : Nat → Int32} {j : Nat} {v : Int32} (hm : HM h f) : HM (setH h 12 j v) f := by
  intro k2 j2 hv2
  simp only [setH]
  rw [if_neg (fun q => by unfold vm at hv2; omega)]
  exact hm k2 j2 hv2
theorem HM_eq {h h' : Hl} {f : Nat → Int32} (hm : HM h f) (e : EqH h' h) : HM h' f := fun k j hv => (hm k j hv).trans (e k j (by unfold vm at hv; unfold vc; omega)).symm
/-- houses and roofs are one to one -/
def HO (h : Hl) (n : Nat) : Prop := HS h n ∧ (∀ k, k < n → ∃ a, a < 12 ∧ h 9 k = nI a ∧ h 12 a = nI k) ∧ (∀ a, a < 12 → h 12 a = NON ∨ ∃ k, k < n ∧ h 12 a = nI k ∧ h 9 k = nI a)
/-- what the model's nights leave alone -/
def FM (τ τ' : St) : Prop := ∀ k a j, k ≠ 16 → k ≠ 17 → (k ≠ 1 ∨ 82 ≤ j ∨ j = 1) → τ' k a j = τ k a j
theorem FM.rf {τ : St} : FM τ τ := fun _ _ _ _ _ _ => rfl
theorem FM.tr {τ τ1 τ2 : St} (h1 : FM τ τ1) (h2 : FM τ1 τ2) : FM τ τ2 := fun k a j h3 h4 h5 => (h2 k a j h3 h4 h5).trans (h1 k a j h3 h4 h5)
theorem FM_wr {τ : St} {j : Nat} {v : Int32} (h1 : j < 82) (h2 : j ≠ 1) : FM τ (wr τ 1 0 j v) := fun a b c h3 h4 h5 => by
  simp only [wr]
  rw [if_neg (by omega)]
theorem FM_wr2 {τ : St} {k a j : Nat} {v : Int32} (h1 : k = 16 ∨ k = 17) : FM τ (wr τ k a j v) := fun a b c h3 h4 h5 => by
  simp only [wr]
  rw [if_neg (by omega)]
theorem wr1 {τ : St} {j : Nat} {v : Int32} : wr τ 1 0 j v 1 0 = upd (τ 1 0) j v := wr_row τ 1 0 j v
theorem nI_NON {k : Nat} (hk : k < 2 ^ 31) : ¬ nI k = NON := fun e => absurd (show nI k < 0 by rw [e]; decide) (nI_pos hk)
section ModelReads
variable {τ : St} {h : Hl} {n k a t : Nat}
theorem mN (hm : HM h (τ 1 0)) (ho : HS h n) : τ 1 0 (0 : Int32).toNatClampNeg = nI n := (hm 5 0 (by unfold vm; omega)).trans ho.2.1
theorem mPe (hm : HM h (τ 1 0)) (ha : a < 12) : τ 1 0 (58 + a) = h 10 a := hm 10 a (by unfold vm; omega)
theorem mWa (hm : HM h (τ 1 0)) (ha : a < 12) : τ 1 0 (70 + a) = h 11 a := hm 11 a (by unfold vm; omega)
theorem mSt (hm : HM h (τ 1 0)) (ht : t < 2) : τ 1 0 (3 + t) = h 13 t := hm 13 t (by unfold vm; omega)
theorem mix (c : Nat) (a : Nat) : nI c + nI a = nI (c + a) := nI_add c a
theorem mofx {w : Nat} : (10 + 4 * nI k) + nI w = nI (10 + 4 * k + w) := by
  rw [show (4 : Int32) = nI 4 from rfl, show (10 : Int32) = nI 10 from rfl, pk_mul, nI_add, nI_add]
theorem sOf {post : Int32 → St → Prop} {w : Nat} (hm : HM h (τ 1 0)) (hk : k < 12) (hw : w < 4) (hp : post (h (6 + w) k) τ) : w_X10_of post τ (nI k) (nI w) := by
  unfold w_X10_of
  rw [mofx, cl (by omega)]
  refine ⟨vp_in_nI (by omega) (by decide), ?_⟩
  have e : mi (6 + w) k = 10 + 4 * k + w := by
    unfold mi
    rw [if_neg (by omega), if_neg (by omega), if_neg (by omega), if_neg (by omega)]
    omega
  have g := hm (6 + w) k (by unfold vm; omega)
  rw [e] at g
  rw [g]
  exact hp
theorem sOf0 {post : Int32 → St → Prop} (hm : HM h (τ 1 0)) (hk : k < 12) (hp : post (h 6 k) τ) : w_X10_of post τ (nI k) 0 := sOf (w := 0) hm hk (by decide) hp
theorem sOf1 {post : Int32 → St → Prop} (hm : HM h (τ 1 0)) (hk : k < 12) (hp : post (h 7 k) τ) : w_X10_of post τ (nI k) 1 := sOf (w := 1) hm hk (by decide) hp
theorem sOf2 {post : Int32 → St → Prop} (hm : HM h (τ 1 0)) (hk : k < 12) (hp : post (h 8 k) τ) : w_X10_of post τ (nI k) 2 := sOf (w := 2) hm hk (by decide) hp
theorem sOf3 {post : Int32 → St → Prop} (hm : HM h (τ 1 0)) (hk : k < 12) (hp : post (h 9 k) τ) : w_X10_of post τ (nI k) 3 := sOf (w := 3) hm hk (by decide) hp
theorem sSets {post : St → Prop} {w : Nat} {v : Int32} (hm : HM h (τ 1 0)) (hk : k < 12) (hw : w < 4) (hp : ∀ τ' : St, HM (setH h (6 + w) k v) (τ' 1 0) → FM τ τ' → post τ') : w_X10_sets post τ (nI k) (nI w) v := by
  unfold w_X10_sets
  rw [mofx, cl (by omega)]
  refine ⟨vp_in_nI (by omega) (by decide), fun s es => ?_⟩
  subst es
  have e : mi (6 + w) k = 10 + 4 * k + w := by
    unfold mi
    rw [if_neg (by omega), if_neg (by omega), if_neg (by omega), if_neg (by omega)]
    omega
  refine hp _ ?_ (FM_wr (by omega) (by omega))
  rw [wr1, ← e]
  exact HM_set hm (by unfold vm; omega)
theorem sX10_weighs {post : Int32 → St → Prop} (hm : HM h (τ 1 0)) (hk : k < 12) (hp : post (kWeighs (h 6 k) (h 7 k)) τ) : w_X10_weighs post τ (nI k) := by
  unfold w_X10_weighs
  refine sOf1 hm hk (fun v ev => sOf0 hm hk ?_)
  subst ev
  unfold kWeighs at hp
  refine ⟨fun c => ⟨n2, ?_⟩, fun c => ⟨fun c => ?_, fun c => ⟨fun c => ⟨n2, ?_⟩, fun c => ⟨fun c => ?_, fun c => ⟨fun c => ?_, fun c => ?_⟩⟩⟩⟩⟩ <;> simp_all
theorem sX10_covers {post : Int32 → St → Prop} (hm : HM h (τ 1 0)) (hk : k < 12) (hp : post (kCovers (h 6 k) (h 7 k)) τ) : w_X10_covers post τ (nI k) := by
  unfold w_X10_covers
  refine sOf1 hm hk (sOf0 hm hk ?_)
  unfold kCovers at hp
  refine ⟨fun c => ?_, fun c => ⟨fun c => ⟨n2, ?_⟩, fun c => ⟨fun c => ?_, fun c => ⟨fun c => ?_, fun c => ?_⟩⟩⟩⟩ <;> simp_all
theorem sX10_drips {post : Int32 → St → Prop} (hm : HM h (τ 1 0)) (hk : k < 12) (hp : post (kDrips (h 6 k) (h 8 k)) τ) : w_X10_drips post τ (nI k) := by
  unfold w_X10_drips
  refine sOf2 hm hk ⟨n10, fun v ev => sOf0 hm hk ?_⟩
  subst ev
  unfold kDrips at hp
  refine ⟨fun c => ?_, fun c => ⟨fun c => ?_, fun c => ⟨fun c => ?_, fun c => ⟨fun c => ?_, fun c => ?_⟩⟩⟩⟩ <;> simp_all
theorem k24 (z : Int32) : 24 - z = 30 - z - 6 := by
  rw [Int32.sub_eq_add_neg, Int32.sub_eq_add_neg, Int32.sub_eq_add_neg, Int32.add_assoc, Int32.add_comm (-z), ← Int32.add_assoc]
  rfl
theorem sX10_worth {post : Int32 → St → Prop} (hm : HM h (τ 1 0)) (hk : k < 12) (hp : post (kWorth (h 6 k) (h 7 k)) τ) : w_X10_worth post τ (nI k) := by
  unfold w_X10_worth
  refine sOf1 hm hk (sOf0 hm hk ?_)
  unfold kWorth at hp
  rw [← k24] at hp
  refine ⟨fun c => ?_, fun c => ⟨fun c => ?_, fun c => ⟨fun c => ?_, fun c => ⟨fun c => ?_, fun c => ⟨fun c => ?_, fun c => ?_⟩⟩⟩⟩⟩ <;> simp_all
def ovV (h : Hl) (a : Nat) : Int32 := if h 12 a = NON then -1 else h 12 a
theorem sX10_over {post : Int32 → St → Prop} (hm : HM h (τ 1 0)) (ho : HO h n) (ha : a < 12) (hp : post (ovV h a) τ) : w_X10_over post τ (nI a) := by
  obtain ⟨hs, hk1, ha1⟩ := ho
  have hn := hs.1
  refine ⟨n + 1, ?_⟩
  suffices H : ∀ m k, k + m = n → (∀ j, j < k → ¬ h 9 j = nI a) → l_X10_over_2 post (m + 1) τ (nI a) (nI k) by
    exact H n 0 (by omega) (fun j hj => absurd hj (by omega))
  intro m
  induction m with
  | zero =>
    intro k hk hno
    obtain rfl : k = n := by omega
    show b_X10_over_2 _ post τ _ _
    unfold b_X10_over_2
    rw [mN hm hs]
    refine ⟨vp_in_nI (n := 0) (by decide) (by decide), fun _ => ?_, fun c => absurd (nI_le (Nat.le_refl _) (by omega)) c⟩
    unfold b_X10_over_28
    rw [mN hm hs]
    refine ⟨vp_in_nI (n := 0) (by decide) (by decide), fun _ => ?_, fun c => absurd (nI_le (Nat.le_refl _) (by omega)) c⟩
    unfold ovV at hp
    rcases ha1 a ha with e | ⟨j, hj, _, e⟩
    · rw [if_pos e] at hp
      exact hp
    · exact absurd e (hno j hj)
  | succ m ih =>
    intro k hk hno
    show b_X10_over_2 (l_X10_over_2 post (m + 1)) post τ _ _
    unfold b_X10_over_2
    rw [mN hm hs]
    refine ⟨vp_in_nI (n := 0) (by decide) (by decide), fun c => absurd c (nI_ge (by omega) (by omega)), fun _ => sOf3 hm (by omega) ⟨fun c => ?_, fun c v ev => ?_⟩⟩
    · unfold b_X10_over_28
      rw [mN hm hs]
      refine ⟨vp_in_nI (n := 0) (by decide) (by decide), fun c => absurd c (nI_ge (by omega) (by omega)), fun _ => ?_⟩
      obtain ⟨b, hb, e1, e2⟩ := hk1 k (by omega)
      have eb : b = a := (nI_eq (by omega) (by omega)).1 (e1.symm.trans c)
      subst eb
      unfold ovV at hp
      rw [e2, if_neg (nI_NON (by omega))] at hp
      exact hp
    · subst ev
      rw [nI_1]
      refine ih (k + 1) (by omega) (fun j hj => ?_)
      by_cases ej : j = k
      · subst ej
        exact c
      · exact hno j (by omega)
theorem tw_n (ha : a < 12) : tw (nI a) = nI (a / 6) := by
  unfold tw
  by_cases c : 6 ≤ a
  · rw [if_pos (show (6 : Int32) ≤ nI a from nI_le (a := 6) c (by omega)), show a / 6 = 1 by omega]
    rfl
  · rw [if_neg (show ¬ (6 : Int32) ≤ nI a from nI_ge (b := 6) (by omega) (by omega)), show a / 6 = 0 by omega]
    rfl
theorem sX10_townOf {post : Int32 → St → Prop} (hm : HM h (τ 1 0)) (hs : HS h n) (hk : k < 12) (hp : post (tw (h 9 k)) τ) : w_X10_townOf post τ (nI k) := by
  unfold w_X10_townOf
  refine sOf3 hm hk ⟨n6, ?_⟩
  obtain ⟨a, ha, e⟩ := hs.2.2.1 k hk
  rw [e, tw_n ha] at hp
  rw [e, show nI a / 6 = nI (a / 6) from pk_div (d := 6) (by omega) (by decide) (by decide)]
  exact hp
theorem sX10_dryIn {post : Int32 → St → Prop} (hm : HM h (τ 1 0)) (ho : HO h n) (ha : a < 12) (hp : post (dryAt h a) τ) : w_X10_dryIn post τ (nI a) := by
  unfold w_X10_dryIn
  refine sX10_over hm ho ha ?_
  unfold dryAt at hp
  unfold ovV
  rcases ho.2.2 a ha with e | ⟨k, hk, e, _⟩
  · rw [if_pos e] at hp
    rw [if_pos e]
    exact ⟨fun c => absurd c (by decide), fun _ => hp⟩
  · have hn := ho.1.1
    rw [e, if_neg (nI_NON (by omega)), cl (by omega)] at hp
    rw [e, if_neg (nI_NON (by omega))]
    refine ⟨fun _ => ?_, fun c => absurd (nI_pos' (by omega)) c⟩
    rw [show (58 : Int32) + nI a = nI (58 + a) from nI_add 58 a, cl (by omega), mPe hm ha]
    refine ⟨vp_in_nI (by omega) (by decide), sX10_covers hm (by omega) ?_⟩
    unfold w_X10_least
    refine ⟨fun c => ?_, fun c => ?_⟩
    · by_cases c2 : kCovers (h 6 k) (h 7 k) < h 10 a
      · rw [if_pos c2] at hp
        exact hp
      · rw [if_neg c2] at hp
        rw [Int32.le_antisymm c (Int32.not_lt.mp c2)]
        exact hp
    · rw [if_neg (fun c2 => c (Int32.le_of_lt c2))] at hp
      exact hp
theorem sX10_dryOf {post : Int32 → St → Prop} (hm : HM h (τ 1 0)) (ho : HO h n) (ht : t < 2) (hp : post (dryOf h t) τ) : w_X10_dryOf post τ (nI t) := by
  unfold w_X10_dryOf
  have e6 : (6 : Int32) * nI t = nI (6 * t) := pk_mul 6 t
  rw [e6]
  intro v ev
  subst ev
  refine ⟨7, ?_⟩
  suffices H : ∀ m k, k + m = 6 → l_X10_dryOf_7 post (m + 1) τ (nI t) (sumTo (fun j => dryAt h (6 * t + j)) k) (nI (6 * t + k)) by
    exact H 6 0 (by omega)
  intro m
  induction m with
  | zero =>
    intro k hk
    obtain rfl : k = 6 := by omega
    show b_X10_dryOf_7 _ post τ _ _ _
    unfold b_X10_dryOf_7
    have e : 6 * nI t + 6 = nI (6 * t + 6) := by rw [e6]; exact nI_add _ 6
    rw [e]
    exact ⟨fun _ => hp, fun c => absurd (nI_le (Nat.le_refl _) (by omega)) c⟩
  | succ m ih =>
    intro k hk
    show b_X10_dryOf_7 (l_X10_dryOf_7 post (m + 1)) post τ _ _ _
    unfold b_X10_dryOf_7
    have e : 6 * nI t + 6 = nI (6 * t + 6) := by rw [e6]; exact nI_add _ 6
    rw [e]
    refine ⟨fun c => absurd c (nI_ge (by omega) (by omega)), fun _ => sX10_dryIn hm ho (by omega) (fun v e v2 e2 => ?_)⟩
    subst e
    subst e2
    rw [nI_1]
    exact ih (k + 1) (by omega)
theorem sX10_leaks {post : Int32 → St → Prop} (hm : HM h (τ 1 0)) (hs : HS h n) (hp : post (sumTo (h 8) n) τ) : w_X10_leaks post τ := by
  have hn := hs.1
  refine ⟨n + 1, ?_⟩
  suffices H : ∀ m k, k + m = n → l_X10_leaks_4 post (m + 1) τ (sumTo (h 8) k) (nI k) by
    exact H n 0 (by omega)
  intro m
  induction m with
  | zero =>
    intro k hk
    obtain rfl : k = n := by omega
    show b_X10_leaks_4 _ post τ _ _
    unfold b_X10_leaks_4
    rw [mN hm hs]
    exact ⟨vp_in_nI (n := 0) (by decide) (by decide), fun _ => hp, fun c => absurd (nI_le (Nat.le_refl _) (by omega)) c⟩
  | succ m ih =>
    intro k hk
    show b_X10_leaks_4 (l_X10_leaks_4 post (m + 1)) post τ _ _
    unfold b_X10_leaks_4
    rw [mN hm hs]
    refine ⟨vp_in_nI (n := 0) (by decide) (by decide), fun c => absurd c (nI_ge (by omega) (by omega)), fun _ => sOf2 hm (by omega) (fun v e v2 e2 => ?_)⟩
    subst e
    subst e2
    rw [nI_1]
    exact ih (k + 1) (by omega)
theorem sX10_mayCarry {post : Int32 → St → Prop} (hm : HM h (τ 1 0)) (hs : HS h n) (ht : t < 2) (hk : k < 12) (hp : post (if tw (h 9 k) = nI t then 0 else if h 13 t < kWeighs (h 6 k) (h 7 k) then 0 else 1) τ) : w_X10_mayCarry post τ (nI t) (nI k) := by
  unfold w_X10_mayCarry
  refine sX10_townOf hm hs hk ⟨fun c => ?_, fun c => sX10_weighs hm hk ?_⟩
  · rw [if_pos c] at hp
    exact hp
  · rw [if_neg c] at hp
    rw [show (3 : Int32) + nI t = nI (3 + t) from nI_add 3 t, cl (by omega), mSt hm ht]
    refine ⟨vp_in_nI (by omega) (by decide), fun c2 => ?_, fun c2 => ?_⟩
    · rw [if_pos c2] at hp
      exact hp
    · rw [if_neg c2] at hp
      exact hp
theorem sX10_lootOf {post : Int32 → St → Prop} (hm : HM h (τ 1 0)) (hs : HS h n) (ht : t < 2) (hp : post (lootTo h t n) τ) : w_X10_lootOf post τ (nI t) := by
  have hn := hs.1
  refine ⟨n + 1, ?_⟩
  suffices H : ∀ m k, k + m = n → l_X10_lootOf_4 post (m + 1) τ (nI t) (lootTo h t k) (nI k) by
    exact H n 0 (by omega)
  intro m
  induction m with
  | zero =>
    intro k hk
    obtain rfl : k = n := by omega
    show b_X10_lootOf_4 _ post τ _ _ _
    unfold b_X10_lootOf_4
    rw [mN hm hs]
    exact ⟨vp_in_nI (n := 0) (by decide) (by decide), fun _ => hp, fun c => absurd (nI_le (Nat.le_refl _) (by omega)) c⟩
  | succ m ih =>
    intro k hk
    show b_X10_lootOf_4 (l_X10_lootOf_4 post (m + 1)) post τ _ _ _
    unfold b_X10_lootOf_4
    rw [mN hm hs]
    have hq := ih (k + 1) (by omega)
    unfold lootTo at hq
    refine ⟨vp_in_nI (n := 0) (by decide) (by decide), fun c => absurd c (nI_ge (by omega) (by omega)), fun _ => sX10_mayCarry hm hs ht (by omega) ?_⟩
    by_cases c1 : tw (h 9 k) = nI t
    · rw [if_pos c1] at hq
      rw [if_pos c1]
      refine ⟨fun _ v e v2 e2 => ?_, fun c => absurd rfl c⟩
      subst e
      subst e2
      rw [nI_1, Int32.or_zero]
      exact hq
    · rw [if_neg c1] at hq
      rw [if_neg c1]
      by_cases c2 : h 13 t < kWeighs (h 6 k) (h 7 k)
      · rw [if_pos c2] at hq
        rw [if_pos c2]
        refine ⟨fun _ v e v2 e2 => ?_, fun c => absurd rfl c⟩
        subst e
        subst e2
        rw [nI_1, Int32.or_zero]
        exact hq
      · rw [if_neg c2] at hq
        rw [if_neg c2]
        refine ⟨fun c => absurd c (by decide), fun _ v e v2 e2 => ?_⟩
        subst e
        subst e2
        rw [nI_1]
        exact hq
def hmV (h : Hl) (t : Nat) : Int32 := if homeV h t = NON then -1 else homeV h t
theorem sX10_homeOf {post : Int32 → St → Prop} (hm : HM h (τ 1 0)) (ho : HO h n) (ht : t < 2) (hp : post (hmV h t) τ) : w_X10_homeOf post τ (nI t) := by
  unfold w_X10_homeOf
  have e6 : (6 : Int32) * nI t = nI (6 * t) := pk_mul 6 t
  rw [e6]
  intro v ev
  subst ev
  refine ⟨7, ?_⟩
  have e : 6 * nI t + 6 = nI (6 * t + 6) := by rw [e6]; exact nI_add _ 6
  suffices H : ∀ m b, b + m = 6 * t + 6 → post (if freeFrom h b m = NON then -1 else freeFrom h b m) τ → l_X10_homeOf_5 post (m + 1) τ (nI t) (nI b) by
    exact H 6 (6 * t) (by omega) hp
  intro m
  induction m with
  | zero =>
    intro b hb hp
    obtain rfl : b = 6 * t + 6 := by omega
    show b_X10_homeOf_5 _ post τ _ _
    unfold b_X10_homeOf_5 b_X10_homeOf_30
    rw [e]
    exact ⟨fun _ => ⟨fun _ => hp, fun c => absurd (nI_le (Nat.le_refl _) (by omega)) c⟩, fun c => absurd (nI_le (Nat.le_refl _) (by omega)) c⟩
  | succ m ih =>
    intro b hb hp
    show b_X10_homeOf_5 (l_X10_homeOf_5 post (m + 1)) post τ _ _
    unfold b_X10_homeOf_5 b_X10_homeOf_30
    rw [e]
    refine ⟨fun c => absurd c (nI_ge (by omega) (by omega)), fun _ => sX10_over hm ho (by omega) ?_⟩
    unfold freeFrom at hp
    unfold ovV
    rcases ho.2.2 b (by omega) with e1 | ⟨k, hk, e1, _⟩
    · rw [if_pos e1] at hp ⊢
      rw [if_neg (nI_NON (by omega))] at hp
      exact ⟨fun _ => ⟨fun c => absurd c (nI_ge (by omega) (by omega)), fun _ => hp⟩, fun c => absurd (by decide) c⟩
    · have hn := ho.1.1
      rw [e1, if_neg (nI_NON (by omega))] at hp ⊢
      refine ⟨fun c => absurd c (nI_pos (by omega)), fun _ v ev => ?_⟩
      subst ev
      rw [nI_1]
      exact ih (b + 1) (by omega) hp
theorem sX10_rains {post : Int32 → St → Prop} (hm : HM h (τ 1 0)) (ho : HO h n) (hp : post (rainV h n) τ) : w_X10_rains post τ := by
  have hn := ho.1.1
  refine ⟨n + 1, ?_⟩
  suffices H : ∀ m k, k + m = n → l_X10_rains_4 post (m + 1) τ (dripsTo h k) (nI k) by
    exact H n 0 (by omega)
  intro m
  induction m with
  | zero =>
    intro k hk
    obtain rfl : k = n := by omega
    show b_X10_rains_4 _ post τ _ _
    unfold b_X10_rains_4
    rw [mN hm ho.1]
    refine ⟨vp_in_nI (n := 0) (by decide) (by decide), fun _ => ⟨13, ?_⟩, fun c => absurd (nI_le (Nat.le_refl _) (by omega)) c⟩
    suffices H2 : ∀ m a, a + m = 12 → l_X10_rains_30 post (m + 1) τ (rainTo h (dripsTo h k) a) (nI a) by
      exact H2 12 0 (by omega)
    intro m
    induction m with
    | zero =>
      intro a ha
      obtain rfl : a = 12 := by omega
      show b_X10_rains_30 _ post τ _ _
      unfold b_X10_rains_30
      exact ⟨fun _ => hp, fun c => absurd (show (12 : Int32) ≤ nI 12 by decide) c⟩
    | succ m ih =>
      intro a ha
      show b_X10_rains_30 (l_X10_rains_30 post (m + 1)) post τ _ _
      unfold b_X10_rains_30
      have hq := ih (a + 1) (by omega)
      unfold rainTo at hq
      rw [show (58 : Int32) + nI a = nI (58 + a) from nI_add 58 a, cl (by omega), mPe hm (by omega)]
      refine ⟨fun c => absurd (show nI 12 ≤ nI a from c) (nI_ge (by omega) (by omega)), fun _ => ⟨vp_in_nI (by omega) (by decide), fun c v e v2 e2 => ?_, fun c => sX10_over hm ho (by omega) ?_⟩⟩
      · subst e
        subst e2
        rw [if_pos c] at hq
        rw [nI_1, Int32.add_zero]
        exact hq
      · rw [if_neg c] at hq
        unfold ovV
        rcases ho.2.2 a (by omega) with e1 | ⟨j, hj, e1, _⟩
        · rw [if_pos e1] at hq ⊢
          refine ⟨fun c => absurd c (by decide), fun _ v e v2 e2 => ?_⟩
          subst e
          subst e2
          rw [nI_1]
          exact hq
        · rw [e1, if_neg (nI_NON (by omega))] at hq ⊢
          refine ⟨fun _ v e v2 e2 => ?_, fun c => absurd (nI_pos' (by omega)) c⟩
          subst e
          subst e2
          rw [nI_1, Int32.add_zero]
          exact hq
  | succ m ih =>
    intro k hk
    show b_X10_rains_4 (l_X10_rains_4 post (m + 1)) post τ _ _
    unfold b_X10_rains_4
    rw [mN hm ho.1]
    refine ⟨vp_in_nI (n := 0) (by decide) (by decide), fun c => absurd c (nI_ge (by omega) (by omega)), fun _ => sX10_drips hm (by omega) (fun v e v2 e2 => ?_)⟩
    subst e
    subst e2
    rw [nI_1]
    exact ih (k + 1) (by omega)
theorem sX10_drawn {post : Int32 → St → Prop} (hm : HM h (τ 1 0)) (hp : ∀ τ' : St, HM (drawH h) (τ' 1 0) → FM τ τ' → post (drawV h) τ') : w_X10_drawn post τ := by
  unfold w_X10_drawn
  have c9 : (9 : Int32).toNatClampNeg = 9 := by decide
  rw [c9]
  have hi : vp_in (9 : Int32) 3082 := vp_in_nI (n := 9) (by decide) (by decide)
  refine ⟨hi, hi, fun s es => ⟨hi, ?_⟩⟩
  have e9 : τ 1 0 9 = h 5 6 := hm 5 6 (by unfold vm; omega)
  rw [e9] at es
  have q : s 1 0 9 = zN (h 5 6) := by simp [es, wr, zN]
  rw [q]
  subst es
  refine hp _ ?_ (FM_wr (by decide) (by decide))
  rw [wr1]
  exact HM_set (k := 5) (j := 6) hm (by unfold vm; omega)
end ModelReads
