/-! LAYER 2. A hill's nights: the class. -/
def bitOf (s : Int32) (k : Nat) : Int32 := (s >>> (nI k &&& 31)) &&& 1
def nthS (s : Int32) : Nat → Nat → Int32 → Int32
  | 0, _, _ => NON
  | m + 1, k, left => if bitOf s k = 1 then (if left = 0 then nI k else nthS s m (k + 1) (left + (-1))) else nthS s m (k + 1) left
theorem nthS_in (s : Int32) : ∀ (m k : Nat) (left : Int32), nthS s m k left = NON ∨ ∃ j, k ≤ j ∧ j < k + m ∧ nthS s m k left = nI j := by
  intro m
  induction m with
  | zero => intro k left; exact Or.inl rfl
  | succ m ih =>
    intro k left
    unfold nthS
    split
    · split
      · exact Or.inr ⟨k, Nat.le_refl _, by omega, rfl⟩
      · exact (ih (k + 1) _).imp id (fun ⟨j, h1, h2, h3⟩ => ⟨j, by omega, by omega, h3⟩)
    · exact (ih (k + 1) _).imp id (fun ⟨j, h1, h2, h3⟩ => ⟨j, by omega, by omega, h3⟩)
theorem sX9_inSet {post : Int32 → St → Prop} {σ : St} {s : Int32} {k : Nat} (h : post (if bitOf s k = 1 then 1 else 0) σ) : w_X9_inSet post σ s (nI k) := by
  unfold w_X9_inSet
  refine ⟨fun c => ?_, fun c => ?_⟩
  · rw [if_neg (show ¬ bitOf s k = 1 from c)] at h
    exact h
  · rw [if_pos (show bitOf s k = 1 from c)] at h
    exact h
theorem sX1_roofOfSet {post : Int32 → St → Prop} {σ : St} {i : Nat} {s p : Int32} (h : post (nthS s 12 0 p) σ) : w_X1_roofOfSet post σ i s p := by
  refine ⟨13, ?_⟩
  suffices H : ∀ m k left, k + m = 12 → post (nthS s m k left) σ → l_X1_roofOfSet_5 post (m + 1) σ s left (nI k) by
    exact H 12 0 p (by omega) h
  intro m
  induction m with
  | zero =>
    intro k left hk hp
    obtain rfl : k = 12 := by omega
    show b_X1_roofOfSet_5 _ post σ _ _ _
    unfold b_X1_roofOfSet_5
    exact ⟨fun _ => hp, fun c => absurd (show (12 : Int32) ≤ nI 12 by decide) c⟩
  | succ m ih =>
    intro k left hk hp
    show b_X1_roofOfSet_5 (l_X1_roofOfSet_5 post (m + 1)) post σ _ _ _
    unfold b_X1_roofOfSet_5
    unfold nthS at hp
    refine ⟨fun c => absurd (show nI 12 ≤ nI k from c) (nI_ge (by omega) (by omega)), fun _ => sX9_inSet ?_⟩
    by_cases hb : bitOf s k = 1
    · rw [if_pos hb] at hp
      rw [if_pos hb]
      refine ⟨fun c => absurd c (by decide), fun _ => ⟨fun c v e v2 e2 => ?_, fun c => ?_⟩⟩
      · subst e
        subst e2
        rw [if_neg c] at hp
        rw [nI_1]
        exact ih (k + 1) _ (by omega) hp
      · rw [if_pos c] at hp
        exact hp
    · rw [if_neg hb] at hp
      rw [if_neg hb]
      refine ⟨fun _ v e => ?_, fun c => absurd rfl c⟩
      subst e
      rw [nI_1]
      exact ih (k + 1) _ (by omega) hp
def bitC (x : Int32) : Int32 :=
  let v1 := x - (jushr x 1 &&& 1431655765)
  let v2 := (v1 &&& 858993459) + (jushr v1 2 &&& 858993459)
  let v3 := (v2 + jushr v2 4) &&& 252645135
  let v4 := v3 + jushr v3 8
  (v4 + jushr v4 16) &&& 63
theorem sJ6_bitCount {post : Int32 → St → Prop} {σ : St} {x : Int32} (h : post (bitC x) σ) : w_J6_bitCount_0f7a4 post σ x := by
  unfold w_J6_bitCount_0f7a4
  intro v1 e1 v2 e2 v3 e3 v4 e4 v5 e5
  subst e1
  subst e2
  subst e3
  subst e4
  subst e5
  exact h
/-- what keeps the class' rows in range, past the roofs that are too -/
def HS (h : Hl) (n : Nat) : Prop := n ≤ 12 ∧ h 5 0 = nI n ∧ (∀ k, k < 12 → ∃ a, a < 12 ∧ h 9 k = nI a) ∧ (∀ a, a < 12 → h 12 a = NON ∨ ∃ k, k < 12 ∧ h 12 a = nI k)
theorem freeFrom_in (h : Hl) : ∀ (m b : Nat), freeFrom h b m = NON ∨ ∃ a, b ≤ a ∧ a < b + m ∧ freeFrom h b m = nI a := by
  intro m
  induction m with
  | zero => intro b; exact Or.inl rfl
  | succ m ih =>
    intro b
    unfold freeFrom
    split
    · exact Or.inr ⟨b, Nat.le_refl _, by omega, rfl⟩
    · exact (ih (b + 1)).imp id (fun ⟨j, h1, h2, h3⟩ => ⟨j, by omega, by omega, h3⟩)
def stealH (sp : Int32 → Int32 → Int32 → Int32) (h : Hl) (r home luck : Int32) : Hl := if r = NON then h else if h 11 (h 9 r.toNatClampNeg).toNatClampNeg ≤ luck then carryH sp h r.toNatClampNeg home.toNatClampNeg else setH h 5 3 (h 5 3 + 1)
def goOutH (sp : Int32 → Int32 → Int32 → Int32) (h : Hl) (t n : Nat) : Hl := if bitC (lootTo h t n) = 0 then h else if homeV h t = NON then h else stealH sp (drawH (drawH h)) (nthS (lootTo h t n) 12 0 (jrem (drawV h) (bitC (lootTo h t n)))) (homeV h t) (jrem (drawV (drawH h)) 100)
theorem sX1_goOut {post : St → Prop} {σ : St} {i t n : Nat} {sp : Int32 → Int32 → Int32 → Int32} (ht : t < 2) (hs : HS (hlC σ i) n) (hsp : SpiteAt σ i 12 sp) (h : ∀ σ' : St, hlC σ' i = goOutH sp (hlC σ i) t n → FR σ σ' i → post σ') : w_X1_goOut post σ i (nI t) := by
  obtain ⟨h12, hn, h9, hr⟩ := hs
  unfold w_X1_goOut
  refine sX1_mayCarry ht hn h12 (sX1_homeOf ht (sJ6_bitCount ?_))
  unfold goOutH at h
  refine ⟨fun c => ?_, fun c => ⟨fun c2 => sX1_draw (fun s1 e1 f1 => ⟨c, fun v ev => sX1_roofOfSet (sX1_draw (fun s2 e2 f2 => ⟨by decide, fun w ew => ?_⟩))⟩), fun c2 => ?_⟩⟩
  · rw [if_pos c] at h
    exact h σ rfl FR.rf
  · subst ev
    subst ew
    rw [if_neg c, if_neg c2] at h
    rw [e1] at e2
    have f : FR σ s2 i := f1.tr f2
    rw [← e2] at h
    unfold stealH at h
    rw [e1]
    generalize hR : nthS (lootTo (hlC σ i) t n) 12 0 (jrem (drawV (hlC σ i)) (bitC (lootTo (hlC σ i) t n))) = R at h ⊢
    have hRi := nthS_in (lootTo (hlC σ i) t n) 12 0 (jrem (drawV (hlC σ i)) (bitC (lootTo (hlC σ i) t n)))
    rw [hR] at hRi
    refine ⟨fun c3 => ?_, fun c3 => ?_⟩
    · rw [if_neg c3] at h
      obtain ⟨k, _, hk, rfl⟩ := hRi.resolve_left c3
      have hk : k < 12 := by omega
      obtain ⟨a, ha, eA⟩ := h9 k hk
      have e9 : s2 9 i k = nI a := by
        have q : hlC s2 i 9 k = drawH (drawH (hlC σ i)) 9 k := by rw [e2]
        have q2 : drawH (drawH (hlC σ i)) 9 k = hlC σ i 9 k := by simp [drawH, setH]
        rw [q2, eA] at q
        exact q
      rw [cl (show k < 2 ^ 31 by omega)] at h ⊢
      refine ⟨vp_in_nI hk (by decide), by rw [e9]; exact vp_in_nI ha (by decide), fun c4 => ?_, fun c4 s3 e3 => ?_⟩
      · rw [if_pos (show hlC s2 i 11 (hlC s2 i 9 k).toNatClampNeg ≤ _ from c4)] at h
        obtain ⟨b, _, hb, eb⟩ := (freeFrom_in (hlC σ i) 6 (6 * t)).resolve_left c2
        have eb : homeV (hlC σ i) t = nI b := eb
        rw [eb] at h ⊢
        rw [cl (show b < 2 ^ 31 by omega)] at h
        refine sX1_carry (n := 12) (sp := sp) (fun s5 f5 => hsp s5 (f.tr f5)) hk hk (by omega) (by rw [e9]; exact vp_in_nI ha (by decide)) (fun s4 e4 f4 => h s4 e4 (f.tr f4))
      · rw [if_neg (show ¬ hlC s2 i 11 (hlC s2 i 9 k).toNatClampNeg ≤ _ from c4)] at h
        subst e3
        exact h _ (hl_wr (by decide)) (f.tr (FR_wr (by decide) (by decide) (by omega)))
    · rw [if_pos c3] at h
      exact h s2 rfl f
  · by_cases c0 : bitC (lootTo (hlC σ i) t n) = 0
    · exact absurd c0 c
    · rw [if_neg c, if_pos c2] at h
      exact h σ rfl FR.rf
