/-! LAYER 2. The relation of the class' state and the model's; frames; checks of arguments. -/
theorem HS_eq {h h' : Hl} {n : Nat} (e : EqH h' h) (hs : HS h n) : HS h' n := by
  obtain ⟨a, b, c, d⟩ := hs
  refine ⟨a, ?_, fun k hk => ?_, fun k hk => ?_⟩
  · rw [e 5 0 (by unfold vc; omega)]; exact b
  · rw [e 9 k (by unfold vc; omega)]; exact c k hk
  · rw [e 12 k (by unfold vc; omega)]; exact d k hk
theorem HI_eq {h h' : Hl} {n : Nat} (e : EqH h' h) (hi : HI h n) : HI h' n := by
  obtain ⟨⟨hs, h1, h2⟩, h3, h4⟩ := hi
  have hn := hs.1
  have e6 : ∀ k, k < 12 → h' 6 k = h 6 k := fun k hk => e 6 k (by unfold vc; omega)
  have e7 : ∀ k, k < 12 → h' 7 k = h 7 k := fun k hk => e 7 k (by unfold vc; omega)
  have e8 : ∀ k, k < 12 → h' 8 k = h 8 k := fun k hk => e 8 k (by unfold vc; omega)
  have e9 : ∀ k, k < 12 → h' 9 k = h 9 k := fun k hk => e 9 k (by unfold vc; omega)
  have e10 : ∀ k, k < 12 → h' 10 k = h 10 k := fun k hk => e 10 k (by unfold vc; omega)
  have e12 : ∀ k, k < 12 → h' 12 k = h 12 k := fun k hk => e 12 k (by unfold vc; omega)
  refine ⟨⟨HS_eq e hs, fun k hk => ?_, fun a ha => ?_⟩, fun k hk => ?_, fun a ha => ?_⟩
  · obtain ⟨a, ha, g1, g2⟩ := h1 k hk
    exact ⟨a, ha, by rw [e9 k (by omega)]; exact g1, by rw [e12 a ha]; exact g2⟩
  · rw [e12 a ha]
    exact (h2 a ha).imp id (fun ⟨k, hk, g1, g2⟩ => ⟨k, hk, g1, by rw [e9 k (by omega)]; exact g2⟩)
  · rw [e6 k (by omega), e7 k (by omega), e8 k (by omega)]
    exact h3 k hk
  · rw [e10 a ha]
    exact h4 a ha
/-! checks of arguments -/
def wv (x lo hi : Int32) : Int32 := if x < lo then 0 else if hi < x then 0 else 1
theorem wv_01 (x lo hi : Int32) : (wv x lo hi = 1 ∧ ¬ x < lo ∧ ¬ hi < x) ∨ (wv x lo hi = 0 ∧ (x < lo ∨ hi < x)) := by
  unfold wv
  by_cases c : x < lo
  · exact Or.inr ⟨if_pos c, Or.inl c⟩
  · rw [if_neg c]
    by_cases c2 : hi < x
    · exact Or.inr ⟨if_pos c2, Or.inr c2⟩
    · exact Or.inl ⟨if_neg c2, c, c2⟩
theorem wv_10 (x lo hi : Int32) : (wv x lo hi = 0 ∧ (x < lo ∨ hi < x)) ∨ (wv x lo hi = 1 ∧ ¬ x < lo ∧ ¬ hi < x) := (wv_01 x lo hi).symm
theorem cW {post : Int32 → St → Prop} {σ : St} {x lo hi : Int32} (h : post (wv x lo hi) σ) : w_X9_within post σ x lo hi := by
  unfold wv at h
  unfold w_X9_within
  refine ⟨fun c => ?_, fun c => ⟨fun c2 => ?_, fun c2 => ?_⟩⟩ <;> simp_all
theorem lgc_lt (x y : Int32) : lg_cmp x.toInt64 y.toInt64 < 0 ↔ x < y := by
  have e : x.toInt64 < y.toInt64 ↔ x < y := by rw [Int64.lt_iff_toInt_lt, Int32.lt_iff_toInt_lt]; simp
  unfold lg_cmp
  constructor
  · intro h
    split at h
    · exact absurd h (by decide)
    · split at h
      · exact absurd h (by decide)
      · rename_i c1 c2
        exact e.1 (Int64.lt_of_le_of_ne (Int64.not_lt.1 c1) c2)
  · intro h
    have h := e.2 h
    rw [if_neg (fun q => Int64.lt_irrefl (Int64.lt_trans h q)), if_neg (fun q => Int64.lt_irrefl (q ▸ h))]
    decide
theorem lgc_gt (x y : Int32) : 0 < lg_cmp x.toInt64 y.toInt64 ↔ y < x := by
  have e : y.toInt64 < x.toInt64 ↔ y < x := by rw [Int64.lt_iff_toInt_lt, Int32.lt_iff_toInt_lt]; simp
  unfold lg_cmp
  constructor
  · intro h
    split at h
    · rename_i c1
      exact e.1 c1
    · split at h
      · exact absurd h (by decide)
      · exact absurd h (by decide)
  · intro h
    rw [if_pos (e.2 h)]
    decide
theorem mW {post : Int32 → St → Prop} {τ : St} {x lo hi : Int32} {L H : Int64} (hL : L = lo.toInt64) (hH : H = hi.toInt64) (h : post (wv x lo hi) τ) : w_X10_isIn post τ x.toInt64 L H := by
  subst hL
  subst hH
  unfold wv at h
  unfold w_X10_isIn
  rw [lgc_lt, lgc_gt]
  refine ⟨fun c => ?_, fun c => ⟨fun c2 => ?_, fun c2 => ?_⟩⟩ <;> simp_all
section Guards
variable {A B : St → Prop} {σ : St} {x lo hi : Int32} {L H : Int64}
theorem gC1 (e : wv x lo hi = 1) (h : B σ) : w_X9_within (fun r s => (r = 0 → A s) ∧ (¬ r = 0 → B s)) σ x lo hi := cW (by rw [e]; exact ⟨fun c => absurd c (by decide), fun _ => h⟩)
theorem gC1' (e : wv x lo hi = 1) (h : B σ) : w_X9_within (fun r s => (¬ r = 0 → B s) ∧ (r = 0 → A s)) σ x lo hi := cW (by rw [e]; exact ⟨fun _ => h, fun c => absurd c (by decide)⟩)
theorem gC0 (e : wv x lo hi = 0) (h : A σ) : w_X9_within (fun r s => (r = 0 → A s) ∧ (¬ r = 0 → B s)) σ x lo hi := cW (by rw [e]; exact ⟨fun _ => h, fun c => absurd rfl c⟩)
theorem gC0' (e : wv x lo hi = 0) (h : A σ) : w_X9_within (fun r s => (¬ r = 0 → B s) ∧ (r = 0 → A s)) σ x lo hi := cW (by rw [e]; exact ⟨fun c => absurd rfl c, fun _ => h⟩)
theorem gM1 (e : wv x lo hi = 1) (h : B σ) (hL : L = lo.toInt64 := by decide) (hH : H = hi.toInt64 := by first | rfl | decide) : w_X10_isIn (fun r s => (r = 0 → A s) ∧ (¬ r = 0 → B s)) σ x.toInt64 L H := mW hL hH (by rw [e]; exact ⟨fun c => absurd c (by decide), fun _ => h⟩)
theorem gM1' (e : wv x lo hi = 1) (h : B σ) (hL : L = lo.toInt64 := by decide) (hH : H = hi.toInt64 := by first | rfl | decide) : w_X10_isIn (fun r s => (¬ r = 0 → B s) ∧ (r = 0 → A s)) σ x.toInt64 L H := mW hL hH (by rw [e]; exact ⟨fun _ => h, fun c => absurd c (by decide)⟩)
theorem gM0 (e : wv x lo hi = 0) (h : A σ) (hL : L = lo.toInt64 := by decide) (hH : H = hi.toInt64 := by first | rfl | decide) : w_X10_isIn (fun r s => (r = 0 → A s) ∧ (¬ r = 0 → B s)) σ x.toInt64 L H := mW hL hH (by rw [e]; exact ⟨fun _ => h, fun c => absurd rfl c⟩)
theorem gM0' (e : wv x lo hi = 0) (h : A σ) (hL : L = lo.toInt64 := by decide) (hH : H = hi.toInt64 := by first | rfl | decide) : w_X10_isIn (fun r s => (¬ r = 0 → B s) ∧ (r = 0 → A s)) σ x.toInt64 L H := mW hL hH (by rw [e]; exact ⟨fun c => absurd rfl c, fun _ => h⟩)
end Guards
theorem wv_n {x : Int32} {a b : Nat} (hb : b < 2 ^ 31) (ha : a < 2 ^ 31) (e : ¬ x < nI a ∧ ¬ nI b < x) : ∃ q, a ≤ q ∧ q ≤ b ∧ x = nI q := by
  obtain ⟨j, hj, ej⟩ := nI_of (x := x) (fun q => e.1 (Int32.lt_of_lt_of_le q (nI_pos' ha)))
  subst ej
  refine ⟨j, ?_, ?_, rfl⟩
  · exact Nat.le_of_not_lt (fun q => e.1 (nI_lt q ha))
  · exact Nat.le_of_not_lt (fun q => e.2 (nI_lt q hj))
theorem wv_r {x : Int32} {n : Nat} (hn : n ≤ 24) (e : ¬ x < 0 ∧ ¬ (nI n - 1) < x) : ∃ q, q < n ∧ x = nI q := by
  rcases Nat.eq_zero_or_pos n with h0 | h0
  · subst h0
    exfalso
    exact e.2 (Int32.lt_of_lt_of_le (show nI 0 - 1 < 0 by decide) (Int32.not_lt.1 e.1))
  · rw [show nI n - 1 = nI (n - 1) from pk_sub (b := 1) h0] at e
    obtain ⟨q, _, h2, h3⟩ := wv_n (a := 0) (by omega) (by decide) e
    exact ⟨q, by omega, h3⟩
/-! the relation -/
def RHill (h : Hl) (g : Nat → Int32) (n m T : Nat) : Prop := HM h g ∧ HI h n ∧ h 5 5 = nI m ∧ m ≤ 9999 ∧ h 5 7 = nI T ∧ T ≤ 14
theorem RHill_eq {h h' : Hl} {g g' : Nat → Int32} {n m T : Nat} (hr : RHill h g n m T) (e : EqH h' h) (eg : ∀ j, j < 82 → g' j = g j) : RHill h' g' n m T := by
  obtain ⟨a, b, c, d, f, q⟩ := hr
  exact ⟨HM_of (HM_eq a e) eg, HI_eq e b, by rw [e 5 5 (by unfold vc; omega)]; exact c, d, by rw [e 5 7 (by unfold vc; omega)]; exact f, q⟩
def RIm (σ τ : St) (T : Nat) : Prop := (σ 0 0 0 = 0 ∧ τ 0 0 0 = 0) ∨ (¬ σ 0 0 0 = 0 ∧ ¬ τ 0 0 0 = 0 ∧ ∃ n m T2, T2 ≤ T ∧ RHill (hlC σ 1) (τ 2 0) n m T2 ∧ TX σ (τ 2 0) T2)
def RTp (σ τ : St) : Prop := ∃ L, L ≤ 96 ∧ σ 19 0 0 = nI L ∧ τ 0 0 2 = nI L ∧ ∀ j, j < L → ∃ b, b < 256 ∧ σ 20 0 j = nI b ∧ τ 15 0 j = nI b
def RSh (σ τ : St) (k : Nat) : Prop := σ 22 k 0 = τ 4 0 k ∧ (σ 22 k 0 = -1 ∨ σ 22 k 0 = 0 ∨ σ 22 k 0 = 1) ∧ ∃ m, m ≤ 24 ∧ σ 22 k 1 = nI m ∧ τ 5 0 k = nI m ∧ ∀ j, j < m → σ 23 k j = τ 6 0 (24 * k + j)
def RSl (σ τ : St) (i : Nat) : Prop := ∃ q, q < 4 ∧ σ 24 i 0 = nI q ∧ τ 7 0 i = nI q ∧ (q = 1 → σ 24 i 1 = τ 8 0 i ∧ (∃ d, d < 6 ∧ σ 24 i 1 = nI d) ∧ τ 9 0 i = kWorth (σ 24 i 1) (σ 24 i 2)) ∧ (q = 2 → ∃ m, m ≤ 24 ∧ σ 22 (i + 4) 1 = nI m ∧ τ 10 0 i = nI m ∧ ∀ j, j < m → σ 23 (i + 4) j = τ 11 0 (24 * i + j)) ∧ (q = 3 → σ 24 i 3 = τ 8 0 i)
def RWt (σ τ : St) : Prop := ∃ w, (w ≤ 60 ∧ ∀ j, σ 29 6 j = 0) ∧ σ 0 0 1 = nI w ∧ τ 0 0 13 = nI w ∧ ∀ j, j < w → σ 1 0 j = τ 19 0 j
def RR (σ τ : St) (T : Nat) : Prop := RIm σ τ T ∧ RTp σ τ ∧ (∀ k, k < 4 → RSh σ τ k) ∧ (∀ i, i < 5 → RSl σ τ i) ∧ RWt σ τ
def Rel (σ τ : St) : Prop := ∃ n m T, RHill (hlC σ 0) (τ 1 0) n m T ∧ TX σ (τ 1 0) T ∧ RR σ τ T
/-- all stays but hills that are not the image, and what is only for work -/
def EC (σ σ' : St) : Prop := ∀ k a j, k ≠ 2 → k ≠ 16 → k ≠ 21 → ¬ (25 ≤ k ∧ ¬ (k = 29 ∧ a = 6)) → ¬ (5 ≤ k ∧ k ≤ 13 ∧ a ≠ 1) → σ' k a j = σ k a j
def EM (τ τ' : St) : Prop := ∀ k a j, ((k = 0 ∧ (j = 0 ∨ j = 2 ∨ j = 13)) ∨ (k = 1 ∧ 82 ≤ j ∧ j < 2882) ∨ k = 2 ∨ (4 ≤ k ∧ k ≤ 11) ∨ k = 15 ∨ k = 19) → τ' k a j = τ k a j
theorem EC.rf {σ : St} : EC σ σ := fun _ _ _ _ _ _ _ _ => rfl
theorem EC.tr {σ σ1 σ2 : St} (h1 : EC σ σ1) (h2 : EC σ1 σ2) : EC σ σ2 := fun k a j c1 c2 c3 c4 c5 => (h2 k a j c1 c2 c3 c4 c5).trans (h1 k a j c1 c2 c3 c4 c5)
theorem EM.rf {τ : St} : EM τ τ := fun _ _ _ _ => rfl
theorem EM.tr {τ τ1 τ2 : St} (h1 : EM τ τ1) (h2 : EM τ1 τ2) : EM τ τ2 := fun k a j c => (h2 k a j c).trans (h1 k a j c)
theorem EC_FR {σ σ' : St} {i : Nat} (hi : i ≠ 1) (f : FR σ σ' i) : EC σ σ' := fun k a j c1 c2 c3 c4 c5 => f k a j c2 (by omega)
theorem EC_FH {σ σ' : St} {i : Nat} (hi : i ≠ 1) (f : FH σ σ' i) : EC σ σ' := fun k a j c1 c2 c3 c4 c5 => f k a j (by omega)
theorem EC_same {σ σ' : St} (f : ∀ k a j, k ≠ 16 → σ' k a j = σ k a j) : EC σ σ' := fun k a j c1 c2 c3 c4 c5 => f k a j c2
theorem EM_FM {τ τ' : St} (f : FM τ τ') : EM τ τ' := fun k a j c => f k a j (by omega) (by omega) (by omega)
theorem RR_eq {σ τ σ' τ' : St} {T : Nat} (hT : T ≤ 14) (h : RR σ τ T) (c : EC σ σ') (d : EM τ τ') : RR σ' τ' T := by
  obtain ⟨hI, ⟨L, l1, l2, l3, l4⟩, hS, hL, ⟨w, ⟨w1, w6⟩, w2, w3, w4⟩⟩ := h
  have c0 : ∀ k a j, k ≠ 2 → k ≠ 16 → k ≠ 21 → ¬ 25 ≤ k → ¬ (5 ≤ k ∧ k ≤ 13) → σ' k a j = σ k a j := fun k a j c1 c2 c3 c4 c5 => c k a j c1 c2 c3 (by omega) (by omega)
  refine ⟨?_, ⟨L, l1, ?_, ?_, fun j hj => ?_⟩, fun k hk => ?_, fun i hi => ?_, ⟨w, ⟨w1, fun j => (c 29 6 j (by omega) (by omega) (by omega) (by omega) (by omega)).trans (w6 j)⟩, ?_, ?_, fun j hj => ?_⟩⟩
  · rcases hI with ⟨a, b⟩ | ⟨a, b, n, m, T2, h1, h2, h3⟩
    · exact Or.inl ⟨by rw [c0 0 0 0 (by decide) (by decide) (by decide) (by decide) (by decide)]; exact a, by rw [d 0 0 0 (by omega)]; exact b⟩
    · refine Or.inr ⟨by rw [c0 0 0 0 (by decide) (by decide) (by decide) (by decide) (by decide)]; exact a, by rw [d 0 0 0 (by omega)]; exact b, n, m, T2, h1, ?_, ?_⟩
      · refine RHill_eq h2 (fun k j hv => ?_) (fun j hj => d 2 0 j (by omega))
        unfold vc at hv
        simp only [hlC]
        rw [if_neg (by omega), if_neg (by omega)]
        exact c k 1 j (by omega) (by omega) (by omega) (by omega) (by omega)
      · refine TX_eq h3 (fun t j _ => c0 17 t j (by decide) (by decide) (by decide) (by decide) (by decide)) (fun t _ => funext (fun j => c0 18 t j (by decide) (by decide) (by decide) (by decide) (by decide))) (fun j _ _ => d 2 0 j (by omega))
  · rw [c0 19 0 0 (by decide) (by decide) (by decide) (by decide) (by decide)]; exact l2
  · rw [d 0 0 2 (by omega)]; exact l3
  · rw [c0 20 0 j (by decide) (by decide) (by decide) (by decide) (by decide), d 15 0 j (by omega)]; exact l4 j hj
  · obtain ⟨a1, a2, m, a3, a4, a5, a6⟩ := hS k hk
    refine ⟨?_, ?_, m, a3, ?_, ?_, fun j hj => ?_⟩
    · rw [c0 22 k 0 (by decide) (by decide) (by decide) (by decide) (by decide), d 4 0 k (by omega)]; exact a1
    · rw [c0 22 k 0 (by decide) (by decide) (by decide) (by decide) (by decide)]; exact a2
    · rw [c0 22 k 1 (by decide) (by decide) (by decide) (by decide) (by decide)]; exact a4
    · rw [d 5 0 k (by omega)]; exact a5
    · rw [c0 23 k j (by decide) (by decide) (by decide) (by decide) (by decide), d 6 0 _ (by omega)]; exact a6 j hj
  · obtain ⟨q, b1, b2, b3, b4, b5, b6⟩ := hL i hi
    have e24 : ∀ j, σ' 24 i j = σ 24 i j := fun j => c0 24 i j (by decide) (by decide) (by decide) (by decide) (by decide)
    refine ⟨q, b1, ?_, ?_, fun hq => ?_, fun hq => ?_, fun hq => ?_⟩
    · rw [e24]; exact b2
    · rw [d 7 0 i (by omega)]; exact b3
    · rw [e24, e24, d 8 0 i (by omega), d 9 0 i (by omega)]; exact b4 hq
    · obtain ⟨m, g1, g2, g3, g4⟩ := b5 hq
      refine ⟨m, g1, ?_, ?_, fun j hj => ?_⟩
      · rw [c0 22 (i + 4) 1 (by decide) (by decide) (by decide) (by decide) (by decide)]; exact g2
      · rw [d 10 0 i (by omega)]; exact g3
      · rw [c0 23 (i + 4) j (by decide) (by decide) (by decide) (by decide) (by decide), d 11 0 _ (by omega)]; exact g4 j hj
    · rw [e24, d 8 0 i (by omega)]; exact b6 hq
  · rw [c0 0 0 1 (by decide) (by decide) (by decide) (by decide) (by decide)]; exact w2
  · rw [d 0 0 13 (by omega)]; exact w3
  · rw [c0 1 0 j (by decide) (by decide) (by decide) (by decide) (by decide), d 19 0 j (by omega)]; exact w4 j hj
theorem TX_E {σ τ σ' τ' : St} {T : Nat} (hT : T ≤ 14) (h : TX σ (τ 1 0) T) (c : EC σ σ') (d : EM τ τ') : TX σ' (τ' 1 0) T :=
  TX_eq h (fun t j _ => c 17 t j (by decide) (by decide) (by decide) (by omega) (by omega)) (fun t _ => funext (fun j => c 18 t j (by decide) (by decide) (by decide) (by omega) (by omega))) (fun j h1 h2 => d 1 0 j (by omega))
theorem Rel_mk {σ τ σ' τ' : St} {n m n' m' T : Nat} (hH : RHill (hlC σ 0) (τ 1 0) n m T) (hT : TX σ (τ 1 0) T) (hR : RR σ τ T) (c : EC σ σ') (d : EM τ τ') (h' : RHill (hlC σ' 0) (τ' 1 0) n' m' T) : Rel σ' τ' :=
  ⟨n', m', T, h', TX_E hH.2.2.2.2.2 hT c d, RR_eq hH.2.2.2.2.2 hR c d⟩
theorem Rel_same {σ τ σ' τ' : St} (h : Rel σ τ) (c : EC σ σ') (c2 : ∀ k j, 5 ≤ k → k ≤ 13 → σ' k 0 j = σ k 0 j) (d : EM τ τ') (d2 : ∀ j, j < 82 → τ' 1 0 j = τ 1 0 j) : Rel σ' τ' := by
  obtain ⟨n, m, T, hH, hT, hR⟩ := h
  refine Rel_mk hH hT hR c d (RHill_eq hH (fun k j hv => ?_) d2)
  unfold vc at hv
  simp only [hlC]
  rw [if_neg (by omega), if_neg (by omega)]
  exact c2 k j (by omega) (by omega)
theorem HR_kind {h : Hl} {n r q : Nat} (hr : HR h n) (hq : q < 6) : HR (setH h 6 r (nI q)) n := by
  refine ⟨fun k hk => ?_, fun a ha => by simpa [setH] using hr.2 a ha⟩
  obtain ⟨g1, g2, g3⟩ := hr.1 k hk
  refine ⟨?_, by simpa [setH] using g2, by simpa [setH] using g3⟩
  by_cases e : k = r
  · exact ⟨q, hq, by simp [setH, e]⟩
  · simpa [setH, e] using g1
theorem HR_size {h : Hl} {n r q : Nat} (hr : HR h n) (h1 : 1 ≤ q) (hq : q ≤ 9) : HR (setH h 7 r (nI q)) n := by
  refine ⟨fun k hk => ?_, fun a ha => by simpa [setH] using hr.2 a ha⟩
  obtain ⟨g1, g2, g3⟩ := hr.1 k hk
  refine ⟨by simpa [setH] using g1, ?_, by simpa [setH] using g3⟩
  by_cases e : k = r
  · exact ⟨q, h1, hq, by simp [setH, e]⟩
  · simpa [setH, e] using g2
theorem HR_people {h : Hl} {n r q : Nat} (hr : HR h n) (hq : q ≤ 9) : HR (setH h 10 r (nI q)) n := by
  refine ⟨fun k hk => by simpa [setH] using hr.1 k hk, fun a ha => ?_⟩
  by_cases e : a = r
  · exact ⟨q, hq, by simp [setH, e]⟩
  · simpa [setH, e] using hr.2 a ha
/-- one cell of the hill is changed on both sides -/
theorem Rel_cell {σ τ : St} {k j : Nat} {v : Int32} (h : Rel σ τ) (hv : vm k j) (hk : k ≠ 9) (h5 : ¬ (k = 5 ∧ (j = 0 ∨ j = 5 ∨ j = 7))) (hr : ∀ g n, HI g n → HR (setH g k j v) n) : Rel (wr σ k 0 j v) (wr τ 1 0 (mi k j) v) := by
  obtain ⟨n, m, T, hH, hT, hR⟩ := h
  obtain ⟨a, b, c, d, e, f⟩ := hH
  have hv2 := hv
  unfold vm at hv2
  have hml := mi_lt hv
  have hmn := mi_ne hv (by omega)
  have hw : hlC (wr σ k 0 j v) 0 = setH (hlC σ 0) k j v := hl_wr (by omega)
  refine Rel_mk ⟨a, b, c, d, e, f⟩ hT hR (EC_FR (i := 0) (by decide) (FR_wr (by omega) (by omega) (by omega))) (EM_FM (FM_wr hml hmn)) (n' := n) (m' := m) ?_
  rw [hw, wr1]
  refine ⟨HM_set a hv, ⟨HO_set b.1 (by omega) hk (by omega), hr _ _ b⟩, ?_, d, ?_, f⟩
  · simp only [setH]
    rw [if_neg (by omega)]
    exact c
  · simp only [setH]
    rw [if_neg (by omega)]
    exact e
theorem Rel_val {σ τ : St} {k j : Nat} (h : Rel σ τ) (hv : vm k j) : σ k 0 j = τ 1 0 (mi k j) := by
  obtain ⟨n, m, T, hH, -, -⟩ := h
  have g := hH.1 k j hv
  unfold vm at hv
  rw [g]
  simp only [hlC]
  rw [if_neg (by omega)]
theorem Rel_n {σ τ : St} (h : Rel σ τ) : ∃ n, n ≤ 12 ∧ σ 5 0 0 = nI n ∧ τ 1 0 0 = nI n := by
  obtain ⟨n, m, T, ⟨a, b, -⟩, -, -⟩ := h
  exact ⟨n, b.1.1.1, b.1.1.2.1, (a 5 0 (by unfold vm; omega)).trans b.1.1.2.1⟩
theorem cRoof {post : Int32 → St → Prop} {σ : St} {x : Int32} {n : Nat} (hn : σ 5 0 0 = nI n) (h : post (wv x 0 (nI n - 1)) σ) : w_X9_isRoof post σ x := by
  unfold w_X9_isRoof
  rw [hn]
  exact cW h
theorem mRoof {post : Int32 → St → Prop} {τ : St} {x : Int32} {n : Nat} (hn : τ 1 0 0 = nI n) (h : post (wv x 0 (nI n - 1)) τ) : w_X10_isRoof post τ x := by
  unfold w_X10_isRoof
  rw [show (0 : Int32).toNatClampNeg = 0 from by decide, hn]
  exact ⟨vp_in_nI (n := 0) (by decide) (by decide), mW (by decide) rfl h⟩
section GuardsR
variable {A B : St → Prop} {σ τ : St} {x : Int32} {n : Nat}
theorem gRC1 (hn : σ 5 0 0 = nI n) (e : wv x 0 (nI n - 1) = 1) (h : B σ) : w_X9_isRoof (fun r s => (r = 0 → A s) ∧ (¬ r = 0 → B s)) σ x := cRoof hn (by rw [e]; exact ⟨fun c => absurd c (by decide), fun _ => h⟩)
theorem gRC1' (hn : σ 5 0 0 = nI n) (e : wv x 0 (nI n - 1) = 1) (h : B σ) : w_X9_isRoof (fun r s => (¬ r = 0 → B s) ∧ (r = 0 → A s)) σ x := cRoof hn (by rw [e]; exact ⟨fun _ => h, fun c => absurd c (by decide)⟩)
theorem gRC0 (hn : σ 5 0 0 = nI n) (e : wv x 0 (nI n - 1) = 0) (h : A σ) : w_X9_isRoof (fun r s => (r = 0 → A s) ∧ (¬ r = 0 → B s)) σ x := cRoof hn (by rw [e]; exact ⟨fun _ => h, fun c => absurd rfl c⟩)
theorem gRC0' (hn : σ 5 0 0 = nI n) (e : wv x 0 (nI n - 1) = 0) (h : A σ) : w_X9_isRoof (fun r s => (¬ r = 0 → B s) ∧ (r = 0 → A s)) σ x := cRoof hn (by rw [e]; exact ⟨fun c => absurd rfl c, fun _ => h⟩)
theorem gRM1 (hn : τ 1 0 0 = nI n) (e : wv x 0 (nI n - 1) = 1) (h : B τ) : w_X10_isRoof (fun r s => (r = 0 → A s) ∧ (¬ r = 0 → B s)) τ x := mRoof hn (by rw [e]; exact ⟨fun c => absurd c (by decide), fun _ => h⟩)
theorem gRM1' (hn : τ 1 0 0 = nI n) (e : wv x 0 (nI n - 1) = 1) (h : B τ) : w_X10_isRoof (fun r s => (¬ r = 0 → B s) ∧ (r = 0 → A s)) τ x := mRoof hn (by rw [e]; exact ⟨fun _ => h, fun c => absurd c (by decide)⟩)
theorem gRM0 (hn : τ 1 0 0 = nI n) (e : wv x 0 (nI n - 1) = 0) (h : A τ) : w_X10_isRoof (fun r s => (r = 0 → A s) ∧ (¬ r = 0 → B s)) τ x := mRoof hn (by rw [e]; exact ⟨fun _ => h, fun c => absurd rfl c⟩)
theorem gRM0' (hn : τ 1 0 0 = nI n) (e : wv x 0 (nI n - 1) = 0) (h : A τ) : w_X10_isRoof (fun r s => (¬ r = 0 → B s) ∧ (r = 0 → A s)) τ x := mRoof hn (by rw [e]; exact ⟨fun c => absurd rfl c, fun _ => h⟩)
end GuardsR
theorem sX10_changes {post : Int32 → St → Prop} {τ : St} {i : Nat} {v : Int32} (hi : i < 3082) (h : post (τ 1 0 i) (wr τ 1 0 i v)) : w_X10_changes post τ (nI i) v := by
  unfold w_X10_changes
  rw [cl (by omega)]
  refine ⟨vp_in_nI hi (by decide), fun w ew => ⟨vp_in_nI hi (by decide), fun s es => ?_⟩⟩
  subst ew
  subst es
  exact h
/-! wrappers of the checks -/
section GuardsW
variable {A B : St → Prop} {σ : St} {x : Int32}
theorem gHC1 (e : wv x 0 11 = 1) (h : B σ) : w_X9_isHouse (fun r s => (r = 0 → A s) ∧ (¬ r = 0 → B s)) σ x := gC1 (lo := 0) (hi := 11) e h
theorem gHC1' (e : wv x 0 11 = 1) (h : B σ) : w_X9_isHouse (fun r s => (¬ r = 0 → B s) ∧ (r = 0 → A s)) σ x := gC1' (lo := 0) (hi := 11) e h
theorem gHC0 (e : wv x 0 11 = 0) (h : A σ) : w_X9_isHouse (fun r s => (r = 0 → A s) ∧ (¬ r = 0 → B s)) σ x := gC0 (lo := 0) (hi := 11) e h
theorem gHC0' (e : wv x 0 11 = 0) (h : A σ) : w_X9_isHouse (fun r s => (¬ r = 0 → B s) ∧ (r = 0 → A s)) σ x := gC0' (lo := 0) (hi := 11) e h
theorem gHM1 (e : wv x 0 11 = 1) (h : B σ) : w_X10_isHouse (fun r s => (r = 0 → A s) ∧ (¬ r = 0 → B s)) σ x := gM1 (lo := 0) (hi := 11) e h
theorem gHM1' (e : wv x 0 11 = 1) (h : B σ) : w_X10_isHouse (fun r s => (¬ r = 0 → B s) ∧ (r = 0 → A s)) σ x := gM1' (lo := 0) (hi := 11) e h
theorem gHM0 (e : wv x 0 11 = 0) (h : A σ) : w_X10_isHouse (fun r s => (r = 0 → A s) ∧ (¬ r = 0 → B s)) σ x := gM0 (lo := 0) (hi := 11) e h
theorem gHM0' (e : wv x 0 11 = 0) (h : A σ) : w_X10_isHouse (fun r s => (¬ r = 0 → B s) ∧ (r = 0 → A s)) σ x := gM0' (lo := 0) (hi := 11) e h
theorem gTC1 (e : wv x 0 1 = 1) (h : B σ) : w_X9_isTown (fun r s => (r = 0 → A s) ∧ (¬ r = 0 → B s)) σ x := gC1 (lo := 0) (hi := 1) e h
theorem gTC1' (e : wv x 0 1 = 1) (h : B σ) : w_X9_isTown (fun r s => (¬ r = 0 → B s) ∧ (r = 0 → A s)) σ x := gC1' (lo := 0) (hi := 1) e h
theorem gTC0 (e : wv x 0 1 = 0) (h : A σ) : w_X9_isTown (fun r s => (r = 0 → A s) ∧ (¬ r = 0 → B s)) σ x := gC0 (lo := 0) (hi := 1) e h
theorem gTC0' (e : wv x 0 1 = 0) (h : A σ) : w_X9_isTown (fun r s => (¬ r = 0 → B s) ∧ (r = 0 → A s)) σ x := gC0' (lo := 0) (hi := 1) e h
theorem gTM1 (e : wv x 0 1 = 1) (h : B σ) : w_X10_isTown (fun r s => (r = 0 → A s) ∧ (¬ r = 0 → B s)) σ x := gM1 (lo := 0) (hi := 1) e h
theorem gTM1' (e : wv x 0 1 = 1) (h : B σ) : w_X10_isTown (fun r s => (¬ r = 0 → B s) ∧ (r = 0 → A s)) σ x := gM1' (lo := 0) (hi := 1) e h
theorem gTM0 (e : wv x 0 1 = 0) (h : A σ) : w_X10_isTown (fun r s => (r = 0 → A s) ∧ (¬ r = 0 → B s)) σ x := gM0 (lo := 0) (hi := 1) e h
theorem gTM0' (e : wv x 0 1 = 0) (h : A σ) : w_X10_isTown (fun r s => (¬ r = 0 → B s) ∧ (r = 0 → A s)) σ x := gM0' (lo := 0) (hi := 1) e h
theorem gSC1 (e : wv x 0 3 = 1) (h : B σ) : w_X9_isSheet (fun r s => (r = 0 → A s) ∧ (¬ r = 0 → B s)) σ x := gC1 (lo := 0) (hi := 3) e h
theorem gSC1' (e : wv x 0 3 = 1) (h : B σ) : w_X9_isSheet (fun r s => (¬ r = 0 → B s) ∧ (r = 0 → A s)) σ x := gC1' (lo := 0) (hi := 3) e h
theorem gSC0 (e : wv x 0 3 = 0) (h : A σ) : w_X9_isSheet (fun r s => (r = 0 → A s) ∧ (¬ r = 0 → B s)) σ x := gC0 (lo := 0) (hi := 3) e h
theorem gSC0' (e : wv x 0 3 = 0) (h : A σ) : w_X9_isSheet (fun r s => (¬ r = 0 → B s) ∧ (r = 0 → A s)) σ x := gC0' (lo := 0) (hi := 3) e h
theorem gSM1 (e : wv x 0 3 = 1) (h : B σ) : w_X10_isSheet (fun r s => (r = 0 → A s) ∧ (¬ r = 0 → B s)) σ x := gM1 (lo := 0) (hi := 3) e h
theorem gSM1' (e : wv x 0 3 = 1) (h : B σ) : w_X10_isSheet (fun r s => (¬ r = 0 → B s) ∧ (r = 0 → A s)) σ x := gM1' (lo := 0) (hi := 3) e h
theorem gSM0 (e : wv x 0 3 = 0) (h : A σ) : w_X10_isSheet (fun r s => (r = 0 → A s) ∧ (¬ r = 0 → B s)) σ x := gM0 (lo := 0) (hi := 3) e h
theorem gSM0' (e : wv x 0 3 = 0) (h : A σ) : w_X10_isSheet (fun r s => (¬ r = 0 → B s) ∧ (r = 0 → A s)) σ x := gM0' (lo := 0) (hi := 3) e h
theorem gLC1 (e : wv x 0 4 = 1) (h : B σ) : w_X9_isSlot (fun r s => (r = 0 → A s) ∧ (¬ r = 0 → B s)) σ x := gC1 (lo := 0) (hi := 4) e h
theorem gLC1' (e : wv x 0 4 = 1) (h : B σ) : w_X9_isSlot (fun r s => (¬ r = 0 → B s) ∧ (r = 0 → A s)) σ x := gC1' (lo := 0) (hi := 4) e h
theorem gLC0 (e : wv x 0 4 = 0) (h : A σ) : w_X9_isSlot (fun r s => (r = 0 → A s) ∧ (¬ r = 0 → B s)) σ x := gC0 (lo := 0) (hi := 4) e h
theorem gLC0' (e : wv x 0 4 = 0) (h : A σ) : w_X9_isSlot (fun r s => (¬ r = 0 → B s) ∧ (r = 0 → A s)) σ x := gC0' (lo := 0) (hi := 4) e h
theorem gLM1 (e : wv x 0 4 = 1) (h : B σ) : w_X10_isSlot (fun r s => (r = 0 → A s) ∧ (¬ r = 0 → B s)) σ x := gM1 (lo := 0) (hi := 4) e h
theorem gLM1' (e : wv x 0 4 = 1) (h : B σ) : w_X10_isSlot (fun r s => (¬ r = 0 → B s) ∧ (r = 0 → A s)) σ x := gM1' (lo := 0) (hi := 4) e h
theorem gLM0 (e : wv x 0 4 = 0) (h : A σ) : w_X10_isSlot (fun r s => (r = 0 → A s) ∧ (¬ r = 0 → B s)) σ x := gM0 (lo := 0) (hi := 4) e h
theorem gLM0' (e : wv x 0 4 = 0) (h : A σ) : w_X10_isSlot (fun r s => (¬ r = 0 → B s) ∧ (r = 0 → A s)) σ x := gM0' (lo := 0) (hi := 4) e h
theorem gKC1 (e : wv x 0 5 = 1) (h : B σ) : w_X9_isKind (fun r s => (r = 0 → A s) ∧ (¬ r = 0 → B s)) σ x := gC1 (lo := 0) (hi := 5) e h
theorem gKC1' (e : wv x 0 5 = 1) (h : B σ) : w_X9_isKind (fun r s => (¬ r = 0 → B s) ∧ (r = 0 → A s)) σ x := gC1' (lo := 0) (hi := 5) e h
theorem gKC0 (e : wv x 0 5 = 0) (h : A σ) : w_X9_isKind (fun r s => (r = 0 → A s) ∧ (¬ r = 0 → B s)) σ x := gC0 (lo := 0) (hi := 5) e h
theorem gKC0' (e : wv x 0 5 = 0) (h : A σ) : w_X9_isKind (fun r s => (¬ r = 0 → B s) ∧ (r = 0 → A s)) σ x := gC0' (lo := 0) (hi := 5) e h
end GuardsW
