/-! LAYER 2. A hill's nights: many. -/
theorem HS_set {h : Hl} {n k j : Nat} {v : Int32} (hs : HS h n) (h1 : ¬ (k = 5 ∧ j = 0)) (h2 : k ≠ 9) (h3 : k ≠ 12) : HS (setH h k j v) n := by
  obtain ⟨a, b, c, d⟩ := hs
  refine ⟨a, ?_, fun q hq => ?_, fun q hq => ?_⟩
  · simp only [setH]
    rw [if_neg (by omega)]
    exact b
  · simp only [setH]
    rw [if_neg (by omega)]
    exact c q hq
  · simp only [setH]
    rw [if_neg (by omega)]
    exact d q hq
theorem HS_put {h : Hl} {n r a : Nat} (hs : HS h n) (hr : r < 12) (ha : a < 12) : HS (putH h r a) n := by
  obtain ⟨q1, q2, q3, q4⟩ := hs
  refine ⟨q1, ?_, fun k hk => ?_, fun b hb => ?_⟩
  · simp only [putH, setH]
    simp [q2]
  · simp only [putH, setH]
    by_cases e : k = r
    · exact ⟨a, ha, by simp [e]⟩
    · simpa [e] using q3 k hk
  · simp only [putH, setH]
    by_cases e : b = a
    · exact Or.inr ⟨r, hr, by simp [e]⟩
    · by_cases e2 : b = (h 9 r).toNatClampNeg
      · subst e2
        exact Or.inl (by simp [e])
      · simpa [e, e2] using q4 b hb
theorem HS_draw {h : Hl} {n : Nat} (hs : HS h n) : HS (drawH h) n := HS_set hs (by decide) (by decide) (by decide)
theorem HS_carry {sp : Int32 → Int32 → Int32 → Int32} {h : Hl} {n r a : Nat} (hs : HS h n) (hr : r < 12) (ha : a < 12) : HS (carryH sp h r a) n :=
  HS_set (HS_set (HS_put hs hr ha) (by simp) (by decide) (by decide)) (by decide) (by decide) (by decide)
theorem homeV_in (h : Hl) {t : Nat} (ht : t < 2) (hn : ¬ homeV h t = NON) : ∃ a, 6 * t ≤ a ∧ a < 6 * t + 6 ∧ a < 12 ∧ homeV h t = nI a ∧ h 12 a = NON := by
  have key : ∀ (m b : Nat), freeFrom h b m = NON ∨ ∃ a, b ≤ a ∧ a < b + m ∧ freeFrom h b m = nI a ∧ h 12 a = NON := by
    intro m
    induction m with
    | zero => intro b; exact Or.inl rfl
    | succ m ih =>
      intro b
      unfold freeFrom
      by_cases c : h 12 b = NON
      · rw [if_pos c]
        exact Or.inr ⟨b, Nat.le_refl _, by omega, rfl, c⟩
      · rw [if_neg c]
        exact (ih (b + 1)).imp id (fun ⟨j, h1, h2, h3, h4⟩ => ⟨j, by omega, by omega, h3, h4⟩)
  obtain ⟨a, h1, h2, h3, h4⟩ := (key 6 (6 * t)).resolve_left hn
  exact ⟨a, h1, h2, by omega, h3, h4⟩
theorem goOut_cases {P : Hl → Prop} {sp : Int32 → Int32 → Int32 → Int32} {h : Hl} {t n : Nat} (ht : t < 2) (h0 : P h) (h2 : P (drawH (drawH h))) (h3 : ∀ r a, r < 12 → a < 12 → P (carryH sp (drawH (drawH h)) r a)) (h4 : P (setH (drawH (drawH h)) 5 3 (drawH (drawH h) 5 3 + 1))) : P (goOutH sp h t n) := by
  unfold goOutH
  split
  · exact h0
  · split
    · exact h0
    · rename_i c1 c2
      unfold stealH
      split
      · exact h2
      · rename_i c3
        obtain ⟨k, _, hk, e⟩ := (nthS_in _ 12 0 _).resolve_left c3
        obtain ⟨a, _, _, ha, ea, _⟩ := homeV_in h ht c2
        rw [e, ea, cl (show k < 2 ^ 31 by omega), cl (show a < 2 ^ 31 by omega)]
        split
        · exact h3 k a (by omega) ha
        · exact h4
theorem HS_goOut {sp : Int32 → Int32 → Int32 → Int32} {h : Hl} {t n m : Nat} (ht : t < 2) (hs : HS h n) : HS (goOutH sp h t m) n :=
  goOut_cases (P := fun g => HS g n) ht hs (HS_draw (HS_draw hs)) (fun r a hr ha => HS_carry (HS_draw (HS_draw hs)) hr ha) (HS_set (HS_draw (HS_draw hs)) (by decide) (by decide) (by decide))
theorem goOut_55 {sp : Int32 → Int32 → Int32 → Int32} {h : Hl} {t m : Nat} (ht : t < 2) : goOutH sp h t m 5 5 = h 5 5 :=
  goOut_cases (P := fun g => g 5 5 = h 5 5) ht rfl (by simp [drawH, setH]) (fun r a _ _ => by simp [carryH, putH, drawH, setH]) (by simp [drawH, setH])
def wetH (h : Hl) (n : Nat) : Hl := if h 5 1 ≤ jrem (drawV h) 100 then drawH h else setH (drawH h) 5 4 (drawH h 5 4 + rainV (drawH h) n)
def nightH (sp : Int32 → Int32 → Int32 → Int32) (h : Hl) (n m : Nat) : Hl := setH (wetH (goOutH sp (goOutH sp h (m % 2) n) (1 - m % 2) n) n) 5 5 (nI (m + 1))
def passH (sp : Int32 → Int32 → Int32 → Int32) (n : Nat) : Nat → Nat → Hl → Hl
  | 0, _, h => h
  | c + 1, m, h => passH sp n c (m + 1) (nightH sp h n m)
theorem HS_wet {h : Hl} {n : Nat} (hs : HS h n) : HS (wetH h n) n := by
  unfold wetH
  split
  · exact HS_draw hs
  · exact HS_set (HS_draw hs) (by decide) (by decide) (by decide)
theorem HS_night {sp : Int32 → Int32 → Int32 → Int32} {h : Hl} {n m : Nat} (hs : HS h n) : HS (nightH sp h n m) n :=
  HS_set (HS_wet (HS_goOut (by omega) (HS_goOut (by omega) hs))) (by decide) (by decide) (by decide)
theorem night_55 {sp : Int32 → Int32 → Int32 → Int32} {h : Hl} {n m : Nat} : nightH sp h n m 5 5 = nI (m + 1) := by simp [nightH, setH]
theorem jrem_n {a d : Nat} (ha : a < 2 ^ 31) (h0 : 0 < d) (hd : d < 2 ^ 31) : jrem (nI a) (nI d) = nI (a % d) := pk_rem ha h0 hd
theorem sX1_pass {post : St → Prop} {σ : St} {i n c m : Nat} {sp : Int32 → Int32 → Int32 → Int32} (hs : HS (hlC σ i) n) (hm : σ 5 i 5 = nI m) (hb : m + c < 2 ^ 30) (hsp : SpiteAt σ i 12 sp) (h : ∀ σ' : St, hlC σ' i = passH sp n c m (hlC σ i) → FR σ σ' i → post σ') : w_X1_pass post σ i (nI c) := by
  refine ⟨c + 1, ?_⟩
  suffices H : ∀ q d (s1 : St), d + q = c → FR σ s1 i → HS (hlC s1 i) n → s1 5 i 5 = nI (m + d) → passH sp n q (m + d) (hlC s1 i) = passH sp n c m (hlC σ i) → l_X1_pass_2 post (q + 1) s1 i (nI c) (nI d) by
    exact H c 0 σ (by omega) FR.rf hs hm rfl
  intro q
  induction q with
  | zero =>
    intro d s1 hd f hs1 hm1 hp
    obtain rfl : d = c := by omega
    show b_X1_pass_2 _ post s1 i _ _
    unfold b_X1_pass_2
    exact ⟨fun _ => h s1 hp f, fun c => absurd (nI_le (Nat.le_refl _) (by omega)) c⟩
  | succ q ih =>
    intro d s1 hd f hs1 hm1 hp
    show b_X1_pass_2 (l_X1_pass_2 post (q + 1)) post s1 i _ _
    unfold b_X1_pass_2
    rw [passH] at hp
    refine ⟨fun c => absurd c (nI_ge (by omega) (by omega)), fun _ => ⟨n2, fun v ev => ?_⟩⟩
    have ev : v = nI ((m + d) % 2) := by
      rw [ev, hm1]
      exact jrem_n (by omega) (by decide) (by decide)
    subst ev
    refine sX1_goOut (n := n) (sp := sp) (by omega) hs1 (fun s9 f9 => hsp s9 (f.tr f9)) (fun s2 e2 f2 => ?_)
    have hs2 : HS (hlC s2 i) n := by rw [e2]; exact HS_goOut (by omega) hs1
    unfold w_X9_otherTown
    have eo : (1 : Int32) - nI ((m + d) % 2) = nI (1 - (m + d) % 2) := by
      show nI 1 - nI ((m + d) % 2) = _
      exact pk_sub (by omega)
    rw [eo]
    refine sX1_goOut (n := n) (sp := sp) (by omega) hs2 (fun s9 f9 => hsp s9 ((f.tr f2).tr f9)) (fun s3 e3 f3 => ?_)
    have hs3 : HS (hlC s3 i) n := by rw [e3]; exact HS_goOut (by omega) hs2
    rw [e2] at e3
    have f03 : FR σ s3 i := (f.tr f2).tr f3
    have h355 : s3 5 i 5 = nI (m + d) := by
      have g : hlC s3 i 5 5 = hlC s1 i 5 5 := by rw [e3, goOut_55 (by omega), goOut_55 (by omega)]
      exact (show s3 5 i 5 = s1 5 i 5 from g).trans hm1
    refine sX1_draw (fun s4 e4 f4 => ⟨by decide, fun w ew => ?_⟩)
    have hs4 : HS (hlC s4 i) n := by rw [e4]; exact HS_draw hs3
    have h45 : ∀ j, j ≠ 6 → s4 5 i j = s3 5 i j := fun j hj => by
      have g : hlC s4 i 5 j = drawH (hlC s3 i) 5 j := by rw [e4]
      have g2 : drawH (hlC s3 i) 5 j = hlC s3 i 5 j := by simp [drawH, setH, hj]
      exact g.trans g2
    have fin : ∀ s5 : St, hlC s5 i = wetH (hlC s3 i) n → FR σ s5 i → b_X1_pass_54 (l_X1_pass_2 post (q + 1)) post s5 i (nI c) (nI d) := by
      intro s5 e5 f5
      unfold b_X1_pass_54
      intro s6 e6 u eu
      subst e6
      subst eu
      have h555 : s5 5 i 5 = nI (m + d) := by
        have g : hlC s5 i 5 5 = wetH (hlC s3 i) n 5 5 := by rw [e5]
        have g2 : wetH (hlC s3 i) n 5 5 = hlC s3 i 5 5 := by
          unfold wetH
          split <;> simp [drawH, setH]
        exact (show s5 5 i 5 = s3 5 i 5 from g.trans g2).trans h355
      have hN : hlC (wr s5 5 i 5 (s5 5 i 5 + 1)) i = nightH sp (hlC s1 i) n (m + d) := by
        rw [hl_wr (by decide), e5, e3, h555, nI_1]
        rfl
      rw [nI_1]
      refine ih (d + 1) _ (by omega) (f5.tr (FR_wr (by decide) (by decide) (by omega))) (by rw [hN]; exact HS_night hs1) (by simp [wr, h555, nI_1, Nat.add_assoc]) ?_
      rw [hN, ← Nat.add_assoc]
      exact hp
    have ev2 : w = jrem (drawV (hlC s3 i)) 100 := ew
    subst ev2
    refine ⟨fun c1 => fin s4 ?_ (f03.tr f4), fun c1 => sX1_rainsIn (n := n) hs4.2.1 hs4.1 (fun s5 e5 => ?_)⟩
    · rw [e4]
      unfold wetH
      have q1 := c1
      rw [h45 1 (by decide)] at q1
      rw [if_pos (show hlC s3 i 5 1 ≤ jrem (drawV (hlC s3 i)) 100 from q1)]
    · subst e5
      refine fin _ ?_ ((f03.tr f4).tr (FR_wr (by decide) (by decide) (by omega)))
      rw [hl_wr (by decide), e4]
      unfold wetH
      have q1 := c1
      rw [h45 1 (by decide)] at q1
      rw [if_neg (show ¬ hlC s3 i 5 1 ≤ jrem (drawV (hlC s3 i)) 100 from q1)]
      have g : s4 5 i 4 = drawH (hlC s3 i) 5 4 := by
        have g1 : hlC s4 i 5 4 = drawH (hlC s3 i) 5 4 := by rw [e4]
        exact g1
      rw [g]
