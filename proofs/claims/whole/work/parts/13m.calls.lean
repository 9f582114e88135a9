/-! LAYER 2. Deal, nights, hill, loot, steals, count, fee, fine, textTold, why. -/
theorem php : ∀ (n m : Nat) (f : Nat → Nat), (∀ a, a < m → f a < n) → (∀ a b, a < m → b < m → f a = f b → a = b) → m ≤ n := by
  intro n
  induction n with
  | zero =>
    intro m f h _
    rcases Nat.eq_zero_or_pos m with e | e
    · omega
    · exact absurd (h 0 e) (Nat.not_lt_zero _)
  | succ n ih =>
    intro m f h hi
    rcases Nat.eq_zero_or_pos m with e | e
    · omega
    · have hv := h (m - 1) (by omega)
      have := ih (m - 1) (fun a => if f a = n then f (m - 1) else f a) (fun a ha => by
        show (if f a = n then f (m - 1) else f a) < n
        split
        · rename_i c
          have : f (m - 1) ≠ n := fun q => absurd (hi a (m - 1) (by omega) (by omega) (c.trans q.symm)) (by omega)
          omega
        · rename_i c
          have := h a (by omega)
          omega) (fun a b ha hb hab => by
        have hab : (if f a = n then f (m - 1) else f a) = (if f b = n then f (m - 1) else f b) := hab
        by_cases c1 : f a = n
        · by_cases c2 : f b = n
          · exact hi a b (by omega) (by omega) (c1.trans c2.symm)
          · rw [if_pos c1, if_neg c2] at hab
            exact absurd (hi (m - 1) b (by omega) (by omega) hab) (by omega)
        · by_cases c2 : f b = n
          · rw [if_neg c1, if_pos c2] at hab
            exact absurd (hi a (m - 1) (by omega) (by omega) hab) (by omega)
          · rw [if_neg c1, if_neg c2] at hab
            exact hi a b (by omega) (by omega) hab)
      omega
theorem free_some {h : Hl} {n : Nat} (ho : HO h n) (hn : n < 12) : ∃ a, a < 12 ∧ h 12 a = NON := by
  refine Classical.byContradiction (fun hc => ?_)
  have hf : ∀ a, a < 12 → ∃ k, k < n ∧ h 12 a = nI k ∧ h 9 k = nI a := fun a ha => (ho.2.2 a ha).resolve_left (fun q => hc ⟨a, ha, q⟩)
  have := php n 12 (fun a => (h 12 a).toNatClampNeg) (fun a ha => by
    obtain ⟨k, hk, g, _⟩ := hf a ha
    show (h 12 a).toNatClampNeg < n
    rw [g, cl (by omega)]
    exact hk) (fun a b ha hb hab => by
    obtain ⟨k, hk, g1, g2⟩ := hf a ha
    obtain ⟨j, hj, g3, g4⟩ := hf b hb
    have hab : (h 12 a).toNatClampNeg = (h 12 b).toNatClampNeg := hab
    rw [g1, g3, cl (by omega), cl (by omega)] at hab
    subst hab
    exact (nI_eq (by omega) (by omega)).1 (g2.symm.trans g4))
  omega
theorem seekH_free (h : Hl) : ∀ (m a i : Nat), i < m → a < 12 → h 12 ((a + i) % 12) = NON → h 12 (seekH h m a) = NON := by
  intro m
  induction m with
  | zero => intro a i hi; exact absurd hi (Nat.not_lt_zero _)
  | succ m ih =>
    intro a i hi ha hf
    unfold seekH
    split
    · assumption
    · rename_i c
      have hi0 : i ≠ 0 := fun q => by
        subst q
        rw [show (a + 0) % 12 = a by omega] at hf
        exact c hf
      refine ih _ (i - 1) (by omega) (by omega) ?_
      rw [show ((a + 1) % 12 + (i - 1)) % 12 = (a + i) % 12 by omega]
      exact hf
theorem seek_ex {h : Hl} {n a : Nat} (ho : HO h n) (hn : n < 12) (ha : a < 12) : ∃ i, i < 12 ∧ h 12 ((a + i) % 12) = NON := by
  obtain ⟨b, hb, hf⟩ := free_some ho hn
  refine ⟨(b + 12 - a) % 12, by omega, ?_⟩
  rw [show (a + (b + 12 - a) % 12) % 12 = b by omega]
  exact hf
theorem HI_d4 {h : Hl} {n : Nat} (hi : HI h n) : HI (d4 h) n := HI_draw (HI_draw (HI_draw (HI_draw hi)))
theorem HI_drawRoof {h : Hl} {n : Nat} (hi : HI h n) (hn : n < 12) : HI (drawRoofH h n) (n + 1) := by
  obtain ⟨q1, h1, e1⟩ := draw_mod h (d := 6) (by decide) (by decide)
  obtain ⟨q2, h2, e2⟩ := draw_mod (drawH h) (d := 9) (by decide) (by decide)
  obtain ⟨q3, h3, e3⟩ := draw_mod (drawH (drawH h)) (d := 50) (by decide) (by decide)
  have e1 : jrem (drawV h) 6 = nI q1 := e1
  have e2 : 1 + jrem (drawV (drawH h)) 9 = nI (1 + q2) := by
    rw [show jrem (drawV (drawH h)) 9 = nI q2 from e2]
    exact nI_add 1 q2
  have e3 : jrem (drawV (drawH (drawH h))) 50 = nI q3 := e3
  have hd := houseD_n (drawH (drawH (drawH h)))
  unfold drawRoofH
  rw [e1, e2, e3]
  obtain ⟨i, hi12, hf⟩ := seek_ex (HI_d4 hi).1 hn hd.1
  exact HI_build (HI_d4 hi) hn h1 (by omega) (by omega) (by omega) (seekH_lt _ _ _ hd.1) (seekH_free _ _ _ i hi12 hd.1 hf)
def dealH : Nat → Nat → Hl → Hl
  | 0, _, h => h
  | c + 1, n, h => dealH c (n + 1) (drawRoofH h n)
theorem HI_deal : ∀ (c n : Nat) (h : Hl), HI h n → n + c ≤ 12 → HI (dealH c n h) (n + c) := by
  intro c
  induction c with
  | zero => intro n h hi _; exact hi
  | succ c ih =>
    intro n h hi hc
    have g := ih (n + 1) _ (HI_drawRoof hi (by omega)) (by omega)
    rw [show n + 1 + c = n + (c + 1) by omega] at g
    exact g
theorem deal_5 (j : Nat) (hj : j ≠ 0) (hj6 : j ≠ 6) : ∀ (c n : Nat) (h : Hl), dealH c n h 5 j = h 5 j := by
  intro c
  induction c with
  | zero => intro n h; rfl
  | succ c ih =>
    intro n h
    rw [dealH, ih]
    simp [drawRoofH, buildH, d4, drawH, setH, hj, hj6]
theorem cDeal {post : Int32 → St → Prop} {x : Nat} : ∀ (c k n : Nat) (σ : St), σ 5 0 0 = nI n → n + c ≤ 12 → k + c = x → x ≤ 12 → (∀ σ' : St, hlC σ' 0 = dealH c n (hlC σ 0) → FR σ σ' 0 → post (nI x) σ') → l_X9_deal_30 post (c + 1) σ (nI x) (nI k) := by
  intro c
  induction c with
  | zero =>
    intro k n σ hn hc hk hx hp
    obtain rfl : k = x := by omega
    show b_X9_deal_30 _ post σ _ _
    unfold b_X9_deal_30
    exact ⟨fun _ => hp σ rfl FR.rf, fun c => absurd (nI_le (Nat.le_refl _) (by omega)) c⟩
  | succ c ih =>
    intro k n σ hn hc hk hx hp
    show b_X9_deal_30 (l_X9_deal_30 post (c + 1)) post σ _ _
    unfold b_X9_deal_30
    refine ⟨fun c => absurd c (nI_ge (by omega) (by omega)), fun _ => sX1_drawRoof hn (by omega) (fun s2 e2 f2 v ev => ?_)⟩
    subst ev
    rw [nI_1]
    refine ih (k + 1) (n + 1) s2 ?_ (by omega) (by omega) hx (fun s3 e3 f3 => hp s3 ?_ (f2.tr f3))
    · have g : hlC s2 0 5 0 = drawRoofH (hlC σ 0) n 5 0 := by rw [e2]
      exact (show s2 5 0 0 = drawRoofH (hlC σ 0) n 5 0 from g).trans (by simp [drawRoofH, buildH, setH])
    · rw [e3, e2]
      rfl
theorem mSeek {post : Int32 → St → Prop} {K : St → Int32 → Int32 → Prop} {τ : St} {h : Hl} {n : Nat} {y1 y2 y3 y4 y5 : Int32} (hm : HM h (τ 1 0)) (ho : HO h n) : ∀ (m a i : Nat), i < m → a < 12 → h 12 ((a + i) % 12) = NON → w_X10_comes (fun s3 => ∀ v4 : Int32, v4 = y2 + 1 → K s3 y1 v4) τ y3 y4 y5 (nI (seekH h m a)) → l_X10_deal_70 K post m τ y1 y2 y3 y4 y5 (nI a) := by
  intro m
  induction m with
  | zero => intro a i hi; exact absurd hi (Nat.not_lt_zero _)
  | succ m ih =>
    intro a i hi ha hf hp
    show b_X10_deal_70 K (l_X10_deal_70 K post m) post τ y1 y2 y3 y4 y5 (nI a)
    unfold b_X10_deal_70
    refine sX10_over hm ho ha ?_
    unfold ovV
    unfold seekH at hp
    by_cases c : h 12 a = NON
    · rw [if_pos c]
      rw [if_pos c] at hp
      exact ⟨fun _ => hp, fun c => absurd (by decide) c⟩
    · rw [if_neg c]
      rw [if_neg c] at hp
      obtain ⟨k, hk, g, _⟩ := (ho.2.2 a ha).resolve_left c
      have hn := ho.1.1
      rw [g]
      refine ⟨fun c => absurd c (nI_pos (by omega)), fun _ => ⟨by decide, fun v ev => ?_⟩⟩
      subst ev
      rw [nI_1, show jrem (nI (a + 1)) 12 = nI ((a + 1) % 12) from jrem_n (by omega) (by decide) (by decide)]
      have hi0 : i ≠ 0 := fun q => by
        subst q
        rw [show (a + 0) % 12 = a by omega] at hf
        exact c hf
      refine ih _ (i - 1) (by omega) (by omega) ?_ hp
      rw [show ((a + 1) % 12 + (i - 1)) % 12 = (a + i) % 12 by omega]
      exact hf
theorem mDeal {post : Int32 → St → Prop} {x : Nat} (hx : x ≤ 12) : ∀ (c k n : Nat) (τ : St) (h : Hl), HM h (τ 1 0) → HI h n → k + c ≤ x → n + c ≤ 12 → (k + c = x ∨ n + c = 12) → (∀ τ' : St, HM (dealH c n h) (τ' 1 0) → FM τ τ' → post (nI (k + c)) τ') → l_X10_deal_17 post (c + 1) τ (nI x) (nI k) := by
  have c0 : (0 : Int32).toNatClampNeg = 0 := by decide
  have hi0 : vp_in (0 : Int32) 3082 := vp_in_nI (n := 0) (by decide) (by decide)
  intro c
  induction c with
  | zero =>
    intro k n τ h hm hi hk hn he hp
    show b_X10_deal_17 _ post τ _ _
    unfold b_X10_deal_17
    have e0 : τ 1 0 0 = nI n := mN hm hi.1.1
    rw [c0, e0]
    refine ⟨fun _ => hp τ hm FM.rf, fun c => ⟨hi0, fun _ => hp τ hm FM.rf, fun c2 => ?_⟩⟩
    exfalso
    rcases he with he | he
    · exact c (nI_le (by omega) (by omega))
    · exact c2 (nI_le (a := 12) (by omega) (by omega))
  | succ c ih =>
    intro k n τ h hm hi hk hn he hp
    show b_X10_deal_17 (l_X10_deal_17 post (c + 1)) post τ _ _
    unfold b_X10_deal_17
    have e0 : τ 1 0 0 = nI n := mN hm hi.1.1
    rw [c0, e0]
    refine ⟨fun c => absurd c (nI_ge (by omega) (by omega)), fun _ => ⟨hi0, fun c2 => absurd c2 (nI_ge (b := 12) (by omega) (by decide)), fun _ => ?_⟩⟩
    refine sX10_drawn hm (fun t1 m1 f1 => ⟨by decide, fun v1 u1 => sX10_drawn m1 (fun t2 m2 f2 => ⟨by decide, fun v2 u2 v3 u3 => sX10_drawn m2 (fun t3 m3 f3 => ⟨by decide, fun v4 u4 => sX10_drawn m3 (fun t4 m4 f4 => ⟨by decide, fun v5 u5 => ⟨12, ?_⟩⟩)⟩)⟩)⟩)
    obtain ⟨hq, eq⟩ := houseD_n (drawH (drawH (drawH h)))
    rw [eq] at u5
    subst u3
    subst u1
    subst u2
    subst u4
    subst u5
    have m4' : HM (d4 h) (t4 1 0) := m4
    have hi4 := HI_d4 hi
    obtain ⟨i, hi12, hf⟩ := seek_ex hi4.1 (by omega) hq
    refine mSeek m4' hi4.1 12 _ i hi12 hq hf (sX10_comes m4' hi4.1.1.2.1 (by omega) (fun t5 m5 f5 v ev => ?_))
    subst ev
    rw [nI_1]
    refine ih (k + 1) (n + 1) t5 (drawRoofH h n) m5 (HI_drawRoof hi (by omega)) (by omega) (by omega) (by omega) (fun t6 m6 f6 => ?_)
    rw [show k + 1 + c = k + (c + 1) by omega]
    exact hp t6 m6 (((((f1.tr f2).tr f3).tr f4).tr f5).tr f6)
theorem sim9 (σ τ : St) (a0 : Int32) (hR : Rel σ τ) : w_X9_deal (fun r σ1 => w_X10_deal (fun r2 τ1 => r = r2 ∧ Rel σ1 τ1) τ a0) σ a0 := by
  rcases wv_10 a0 1 12 with ⟨e0, q0⟩ | ⟨e0, q0⟩
  · exact gC0' e0 (gM0' e0 ⟨rfl, hR⟩)
  obtain ⟨x, hx1, hx, rfl⟩ := wv_n (a := 1) (b := 12) (by decide) (by decide) q0
  obtain ⟨n, m, T, hH, hT, hRR⟩ := id hR
  obtain ⟨hm, hi, h55, hm9, h57, hT14⟩ := id hH
  have hn := hi.1.1.1
  have e50 : σ 5 0 0 = nI n := hi.1.1.2.1
  have key : ∀ c, c ≤ x → n + c ≤ 12 → (c = x ∨ n + c = 12) → (∃ n4 : Nat, l_X9_deal_30 (fun r σ1 => w_X10_deal (fun r2 τ1 => r = r2 ∧ Rel σ1 τ1) τ (nI x)) n4 σ (nI c) 0) := by
    intro c hc hc2 hc3
    refine ⟨c + 1, cDeal c 0 n σ e50 hc2 (by omega) (by omega) (fun σ' e f => gM1' e0 ⟨c + 1, mDeal hx c 0 n τ (hlC σ 0) hm hi (by omega) hc2 (by omega) (fun τ' hm' f' => ⟨by rw [Nat.zero_add], ?_⟩)⟩)⟩
    refine Rel_mk hH hT hRR (EC_FR (by decide) f) (EM_FM f') (n' := n + c) (m' := m) ?_
    rw [e]
    exact ⟨hm', HI_deal c n _ hi hc2, by rw [deal_5 5 (by decide) (by decide)]; exact h55, hm9, by rw [deal_5 7 (by decide) (by decide)]; exact h57, hT14⟩
  refine gC1' e0 (fun v ev => ?_)
  rw [e50, show (12 : Int32) - nI n = nI (12 - n) from pk_sub (a := 12) (by omega)] at ev
  subst ev
  by_cases c : 12 - n < x
  · rw [if_pos (nI_lt c (by omega))]
    exact key _ (by omega) (by omega) (by omega)
  · rw [if_neg (nI_nlt (by omega) (by omega))]
    exact key _ (by omega) (by omega) (by omega)
theorem pass_55 {sp : Int32 → Int32 → Int32 → Int32} {n : Nat} : ∀ (c m : Nat) (h : Hl), h 5 5 = nI m → passH sp n c m h 5 5 = nI (m + c) := by
  intro c
  induction c with
  | zero => intro m h e; rw [passH]; exact e
  | succ c ih =>
    intro m h e
    rw [passH, ih (m + 1) _ night_55, show m + 1 + c = m + (c + 1) by omega]
theorem sim11 (σ τ : St) (a0 : Int32) (hR : Rel σ τ) : w_X9_nights (fun r σ1 => w_X10_nights (fun r2 τ1 => r = r2 ∧ Rel σ1 τ1) τ a0) σ a0 := by
  rcases wv_10 a0 1 100 with ⟨e0, q0⟩ | ⟨e0, q0⟩
  · exact gC0' e0 (gM0' e0 ⟨rfl, hR⟩)
  obtain ⟨x, hx1, hx, rfl⟩ := wv_n (a := 1) (b := 100) (by decide) (by decide) q0
  obtain ⟨n, m, T, hH, hT, hRR⟩ := id hR
  obtain ⟨hm, hi, h55, hm9, h57, hT14⟩ := id hH
  have hsp := spiteAt (i := 0) hT14 h57 hT
  have hM : SpiteM τ (spT σ T) := spiteM hT14 ((hm 5 7 (by unfold vm; omega)).trans h57) hT
  have c6 : (6 : Int32).toNatClampNeg = 6 := by decide
  have c2 : (2 : Int32).toNatClampNeg = 2 := by decide
  have hi6 : vp_in (6 : Int32) 3082 := vp_in_nI (n := 6) (by decide) (by decide)
  have hi2 : vp_in (2 : Int32) 3082 := vp_in_nI (n := 2) (by decide) (by decide)
  have e6 : τ 1 0 6 = σ 5 0 2 := hm 5 2 (by unfold vm; omega)
  have e2 : τ 1 0 2 = nI m := (hm 5 5 (by unfold vm; omega)).trans h55
  have key : ∀ c v, c ≤ 9999 - m → v = σ 5 0 2 → (∀ P : Int32 → St → Prop, b_X10_nights_45 P τ (nI c) v → w_X10_nights P τ (nI x)) → w_X1_pass (fun s5 => (fun r σ1 => w_X10_nights (fun r2 τ1 => r = r2 ∧ Rel σ1 τ1) τ (nI x)) (s5 5 0 2 - v) s5) σ 0 (nI c) := by
    intro c v hc ev hP
    refine sX1_pass (n := n) (m := m) (sp := spT σ T) hi.1.1 h55 (by omega) hsp (fun σ' e f => hP _ ?_)
    unfold b_X10_nights_45
    refine sX10_goesOnMany hM (spT_R σ T) hm hi h55 (by omega) (fun τ' hm' f' => ⟨hi6, ?_, ?_⟩)
    · rw [c6]
      have g : τ' 1 0 6 = σ' 5 0 2 := (hm' 5 2 (by unfold vm; omega)).trans (by rw [← e]; rfl)
      rw [g]
    · refine Rel_mk hH hT hRR (EC_FR (by decide) f) (EM_FM f') (n' := n) (m' := m + c) ?_
      refine ⟨by rw [e]; exact hm', by rw [e]; exact HI_pass (spT_R σ T) c m _ hi, by rw [e]; exact pass_55 c m _ h55, by omega, ?_, hT14⟩
      exact (f 5 0 7 (by decide) (by omega)).trans h57
  refine gC1' e0 (fun v ev w ew => ?_)
  rw [show σ 5 0 5 = nI m from h55, show (9999 : Int32) - nI m = nI (9999 - m) from pk_sub (a := 9999) (by omega)] at ew
  subst ew
  by_cases c : 9999 - m < x
  · rw [if_pos (nI_lt c (by omega))]
    refine key _ v (by omega) ev (fun P hP => ?_)
    unfold w_X10_nights
    refine gM1' e0 ?_
    rw [c6, c2, e2, e6, ← ev, show (9999 : Int32) - nI m = nI (9999 - m) from pk_sub (a := 9999) (by omega)]
    refine ⟨hi6, fun v4 e4 => ⟨hi2, fun v6 e6 => ?_⟩⟩
    subst e4
    subst e6
    exact ⟨fun _ => hP, fun c2 => absurd (nI_le (by omega) (by omega)) c2⟩
  · rw [if_neg (nI_nlt (by omega) (by omega))]
    refine key _ v (by omega) ev (fun P hP => ?_)
    unfold w_X10_nights
    refine gM1' e0 ?_
    rw [c6, c2, e2, e6, ← ev, show (9999 : Int32) - nI m = nI (9999 - m) from pk_sub (a := 9999) (by omega)]
    refine ⟨hi6, fun v4 e4 => ⟨hi2, fun v6 e6 => ?_⟩⟩
    subst e4
    subst e6
    refine ⟨fun c2 => ?_, fun _ => hP⟩
    have e : 9999 - m = x := by
      have := (nI_leI (by omega) (by omega)).1 c2
      omega
    rw [e]
    exact hP
theorem sX10_hillOf {post : Int32 → St → Prop} {τ : St} {h : Hl} {n b : Nat} (hm : HM h (τ 1 0)) (hi : HI h n) (hb : b < 6) (hp : post (if b = 0 then h 5 2 else if b = 1 then h 5 3 else if b = 2 then h 5 4 else if b = 3 then dryOf h 0 else if b = 4 then dryOf h 1 else sumTo (h 8) n) τ) : w_X10_hillOf post τ (nI b) := by
  unfold w_X10_hillOf
  rcases (show b = 0 ∨ b = 1 ∨ b = 2 ∨ b = 3 ∨ b = 4 ∨ b = 5 by omega) with rfl | rfl | rfl | rfl | rfl | rfl
  · refine ⟨fun c => absurd c (by decide), fun _ => ⟨by exact vp_in_nI (n := 6) (by decide) (by decide), ?_⟩⟩
    rw [show ((6 : Int32) + nI 0).toNatClampNeg = 6 by decide, show τ 1 0 6 = h 5 2 from hm 5 2 (by unfold vm; omega)]
    exact hp
  · refine ⟨fun c => absurd c (by decide), fun _ => ⟨by exact vp_in_nI (n := 7) (by decide) (by decide), ?_⟩⟩
    rw [show ((6 : Int32) + nI 1).toNatClampNeg = 7 by decide, show τ 1 0 7 = h 5 3 from hm 5 3 (by unfold vm; omega)]
    exact hp
  · refine ⟨fun c => absurd c (by decide), fun _ => ⟨by exact vp_in_nI (n := 8) (by decide) (by decide), ?_⟩⟩
    rw [show ((6 : Int32) + nI 2).toNatClampNeg = 8 by decide, show τ 1 0 8 = h 5 4 from hm 5 4 (by unfold vm; omega)]
    exact hp
  · exact ⟨fun _ => ⟨fun c => absurd c (by decide), fun _ => sX10_dryOf (t := 0) hm hi.1 (by decide) hp⟩, fun c => absurd (by decide) c⟩
  · exact ⟨fun _ => ⟨fun c => absurd c (by decide), fun _ => sX10_dryOf (t := 1) hm hi.1 (by decide) hp⟩, fun c => absurd (by decide) c⟩
  · exact ⟨fun _ => ⟨fun _ => sX10_leaks hm hi.1.1 hp, fun c => absurd (by decide) c⟩, fun c => absurd (by decide) c⟩
theorem HS_12 {h : Hl} {n : Nat} (hs : HS h n) : ∀ a, a < 12 → h 12 a = NON ∨ ∃ k, k < 12 ∧ h 12 a = nI k := hs.2.2.2
theorem sim12 (σ τ : St) (a0 : Int32) (hR : Rel σ τ) : w_X9_hill (fun r σ1 => w_X10_hill (fun r2 τ1 => r = r2 ∧ Rel σ1 τ1) τ a0) σ a0 := by
  obtain ⟨n, m, T, ⟨hm, hi, -⟩, -, -⟩ := id hR
  have e50 : σ 5 0 0 = nI n := hi.1.1.2.1
  rcases wv_10 a0 0 5 with ⟨e0, q0⟩ | ⟨e0, q0⟩
  · exact ⟨fun c => absurd c (fun c => absurd q0 (by rw [c]; decide)), fun _ => ⟨fun c => absurd c (fun c => absurd q0 (by rw [c]; decide)), fun _ => ⟨fun c => absurd c (fun c => absurd q0 (by rw [c]; decide)), fun _ => ⟨fun c => absurd c (fun c => absurd q0 (by rw [c]; decide)), fun _ => ⟨fun c => absurd c (fun c => absurd q0 (by rw [c]; decide)), fun _ => ⟨fun c => absurd c (fun c => absurd q0 (by rw [c]; decide)), fun _ => gM0 e0 ⟨rfl, hR⟩⟩⟩⟩⟩⟩⟩
  obtain ⟨b, _, hb, rfl⟩ := wv_n (a := 0) (b := 5) (by decide) (by decide) q0
  rcases (show b = 0 ∨ b = 1 ∨ b = 2 ∨ b = 3 ∨ b = 4 ∨ b = 5 by omega) with rfl | rfl | rfl | rfl | rfl | rfl
  · exact ⟨fun _ => gM1 e0 (sX10_hillOf hm hi (by decide) ⟨rfl, hR⟩), fun c => absurd rfl c⟩
  · exact ⟨fun c => absurd c (by decide), fun _ => ⟨fun _ => gM1 e0 (sX10_hillOf hm hi (by decide) ⟨rfl, hR⟩), fun c => absurd rfl c⟩⟩
  · exact ⟨fun c => absurd c (by decide), fun _ => ⟨fun c => absurd c (by decide), fun _ => ⟨fun _ => gM1 e0 (sX10_hillOf hm hi (by decide) ⟨rfl, hR⟩), fun c => absurd rfl c⟩⟩⟩
  · exact ⟨fun c => absurd c (by decide), fun _ => ⟨fun c => absurd c (by decide), fun _ => ⟨fun c => absurd c (by decide), fun _ => ⟨fun _ => sX1_dryOf (t := 0) (by decide) (HS_12 hi.1.1) (gM1 e0 (sX10_hillOf hm hi (by decide) ⟨rfl, hR⟩)), fun c => absurd rfl c⟩⟩⟩⟩
  · exact ⟨fun c => absurd c (by decide), fun _ => ⟨fun c => absurd c (by decide), fun _ => ⟨fun c => absurd c (by decide), fun _ => ⟨fun c => absurd c (by decide), fun _ => ⟨fun _ => sX1_dryOf (t := 1) (by decide) (HS_12 hi.1.1) (gM1 e0 (sX10_hillOf hm hi (by decide) ⟨rfl, hR⟩)), fun c => absurd rfl c⟩⟩⟩⟩⟩
  · exact ⟨fun c => absurd c (by decide), fun _ => ⟨fun c => absurd c (by decide), fun _ => ⟨fun c => absurd c (by decide), fun _ => ⟨fun c => absurd c (by decide), fun _ => ⟨fun c => absurd c (by decide), fun _ => ⟨fun _ => sX1_leakOfAll e50 hi.1.1.1 (gM1 e0 (sX10_hillOf hm hi (by decide) ⟨rfl, hR⟩)), fun c => absurd rfl c⟩⟩⟩⟩⟩⟩
theorem homeV_or (h : Hl) {t : Nat} (ht : t < 2) : homeV h t = NON ∨ ∃ k, k < 2 ^ 31 ∧ homeV h t = nI k := by
  by_cases c : homeV h t = NON
  · exact Or.inl c
  · obtain ⟨a, _, _, ha, e, _⟩ := homeV_in h ht c
    exact Or.inr ⟨a, by omega, e⟩
theorem sim13 (σ τ : St) (a0 a1 : Int32) (hR : Rel σ τ) : w_X9_loot (fun r σ1 => w_X10_loot (fun r2 τ1 => r = r2 ∧ Rel σ1 τ1) τ a0 a1) σ a0 a1 := by
  obtain ⟨n, m, T, ⟨hm, hi, -⟩, -, -⟩ := id hR
  have e50 : σ 5 0 0 = nI n := hi.1.1.2.1
  rcases wv_10 a0 0 1 with ⟨e0, q0⟩ | ⟨e0, q0⟩
  · exact gTC0 e0 (gTM0 e0 ⟨rfl, hR⟩)
  obtain ⟨t, _, ht, rfl⟩ := wv_n (a := 0) (b := 1) (by decide) (by decide) q0
  rcases wv_10 a1 0 1 with ⟨e1, q1⟩ | ⟨e1, q1⟩
  · exact gTC1 e0 (gC0' e1 (gTM1 e0 (gM0' e1 ⟨rfl, hR⟩)))
  obtain ⟨b, _, hb, rfl⟩ := wv_n (a := 0) (b := 1) (by decide) (by decide) q1
  have ht2 : t < 2 := by omega
  refine gTC1 e0 (gC1' e1 ?_)
  rcases (show b = 0 ∨ b = 1 by omega) with rfl | rfl
  · exact ⟨fun c => absurd rfl c, fun _ => sX1_mayCarry ht2 e50 hi.1.1.1 (gTM1 e0 (gM1' e1 ⟨fun c => absurd rfl c, fun _ => sX10_lootOf hm hi.1.1 ht2 ⟨rfl, hR⟩⟩))⟩
  · exact ⟨fun _ => sX1_homeOf ht2 (gTM1 e0 (gM1' e1 ⟨fun _ => sX10_homeOf hm hi.1 ht2 (mOrNone (homeV_or _ ht2) ⟨rfl, hR⟩), fun c => absurd c (by decide)⟩)), fun c => absurd c (by decide)⟩
theorem sim14 (σ τ : St) (a0 : Int32) (hR : Rel σ τ) : w_X9_steals (fun r σ1 => w_X10_steals (fun r2 τ1 => r = r2 ∧ Rel σ1 τ1) τ a0) σ a0 := by
  obtain ⟨n, m, T, hH, hT, hRR⟩ := id hR
  obtain ⟨hm, hi, h55, hm9, h57, hT14⟩ := id hH
  have e50 : σ 5 0 0 = nI n := hi.1.1.2.1
  have en2 : τ 1 0 0 = nI n := mN hm hi.1.1
  have hn := hi.1.1.1
  rcases wv_10 a0 0 (nI n - 1) with ⟨e0, q0⟩ | ⟨e0, q0⟩
  · exact gRC0' e50 e0 (gRM0' en2 e0 ⟨rfl, hR⟩)
  obtain ⟨r, hr, rfl⟩ := wv_r (by omega) q0
  have hr12 : r < 12 := by omega
  obtain ⟨a, ha, e9, _⟩ := hi.1.2.1 r hr
  have e9' : σ 9 0 r = nI a := e9
  have hsp := spiteAt (i := 0) hT14 h57 hT
  have hM : SpiteM τ (spT σ T) := spiteM hT14 ((hm 5 7 (by unfold vm; omega)).trans h57) hT
  refine gRC1' e50 e0 ?_
  rw [cl (show r < 2 ^ 31 by omega), e9']
  refine ⟨vp_in_nI hr12 (by decide), sX9_townOf ?_⟩
  rw [tw_n ha]
  unfold w_X9_otherTown
  rw [show (1 : Int32) - nI (a / 6) = nI (1 - a / 6) from pk_sub (a := 1) (by omega)]
  have ht : 1 - a / 6 < 2 := by omega
  have mod1 : ∀ P : Int32 → St → Prop, w_X10_homeOf (fun r5 s5 => (r5 < 0 → P (-1000000002) s5) ∧ (¬ r5 < 0 → w_X10_mayCarry (fun r7 s7 => (¬ r7 = 0 → w_X10_isCarried (fun s9 => P r5 s9) s7 (nI r) r5) ∧ (r7 = 0 → P (-1000000002) s7)) s5 (nI (1 - a / 6)) (nI r))) τ (nI (1 - a / 6)) → w_X10_steals P τ (nI r) := by
    intro P hP
    unfold w_X10_steals
    refine gRM1' en2 e0 (sX10_townOf hm hi.1.1 hr12 (fun v ev => ?_))
    rw [e9, tw_n ha, show (1 : Int32) - nI (a / 6) = nI (1 - a / 6) from pk_sub (a := 1) (by omega)] at ev
    subst ev
    exact hP
  refine sX1_homeOf ht ⟨fun c => mod1 _ (sX10_homeOf hm hi.1 ht ?_), fun c => sX1_mayCarry ht e50 hn (sX9_inSet ?_)⟩
  · unfold hmV
    rw [if_pos c]
    exact ⟨fun _ => ⟨rfl, hR⟩, fun c => absurd (by decide) c⟩
  · obtain ⟨b, _, _, hb, eb, hf⟩ := homeV_in (hlC σ 0) ht c
    have hlt : lootN (hlC σ 0) (1 - a / 6) n < 4096 := Nat.lt_of_lt_of_le (lootN_lt _ _ n) (Nat.pow_le_pow_right (by decide) hn : 2 ^ n ≤ 2 ^ 12)
    rw [lootTo_n _ _ n hn, bitOf_t (by omega) (by omega)]
    have hbit := lootN_bit (hlC σ 0) (1 - a / 6) r n
    have ev : hmV (hlC σ 0) (1 - a / 6) = nI b := by
      unfold hmV
      rw [if_neg c, eb]
    by_cases cb : (lootN (hlC σ 0) (1 - a / 6) n).testBit r = true
    · rw [if_pos cb, if_pos rfl]
      obtain ⟨_, g1, g2⟩ := hbit.1 cb
      refine ⟨fun _ => ?_, fun c => absurd c (by decide)⟩
      rw [eb]
      refine sX1_carry (n := 12) hsp hr12 hr12 hb (by rw [e9']; exact vp_in_nI ha (by decide)) (fun σ' e f => mod1 _ (sX10_homeOf hm hi.1 ht ?_))
      rw [ev]
      refine ⟨fun c => absurd c (nI_pos (by omega)), fun _ => sX10_mayCarry hm hi.1.1 ht hr12 ?_⟩
      rw [if_neg g1, if_neg g2]
      refine ⟨fun _ => sX10_isCarried hM (spT_R σ T) hm hi hr (fun τ' hm' f' => ⟨rfl, ?_⟩), fun c => absurd c (by decide)⟩
      refine Rel_mk hH hT hRR (EC_FR (by decide) f) (EM_FM f') (n' := n) (m' := m) ?_
      refine ⟨by rw [e]; exact hm', by rw [e]; exact HI_carry (spT_R σ T) hi hr hb hf, ?_, hm9, ?_, hT14⟩
      · rw [e]
        simpa [carryH, putH, setH] using h55
      · rw [e]
        simpa [carryH, putH, setH] using h57
    · rw [if_neg cb, if_neg (by decide)]
      refine ⟨fun c => absurd rfl c, fun _ => mod1 _ (sX10_homeOf hm hi.1 ht ?_)⟩
      rw [ev]
      refine ⟨fun c => absurd c (nI_pos (by omega)), fun _ => sX10_mayCarry hm hi.1.1 ht hr12 ?_⟩
      by_cases g1 : tw (hlC σ 0 9 r) = nI (1 - a / 6)
      · rw [if_pos g1]
        exact ⟨fun c => absurd rfl c, fun _ => ⟨rfl, hR⟩⟩
      · by_cases g2 : hlC σ 0 13 (1 - a / 6) < kWeighs (hlC σ 0 6 r) (hlC σ 0 7 r)
        · rw [if_neg g1, if_pos g2]
          exact ⟨fun c => absurd rfl c, fun _ => ⟨rfl, hR⟩⟩
        · exact absurd (hbit.2 ⟨hr, g1, g2⟩) cb
theorem sim42 (σ τ : St) (a0 : Int32) (hR : Rel σ τ) : w_X9_count (fun r σ1 => w_X10_count (fun r2 τ1 => r = r2 ∧ Rel σ1 τ1) τ a0) σ a0 := by
  have hv : ∀ k j, vm k j → σ k 0 j = τ 1 0 (mi k j) := fun k j h => Rel_val hR h
  have e0 : τ 1 0 0 = σ 5 0 0 := (hv 5 0 (by unfold vm; omega)).symm
  have e1 : τ 1 0 2 = σ 5 0 5 := (hv 5 5 (by unfold vm; omega)).symm
  have e2 : τ 1 0 3 = σ 13 0 0 := (hv 13 0 (by unfold vm; omega)).symm
  have e3 : τ 1 0 4 = σ 13 0 1 := (hv 13 1 (by unfold vm; omega)).symm
  have e4 : τ 1 0 5 = σ 5 0 1 := (hv 5 1 (by unfold vm; omega)).symm
  have e5 : τ 1 0 1 = σ 5 0 7 := (hv 5 7 (by unfold vm; omega)).symm
  have e8 : τ 1 0 9 = σ 5 0 6 := (hv 5 6 (by unfold vm; omega)).symm
  obtain ⟨n, m, T, -, -, -, ⟨L, -, l2, l3, -⟩, -, -, ⟨w, -, w2, w3, -⟩⟩ := id hR
  have e6 : τ 0 0 13 = σ 0 0 1 := w3.trans w2.symm
  have e7 : τ 0 0 2 = σ 19 0 0 := l3.trans l2.symm
  unfold w_X9_count w_X10_count
  rw [show (0 : Int32).toNatClampNeg = 0 by decide, show (1 : Int32).toNatClampNeg = 1 by decide, show (2 : Int32).toNatClampNeg = 2 by decide, show (3 : Int32).toNatClampNeg = 3 by decide, show (4 : Int32).toNatClampNeg = 4 by decide, show (5 : Int32).toNatClampNeg = 5 by decide, show (9 : Int32).toNatClampNeg = 9 by decide, e0, e1, e2, e3, e4, e5, e6, e7, e8]
  have v : ∀ k : Nat, k < 3082 → vp_in (nI k) 3082 := fun k hk => vp_in_nI hk (by decide)
  have d0 : vp_in (0 : Int32) 2 := vp_in_nI (n := 0) (by decide) (by decide)
  have d1 : vp_in (1 : Int32) 2 := vp_in_nI (n := 1) (by decide) (by decide)
  by_cases c0 : a0 = 0
  · subst c0
    exact ⟨fun _ => ⟨fun _ => ⟨v 0 (by decide), rfl, hR⟩, fun c => absurd rfl c⟩, fun c => absurd rfl c⟩
  by_cases c1 : a0 = 1
  · subst c1
    exact ⟨fun c => absurd c (by decide), fun _ => ⟨fun _ => ⟨fun c => absurd c (by decide), fun _ => ⟨fun _ => ⟨v 2 (by decide), rfl, hR⟩, fun c => absurd rfl c⟩⟩, fun c => absurd rfl c⟩⟩
  by_cases c2 : a0 = 2
  · subst c2
    exact ⟨fun c => absurd c (by decide), fun _ => ⟨fun c => absurd c (by decide), fun _ => ⟨fun _ => ⟨d0, ⟨fun c => absurd c (by decide), fun _ => ⟨fun c => absurd c (by decide), fun _ => ⟨fun _ => ⟨v 3 (by decide), rfl, hR⟩, fun c => absurd rfl c⟩⟩⟩⟩, fun c => absurd rfl c⟩⟩⟩
  by_cases c3 : a0 = 3
  · subst c3
    exact ⟨fun c => absurd c (by decide), fun _ => ⟨fun c => absurd c (by decide), fun _ => ⟨fun c => absurd c (by decide), fun _ => ⟨fun _ => ⟨d1, ⟨fun c => absurd c (by decide), fun _ => ⟨fun c => absurd c (by decide), fun _ => ⟨fun c => absurd c (by decide), fun _ => ⟨fun _ => ⟨v 4 (by decide), rfl, hR⟩, fun c => absurd rfl c⟩⟩⟩⟩⟩, fun c => absurd rfl c⟩⟩⟩⟩
  by_cases c4 : a0 = 4
  · subst c4
    exact ⟨fun c => absurd c (by decide), fun _ => ⟨fun c => absurd c (by decide), fun _ => ⟨fun c => absurd c (by decide), fun _ => ⟨fun c => absurd c (by decide), fun _ => ⟨fun _ => ⟨fun c => absurd c (by decide), fun _ => ⟨fun c => absurd c (by decide), fun _ => ⟨fun c => absurd c (by decide), fun _ => ⟨fun c => absurd c (by decide), fun _ => ⟨fun _ => ⟨v 5 (by decide), rfl, hR⟩, fun c => absurd rfl c⟩⟩⟩⟩⟩, fun c => absurd rfl c⟩⟩⟩⟩⟩
  by_cases c5 : a0 = 5
  · subst c5
    exact ⟨fun c => absurd c (by decide), fun _ => ⟨fun c => absurd c (by decide), fun _ => ⟨fun c => absurd c (by decide), fun _ => ⟨fun c => absurd c (by decide), fun _ => ⟨fun c => absurd c (by decide), fun _ => ⟨fun _ => ⟨fun c => absurd c (by decide), fun _ => ⟨fun c => absurd c (by decide), fun _ => ⟨fun c => absurd c (by decide), fun _ => ⟨fun c => absurd c (by decide), fun _ => ⟨fun c => absurd c (by decide), fun _ => ⟨fun _ => ⟨v 1 (by decide), rfl, hR⟩, fun c => absurd rfl c⟩⟩⟩⟩⟩⟩, fun c => absurd rfl c⟩⟩⟩⟩⟩⟩
  by_cases c6 : a0 = 6
  · subst c6
    exact ⟨fun c => absurd c (by decide), fun _ => ⟨fun c => absurd c (by decide), fun _ => ⟨fun c => absurd c (by decide), fun _ => ⟨fun c => absurd c (by decide), fun _ => ⟨fun c => absurd c (by decide), fun _ => ⟨fun c => absurd c (by decide), fun _ => ⟨fun _ => ⟨fun c => absurd c (by decide), fun _ => ⟨fun c => absurd c (by decide), fun _ => ⟨fun c => absurd c (by decide), fun _ => ⟨fun c => absurd c (by decide), fun _ => ⟨fun c => absurd c (by decide), fun _ => ⟨fun c => absurd c (by decide), fun _ => ⟨fun _ => ⟨rfl, hR⟩, fun c => absurd rfl c⟩⟩⟩⟩⟩⟩⟩, fun c => absurd rfl c⟩⟩⟩⟩⟩⟩⟩
  by_cases c7 : a0 = 7
  · subst c7
    exact ⟨fun c => absurd c (by decide), fun _ => ⟨fun c => absurd c (by decide), fun _ => ⟨fun c => absurd c (by decide), fun _ => ⟨fun c => absurd c (by decide), fun _ => ⟨fun c => absurd c (by decide), fun _ => ⟨fun c => absurd c (by decide), fun _ => ⟨fun c => absurd c (by decide), fun _ => ⟨fun _ => ⟨fun c => absurd c (by decide), fun _ => ⟨fun c => absurd c (by decide), fun _ => ⟨fun c => absurd c (by decide), fun _ => ⟨fun c => absurd c (by decide), fun _ => ⟨fun c => absurd c (by decide), fun _ => ⟨fun c => absurd c (by decide), fun _ => ⟨fun c => absurd c (by decide), fun _ => ⟨fun _ => ⟨rfl, hR⟩, fun c => absurd rfl c⟩⟩⟩⟩⟩⟩⟩⟩, fun c => absurd rfl c⟩⟩⟩⟩⟩⟩⟩⟩
  by_cases c8 : a0 = 8
  · subst c8
    exact ⟨fun c => absurd c (by decide), fun _ => ⟨fun c => absurd c (by decide), fun _ => ⟨fun c => absurd c (by decide), fun _ => ⟨fun c => absurd c (by decide), fun _ => ⟨fun c => absurd c (by decide), fun _ => ⟨fun c => absurd c (by decide), fun _ => ⟨fun c => absurd c (by decide), fun _ => ⟨fun c => absurd c (by decide), fun _ => ⟨fun _ => ⟨fun c => absurd c (by decide), fun _ => ⟨fun c => absurd c (by decide), fun _ => ⟨fun c => absurd c (by decide), fun _ => ⟨fun c => absurd c (by decide), fun _ => ⟨fun c => absurd c (by decide), fun _ => ⟨fun c => absurd c (by decide), fun _ => ⟨fun c => absurd c (by decide), fun _ => ⟨fun c => absurd c (by decide), fun _ => ⟨fun _ => ⟨v 9 (by decide), rfl, hR⟩, fun c => absurd rfl c⟩⟩⟩⟩⟩⟩⟩⟩⟩, fun c => absurd rfl c⟩⟩⟩⟩⟩⟩⟩⟩⟩
  exact ⟨fun c => absurd c (c0), fun _ => ⟨fun c => absurd c (c1), fun _ => ⟨fun c => absurd c (c2), fun _ => ⟨fun c => absurd c (c3), fun _ => ⟨fun c => absurd c (c4), fun _ => ⟨fun c => absurd c (c5), fun _ => ⟨fun c => absurd c (c6), fun _ => ⟨fun c => absurd c (c7), fun _ => ⟨fun c => absurd c (c8), fun _ => ⟨fun c => absurd c (c0), fun _ => ⟨fun c => absurd c (c1), fun _ => ⟨fun c => absurd c (c2), fun _ => ⟨fun c => absurd c (c3), fun _ => ⟨fun c => absurd c (c4), fun _ => ⟨fun c => absurd c (c5), fun _ => ⟨fun c => absurd c (c6), fun _ => ⟨fun c => absurd c (c7), fun _ => ⟨fun c => absurd c (c8), fun _ => ⟨rfl, hR⟩⟩⟩⟩⟩⟩⟩⟩⟩⟩⟩⟩⟩⟩⟩⟩⟩⟩⟩
theorem TX_ky {σ : St} {g : Nat → Int32} {T : Nat} {key : Int32} (hx : TX σ g T) : lastT (fun t => g (82 + 200 * t)) key T = lastT (fun t => σ 17 t 0) key T := lastT_eq (fun t ht => by
  obtain ⟨L, -, -, -, ⟨d1, -⟩, -⟩ := hx t ht
  exact d1)
theorem EM_same {τ τ' : St} (h : ∀ k a j, k ≠ 16 → k ≠ 17 → τ' k a j = τ k a j) : EM τ τ' := fun k a j c => h k a j (by omega) (by omega)
theorem sim22 (σ τ : St) (hR : Rel σ τ) : w_X9_fee (fun r σ1 => w_X10_fee (fun r2 τ1 => r = r2 ∧ Rel σ1 τ1) τ) σ := by
  obtain ⟨n, m, T, hH, hT, hRR⟩ := id hR
  obtain ⟨hm, hi, h55, hm9, h57, hT14⟩ := id hH
  have h57' : σ 5 0 7 = nI T := h57
  have h11 : τ 1 0 1 = nI T := (hm 5 7 (by unfold vm; omega)).trans h57
  unfold w_X9_fee
  rw [h57']
  refine sX4_counting hT14 ?_
  have e6 : τ 1 0 6 = σ 5 0 2 := hm 5 2 (by unfold vm; omega)
  have e8 : τ 1 0 8 = σ 5 0 4 := hm 5 4 (by unfold vm; omega)
  have hi6 : vp_in (6 : Int32) 3082 := vp_in_nI (n := 6) (by decide) (by decide)
  have hi8 : vp_in (8 : Int32) 3082 := vp_in_nI (n := 8) (by decide) (by decide)
  have mod : ∀ P : Int32 → St → Prop, (((0 ≤ (lastT (fun t => σ 17 t 0) 1 T).elim (-1) nI → (vp_in (6 : Int32) 3082 ∧ (vp_in (116 : Int32) 128 ∧ (∀ s5 : St, s5 = wr τ 16 0 116 (σ 5 0 2) → (vp_in (8 : Int32) 3082 ∧ (vp_in (119 : Int32) 128 ∧ (∀ s8 : St, s8 = wr s5 16 0 119 (σ 5 0 4) → w_X10_worked (fun r9 s9 => P r9 s9) s8 ((lastT (fun t => σ 17 t 0) 1 T).elim (-1) nI)))))))) ∧ (¬ 0 ≤ (lastT (fun t => σ 17 t 0) 1 T).elim (-1) nI → (vp_in (6 : Int32) 3082 ∧ P (σ 5 0 2) τ)))) → w_X10_fee P τ := by
    intro P hP
    unfold w_X10_fee
    rw [show (6 : Int32).toNatClampNeg = 6 by decide, show (116 : Int32).toNatClampNeg = 116 by decide, show (119 : Int32).toNatClampNeg = 119 by decide, show (8 : Int32).toNatClampNeg = 8 by decide]
    refine sX10_counts hT14 h11 ?_
    rw [TX_ky hT, e6]
    refine ⟨fun c => ?_, hP.2⟩
    obtain ⟨g1, g2, g3⟩ := hP.1 c
    refine ⟨g1, g2, fun s5 e5 => ?_⟩
    obtain ⟨g4, g5, g6⟩ := g3 s5 e5
    refine ⟨g4, g5, fun s8 es8 => g6 s8 ?_⟩
    rw [es8, e5, wr_off (a := 1) (b := 0) _ _ _ (by omega), e8]
  cases e : lastT (fun t => σ 17 t 0) 1 T with
  | none =>
    rw [e] at mod
    exact ⟨fun _ => mod _ ⟨fun c => absurd c (by decide), fun _ => ⟨hi6, rfl, hR⟩⟩, fun j q => absurd q (by simp)⟩
  | some t =>
    rw [e] at mod
    obtain ⟨htT, hkey⟩ := lastT_lt e
    obtain ⟨L, a1, a2, a3, a4, -⟩ := hT t htT
    rw [show σ 17 t 0 = 1 from hkey] at a4
    refine ⟨fun q => absurd q (by simp), fun j q => ?_⟩
    cases q
    refine sX4_workOut a2 a1 a3 (fun σ' hs => mod _ ⟨fun _ => ⟨hi6, vp_in_nI (n := 116) (by decide) (by decide), fun s5 e5 => ⟨hi8, vp_in_nI (n := 119) (by decide) (by decide), fun s8 e8 => ?_⟩⟩, fun c => absurd (nI_pos' (by omega)) c⟩)
    have q : s8 1 0 = τ 1 0 := by rw [e8, wr_off _ _ _ (by omega), e5, wr_off _ _ _ (by omega)]
    refine sX10_worked (f := σ 5 0 2) (s := σ 5 0 4) (u := 0) (by omega) (by rw [q]; exact a4) a1 a3 ?_ (fun τ' ht => ⟨rfl, ?_⟩)
    · intro p hp3 hp2
      rcases (show p = 0 ∨ p = 1 ∨ p = 2 by omega) with rfl | rfl | rfl
      · simp [ltr, nmV, e8, e5, wr, nI_0]
      · simp [ltr, nmV, e8, e5, wr, show nI 1 = 1 from rfl]
      · exact absurd (hp2 rfl) (by decide)
    · have hw : ∀ k a j, k ≠ 16 → k ≠ 17 → τ' k a j = τ k a j := fun k a j h1 h2 => by
        rw [ht k a j h2, e8, wr_off _ _ _ (by omega), e5, wr_off _ _ _ (by omega)]
      exact Rel_same hR (EC_same hs) (fun k j h1 h2 => hs k 0 j (by omega)) (EM_same hw) (fun j _ => hw 1 0 j (by decide) (by decide))
theorem sim23 (σ τ : St) (a0 : Int32) (hR : Rel σ τ) : w_X9_fine (fun r σ1 => w_X10_fine (fun r2 τ1 => r = r2 ∧ Rel σ1 τ1) τ a0) σ a0 := by
  obtain ⟨n, m, T, hH, hT, hRR⟩ := id hR
  obtain ⟨hm, hi, h55, hm9, h57, hT14⟩ := id hH
  have e50 : σ 5 0 0 = nI n := hi.1.1.2.1
  have en2 : τ 1 0 0 = nI n := mN hm hi.1.1
  have hn := hi.1.1.1
  rcases wv_10 a0 0 (nI n - 1) with ⟨e0, q0⟩ | ⟨e0, q0⟩
  · exact gRC0' e50 e0 (gRM0' en2 e0 ⟨rfl, hR⟩)
  obtain ⟨r, hr, rfl⟩ := wv_r (by omega) q0
  have hr12 : r < 12 := by omega
  have hvr : vp_in (nI r) 12 := vp_in_nI hr12 (by decide)
  have h57' : σ 5 0 7 = nI T := h57
  have h11 : τ 1 0 1 = nI T := (hm 5 7 (by unfold vm; omega)).trans h57
  refine gRC1' e50 e0 ?_
  rw [h57']
  refine sX4_counting hT14 ?_
  rw [cl (show r < 2 ^ 31 by omega)]
  cases e : lastT (fun t => σ 17 t 0) 2 T with
  | none =>
    refine ⟨fun _ => ⟨hvr, gRM1' en2 e0 (sX10_counts hT14 h11 ?_)⟩, fun j q => absurd q (by simp)⟩
    rw [TX_ky hT, e]
    exact ⟨fun c => absurd c (by decide), fun _ => sOf2 hm hr12 ⟨rfl, hR⟩⟩
  | some t =>
    obtain ⟨htT, hkey⟩ := lastT_lt e
    obtain ⟨L, a1, a2, a3, a4, -⟩ := hT t htT
    rw [show σ 17 t 0 = 2 from hkey] at a4
    refine ⟨fun q => absurd q (by simp), fun j q => ?_⟩
    cases q
    refine ⟨hvr, hvr, sX4_workOut a2 a1 a3 (fun σ' hs => gRM1' en2 e0 (sX10_counts hT14 h11 ?_))⟩
    rw [TX_ky hT, e]
    refine ⟨fun _ => sOf1 hm hr12 ⟨vp_in_nI (n := 115) (by decide) (by decide), fun s5 e5 => ?_⟩, fun c => absurd (nI_pos' (by omega)) c⟩
    rw [show (115 : Int32).toNatClampNeg = 115 by decide] at e5
    have hm5 : HM (hlC σ 0) (s5 1 0) := by rw [e5, wr_off _ _ _ (by omega)]; exact hm
    refine sOf2 hm5 hr12 ⟨vp_in_nI (n := 108) (by decide) (by decide), fun s8 e8 => ?_⟩
    rw [show (108 : Int32).toNatClampNeg = 108 by decide] at e8
    have q : s8 1 0 = τ 1 0 := by rw [e8, wr_off _ _ _ (by omega), e5, wr_off _ _ _ (by omega)]
    refine sX10_worked (f := σ 8 0 r) (s := σ 7 0 r) (u := 0) (by omega) (by rw [q]; exact a4) a1 a3 ?_ (fun τ' ht => ⟨rfl, ?_⟩)
    · intro p hp3 hp2
      rcases (show p = 0 ∨ p = 1 ∨ p = 2 by omega) with rfl | rfl | rfl
      · simp [ltr, nmV, e8, e5, wr, nI_0]
      · simp [ltr, nmV, e8, e5, wr, show nI 1 = 1 from rfl]
      · exact absurd (hp2 rfl) (by decide)
    · have hw : ∀ k a j, k ≠ 16 → k ≠ 17 → τ' k a j = τ k a j := fun k a j h1 h2 => by
        rw [ht k a j h2, e8, wr_off _ _ _ (by omega), e5, wr_off _ _ _ (by omega)]
      exact Rel_same hR (EC_same hs) (fun k j h1 h2 => hs k 0 j (by omega)) (EM_same hw) (fun j _ => hw 1 0 j (by decide) (by decide))
theorem sim27 (σ τ : St) (a0 a1 : Int32) (hR : Rel σ τ) : w_X9_textTold (fun r σ1 => w_X10_textTold (fun r2 τ1 => r = r2 ∧ Rel σ1 τ1) τ a0 a1) σ a0 a1 := by
  obtain ⟨n, m, T, hH, hT, hRR⟩ := id hR
  obtain ⟨hm, hi, h55, hm9, h57, hT14⟩ := id hH
  have h57' : σ 5 0 7 = nI T := h57
  have h11 : τ 1 0 1 = nI T := (hm 5 7 (by unfold vm; omega)).trans h57
  have mT : ∀ (v : Int32) (P : Int32 → St → Prop), wv a0 0 (nI T - 1) = v → P v τ → w_X10_isText P τ a0 := by
    intro v P e h
    unfold w_X10_isText
    rw [show (1 : Int32).toNatClampNeg = 1 by decide, h11]
    exact ⟨vp_in_nI (n := 1) (by decide) (by decide), mW (lo := 0) (by decide) rfl (by rw [e]; exact h)⟩
  unfold w_X9_textTold
  rw [h57']
  rcases wv_10 a0 0 (nI T - 1) with ⟨e0, q0⟩ | ⟨e0, q0⟩
  · exact gC0 e0 (mT 0 _ e0 ⟨fun _ => ⟨rfl, hR⟩, fun c => absurd rfl c⟩)
  obtain ⟨t, ht, rfl⟩ := wv_r (by omega) q0
  rcases wv_10 a1 0 1 with ⟨e1, q1⟩ | ⟨e1, q1⟩
  · exact gC1 e0 (gC0' e1 (mT 1 _ e0 ⟨fun c => absurd c (by decide), fun _ => gM0' e1 ⟨rfl, hR⟩⟩))
  obtain ⟨b, _, hb, rfl⟩ := wv_n (a := 0) (b := 1) (by decide) (by decide) q1
  obtain ⟨L, -, -, -, ⟨d1, d2, -⟩, -⟩ := hT t ht
  refine gC1 e0 (gC1' e1 ?_)
  rw [cl (show t < 2 ^ 31 by omega)]
  refine ⟨vp_in_nI (by omega) (by decide), ?_⟩
  have mod : ∀ P : Int32 → St → Prop, P (τ 1 0 (82 + 200 * t + b)) τ → w_X10_textTold P τ (nI t) (nI b) := by
    intro P hP
    unfold w_X10_textTold
    refine mT 1 _ e0 ⟨fun c => absurd c (by decide), fun _ => gM1' e1 ?_⟩
    unfold w_X10_textAt
    dsimp only
    rw [mtx, nI_add, cl (show 82 + 200 * t + b < 2 ^ 31 by omega)]
    exact ⟨vp_in_nI (by omega) (by decide), hP⟩
  rcases (show b = 0 ∨ b = 1 by omega) with rfl | rfl
  · exact ⟨fun c => absurd rfl c, fun _ => mod _ ⟨d1.symm, hR⟩⟩
  · refine ⟨fun _ => mod _ ⟨?_, hR⟩, fun c => absurd c (by decide)⟩
    rw [show 82 + 200 * t + 1 = 83 + 200 * t by omega]
    exact d2.symm
theorem sim28 (σ τ : St) (a0 : Int32) (hR : Rel σ τ) : w_X9_why (fun r σ1 => w_X10_why (fun r2 τ1 => r = r2 ∧ Rel σ1 τ1) τ a0) σ a0 := by
  obtain ⟨n, m, T, hH, hT, hRR⟩ := id hR
  obtain ⟨hm, hi, h55, hm9, h57, hT14⟩ := id hH
  have h57' : σ 5 0 7 = nI T := h57
  have h11 : τ 1 0 1 = nI T := (hm 5 7 (by unfold vm; omega)).trans h57
  rcases wv_10 a0 0 2 with ⟨e0, q0⟩ | ⟨e0, q0⟩
  · exact gC0 e0 (gM0 e0 ⟨rfl, hR⟩)
  refine gC1 e0 ?_
  rw [h57']
  refine sX4_lastOf hT14 (gM1 e0 (sX10_counts hT14 h11 ?_))
  rw [TX_ky hT]
  unfold w_X10_orNone
  cases e : lastT (fun t => σ 17 t 0) a0 T with
  | none => exact ⟨fun c => absurd c (by decide), fun _ => ⟨rfl, hR⟩⟩
  | some t =>
    have := (lastT_lt e).1
    exact ⟨fun _ => ⟨rfl, hR⟩, fun c => absurd (nI_pos' (by omega)) c⟩
