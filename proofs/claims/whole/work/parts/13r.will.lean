/-! LAYER 2. What will be: behind, gone, guard, becomes. -/
theorem Rel_th {σ τ σ' τ' : St} (hR : Rel σ τ) (h : Th σ σ') (hM : MTh τ τ') (e : ∀ j, τ' 1 0 j = τ 1 0 j) : Rel σ' τ' := Rel_same hR h.1 h.2 (MTh_EM hM) (fun j _ => e j)
theorem kCov_n {q z : Nat} (hq : q < 6) (hz : z ≤ 9) : ∃ c, c ≤ 12 ∧ kCovers (nI q) (nI z) = nI c := by
  have e3 : nI z + 3 = nI (z + 3) := nI_add z 3
  have e2 : nI z / 2 = nI (z / 2) := pk_div (d := 2) (by omega) (by decide) (by decide)
  unfold kCovers
  rcases (show q = 0 ∨ q = 1 ∨ q = 2 ∨ q = 3 ∨ q = 4 ∨ q = 5 by omega) with rfl | rfl | rfl | rfl | rfl | rfl
  · exact ⟨z, by omega, by rw [if_neg (by decide), if_neg (by decide), if_neg (by decide), if_neg (by decide)]⟩
  · exact ⟨z, by omega, by rw [if_neg (by decide), if_neg (by decide), if_neg (by decide), if_neg (by decide)]⟩
  · exact ⟨z + 3, by omega, by rw [if_pos (by decide), e3]⟩
  · exact ⟨z / 2, by omega, by rw [if_neg (by decide), if_pos (by decide), e2]⟩
  · exact ⟨z + 3, by omega, by rw [if_neg (by decide), if_neg (by decide), if_pos (by decide), e3]⟩
  · exact ⟨0, by omega, by rw [if_neg (by decide), if_neg (by decide), if_neg (by decide), if_pos (by decide)]; rfl⟩
theorem min_n {c p : Nat} (hc : c ≤ 12) (hp : p ≤ 9) : (if nI c < nI p then nI c else nI p) = nI (if c < p then c else p) := by
  by_cases g : c < p
  · rw [if_pos (nI_lt g (by omega)), if_pos g]
  · rw [if_neg (nI_nlt (by omega) (by omega)), if_neg g]
theorem dryAt_n {h : Hl} {n a : Nat} (hi : HI h n) (ha : a < 12) : ∃ d, d ≤ 9 ∧ dryAt h a = nI d := by
  unfold dryAt
  rcases hi.1.2.2 a ha with g | ⟨k, hk, g, _⟩
  · rw [if_pos g]
    exact ⟨0, by decide, rfl⟩
  · have hn := hi.1.1.1
    rw [g, if_neg (nI_NON (by omega)), cl (show k < 2 ^ 31 by omega)]
    obtain ⟨⟨q, hq, eq⟩, ⟨z, _, hz, ez⟩, -⟩ := hi.2.1 k hk
    obtain ⟨p, hp, ep⟩ := hi.2.2 a ha
    obtain ⟨c, hc, ec⟩ := kCov_n hq hz
    rw [eq, ez, ep, ec, min_n hc hp]
    refine ⟨_, ?_, rfl⟩
    split <;> omega
theorem sum_n {f : Nat → Int32} {b : Nat} : ∀ n, (∀ k, k < n → ∃ d, d ≤ b ∧ f k = nI d) → ∃ d, d ≤ n * b ∧ sumTo f n = nI d := by
  intro n
  induction n with
  | zero => intro _; exact ⟨0, by omega, rfl⟩
  | succ n ih =>
    intro h
    obtain ⟨d, hd, ed⟩ := ih (fun k hk => h k (by omega))
    obtain ⟨c, hc, ec⟩ := h n (by omega)
    refine ⟨d + c, ?_, ?_⟩
    · rw [Nat.succ_mul]
      omega
    · unfold sumTo
      rw [ed, ec, nI_add]
theorem dryOf_n {h : Hl} {n t : Nat} (hi : HI h n) (ht : t < 2) : ∃ d, d ≤ 54 ∧ dryOf h t = nI d := by
  obtain ⟨d, hd, e⟩ := sum_n (f := fun j => dryAt h (6 * t + j)) (b := 9) 6 (fun k hk => dryAt_n hi (by omega))
  exact ⟨d, by omega, e⟩
def bhV (g : Hl) (q : Nat) : Int32 := if q = 0 then g 5 2 else if q = 1 then g 5 3 else if q = 2 then g 5 4 else if q = 3 then dryOf g 0 else if q = 4 then dryOf g 1 else g 9 (q - 5)
theorem mBehind {σ τ : St} {n m T x q : Nat} {P : Int32 → St → Prop} {h1 : Hl} (hm : HM h1 (τ 1 0)) (hi : HI h1 n) (h55 : h1 5 5 = nI m) (hm9 : m ≤ 9999) (hT14 : T ≤ 14) (h11 : τ 1 0 1 = nI T) (hT : TX σ (τ 1 0) T) (hx : x ≤ 100) (hq : q < 5 + n) (hp : ∀ t' : St, MTh τ t' → (∀ j, t' 1 0 j = τ 1 0 j) → P (bhV (passH (spT σ T) n x m h1) q) t') : b_X10_behind_34 P τ (nI x) (nI q) := by
  have hn := hi.1.1.1
  unfold b_X10_behind_34
  refine mBy (fun t1 hM1 e1 => ?_)
  refine sX10_goesOnMany (n := n) (m := m) (h := h1) (spiteMTh hT14 h11 hT hM1) (spT_R σ T) (HM_of hm (fun j _ => e1 j)) hi h55 (by omega) (fun t2 hm2 f2 => ?_)
  have hM2 := MTh_FM hM1 f2
  have hi2 := HI_pass (spT_R σ T) x m h1 hi
  by_cases c : 5 ≤ q
  · refine ⟨fun _ => ?_, fun g => absurd (nI_le (a := 5) c (by omega)) g⟩
    rw [show nI q - 5 = nI (q - 5) from pk_sub (b := 5) c]
    refine sOf3 hm2 (by omega) ?_
    unfold b_X10_behind_64
    refine mBack hM2 (fun t3 hM3 e3 => ?_)
    have e : bhV (passH (spT σ T) n x m h1) q = passH (spT σ T) n x m h1 9 (q - 5) := by
      unfold bhV
      rw [if_neg (by omega), if_neg (by omega), if_neg (by omega), if_neg (by omega), if_neg (by omega)]
    rw [← e]
    exact hp t3 hM3 e3
  · refine ⟨fun g => absurd g (nI_ge (b := 5) (by omega) (by decide)), fun _ => sX10_hillOf hm2 hi2 (by omega) ?_⟩
    unfold b_X10_behind_64
    refine mBack hM2 (fun t3 hM3 e3 => ?_)
    have e : (if q = 0 then passH (spT σ T) n x m h1 5 2 else if q = 1 then passH (spT σ T) n x m h1 5 3 else if q = 2 then passH (spT σ T) n x m h1 5 4 else if q = 3 then dryOf (passH (spT σ T) n x m h1) 0 else if q = 4 then dryOf (passH (spT σ T) n x m h1) 1 else sumTo (passH (spT σ T) n x m h1 8) n) = bhV (passH (spT σ T) n x m h1) q := by
      unfold bhV
      rcases (show q = 0 ∨ q = 1 ∨ q = 2 ∨ q = 3 ∨ q = 4 by omega) with rfl | rfl | rfl | rfl | rfl <;> rfl
    rw [e]
    exact hp t3 hM3 e3
theorem sim17 (σ τ : St) (a0 a1 : Int32) (hR : Rel σ τ) : w_X9_behind (fun r σ1 => w_X10_behind (fun r2 τ1 => r = r2 ∧ Rel σ1 τ1) τ a0 a1) σ a0 a1 := by
  obtain ⟨n, m, T, hH, hT, hRR⟩ := id hR
  obtain ⟨hm, hi, h55, hm9, h57, hT14⟩ := id hH
  have hn := hi.1.1.1
  have e50 : σ 5 0 0 = nI n := hi.1.1.2.1
  have e10 : τ 1 0 0 = nI n := mN hm hi.1.1
  have h11 : τ 1 0 1 = nI T := (hm 5 7 (by unfold vm; omega)).trans h57
  rcases wv_10 a0 0 100 with ⟨e0, q0⟩ | ⟨e0, q0⟩
  · exact gC0 e0 (gM0 e0 ⟨rfl, hR⟩)
  obtain ⟨x, _, hx, rfl⟩ := wv_n (a := 0) (b := 100) (by decide) (by decide) q0
  refine gC1 e0 ?_
  rw [e50, show (4 : Int32) + nI n = nI (4 + n) from nI_add 4 n]
  rcases wv_10 a1 0 (nI (4 + n)) with ⟨e1, q1⟩ | ⟨e1, q1⟩
  · refine gC0' e1 (gM1 e0 ⟨fun _ => ⟨rfl, hR⟩, fun c => ⟨fun c2 => ?_, fun c2 => ?_⟩⟩)
    · exfalso
      rcases q1 with q1 | q1
      · exact c q1
      · exact Int32.lt_irrefl (Int32.lt_of_lt_of_le (Int32.lt_of_le_of_lt (nI_le (a := 4) (b := 4 + n) (by omega) (by omega)) q1) c2)
    · obtain ⟨j, hj, rfl⟩ := nI_of c
      rcases q1 with q1 | q1
      · exact absurd q1 c
      · have hj2 := (nI_ltI (by omega) hj).1 q1
        rw [show nI j - 5 = nI (j - 5) from pk_sub (b := 5) (by omega)]
        rcases wv_10 (nI (j - 5)) 0 (nI n - 1) with ⟨e2, q2⟩ | ⟨e2, q2⟩
        · exact gRM0' e10 e2 ⟨rfl, hR⟩
        · obtain ⟨r, hr, er⟩ := wv_r (by omega) q2
          have := (nI_eq (by omega) (by omega)).1 er
          omega
  obtain ⟨q, _, hq, rfl⟩ := wv_n (a := 0) (b := 4 + n) (by omega) (by decide) q1
  refine gC1' e1 (sX1_becomeLike (fun s1 eq1 f1 => ?_))
  have th1 : Th σ s1 := Th_FH Th.rf f1
  have i1 : HI (hlC s1 2) n := HI_eq eq1 hi
  have h55' : hlC s1 2 5 5 = nI m := (eq1 5 5 (by unfold vc; omega)).trans h55
  have h57' : s1 5 2 7 = nI T := (eq1 5 7 (by unfold vc; omega)).trans h57
  refine sX1_pass (n := n) (m := m) i1.1.1 h55' (by omega) (spiteTh hT14 hT th1.1 h57') (fun s2 e2 f2 => ?_)
  have th2 : Th σ s2 := Th_FR th1 f2
  have i2 := HI_pass (spT_R σ T) x m _ i1
  have mod : ∀ v, v = bhV (hlC s2 2) q → w_X10_behind (fun r2 τ1 => v = r2 ∧ Rel s2 τ1) τ (nI x) (nI q) := by
    intro v ev
    unfold w_X10_behind
    have b34 : b_X10_behind_34 (fun r2 τ1 => v = r2 ∧ Rel s2 τ1) τ (nI x) (nI q) := mBehind (HM_eq hm eq1) i1 h55' hm9 hT14 h11 hT hx (by omega) (fun t' hM' e' => ⟨by rw [ev, e2], Rel_th hR th2 hM' e'⟩)
    refine gM1 e0 ⟨fun c => absurd c (nI_pos (by omega)), fun _ => ⟨fun _ => b34, fun c => ?_⟩⟩
    have h4 : ¬ q ≤ 4 := fun g => c (nI_le (b := 4) g (by decide))
    rw [show nI q - 5 = nI (q - 5) from pk_sub (b := 5) (by omega)]
    rcases wv_10 (nI (q - 5)) 0 (nI n - 1) with ⟨e3, q3⟩ | ⟨e3, q3⟩
    · exfalso
      rcases q3 with q3 | q3
      · exact nI_pos (by omega) q3
      · rw [show nI n - 1 = nI (n - 1) from pk_sub (b := 1) (by omega)] at q3
        have := (nI_ltI (by omega) (by omega)).1 q3
        omega
    · exact gRM1' e10 e3 b34
  by_cases c5 : q < 5
  · rcases (show q = 0 ∨ q = 1 ∨ q = 2 ∨ q = 3 ∨ q = 4 by omega) with rfl | rfl | rfl | rfl | rfl
    · exact ⟨fun _ => mod _ rfl, fun c => absurd rfl c⟩
    · exact ⟨fun c => absurd c (by decide), fun _ => ⟨fun _ => mod _ rfl, fun c => absurd rfl c⟩⟩
    · exact ⟨fun c => absurd c (by decide), fun _ => ⟨fun c => absurd c (by decide), fun _ => ⟨fun _ => mod _ rfl, fun c => absurd rfl c⟩⟩⟩
    · exact ⟨fun c => absurd c (by decide), fun _ => ⟨fun c => absurd c (by decide), fun _ => ⟨fun c => absurd c (by decide), fun _ => ⟨fun _ => sX1_dryOf (t := 0) (by decide) (HS_12 (n := n) (h := hlC s2 2) (by rw [e2]; exact i2.1.1)) (mod _ rfl), fun c => absurd rfl c⟩⟩⟩⟩
    · exact ⟨fun c => absurd c (by decide), fun _ => ⟨fun c => absurd c (by decide), fun _ => ⟨fun c => absurd c (by decide), fun _ => ⟨fun c => absurd c (by decide), fun _ => ⟨fun _ => sX1_dryOf (t := 1) (by decide) (HS_12 (n := n) (h := hlC s2 2) (by rw [e2]; exact i2.1.1)) (mod _ rfl), fun c => absurd rfl c⟩⟩⟩⟩⟩
  · have ne : ∀ k, k < 5 → ¬ nI q = nI k := fun k hk c => absurd ((nI_eq (by omega) (by omega)).1 c) (by omega)
    refine ⟨fun c => absurd c (ne 0 (by decide)), fun _ => ⟨fun c => absurd c (ne 1 (by decide)), fun _ => ⟨fun c => absurd c (ne 2 (by decide)), fun _ => ⟨fun c => absurd c (ne 3 (by decide)), fun _ => ⟨fun c => absurd c (ne 4 (by decide)), fun _ => ?_⟩⟩⟩⟩⟩
    rw [show nI q - 5 = nI (q - 5) from pk_sub (b := 5) (by omega), cl (show q - 5 < 2 ^ 31 by omega)]
    refine ⟨vp_in_nI (by omega) (by decide), mod _ ?_⟩
    unfold bhV
    rw [if_neg (by omega), if_neg (by omega), if_neg (by omega), if_neg (by omega), if_neg (by omega)]
    rfl
def goneF (sp : Int32 → Int32 → Int32 → Int32) (n r : Nat) (t0 : Int32) : Nat → Nat → Nat → Hl → Int32
  | 0, _, _, _ => NON
  | f + 1, k, m, h => if tw (nightH sp h n m 9 r) = t0 then goneF sp n r t0 f (k + 1) (m + 1) (nightH sp h n m) else nI (k + 1)
theorem uC_gone (post : Int32 → St → Prop) (q : Nat) : l_X9_gone_37 post (q + 1) = b_X9_gone_37 (l_X9_gone_37 post q) post := rfl
theorem uM_gone (post : Int32 → St → Prop) (q : Nat) : l_X10_gone_23 post (q + 1) = b_X10_gone_23 (l_X10_gone_23 post q) post := rfl
theorem mGone {σ τ : St} {n m0 T r : Nat} {t0 : Int32} {P : Int32 → St → Prop} (hr : r < 12) (hT14 : T ≤ 14) (h11 : τ 1 0 1 = nI T) (hT : TX σ (τ 1 0) T) (hm9 : m0 ≤ 9999) : ∀ (f k : Nat) (t : St) (h : Hl), k + f = 200 → MTh τ t → HM h (t 1 0) → HI h n → h 5 5 = nI (m0 + k) → (∀ t' : St, MTh τ t' → (∀ j, t' 1 0 j = τ 1 0 j) → P (if tw (h 9 r) = t0 then goneF (spT σ T) n r t0 f k (m0 + k) h else nI k) t') → l_X10_gone_23 P (f + 1) t (nI r) t0 (nI k) := by
  have b49 : ∀ (k : Nat) (t : St) (h : Hl) (v : Int32), MTh τ t → HM h (t 1 0) → HI h n → v = (if tw (h 9 r) = t0 then NON else nI k) → (∀ t' : St, MTh τ t' → (∀ j, t' 1 0 j = τ 1 0 j) → P v t') → b_X10_gone_49 P t (nI r) t0 (nI k) := by
    intro k t h v hM hm hi ev hp
    unfold b_X10_gone_49
    refine sX10_townOf hm hi.1.1 hr ⟨fun c => ?_, fun c => ?_⟩
    · rw [if_pos c] at ev
      unfold b_X10_gone_63
      refine mBack hM (fun t' hM' e' => ⟨fun _ => ?_, fun g => absurd rfl g⟩)
      subst ev
      exact hp t' hM' e'
    · rw [if_neg c] at ev
      unfold b_X10_gone_63
      refine mBack hM (fun t' hM' e' => ⟨fun g => absurd g (by decide), fun _ => ?_⟩)
      rw [← ev]
      exact hp t' hM' e'
  intro f
  induction f with
  | zero =>
    intro k t h hk hM hm hi h55 hp
    rw [uM_gone]
    unfold b_X10_gone_23
    obtain rfl : k = 200 := by omega
    exact ⟨fun _ => b49 200 t h _ hM hm hi rfl hp, fun c => absurd (by decide) c⟩
  | succ f ih =>
    intro k t h hk hM hm hi h55 hp
    rw [uM_gone]
    unfold b_X10_gone_23
    refine ⟨fun c => absurd c (nI_ge (b := 200) (by omega) (by decide)), fun _ => sX10_townOf hm hi.1.1 hr ⟨fun c => ?_, fun c => ?_⟩⟩
    · refine b49 k t h (nI k) hM hm hi (by rw [if_neg c]) (fun t' hM' e' => ?_)
      have g := hp t' hM' e'
      rw [if_neg c] at g
      exact g
    · refine sX10_goesOn (m := m0 + k) (spiteMTh hT14 h11 hT hM) (spT_R σ T) hm hi h55 (by omega) (fun t2 hm2 f2 v ev => ?_)
      subst ev
      rw [nI_1]
      refine ih (k + 1) t2 _ (by omega) (MTh_FM hM f2) hm2 (HI_night (spT_R σ T) hi) (by rw [night_55, Nat.add_assoc]) (fun t' hM' e' => ?_)
      have g := hp t' hM' e'
      rw [if_pos c, goneF] at g
      exact g
theorem sim18 (σ τ : St) (a0 : Int32) (hR : Rel σ τ) : w_X9_gone (fun r σ1 => w_X10_gone (fun r2 τ1 => r = r2 ∧ Rel σ1 τ1) τ a0) σ a0 := by
  obtain ⟨n, m, T, hH, hT, hRR⟩ := id hR
  obtain ⟨hm, hi, h55, hm9, h57, hT14⟩ := id hH
  have hn := hi.1.1.1
  have e50 : σ 5 0 0 = nI n := hi.1.1.2.1
  have e10 : τ 1 0 0 = nI n := mN hm hi.1.1
  have h11 : τ 1 0 1 = nI T := (hm 5 7 (by unfold vm; omega)).trans h57
  rcases wv_10 a0 0 (nI n - 1) with ⟨e0, q0⟩ | ⟨e0, q0⟩
  · exact gRC0' e50 e0 (gRM0' e10 e0 ⟨rfl, hR⟩)
  obtain ⟨r, hr, rfl⟩ := wv_r (by omega) q0
  have hr12 : r < 12 := by omega
  have hvr : vp_in (nI r) 12 := vp_in_nI hr12 (by decide)
  have cr : (nI r).toNatClampNeg = r := cl (by omega)
  refine gRC1' e50 e0 ?_
  rw [cr]
  refine ⟨hvr, sX9_townOf (sX1_becomeLike (fun s1 eq1 f1 => ⟨201, ?_⟩))⟩
  have th1 : Th σ s1 := Th_FH Th.rf f1
  have i1 : HI (hlC s1 2) n := HI_eq eq1 hi
  have h55' : hlC s1 2 5 5 = nI (m + 0) := (eq1 5 5 (by unfold vc; omega)).trans h55
  have h57' : s1 5 2 7 = nI T := (eq1 5 7 (by unfold vc; omega)).trans h57
  have e9 : hlC s1 2 9 r = σ 9 0 r := eq1 9 r (by unfold vc; omega)
  have mod : ∀ v s2, Th σ s2 → v = goneF (spT σ T) n r (tw (σ 9 0 r)) 200 0 (m + 0) (hlC s1 2) → w_X10_gone (fun r2 τ1 => v = r2 ∧ Rel s2 τ1) τ (nI r) := by
    intro v s2 th2 ev
    unfold w_X10_gone
    refine gRM1' e10 e0 (mBy (fun t1 hM1 g1 => ?_))
    have hm1 : HM (hlC s1 2) (t1 1 0) := HM_of (HM_eq hm eq1) (fun j _ => g1 j)
    refine sX10_townOf hm1 i1.1.1 hr12 ⟨201, ?_⟩
    rw [e9]
    refine mGone (m0 := m) hr12 hT14 h11 hT hm9 200 0 t1 _ (by omega) hM1 hm1 i1 h55' (fun t' hM' e' => ⟨?_, Rel_th hR th2 hM' e'⟩)
    rw [if_pos (by rw [e9])]
    exact ev
  suffices H : ∀ f k (s2 : St), k + f = 200 → Th σ s2 → HI (hlC s2 2) n → hlC s2 2 5 5 = nI (m + k) → s2 5 2 7 = nI T → goneF (spT σ T) n r (tw (σ 9 0 r)) f k (m + k) (hlC s2 2) = goneF (spT σ T) n r (tw (σ 9 0 r)) 200 0 (m + 0) (hlC s1 2) → l_X9_gone_37 (fun r1 σ1 => w_X10_gone (fun r2 τ1 => r1 = r2 ∧ Rel σ1 τ1) τ (nI r)) (f + 1) s2 (nI r) (tw (σ 9 0 r)) (nI (k + 1)) by
    exact H 200 0 s1 (by omega) th1 i1 h55' h57' rfl
  intro f
  induction f with
  | zero =>
    intro k s2 hk th2 i2 h55 h57 hg
    rw [uC_gone]
    unfold b_X9_gone_37
    obtain rfl : k = 200 := by omega
    rw [goneF] at hg
    exact ⟨fun _ => mod _ s2 th2 hg, fun c => absurd (by decide) c⟩
  | succ f ih =>
    intro k s2 hk th2 i2 h55 h57 hg
    rw [uC_gone]
    unfold b_X9_gone_37
    refine ⟨fun c => absurd c (nI_nlt (a := 200) (by omega) (by decide)), fun _ => ?_⟩
    refine sX1_pass (c := 1) (n := n) (m := m + k) i2.1.1 h55 (by omega) (spiteTh hT14 hT th2.1 h57) (fun s3 e3 f3 => ?_)
    have e3 : hlC s3 2 = nightH (spT σ T) (hlC s2 2) n (m + k) := by rw [e3, passH, passH]
    rw [goneF] at hg
    rw [cr]
    have th3 := Th_FR th2 f3
    have e93 : s3 9 2 r = nightH (spT σ T) (hlC s2 2) n (m + k) 9 r := by rw [← e3]; rfl
    refine ⟨hvr, sX9_townOf ?_⟩
    rw [e93]
    refine ⟨fun c v ev => ?_, fun c => ?_⟩
    · subst ev
      rw [if_pos c] at hg
      rw [nI_1]
      refine ih (k + 1) s3 (by omega) th3 (by rw [e3]; exact HI_night (spT_R σ T) i2) (by rw [e3, night_55, Nat.add_assoc]) ((f3 5 2 7 (by decide) (by omega)).trans h57) (by rw [e3]; exact hg)
    · rw [if_neg c] at hg
      exact mod _ s3 th3 hg
def mst (V : Nat → Int32) : Nat → Int32
  | 0 => -1
  | k + 1 => if V k ≤ mst V k then mst V k else V k
def bst (V : Nat → Int32) (f : Nat) (b0 : Int32) : Nat → Int32
  | 0 => b0
  | k + 1 => if V k ≤ mst V k then bst V f b0 k else nI (f + k)
theorem bst_any {V : Nat → Int32} {f : Nat} {b0 b1 : Int32} (h0 : ¬ V 0 ≤ -1) : ∀ k, bst V f b0 (k + 1) = bst V f b1 (k + 1) := by
  intro k
  induction k with
  | zero =>
    unfold bst
    rw [if_neg (show ¬ V 0 ≤ mst V 0 from h0), if_neg (show ¬ V 0 ≤ mst V 0 from h0)]
  | succ k ih =>
    rw [bst, ih, ← bst]
theorem m1_lt {d : Nat} (hd : d < 2 ^ 31) : ¬ nI d ≤ -1 := fun c => nI_pos hd (Int32.lt_of_le_of_lt c (by decide))
theorem uC_guard (post : Int32 → St → Prop) (q : Nat) : l_X9_guard_46 post (q + 1) = b_X9_guard_46 (l_X9_guard_46 post q) post := rfl
theorem uM_guard (post : Int32 → St → Prop) (q : Nat) : l_X10_guard_34 post (q + 1) = b_X10_guard_34 (l_X10_guard_34 post q) post := rfl
theorem uC_bec (post : Int32 → St → Prop) (q : Nat) : l_X9_becomes_53 post (q + 1) = b_X9_becomes_53 (l_X9_becomes_53 post q) post := rfl
theorem uM_bec (post : Int32 → St → Prop) (q : Nat) : l_X10_becomes_39 post (q + 1) = b_X10_becomes_39 (l_X10_becomes_39 post q) post := rfl
theorem mAsked {A B : St → Prop} {τ : St} {x y : Int32} (v : Bool) (e1 : v = true → wv x 1 60 = 1 ∧ wv y 0 1 = 1) (e0 : v = false → wv x 1 60 = 0 ∨ (wv x 1 60 = 1 ∧ wv y 0 1 = 0)) (h : if v = true then B τ else A τ) : w_X10_isAsked (fun r s => (¬ r = 0 → B s) ∧ (r = 0 → A s)) τ x y := by
  unfold w_X10_isAsked
  cases v with
  | true =>
    obtain ⟨g1, g2⟩ := e1 rfl
    exact gM1 g1 (gM1 g2 ⟨fun _ => h, fun c => absurd c (by decide)⟩)
  | false =>
    have h : A τ := by simpa using h
    rcases e0 rfl with g | ⟨g1, g2⟩
    · exact gM0 g ⟨fun c => absurd rfl c, fun _ => h⟩
    · exact gM1 g1 (gM0 g2 ⟨fun c => absurd rfl c, fun _ => h⟩)
theorem sim19 (σ τ : St) (a0 a1 a2 : Int32) (hR : Rel σ τ) : w_X9_guard (fun r σ1 => w_X10_guard (fun r2 τ1 => r = r2 ∧ Rel σ1 τ1) τ a0 a1 a2) σ a0 a1 a2 := by
  obtain ⟨n, m, T, hH, hT, hRR⟩ := id hR
  obtain ⟨hm, hi, h55, hm9, h57, hT14⟩ := id hH
  have hn := hi.1.1.1
  have h11 : τ 1 0 1 = nI T := (hm 5 7 (by unfold vm; omega)).trans h57
  rcases wv_10 a0 0 1 with ⟨e0, q0⟩ | ⟨e0, q0⟩
  · exact gTC0 e0 (gTM0 e0 ⟨rfl, hR⟩)
  rcases wv_10 a1 1 60 with ⟨e1, q1⟩ | ⟨e1, q1⟩
  · exact gTC1 e0 (gC0 e1 (gTM1 e0 (mAsked false (fun c => absurd c (by decide)) (fun _ => Or.inl e1) ⟨rfl, hR⟩)))
  rcases wv_10 a2 0 1 with ⟨e2, q2⟩ | ⟨e2, q2⟩
  · exact gTC1 e0 (gC1 e1 (gC0' e2 (gTM1 e0 (mAsked false (fun c => absurd c (by decide)) (fun _ => Or.inr ⟨e1, e2⟩) ⟨rfl, hR⟩))))
  obtain ⟨t, _, ht, rfl⟩ := wv_n (a := 0) (b := 1) (by decide) (by decide) q0
  obtain ⟨x, hx1, hx, rfl⟩ := wv_n (a := 1) (b := 60) (by decide) (by decide) q1
  have ht2 : t < 2 := by omega
  refine gTC1 e0 (gC1 e1 (gC1' e2 (sX9_firstHouse ⟨7, ?_⟩)))
  obtain ⟨V, hV⟩ : ∃ V : Nat → Int32, V = fun k => dryOf (passH (spT σ T) n x m (setH (hlC σ 0) 11 (6 * t + k) 100)) t := ⟨_, rfl⟩
  have iV : ∀ k, HI (setH (hlC σ 0) 11 (6 * t + k) 100) n := fun k => ⟨HO_set hi.1 (by omega) (by decide) (by decide), HR_set hi.2 (by decide)⟩
  have n55 : ∀ k, setH (hlC σ 0) 11 (6 * t + k) 100 5 5 = nI m := fun k => (show setH (hlC σ 0) 11 (6 * t + k) 100 5 5 = hlC σ 0 5 5 by simp [setH]).trans h55
  have mod : ∀ v s2, Th σ s2 → v = (if a2 = 0 then bst V (6 * t) (-1) 6 else mst V 6) → w_X10_guard (fun r2 τ1 => v = r2 ∧ Rel s2 τ1) τ (nI t) (nI x) a2 := by
    intro v s2 th2 ev
    unfold w_X10_guard
    refine gTM1 e0 (mAsked true (fun _ => ⟨e1, e2⟩) (fun c => absurd c (by decide)) ?_)
    show w_X10_laysBy _ τ
    refine mBy (fun t1 hM1 g1 => ?_)
    have e6 : (6 : Int32) * nI t = nI (6 * t) := pk_mul 6 t
    have e66 : nI (6 * t) + 6 = nI (6 * t + 6) := nI_add _ 6
    rw [e6]
    intro v6 ev6
    subst ev6
    refine ⟨7, ?_⟩
    suffices H : ∀ q k (t2 : St), k + q = 6 → MTh τ t2 → (∀ j, t2 1 0 j = τ 1 0 j) → l_X10_guard_34 (fun r2 τ1 => v = r2 ∧ Rel s2 τ1) (q + 1) t2 (nI t) (nI x) a2 (bst V (6 * t) (-1) k) (mst V k) (nI (6 * t + k)) by
      exact H 6 0 t1 (by omega) hM1 g1
    intro q
    induction q with
    | zero =>
      intro k t2 hk hM2 g2
      obtain rfl : k = 6 := by omega
      rw [uM_guard]
      unfold b_X10_guard_34
      rw [e6, e66]
      refine ⟨fun _ => ⟨fun c => ?_, fun c => ?_⟩, fun c => absurd (nI_le (Nat.le_refl _) (by omega)) c⟩
      · rw [if_neg c] at ev
        exact ⟨ev, Rel_th hR th2 hM2 g2⟩
      · rw [if_pos c] at ev
        exact ⟨ev, Rel_th hR th2 hM2 g2⟩
    | succ q ih =>
      intro k t2 hk hM2 g2
      rw [uM_guard]
      unfold b_X10_guard_34
      rw [e6, e66, show (70 : Int32) + nI (6 * t + k) = nI (70 + (6 * t + k)) from nI_add 70 _, cl (show 70 + (6 * t + k) < 2 ^ 31 by omega)]
      refine ⟨fun c => absurd c (nI_ge (by omega) (by omega)), fun _ => ⟨vp_in_nI (by omega) (by decide), fun s4 e4 => ?_⟩⟩
      have f4 : FM t2 s4 := by rw [e4]; exact FM_wr (by omega) (by omega)
      have hm4 : HM (setH (hlC σ 0) 11 (6 * t + k) 100) (s4 1 0) := by
        have g := HM_set (k := 11) (j := 6 * t + k) (v := 100) (HM_of hm (fun j _ => g2 j)) (by unfold vm; omega)
        rw [mi11] at g
        rw [e4, wr1]
        exact g
      have hM4 := MTh_FM hM2 f4
      refine sX10_goesOnMany (n := n) (m := m) (spiteMTh hT14 h11 hT hM4) (spT_R σ T) hm4 (iV k) (n55 k) (by omega) (fun s5 hm5 f5 => ?_)
      have i5 := HI_pass (spT_R σ T) x m _ (iV k)
      refine sX10_dryOf hm5 i5.1 ht2 (mBack (MTh_FM hM4 f5) (fun t3 hM3 g3 => ?_))
      have eV : dryOf (passH (spT σ T) n x m (setH (hlC σ 0) 11 (6 * t + k) 100)) t = V k := by rw [hV]
      rw [eV]
      have nx := ih (k + 1) t3 (by omega) hM3 g3
      rw [bst, mst] at nx
      unfold b_X10_guard_88
      refine ⟨fun c => ⟨fun _ w ew => ?_, fun c2 => absurd c c2⟩, fun c => ⟨fun c2 => absurd c2 c, fun _ w ew => ?_⟩⟩
      · subst ew
        rw [if_pos c, if_pos c] at nx
        rw [nI_1]
        exact nx
      · subst ew
        rw [if_neg c, if_neg c] at nx
        rw [nI_1]
        exact nx
  have h0 : ¬ V 0 ≤ -1 := by
    obtain ⟨d, hd, ed⟩ := dryOf_n (t := t) (HI_pass (spT_R σ T) x m _ (iV 0)) ht2
    have : V 0 = nI d := by rw [hV]; exact ed
    rw [this]
    exact m1_lt (by omega)
  suffices H : ∀ q k (s2 : St), k + q = 6 → Th σ s2 → l_X9_guard_46 (fun r σ1 => w_X10_guard (fun r2 τ1 => r = r2 ∧ Rel σ1 τ1) τ (nI t) (nI x) a2) (q + 1) s2 (nI t) (nI x) a2 (nI (6 * t)) (bst V (6 * t) (nI (6 * t)) k) (mst V k) (nI (6 * t + k)) by
    exact H 6 0 σ (by omega) Th.rf
  intro q
  induction q with
  | zero =>
    intro k s2 hk th2
    obtain rfl : k = 6 := by omega
    rw [uC_guard]
    unfold b_X9_guard_46
    rw [show nI (6 * t) + 6 = nI (6 * t + 6) from nI_add _ 6]
    refine ⟨fun _ => ⟨fun c => mod _ s2 th2 ?_, fun c => mod _ s2 th2 ?_⟩, fun c => absurd (nI_le (Nat.le_refl _) (by omega)) c⟩
    · rw [if_neg c]
    · rw [if_pos c]
      exact bst_any h0 5
  | succ q ih =>
    intro k s2 hk th2
    rw [uC_guard]
    unfold b_X9_guard_46
    rw [show nI (6 * t) + 6 = nI (6 * t + 6) from nI_add _ 6, cl (show 6 * t + k < 2 ^ 31 by omega)]
    refine ⟨fun c => absurd c (nI_ge (by omega) (by omega)), fun _ => sX1_becomeLike (fun s3 eq3 f3 => ⟨vp_in_nI (by omega) (by decide), fun s5 e5 => ?_⟩)⟩
    have eq3 : EqH (hlC s3 2) (hlC σ 0) := fun a b hv => (eq3 a b hv).trans (Th_hl th2 a b hv)
    have th3 := Th_FH th2 f3
    have h5 : hlC s5 2 = setH (hlC s3 2) 11 (6 * t + k) 100 := by rw [e5]; exact hl_wr2 (by decide)
    have th5 : Th σ s5 := by rw [e5]; exact Th_wr th3 (by decide) (by decide)
    have q5 : EqH (hlC s5 2) (setH (hlC σ 0) 11 (6 * t + k) 100) := by rw [h5]; exact eq_set eq3
    have i5 := HI_eq q5 (iV k)
    refine sX1_pass (n := n) (m := m) i5.1.1 ((q5 5 5 (by unfold vc; omega)).trans (n55 k)) (by omega) (spiteTh hT14 hT th5.1 ((q5 5 7 (by unfold vc; omega)).trans ((show setH (hlC σ 0) 11 (6 * t + k) 100 5 7 = hlC σ 0 5 7 by simp [setH]).trans h57))) (fun s6 e6 f6 => ?_)
    have q6 : EqH (hlC s6 2) (passH (spT σ T) n x m (setH (hlC σ 0) 11 (6 * t + k) 100)) := by rw [e6]; exact eq_pass x m _ _ q5 (iV k).1.1
    have i6 := HI_pass (spT_R σ T) x m _ (iV k)
    refine sX1_dryOf ht2 (HS_12 (HS_eq q6 i6.1.1)) ?_
    have eV : dryOf (hlC s6 2) t = V k := by
      rw [hV]
      exact eq_dryOf q6 i6.1.1 ht2
    rw [eV]
    have nx := ih (k + 1) s6 (by omega) (Th_FR th5 f6)
    rw [bst, mst] at nx
    refine ⟨fun c w ew => ?_, fun c w ew => ?_⟩
    · subst ew
      rw [if_pos c, if_pos c] at nx
      rw [nI_1]
      exact nx
    · subst ew
      rw [if_neg c, if_neg c] at nx
      rw [nI_1]
      exact nx
theorem sim20 (σ τ : St) (a0 a1 a2 : Int32) (hR : Rel σ τ) : w_X9_becomes (fun r σ1 => w_X10_becomes (fun r2 τ1 => r = r2 ∧ Rel σ1 τ1) τ a0 a1 a2) σ a0 a1 a2 := by
  obtain ⟨n, m, T, hH, hT, hRR⟩ := id hR
  obtain ⟨hm, hi, h55, hm9, h57, hT14⟩ := id hH
  have hn := hi.1.1.1
  have e50 : σ 5 0 0 = nI n := hi.1.1.2.1
  have e10 : τ 1 0 0 = nI n := mN hm hi.1.1
  have h11 : τ 1 0 1 = nI T := (hm 5 7 (by unfold vm; omega)).trans h57
  rcases wv_10 a0 0 (nI n - 1) with ⟨e0, q0⟩ | ⟨e0, q0⟩
  · exact gRC0 e50 e0 (gRM0 e10 e0 ⟨rfl, hR⟩)
  rcases wv_10 a1 1 60 with ⟨e1, q1⟩ | ⟨e1, q1⟩
  · exact gRC1 e50 e0 (gC0 e1 (gRM1 e10 e0 (mAsked false (fun c => absurd c (by decide)) (fun _ => Or.inl e1) ⟨rfl, hR⟩)))
  rcases wv_10 a2 0 1 with ⟨e2, q2⟩ | ⟨e2, q2⟩
  · exact gRC1 e50 e0 (gC1 e1 (gC0' e2 (gRM1 e10 e0 (mAsked false (fun c => absurd c (by decide)) (fun _ => Or.inr ⟨e1, e2⟩) ⟨rfl, hR⟩))))
  obtain ⟨r, hr, rfl⟩ := wv_r (by omega) q0
  obtain ⟨x, hx1, hx, rfl⟩ := wv_n (a := 1) (b := 60) (by decide) (by decide) q1
  have hr12 : r < 12 := by omega
  have hvr : vp_in (nI r) 12 := vp_in_nI hr12 (by decide)
  have cr : (nI r).toNatClampNeg = r := cl (by omega)
  obtain ⟨b, hb, e9, _⟩ := hi.1.2.1 r hr
  have e9' : σ 9 0 r = nI b := e9
  have ht2 : b / 6 < 2 := by omega
  refine gRC1 e50 e0 (gC1 e1 (gC1' e2 ?_))
  rw [cr, e9']
  refine ⟨hvr, sX9_townOf ⟨7, ?_⟩⟩
  rw [tw_n hb]
  obtain ⟨V, hV⟩ : ∃ V : Nat → Int32, V = fun k => dryOf (passH (spT σ T) n x m (setH (hlC σ 0) 6 r (nI k))) (b / 6) := ⟨_, rfl⟩
  have iV : ∀ k, k < 6 → HI (setH (hlC σ 0) 6 r (nI k)) n := fun k hk => ⟨HO_set hi.1 (by omega) (by decide) (by decide), HR_kind hi.2 hk⟩
  have n55 : ∀ k, setH (hlC σ 0) 6 r (nI k) 5 5 = nI m := fun k => (show setH (hlC σ 0) 6 r (nI k) 5 5 = hlC σ 0 5 5 by simp [setH]).trans h55
  have z0 : ∀ k, nI (0 + k) = nI k := fun k => by rw [Nat.zero_add]
  have mod : ∀ v s2, Th σ s2 → v = (if a2 = 0 then bst V 0 0 6 else mst V 6) → w_X10_becomes (fun r2 τ1 => v = r2 ∧ Rel s2 τ1) τ (nI r) (nI x) a2 := by
    intro v s2 th2 ev
    unfold w_X10_becomes
    refine gRM1 e10 e0 (mAsked true (fun _ => ⟨e1, e2⟩) (fun c => absurd c (by decide)) ?_)
    show w_X10_laysBy _ τ
    refine mBy (fun t1 hM1 g1 => sX10_townOf (HM_of hm (fun j _ => g1 j)) hi.1.1 hr12 ⟨7, ?_⟩)
    rw [e9, tw_n hb]
    suffices H : ∀ q k (t2 : St), k + q = 6 → MTh τ t2 → (∀ j, t2 1 0 j = τ 1 0 j) → l_X10_becomes_39 (fun r2 τ1 => v = r2 ∧ Rel s2 τ1) (q + 1) t2 (nI r) (nI x) a2 (nI (b / 6)) (bst V 0 0 k) (mst V k) (nI k) by
      exact H 6 0 t1 (by omega) hM1 g1
    intro q
    induction q with
    | zero =>
      intro k t2 hk hM2 g2
      obtain rfl : k = 6 := by omega
      rw [uM_bec]
      unfold b_X10_becomes_39
      refine ⟨fun _ => ⟨fun c => ?_, fun c => ?_⟩, fun c => absurd (by decide) c⟩
      · rw [if_neg c] at ev
        exact ⟨ev, Rel_th hR th2 hM2 g2⟩
      · rw [if_pos c] at ev
        exact ⟨ev, Rel_th hR th2 hM2 g2⟩
    | succ q ih =>
      intro k t2 hk hM2 g2
      rw [uM_bec]
      unfold b_X10_becomes_39
      refine ⟨fun c => absurd c (nI_ge (b := 6) (by omega) (by decide)), fun _ => sSets (w := 0) (h := hlC σ 0) (HM_of hm (fun j _ => g2 j)) hr12 (by decide) (fun s4 hm4 f4 => ?_)⟩
      have hM4 := MTh_FM hM2 f4
      have hm4 : HM (setH (hlC σ 0) 6 r (nI k)) (s4 1 0) := hm4
      refine sX10_goesOnMany (n := n) (m := m) (spiteMTh hT14 h11 hT hM4) (spT_R σ T) hm4 (iV k (by omega)) (n55 k) (by omega) (fun s5 hm5 f5 => ?_)
      have i5 := HI_pass (spT_R σ T) x m _ (iV k (by omega))
      refine sX10_dryOf hm5 i5.1 ht2 (mBack (MTh_FM hM4 f5) (fun t3 hM3 g3 => ?_))
      have eV : dryOf (passH (spT σ T) n x m (setH (hlC σ 0) 6 r (nI k))) (b / 6) = V k := by rw [hV]
      rw [eV]
      have nx := ih (k + 1) t3 (by omega) hM3 g3
      rw [bst, mst, z0] at nx
      unfold b_X10_becomes_85
      refine ⟨fun c => ⟨fun _ w ew => ?_, fun c2 => absurd c c2⟩, fun c => ⟨fun c2 => absurd c2 c, fun _ w ew => ?_⟩⟩
      · subst ew
        rw [if_pos c, if_pos c] at nx
        rw [nI_1]
        exact nx
      · subst ew
        rw [if_neg c, if_neg c] at nx
        rw [nI_1]
        exact nx
  suffices H : ∀ q k (s2 : St), k + q = 6 → Th σ s2 → l_X9_becomes_53 (fun r1 σ1 => w_X10_becomes (fun r2 τ1 => r1 = r2 ∧ Rel σ1 τ1) τ (nI r) (nI x) a2) (q + 1) s2 (nI r) (nI x) a2 (nI (b / 6)) (bst V 0 0 k) (mst V k) (nI k) by
    exact H 6 0 σ (by omega) Th.rf
  intro q
  induction q with
  | zero =>
    intro k s2 hk th2
    obtain rfl : k = 6 := by omega
    rw [uC_bec]
    unfold b_X9_becomes_53
    refine ⟨fun _ => ⟨fun c => mod _ s2 th2 ?_, fun c => mod _ s2 th2 ?_⟩, fun c => absurd (by decide) c⟩
    · rw [if_neg c]
    · rw [if_pos c]
  | succ q ih =>
    intro k s2 hk th2
    rw [uC_bec]
    unfold b_X9_becomes_53
    rw [cr]
    refine ⟨fun c => absurd c (nI_ge (b := 6) (by omega) (by decide)), fun _ => sX1_becomeLike (fun s3 eq3 f3 => ⟨hvr, fun s5 e5 => ?_⟩)⟩
    have eq3 : EqH (hlC s3 2) (hlC σ 0) := fun a b hv => (eq3 a b hv).trans (Th_hl th2 a b hv)
    have th3 := Th_FH th2 f3
    have h5 : hlC s5 2 = setH (hlC s3 2) 6 r (nI k) := by rw [e5]; exact hl_wr2 (by decide)
    have th5 : Th σ s5 := by rw [e5]; exact Th_wr th3 (by decide) (by decide)
    have q5 : EqH (hlC s5 2) (setH (hlC σ 0) 6 r (nI k)) := by rw [h5]; exact eq_set eq3
    have i5 := HI_eq q5 (iV k (by omega))
    refine sX1_pass (n := n) (m := m) i5.1.1 ((q5 5 5 (by unfold vc; omega)).trans (n55 k)) (by omega) (spiteTh hT14 hT th5.1 ((q5 5 7 (by unfold vc; omega)).trans ((show setH (hlC σ 0) 6 r (nI k) 5 7 = hlC σ 0 5 7 by simp [setH]).trans h57))) (fun s6 e6 f6 => ?_)
    have q6 : EqH (hlC s6 2) (passH (spT σ T) n x m (setH (hlC σ 0) 6 r (nI k))) := by rw [e6]; exact eq_pass x m _ _ q5 (iV k (by omega)).1.1
    have i6 := HI_pass (spT_R σ T) x m _ (iV k (by omega))
    refine sX1_dryOf ht2 (HS_12 (HS_eq q6 i6.1.1)) ?_
    have eV : dryOf (hlC s6 2) (b / 6) = V k := by
      rw [hV]
      exact eq_dryOf q6 i6.1.1 ht2
    rw [eV]
    have nx := ih (k + 1) s6 (by omega) (Th_FR th5 f6)
    rw [bst, mst, z0] at nx
    refine ⟨fun c w ew => ?_, fun c w ew => ?_⟩
    · subst ew
      rw [if_pos c, if_pos c] at nx
      rw [nI_1]
      exact nx
    · subst ew
      rw [if_neg c, if_neg c] at nx
      rw [nI_1]
      exact nx
