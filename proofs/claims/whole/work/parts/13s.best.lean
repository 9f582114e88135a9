/-! LAYER 2. Prize, like. -/
theorem sum_set {f g : Nat → Int32} {i : Nat} : ∀ n, i < n → (∀ k, k < n → k ≠ i → g k = f k) → sumTo g n + f i = sumTo f n + g i := by
  intro n
  induction n with
  | zero => intro h; exact absurd h (Nat.not_lt_zero _)
  | succ n ih =>
    intro h he
    unfold sumTo
    by_cases c : i = n
    · subst c
      rw [eq_sum (f := g) (g := f) i (fun k hk => he k (by omega) (by omega)), Int32.add_assoc, Int32.add_assoc, Int32.add_comm (g i)]
    · have g1 := ih (by omega) (fun k hk hne => he k (by omega) hne)
      rw [he n (by omega) (by omega), Int32.add_assoc, Int32.add_comm (f n), ← Int32.add_assoc, g1, Int32.add_assoc, Int32.add_comm (g i), ← Int32.add_assoc]
theorem alg_bv (a c x d : BitVec 32) : a - (c + x) + d + x = (a + d) - c := by bv_omega
theorem alg (a c x d : Int32) : a - (c + x) + d + x = (a + d) - c := by
  apply Int32.toBitVec_inj.1
  simp only [Int32.toBitVec_add, Int32.toBitVec_sub]
  exact alg_bv _ _ _ _
def dwV (h : Hl) (r a : Nat) : Int32 := if kCovers (h 6 r) (h 7 r) < h 10 a then kCovers (h 6 r) (h 7 r) else h 10 a
theorem sX1_dryWere {post : Int32 → St → Prop} {σ : St} {i r a : Nat} (hr : r < 12) (ha : a < 12) (hp : post (dwV (hlC σ i) r a) σ) : w_X1_dryWere post σ i (nI r) (nI a) := by
  unfold w_X1_dryWere
  rw [cl (show a < 2 ^ 31 by omega), cl (show r < 2 ^ 31 by omega)]
  refine ⟨vp_in_nI ha (by decide), vp_in_nI hr (by decide), vp_in_nI hr (by decide), sX2_covers ?_⟩
  intro v e
  subst e
  exact hp
/-- a roof of the other town, as it were over the home -/
theorem put_dry {h : Hl} {n r b o t : Nat} (hi : HI h n) (hr : r < n) (hb : b < 12) (hf : h 12 b = NON) (eo : h 9 r = nI o) (ho : o < 12) (hbt : b / 6 = t) (hot : o / 6 = 1 - t) (ht : t < 2) : dryOf (putH h r b) t - dryOf (putH h r b) (1 - t) = dryOf h t - dryOf h (1 - t) + dwV h r b + dryAt h o := by
  have hn := hi.1.1.1
  have e12o : h 12 o = nI r := by
    obtain ⟨a, ha, g1, g2⟩ := hi.1.2.1 r hr
    have : a = o := (nI_eq (by omega) (by omega)).1 (g1.symm.trans eo)
    rw [← this]
    exact g2
  have hbo : b ≠ o := fun q => nI_NON (show r < 2 ^ 31 by omega) (by rw [← e12o, ← q, hf])
  have co : (h 9 r).toNatClampNeg = o := by rw [eo]; exact cl (by omega)
  have db : dryAt (putH h r b) b = dwV h r b := by
    unfold dryAt dwV
    have g : putH h r b 12 b = nI r := by simp [putH, setH]
    rw [g, if_neg (nI_NON (by omega)), cl (show r < 2 ^ 31 by omega)]
    have g6 : putH h r b 6 r = h 6 r := by simp [putH, setH]
    have g7 : putH h r b 7 r = h 7 r := by simp [putH, setH]
    have g10 : putH h r b 10 b = h 10 b := by simp [putH, setH]
    rw [g6, g7, g10]
  have d0 : dryAt h b = 0 := by
    unfold dryAt
    rw [if_pos hf]
  have d1 : dryAt (putH h r b) o = 0 := by
    unfold dryAt
    have g : putH h r b 12 o = NON := by simp [putH, setH, Ne.symm hbo, co]
    rw [if_pos g]
  have ds : ∀ a, a ≠ b → a ≠ o → dryAt (putH h r b) a = dryAt h a := by
    intro a h1 h2
    unfold dryAt
    have g : putH h r b 12 a = h 12 a := by simp [putH, setH, h1, co, h2]
    have g6 : ∀ k, putH h r b 6 k = h 6 k := fun k => by simp [putH, setH]
    have g7 : ∀ k, putH h r b 7 k = h 7 k := fun k => by simp [putH, setH]
    have g10 : putH h r b 10 a = h 10 a := by simp [putH, setH]
    rw [g, g6, g7, g10]
  have s1 := sum_set (f := fun j => dryAt h (6 * t + j)) (g := fun j => dryAt (putH h r b) (6 * t + j)) (i := b - 6 * t) 6 (by omega) (fun k hk hne => ds _ (by omega) (by omega))
  have s2 := sum_set (f := fun j => dryAt h (6 * (1 - t) + j)) (g := fun j => dryAt (putH h r b) (6 * (1 - t) + j)) (i := o - 6 * (1 - t)) 6 (by omega) (fun k hk hne => ds _ (by omega) (by omega))
  rw [show 6 * t + (b - 6 * t) = b by omega, db, d0, Int32.add_zero] at s1
  rw [show 6 * (1 - t) + (o - 6 * (1 - t)) = o by omega, d1, Int32.add_zero] at s2
  show sumTo _ 6 - sumTo _ 6 = sumTo _ 6 - sumTo _ 6 + _ + _
  rw [s1, ← s2]
  exact (alg _ _ _ _).symm
def pz (S : Nat → Bool) (V : Nat → Int32) : Nat → Option (Nat × Int32)
  | 0 => none
  | k + 1 => if S k = true then (match pz S V k with
    | none => some (k, V k)
    | some b => if V k ≤ b.2 then some b else some (k, V k)) else pz S V k
theorem pz_some {S : Nat → Bool} {V : Nat → Int32} {j : Nat} (hj : S j = true) : ∀ n, j < n → pz S V n ≠ none := by
  intro n
  induction n with
  | zero => intro h; exact absurd h (Nat.not_lt_zero _)
  | succ n ih =>
    intro h
    unfold pz
    by_cases c : S n = true
    · rw [if_pos c]
      split
      · simp
      · split <;> simp
    · rw [if_neg c]
      exact ih (by
        have : j ≠ n := fun q => c (q ▸ hj)
        omega)
theorem pz_lt {S : Nat → Bool} {V : Nat → Int32} : ∀ n b, pz S V n = some b → b.1 < n := by
  intro n
  induction n with
  | zero => intro b h; simp [pz] at h
  | succ n ih =>
    intro b h
    unfold pz at h
    split at h
    · split at h
      · cases h
        exact Nat.lt_succ_self n
      · rename_i b2 e
        have := ih b2 e
        split at h
        · cases h
          omega
        · cases h
          exact Nat.lt_succ_self n
    · have := ih b h
      omega
theorem uC_prize (post : Int32 → St → Prop) (q : Nat) : l_X9_prize_84 post (q + 1) = b_X9_prize_84 (l_X9_prize_84 post q) post := rfl
theorem uM_prize (post : Int32 → St → Prop) (q : Nat) : l_X10_prize_54 post (q + 1) = b_X10_prize_54 (l_X10_prize_54 post q) post := rfl
theorem sim16 (σ τ : St) (a0 a1 : Int32) (hR : Rel σ τ) : w_X9_prize (fun r σ1 => w_X10_prize (fun r2 τ1 => r = r2 ∧ Rel σ1 τ1) τ a0 a1) σ a0 a1 := by
  obtain ⟨n, m, T, hH, hT, hRR⟩ := id hR
  obtain ⟨hm, hi, h55, hm9, h57, hT14⟩ := id hH
  have hn := hi.1.1.1
  have e50 : σ 5 0 0 = nI n := hi.1.1.2.1
  have e10 : τ 1 0 0 = nI n := mN hm hi.1.1
  rcases wv_10 a0 0 1 with ⟨e0, q0⟩ | ⟨e0, q0⟩
  · exact gTC0 e0 (gTM0 e0 ⟨rfl, hR⟩)
  rcases wv_10 a1 0 1 with ⟨e1, q1⟩ | ⟨e1, q1⟩
  · exact gTC1 e0 (gC0' e1 (gTM1 e0 (gM0' e1 ⟨rfl, hR⟩)))
  obtain ⟨t, _, ht, rfl⟩ := wv_n (a := 0) (b := 1) (by decide) (by decide) q0
  have ht2 : t < 2 := by omega
  refine gTC1 e0 (gC1' e1 (sX1_homeOf ht2 (sX1_mayCarry ht2 e50 hn ?_)))
  have hlt : lootN (hlC σ 0) t n < 4096 := Nat.lt_of_lt_of_le (lootN_lt _ _ n) (Nat.pow_le_pow_right (by decide) hn : 2 ^ n ≤ 2 ^ 12)
  rw [lootTo_n _ _ n hn]
  have mod : ∀ P : Int32 → St → Prop, ((hmV (hlC σ 0) t < 0 → P (-1000000005) τ) ∧ (¬ hmV (hlC σ 0) t < 0 → ((¬ nI (lootN (hlC σ 0) t n) = 0 → ∃ n9, l_X10_prize_54 P n9 τ (nI t) a1 (nI (lootN (hlC σ 0) t n)) (hmV (hlC σ 0) t) (-1) 0 0) ∧ (nI (lootN (hlC σ 0) t n) = 0 → P (-1000000005) τ)))) → w_X10_prize P τ (nI t) a1 := by
    intro P hP
    unfold w_X10_prize
    refine gTM1 e0 (gM1' e1 (sX10_lootOf hm hi.1.1 ht2 (sX10_homeOf hm hi.1 ht2 ?_)))
    rw [lootTo_n _ _ n hn]
    exact hP
  refine ⟨fun c => mod _ ⟨fun _ => ⟨rfl, hR⟩, fun g => ?_⟩, fun c => ?_⟩
  · exfalso
    unfold hmV at g
    rw [if_pos c] at g
    exact g (by decide)
  obtain ⟨b, hb1, hb2, hb, eb, hf⟩ := homeV_in (hlC σ 0) ht2 c
  have ev : hmV (hlC σ 0) t = nI b := by
    unfold hmV
    rw [if_neg c, eb]
  rw [ev] at mod
  have hnb : ¬ nI b < 0 := nI_pos (by omega)
  refine ⟨fun c0 => ?_, fun c0 => mod _ ⟨fun g => absurd g hnb, fun _ => ⟨fun g => absurd c0 g, fun _ => ⟨rfl, hR⟩⟩⟩⟩
  rw [eb]
  obtain ⟨S, hS⟩ : ∃ S : Nat → Bool, S = fun k => (lootN (hlC σ 0) t n).testBit k := ⟨_, rfl⟩
  obtain ⟨V, hV⟩ : ∃ V : Nat → Int32, V = fun k => dryOf (hlC σ 0) t - dryOf (hlC σ 0) (1 - t) + dwV (hlC σ 0) k b + dryAt (hlC σ 0) (hlC σ 0 9 k).toNatClampNeg := ⟨_, rfl⟩
  have bit : ∀ k, k < 12 → bitOf (nI (lootN (hlC σ 0) t n)) k = if S k = true then 1 else 0 := fun k hk => by
    rw [hS]
    exact bitOf_t (by omega) (by omega)
  have hne : ∃ p, pz S V n = some p := by
    have c1 : 0 < cntN (lootN (hlC σ 0) t n) 12 0 := Nat.pos_of_ne_zero (fun e => c0 (by rw [(cnt_0 hlt).1 e]; rfl))
    obtain ⟨j, _, hj, _⟩ := nthN_some _ _ _ _ c1
    have hjn := ((lootN_bit (hlC σ 0) t j n).1 hj).1
    cases e : pz S V n with
    | none => exact absurd e (pz_some (by rw [hS]; exact hj) n hjn)
    | some p => exact ⟨p, rfl⟩
  obtain ⟨p, ep⟩ := hne
  have modL : ∀ v, v = (if a1 = 0 then nI p.1 else p.2) → w_X10_prize (fun r2 τ1 => v = r2 ∧ Rel σ τ1) τ (nI t) a1 := by
    intro v hv
    refine mod _ ⟨fun g => absurd g hnb, fun _ => ⟨fun _ => ⟨n + 1, ?_⟩, fun g => absurd g c0⟩⟩
    suffices H : ∀ q k (τ1 : St), k + q = n → EM τ τ1 → (∀ j, τ1 1 0 j = τ 1 0 j) → l_X10_prize_54 (fun r2 τ1 => v = r2 ∧ Rel σ τ1) (q + 1) τ1 (nI t) a1 (nI (lootN (hlC σ 0) t n)) (nI b) ((pz S V k).elim (-1) (fun b => nI b.1)) ((pz S V k).elim 0 (fun b => b.2)) (nI k) by
      exact H n 0 τ (by omega) EM.rf (fun _ => rfl)
    intro q
    induction q with
    | zero =>
      intro k τ1 hk em g1
      obtain rfl : k = n := by omega
      rw [uM_prize]
      unfold b_X10_prize_54
      rw [show (0 : Int32).toNatClampNeg = 0 by decide, g1, e10, ep]
      have hR1 : Rel σ τ1 := Rel_same hR EC.rf (fun _ _ _ _ => rfl) em (fun j _ => g1 j)
      refine ⟨vp_in_nI (n := 0) (by decide) (by decide), fun _ => ⟨fun c => ⟨?_, hR1⟩, fun c => ⟨?_, hR1⟩⟩, fun c => absurd (nI_le (Nat.le_refl _) (by omega)) c⟩
      · rw [hv, if_neg c]
        rfl
      · rw [hv, if_pos c]
        rfl
    | succ q ih =>
      intro k τ1 hk em g1
      rw [uM_prize]
      unfold b_X10_prize_54
      rw [show (0 : Int32).toNatClampNeg = 0 by decide, g1, e10]
      have ebit : ((nI (lootN (hlC σ 0) t n) >>> (nI k &&& 31)) &&& 1) = if S k = true then 1 else 0 := bit k (by omega)
      refine ⟨vp_in_nI (n := 0) (by decide) (by decide), fun c => absurd c (nI_ge (by omega) (by omega)), fun _ => ?_⟩
      rw [ebit]
      by_cases cS : S k = true
      · rw [if_pos cS]
        rw [if_pos cS] at ebit
        refine ⟨fun c => absurd rfl c, fun _ => ?_⟩
        obtain ⟨hkn, k1, k2⟩ := (lootN_bit (hlC σ 0) t k n).1 (by rw [hS] at cS; exact cS)
        obtain ⟨o, ho, eo, eo2⟩ := hi.1.2.1 k hkn
        rw [eo, tw_n ho] at k1
        have hot : o / 6 = 1 - t := by
          have : ¬ o / 6 = t := fun g => k1 (by rw [g])
          omega
        have hm1 : HM (hlC σ 0) (τ1 1 0) := HM_of hm (fun j _ => g1 j)
        have hk12 : k < 12 := by omega
        unfold w_X10_prizeOf
        refine sOf3 hm1 hk12 (sSets (w := 3) hm1 hk12 (by decide) (fun s2 hm2 f2 => ?_))
        have hmP : HM (putH (hlC σ 0) k b) (s2 1 0) := fun a j hv => (hm2 a j hv).trans (by
          have a12 : a ≠ 12 := by unfold vm at hv; omega
          simp [putH, setH, a12])
        have hiP : HO (putH (hlC σ 0) k b) n := HO_put hi.1 hkn hb hf
        refine sX10_dryOf hmP hiP ht2 ?_
        rw [show (1 : Int32) - nI t = nI (1 - t) from pk_sub (a := 1) (by omega)]
        refine sX10_dryOf hmP hiP (by omega) (fun v5 ev5 => ?_)
        have eV : v5 = V k := by
          rw [ev5, put_dry hi hkn hb hf eo ho (by omega) hot ht2, hV]
          show _ = _ + dryAt (hlC σ 0) (hlC σ 0 9 k).toNatClampNeg
          rw [eo, cl (show o < 2 ^ 31 by omega)]
        subst eV
        unfold w_X10_sets
        rw [show (3 : Int32) = nI 3 from rfl, mofx, cl (show 10 + 4 * k + 3 < 2 ^ 31 by omega)]
        refine ⟨vp_in_nI (by omega) (by decide), fun s6 e6 => ?_⟩
        have g6 : ∀ j, s6 1 0 j = τ 1 0 j := fun j => by
          rw [e6, wr1]
          by_cases cj : j = 10 + 4 * k + 3
          · rw [cj, pk_us]
            have g := hm 9 k (by unfold vm; omega)
            rw [mi9] at g
            exact g.symm
          · rw [pk_un cj]
            by_cases cj2 : 82 ≤ j ∨ j = 1
            · exact (f2 1 0 j (by decide) (by decide) (by omega)).trans (g1 j)
            · have g7 : s2 1 0 j = τ1 1 0 j := by
                have key : ∃ a i, vm a i ∧ mi a i = j := by
                  by_cases k0 : j = 0
                  · exact ⟨5, 0, by unfold vm; omega, by rw [k0]; rfl⟩
                  · by_cases k2 : j = 2
                    · exact ⟨5, 5, by unfold vm; omega, by rw [k2]; rfl⟩
                    · by_cases k3 : j = 3 ∨ j = 4
                      · exact ⟨13, j - 3, by unfold vm; omega, by rw [mi13]; omega⟩
                      · by_cases k5 : j = 5
                        · exact ⟨5, 1, by unfold vm; omega, by rw [k5]; rfl⟩
                        · by_cases k6 : j = 6
                          · exact ⟨5, 2, by unfold vm; omega, by rw [k6]; rfl⟩
                          · by_cases k7 : j = 7
                            · exact ⟨5, 3, by unfold vm; omega, by rw [k7]; rfl⟩
                            · by_cases k8 : j = 8
                              · exact ⟨5, 4, by unfold vm; omega, by rw [k8]; rfl⟩
                              · by_cases k9 : j = 9
                                · exact ⟨5, 6, by unfold vm; omega, by rw [k9]; rfl⟩
                                · by_cases k58 : j < 58
                                  · refine ⟨6 + (j - 10) % 4, (j - 10) / 4, by unfold vm; omega, ?_⟩
                                    unfold mi
                                    rw [if_neg (by omega), if_neg (by omega), if_neg (by omega), if_neg (by omega)]
                                    omega
                                  · by_cases k70 : j < 70
                                    · exact ⟨10, j - 58, by unfold vm; omega, by rw [mi10]; omega⟩
                                    · exact ⟨11, j - 70, by unfold vm; omega, by rw [mi11]; omega⟩
                obtain ⟨a, i, hv, em⟩ := key
                have x1 := hm2 a i hv
                have x2 := hm1 a i hv
                rw [em] at x1 x2
                rw [x1, x2]
                have hne : ¬ (a = 9 ∧ i = k) := fun q => by
                  rw [q.1, q.2, mi9] at em
                  omega
                simp only [setH]
                rw [if_neg hne]
              exact g7.trans (g1 j)
        have em6 : EM τ s6 := fun a x j hc => by
          rw [e6]
          simp only [wr]
          rw [if_neg (by omega)]
          exact ((EM_FM f2) a x j hc).trans (em a x j hc)
        have nx := ih (k + 1) s6 (by omega) em6 g6
        unfold b_X10_prize_88
        rw [ebit]
        refine ⟨fun c => absurd rfl c, fun _ => ?_⟩
        rw [pz, if_pos cS] at nx
        cases epk : pz S V k with
        | none =>
          rw [epk] at nx
          refine ⟨fun _ w ew => ?_, fun c => absurd (by decide) c⟩
          subst ew
          rw [nI_1]
          exact nx
        | some b2 =>
          rw [epk] at nx
          have hb2 := pz_lt k b2 epk
          have pos : ¬ ((some b2).elim (-1) (fun b => nI b.1) : Int32) < 0 := nI_pos (by omega)
          refine ⟨fun c => absurd c pos, fun _ => ⟨fun c w ew => ?_, fun c w ew => ?_⟩⟩
          · subst ew
            have c' : V k ≤ b2.2 := c
            simp only [if_pos c'] at nx
            rw [nI_1]
            exact nx
          · subst ew
            have c' : ¬ V k ≤ b2.2 := c
            simp only [if_neg c'] at nx
            rw [nI_1]
            exact nx
      · rw [if_neg cS]
        rw [if_neg cS] at ebit
        refine ⟨fun _ => ?_, fun c => absurd c (by decide)⟩
        have nx := ih (k + 1) τ1 (by omega) em g1
        rw [pz, if_neg cS] at nx
        unfold b_X10_prize_88
        rw [ebit]
        refine ⟨fun _ w ew => ?_, fun c => absurd c (by decide)⟩
        subst ew
        rw [nI_1]
        exact nx
  have e12 := HS_12 hi.1.1
  refine sX1_dryOf ht2 e12 ?_
  unfold w_X9_otherTown
  rw [show (1 : Int32) - nI t = nI (1 - t) from pk_sub (a := 1) (by omega)]
  refine sX1_dryOf (by omega) e12 (fun v12 ev12 => ⟨n + 1, ?_⟩)
  subst ev12
  suffices H : ∀ q k, k + q = n → l_X9_prize_84 (fun r σ1 => w_X10_prize (fun r2 τ1 => r = r2 ∧ Rel σ1 τ1) τ (nI t) a1) (q + 1) σ a1 (nI b) (nI (lootN (hlC σ 0) t n)) (dryOf (hlC σ 0) t - dryOf (hlC σ 0) (1 - t)) ((pz S V k).elim NON (fun b => nI b.1)) ((pz S V k).elim 0 (fun b => b.2)) (nI k) by
    exact H n 0 (by omega)
  intro q
  induction q with
  | zero =>
    intro k hk
    obtain rfl : k = n := by omega
    rw [uC_prize]
    unfold b_X9_prize_84
    rw [e50, ep]
    refine ⟨fun _ => ⟨fun c => modL _ (by rw [if_neg c]; rfl), fun c => modL _ (by rw [if_pos c]; rfl)⟩, fun c => absurd (nI_le (Nat.le_refl _) (by omega)) c⟩
  | succ q ih =>
    intro k hk
    rw [uC_prize]
    unfold b_X9_prize_84
    rw [e50]
    have nx := ih (k + 1) (by omega)
    rw [pz] at nx
    refine ⟨fun c => absurd c (nI_ge (by omega) (by omega)), fun _ => sX9_inSet ?_⟩
    rw [bit k (by omega)]
    by_cases cS : S k = true
    · rw [if_pos cS] at nx
      rw [if_pos cS, if_pos rfl]
      refine ⟨fun c => absurd c (by decide), fun _ => sX1_dryWere (by omega) hb ?_⟩
      obtain ⟨o, ho, eo, eo2⟩ := hi.1.2.1 k (by omega)
      rw [cl (show k < 2 ^ 31 by omega), show σ 9 0 k = nI o from eo]
      refine ⟨vp_in_nI (by omega) (by decide), sX1_dryIn ho (e12 o ho) (fun v9 ev9 => ?_)⟩
      have eV : v9 = V k := by
        rw [ev9, hV]
        show _ = _ + dryAt (hlC σ 0) (hlC σ 0 9 k).toNatClampNeg
        rw [eo, cl (show o < 2 ^ 31 by omega)]
      subst eV
      cases epk : pz S V k with
      | none =>
        rw [epk] at nx
        refine ⟨fun _ w ew => ?_, fun c => absurd rfl c⟩
        subst ew
        rw [nI_1]
        exact nx
      | some b2 =>
        rw [epk] at nx
        have hb2 := pz_lt k b2 epk
        have pos : ¬ ((some b2).elim NON (fun b => nI b.1) : Int32) = NON := nI_NON (by omega)
        refine ⟨fun c => absurd c pos, fun _ => ⟨fun c w ew => ?_, fun c w ew => ?_⟩⟩
        · subst ew
          have c' : V k ≤ b2.2 := c
          simp only [if_pos c'] at nx
          rw [nI_1]
          exact nx
        · subst ew
          have c' : ¬ V k ≤ b2.2 := c
          simp only [if_neg c'] at nx
          rw [nI_1]
          exact nx
    · rw [if_neg cS] at nx
      rw [if_neg cS, if_neg (by decide)]
      refine ⟨fun _ w ew => ?_, fun c => absurd rfl c⟩
      subst ew
      rw [nI_1]
      exact nx
