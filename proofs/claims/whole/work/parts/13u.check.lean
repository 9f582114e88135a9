/-! LAYER 2. Check. -/
def chkF (wt due : Nat → Int32) (w : Nat) : Nat → Nat → Int32
  | 0, k => if w ≤ k then 0 else nI (1 + k)
  | f + 1, k => if w ≤ k then nI (1 + k) else if wt k = due k then chkF wt due w f (k + 1) else nI (1 + k)
theorem cWaits {post : Int32 → St → Prop} {σ : St} {p w : Nat} {d : Int32} (hw : w ≤ 60) (hp : p < 2 ^ 31) (h : post (if w ≤ p then 0 else if σ 1 0 p = d then 1 else 0) σ) : w_X9_waitsAt post σ (nI p) (nI w) d := by
  unfold w_X9_waitsAt
  rw [cl hp]
  refine ⟨fun c => ?_, fun c => ⟨fun c2 => ?_, fun c2 => ⟨vp_in_nI ?_ (by decide), fun c3 => ?_, fun c3 => ?_⟩⟩⟩
  · rw [if_pos ((nI_leI (by omega) hp).1 c)] at h
    exact h
  · have g1 : ¬ w ≤ p := fun g => c (nI_le g hp)
    have g2 := (nI_leI (a := 60) (by decide) hp).1 c2
    omega
  · have g1 : ¬ w ≤ p := fun g => c (nI_le g hp)
    omega
  · rw [if_neg (fun g => c (nI_le g hp)), if_neg c3] at h
    exact h
  · rw [if_neg (fun g => c (nI_le g hp)), if_pos c3] at h
    exact h
theorem uC_check (post : Int32 → St → Prop) (q : Nat) : l_X9_check_63 post (q + 1) = b_X9_check_63 (l_X9_check_63 post q) post := rfl
theorem uM_check1 (post : Int32 → St → Prop) (q : Nat) : l_X10_check_64 post (q + 1) = b_X10_check_64 (l_X10_check_64 post q) post := rfl
theorem uM_check2 (post : Int32 → St → Prop) (q : Nat) : l_X10_check_135 post (q + 1) = b_X10_check_135 (l_X10_check_135 post q) post := rfl
def dueF (sp : Int32 → Int32 → Int32 → Int32) (n m : Nat) (h : Hl) (k : Nat) : Int32 := if k % 2 = 0 then passH sp n (k / 2 + 1) m h 5 2 else sumTo (passH sp n (k / 2 + 1) m h 8) n
theorem mCheck2 {P : Int32 → St → Prop} {t : St} {due : Nat → Int32} {w D : Nat} (hw : w ≤ 60) (hD : D ≤ 60) (hd : ∀ k, k < D → t 20 0 k = due k) (hp : P (chkF (t 19 0) due w D 0) t) : ∃ n, l_X10_check_135 P n t (nI w) (nI D) 0 := by
  refine ⟨D + 1, ?_⟩
  suffices H : ∀ f k, k + f = D → k ≤ w → chkF (t 19 0) due w f k = chkF (t 19 0) due w D 0 → l_X10_check_135 P (f + 1) t (nI w) (nI D) (nI k) by
    exact H D 0 (by omega) (Nat.zero_le _) rfl
  have b1 : ∀ k, k ≤ D → (k ≠ w ∨ k ≠ D) → nI (1 + k) = chkF (t 19 0) due w D 0 → b_X10_check_170 P t (nI w) (nI D) (nI k) := by
    intro k hk hne he
    unfold b_X10_check_170
    have e : (1 : Int32) + nI k = nI (1 + k) := nI_add 1 k
    rw [e, he]
    refine ⟨fun _ => hp, fun c => ⟨fun _ => hp, fun c2 => ?_⟩⟩
    have g1 := (nI_eq (by omega) (by omega)).1 c
    have g2 := (nI_eq (by omega) (by omega)).1 c2
    omega
  have b0 : ∀ k, k = w → k = D → 0 = chkF (t 19 0) due w D 0 → b_X10_check_170 P t (nI w) (nI D) (nI k) := by
    intro k h1 h2 he
    subst h1
    unfold b_X10_check_170
    refine ⟨fun c => absurd rfl c, fun _ => ⟨fun c => absurd (by rw [h2]) c, fun _ => ?_⟩⟩
    rw [he]
    exact hp
  intro f
  induction f with
  | zero =>
    intro k hk hkw he
    obtain rfl : k = D := by omega
    rw [uM_check2]
    unfold b_X10_check_135
    rw [chkF] at he
    by_cases c : w ≤ k
    · rw [if_pos c] at he
      exact ⟨fun _ => b0 k (by omega) rfl he, fun g => absurd (nI_le c (by omega)) g⟩
    · rw [if_neg c] at he
      exact ⟨fun _ => b1 k (by omega) (Or.inl (by omega)) he, fun _ => ⟨fun _ => b1 k (by omega) (Or.inl (by omega)) he, fun g => absurd (nI_le (Nat.le_refl _) (by omega)) g⟩⟩
  | succ f ih =>
    intro k hk hkw he
    rw [uM_check2]
    unfold b_X10_check_135
    rw [chkF] at he
    rw [cl (show k < 2 ^ 31 by omega), hd k (by omega)]
    by_cases c : w ≤ k
    · rw [if_pos c] at he
      exact ⟨fun _ => b1 k (by omega) (Or.inr (by omega)) he, fun g => absurd (nI_le c (by omega)) g⟩
    · rw [if_neg c] at he
      refine ⟨fun g => absurd g (nI_ge (by omega) (by omega)), fun _ => ⟨fun g => absurd g (nI_ge (by omega) (by omega)), fun _ => ⟨vp_in_nI (by omega) (by decide), vp_in_nI (by omega) (by decide), fun c2 => ?_, fun c2 v ev => ?_⟩⟩⟩
      · rw [if_neg c2] at he
        exact b1 k (by omega) (Or.inr (by omega)) he
      · subst ev
        rw [if_pos c2] at he
        rw [nI_1]
        exact ih (k + 1) (by omega) (by omega) he
def CT (τ t : St) : Prop := (∀ j, j < 2882 → t 3 0 j = τ 1 0 j) ∧ (∀ k a j, k ≠ 1 → k ≠ 3 → k ≠ 16 → k ≠ 17 → k ≠ 20 → t k a j = τ k a j) ∧ (∀ j, 82 ≤ j ∨ j = 1 → j < 2882 → t 1 0 j = τ 2 0 j) ∧ (∀ a j, a ≠ 0 → 82 ≤ j → t 1 a j = τ 1 a j)
theorem CT_FM {τ t t' : St} (h : CT τ t) (f : FM t t') : CT τ t' := ⟨fun j hj => (f 3 0 j (by decide) (by decide) (by omega)).trans (h.1 j hj), fun k a j c1 c2 c3 c4 c5 => (f k a j c3 c4 (by omega)).trans (h.2.1 k a j c1 c2 c3 c4 c5), fun j c1 c2 => (f 1 0 j (by decide) (by decide) (by omega)).trans (h.2.2.1 j c1 c2), fun a j c1 c2 => (f 1 a j (by decide) (by decide) (by omega)).trans (h.2.2.2 a j c1 c2)⟩
theorem CT_wr {τ t : St} {j : Nat} {v : Int32} (h : CT τ t) : CT τ (wr t 20 0 j v) := ⟨fun i hi => by rw [wr_off _ _ _ (by omega)]; exact h.1 i hi, fun k a i c1 c2 c3 c4 c5 => by rw [wr_off _ _ _ (by omega)]; exact h.2.1 k a i c1 c2 c3 c4 c5, fun i c1 c2 => by rw [wr_off _ _ _ (by omega)]; exact h.2.2.1 i c1 c2, fun a i c1 c2 => by rw [wr_off _ _ _ (by omega)]; exact h.2.2.2 a i c1 c2⟩
theorem mCheck {P : Int32 → St → Prop} {σ τ : St} {n m T c x w : Nat} {h1 : Hl} (hm : HM h1 (τ 2 0)) (hi : HI h1 n) (h55 : h1 5 5 = nI m) (hT14 : T ≤ 14) (h57 : h1 5 7 = nI T) (hT : TX σ (τ 2 0) T) (hx : x ≤ 30) (hw : w ≤ 60) (hc : c ≤ x) (hmc : m + c ≤ 9999) (he : c = x ∨ m + c = 9999) (hp : ∀ t' : St, EM τ t' → (∀ j, j < 2882 → t' 1 0 j = τ 1 0 j) → P (chkF (τ 19 0) (dueF (spT σ T) n m h1) w (2 * c) 0) t') : w_X10_setAside_1_3 (fun s6 => w_X10_setAside_2_1 (fun s7 => ∃ n8 : Nat, l_X10_check_64 P n8 s7 (nI x) (nI w) 0 0) s6) τ := by
  refine mSa13 (fun t1 g1 g2 => mSa21 (fun t2 g3 g4 => ⟨c + 1, ?_⟩))
  have ct2 : CT τ t2 := ⟨fun j hj => (g4 3 0 j (by omega)).trans (g1 j hj), fun k a j c1 c2 c3 c4 c5 => (g4 k a j (by omega)).trans (g2 k a j (by omega)), fun j c1 c2 => (g3 j c2).trans (g2 2 0 j (by omega)), fun a j c1 c2 => (g4 1 a j (by omega)).trans (g2 1 a j (by omega))⟩
  have hm2 : HM h1 (t2 1 0) := HM_of hm (fun j hj => (g3 j (by omega)).trans (g2 2 0 j (by omega)))
  have fin : ∀ t : St, CT τ t → (∀ k, k < 2 * c → t 20 0 k = dueF (spT σ T) n m h1 k) → b_X10_check_120 P t (nI w) (nI (2 * c)) := by
    intro t ct hd
    unfold b_X10_check_120
    refine mSa31 (fun t' f1 f2 => mCheck2 (due := dueF (spT σ T) n m h1) hw (by omega) (fun k hk => (f2 20 0 k (by omega)).trans (hd k hk)) ?_)
    have e1 : ∀ j, j < 2882 → t' 1 0 j = τ 1 0 j := fun j hj => (f1 j hj).trans (ct.1 j hj)
    have e19 : t' 19 0 = τ 19 0 := funext (fun j => (f2 19 0 j (by omega)).trans (ct.2.1 19 0 j (by decide) (by decide) (by decide) (by decide) (by decide)))
    rw [e19]
    refine hp t' (fun k a j hc => ?_) e1
    by_cases k1 : k = 1
    · subst k1
      by_cases a0 : a = 0
      · subst a0
        exact e1 j (by omega)
      · exact (f2 1 a j (by omega)).trans (ct.2.2.2 a j a0 (by omega))
    · exact (f2 k a j (by omega)).trans (ct.2.1 k a j k1 (by omega) (by omega) (by omega) (by omega))
  suffices H : ∀ q i (t : St), i + q = c → CT τ t → HM (passH (spT σ T) n i m h1) (t 1 0) → (∀ k, k < 2 * i → t 20 0 k = dueF (spT σ T) n m h1 k) → l_X10_check_64 P (q + 1) t (nI x) (nI w) (nI (2 * i)) (nI i) by
    exact H c 0 t2 (by omega) ct2 (by rw [passH]; exact hm2) (fun k hk => absurd hk (by omega))
  have c2 : (2 : Int32).toNatClampNeg = 2 := by decide
  have c6 : (6 : Int32).toNatClampNeg = 6 := by decide
  have hi2 : vp_in (2 : Int32) 3082 := vp_in_nI (n := 2) (by decide) (by decide)
  have hi6 : vp_in (6 : Int32) 3082 := vp_in_nI (n := 6) (by decide) (by decide)
  intro q
  induction q with
  | zero =>
    intro i t hi0 ct hmi hd
    obtain rfl : i = c := by omega
    rw [uM_check1]
    unfold b_X10_check_64
    have e2 : t 1 0 2 = nI (m + i) := (hmi 5 5 (by unfold vm; omega)).trans (pass_55 _ _ _ h55)
    rw [c2, e2]
    refine ⟨fun _ => fin t ct hd, fun g => ⟨hi2, fun _ => fin t ct hd, fun g2 => ?_⟩⟩
    exfalso
    rcases he with he | he
    · exact g (nI_le (by omega) (by omega))
    · exact g2 (nI_le (a := 9999) (by omega) (by omega))
  | succ q ih =>
    intro i t hi0 ct hmi hd
    rw [uM_check1]
    unfold b_X10_check_64
    have e2 : t 1 0 2 = nI (m + i) := (hmi 5 5 (by unfold vm; omega)).trans (pass_55 _ _ _ h55)
    rw [c2, c6, e2]
    have ii := HI_pass (spT_R σ T) i m h1 hi
    have hMi : SpiteM t (spT σ T) := spiteM hT14 ((ct.2.2.1 1 (by omega) (by omega)).trans ((hm 5 7 (by unfold vm; omega)).trans h57)) (TX_eq hT (fun _ _ _ => rfl) (fun _ _ => rfl) (fun j h1 h2 => ct.2.2.1 j (by omega) (by omega)))
    refine ⟨fun g => absurd g (nI_ge (by omega) (by omega)), fun _ => ⟨hi2, fun g => absurd g (nI_ge (b := 9999) (by omega) (by decide)), fun _ => ?_⟩⟩
    refine sX10_goesOn (m := m + i) hMi (spT_R σ T) hmi ii (pass_55 _ _ _ h55) (by omega) (fun s4 hm4 f4 => ⟨hi6, vp_in_nI (by omega) (by decide), fun s7 e7 => ?_⟩)
    rw [← pass_succ] at hm4
    have ct4 := CT_FM ct f4
    have e6 : s4 1 0 6 = passH (spT σ T) n (i + 1) m h1 5 2 := hm4 5 2 (by unfold vm; omega)
    rw [cl (show 2 * i < 2 ^ 31 by omega), e6] at e7
    have ct7 : CT τ s7 := by rw [e7]; exact CT_wr ct4
    have hm7 : HM (passH (spT σ T) n (i + 1) m h1) (s7 1 0) := by rw [e7, wr_off _ _ _ (by omega)]; exact hm4
    refine sX10_leaks hm7 (HI_pass (spT_R σ T) (i + 1) m h1 hi).1.1 ?_
    rw [nI_1, cl (show 2 * i + 1 < 2 ^ 31 by omega), show nI (2 * i) + 2 = nI (2 * (i + 1)) from nI_add (2 * i) 2]
    refine ⟨vp_in_nI (by omega) (by decide), fun s10 e10 v ev v2 ev2 => ?_⟩
    subst ev
    subst ev2
    rw [nI_1]
    refine ih (i + 1) s10 (by omega) (by rw [e10]; exact CT_wr ct7) (by rw [e10, wr_off _ _ _ (by omega)]; exact hm7) (fun k hk => ?_)
    rw [e10, wr_row]
    by_cases k1 : k = 2 * i + 1
    · rw [k1, pk_us]
      unfold dueF
      rw [if_neg (by omega), show (2 * i + 1) / 2 + 1 = i + 1 by omega]
    · rw [pk_un k1, e7, wr_row]
      by_cases k0 : k = 2 * i
      · rw [k0, pk_us]
        unfold dueF
        rw [if_pos (by omega), show 2 * i / 2 + 1 = i + 1 by omega]
      · rw [pk_un k0]
        exact (f4 20 0 k (by decide) (by decide) (by omega)).trans (hd k (by omega))
theorem sim39 (σ τ : St) (a0 : Int32) (hR : Rel σ τ) : w_X9_check (fun r σ1 => w_X10_check (fun r2 τ1 => r = r2 ∧ Rel σ1 τ1) τ a0) σ a0 := by
  obtain ⟨w, ⟨w1, w6⟩, w2, w3, w4⟩ : RWt σ τ := by
    obtain ⟨n, m, T, -, -, -, -, -, -, h⟩ := id hR
    exact h
  have hR0 : Rel (wr σ 0 0 1 0) (wr τ 0 0 13 0) := by
    refine Rel_wait hR (fun q a j h1 h2 => ?_) (fun q a j h1 h2 => ?_) ⟨0, ⟨by decide, fun j => by rw [wr_off _ _ _ (by omega)]; exact w6 j⟩, by simp [wr, nI_0], by simp [wr, nI_0], fun j hj => absurd hj (Nat.not_lt_zero _)⟩
    · simp only [wr]
      rw [if_neg (by omega)]
    · simp only [wr]
      rw [if_neg (by omega)]
  have wt4 : ∀ j, j < w → wr σ 0 0 1 0 1 0 j = wr τ 0 0 13 0 19 0 j := fun j hj => by
    rw [wr_off _ _ _ (by omega), wr_off _ _ _ (by omega)]
    exact w4 j hj
  unfold w_X9_check w_X10_check
  intro v ev s es
  rw [w2] at ev
  subst ev
  subst es
  rw [w3]
  generalize wr σ 0 0 1 0 = σ0 at hR0 wt4 ⊢
  generalize wr τ 0 0 13 0 = τ0 at hR0 wt4 ⊢
  have top : ∀ P : Int32 → St → Prop, w_X10_isIn (fun r3 s3 => (¬ r3 = 0 → ((¬ s3 0 0 0 = 0 → w_X10_setAside_1_3 (fun s6 => w_X10_setAside_2_1 (fun s7 => ∃ n8 : Nat, l_X10_check_64 P n8 s7 a0 (nI w) 0 0) s6) s3) ∧ (s3 0 0 0 = 0 → P (-1000000002) s3))) ∧ (r3 = 0 → P (-1000000001) s3)) τ0 a0.toInt64 1 30 → ∀ v1 : Int32, v1 = nI w → ∀ s2 : St, s2 = τ0 → w_X10_isIn (fun r3 s3 => (¬ r3 = 0 → ((¬ s3 0 0 0 = 0 → w_X10_setAside_1_3 (fun s6 => w_X10_setAside_2_1 (fun s7 => ∃ n8 : Nat, l_X10_check_64 P n8 s7 a0 v1 0 0) s6) s3) ∧ (s3 0 0 0 = 0 → P (-1000000002) s3))) ∧ (r3 = 0 → P (-1000000001) s3)) s2 a0.toInt64 1 30 := by
    intro P hP v1 e1 s2 e2
    subst e1
    subst e2
    exact hP
  rcases wv_10 a0 1 30 with ⟨e0, q0⟩ | ⟨e0, q0⟩
  · exact gC0' e0 (top _ (gM0' e0 ⟨rfl, hR0⟩))
  obtain ⟨x, hx1, hx, rfl⟩ := wv_n (a := 1) (b := 30) (by decide) (by decide) q0
  refine gC1' e0 ?_
  obtain ⟨n0, m0, T0, hH, hT0, hI, -⟩ := id hR0
  rcases hI with ⟨a, b⟩ | ⟨a, b, n, m, T, hTT, ⟨hm, hi, h55, hm9, h57, hT14⟩, hT⟩
  · exact ⟨fun c => absurd a c, fun _ => top _ (gM1' e0 ⟨fun c => absurd b c, fun _ => ⟨rfl, hR0⟩⟩)⟩
  have hn := hi.1.1.1
  refine ⟨fun _ v6 ev6 => sX1_becomeLike (fun s1 eq1 f1 => ?_), fun c => absurd c a⟩
  obtain ⟨c, hc1, hc2, hc3, ec⟩ : ∃ c, c ≤ x ∧ m + c ≤ 9999 ∧ (c = x ∨ m + c = 9999) ∧ v6 = nI c := by
    rw [show σ0 5 1 5 = nI m from h55, show (9999 : Int32) - nI m = nI (9999 - m) from pk_sub (a := 9999) (by omega)] at ev6
    by_cases g : 9999 - m < x
    · rw [if_pos (nI_lt g (by omega))] at ev6
      exact ⟨9999 - m, by omega, by omega, by omega, ev6⟩
    · rw [if_neg (nI_nlt (by omega) (by omega))] at ev6
      exact ⟨x, by omega, by omega, by omega, ev6⟩
  subst ec
  have th1 := Th_FH (Th.rf (σ := σ0)) f1
  obtain ⟨h1, eh1⟩ : ∃ h1, h1 = hlC s1 2 := ⟨_, rfl⟩
  rw [← eh1] at eq1
  have i1 : HI h1 n := HI_eq eq1 hi
  have q55 : h1 5 5 = nI m := (eq1 5 5 (by unfold vc; omega)).trans h55
  have q57 : h1 5 7 = nI T := (eq1 5 7 (by unfold vc; omega)).trans h57
  have modL : ∀ v s, Th σ0 s → v = chkF (τ0 19 0) (dueF (spT σ0 T) n m h1) w (2 * c) 0 → w_X10_isIn (fun r3 s3 => (¬ r3 = 0 → ((¬ s3 0 0 0 = 0 → w_X10_setAside_1_3 (fun s6 => w_X10_setAside_2_1 (fun s7 => ∃ n8 : Nat, l_X10_check_64 (fun r2 τ1 => v = r2 ∧ Rel s τ1) n8 s7 (nI x) (nI w) 0 0) s6) s3) ∧ (s3 0 0 0 = 0 → (fun r2 τ1 => v = r2 ∧ Rel s τ1) (-1000000002) s3))) ∧ (r3 = 0 → (fun r2 τ1 => v = r2 ∧ Rel s τ1) (-1000000001) s3)) τ0 (nI x).toInt64 1 30 := by
    intro v s th hv
    refine gM1' e0 ⟨fun _ => mCheck (HM_eq hm eq1) i1 q55 hT14 q57 hT hx w1 hc1 hc2 hc3 (fun t' em e1 => ⟨hv, Rel_same hR0 th.1 th.2 em (fun j hj => e1 j (by omega))⟩), fun g => absurd g b⟩
  refine ⟨c + 1, ?_⟩
  suffices H : ∀ q i (s : St), i + q = c → Th σ0 s → hlC s 2 = passH (spT σ0 T) n i m h1 → s 5 2 7 = nI T → chkF (τ0 19 0) (dueF (spT σ0 T) n m h1) w (2 * q) (2 * i) = chkF (τ0 19 0) (dueF (spT σ0 T) n m h1) w (2 * c) 0 → l_X9_check_63 (fun r σ1 => ∀ v1 : Int32, v1 = nI w → ∀ s2 : St, s2 = τ0 → w_X10_isIn (fun r3 s3 => (¬ r3 = 0 → ((¬ s3 0 0 0 = 0 → w_X10_setAside_1_3 (fun s6 => w_X10_setAside_2_1 (fun s7 => ∃ n8 : Nat, l_X10_check_64 (fun r2 τ1 => r = r2 ∧ Rel σ1 τ1) n8 s7 (nI x) v1 0 0) s6) s3) ∧ (s3 0 0 0 = 0 → (fun r2 τ1 => r = r2 ∧ Rel σ1 τ1) (-1000000002) s3))) ∧ (r3 = 0 → (fun r2 τ1 => r = r2 ∧ Rel σ1 τ1) (-1000000001) s3)) s2 (nI x).toInt64 1 30) (q + 1) s (nI w) (nI c) (nI i) by
    exact H c 0 s1 (by omega) th1 eh1.symm ((show s1 5 2 7 = h1 5 7 by rw [eh1]; rfl).trans q57) rfl
  intro q
  induction q with
  | zero =>
    intro i s hi0 th gh g7 hg
    obtain rfl : i = c := by omega
    rw [uC_check]
    unfold b_X9_check_63
    rw [chkF] at hg
    rw [show (2 : Int32) * nI i = nI (2 * i) from pk_mul 2 i, show (1 : Int32) + nI (2 * i) = nI (1 + 2 * i) from nI_add 1 _]
    refine ⟨fun _ => ⟨fun g => ?_, fun g => ?_⟩, fun g => absurd (nI_le (Nat.le_refl _) (by omega)) g⟩
    · rw [if_pos ((nI_leI (by omega) (by omega)).1 g)] at hg
      exact top _ (modL _ s th hg)
    · rw [if_neg (fun y => g (nI_le y (by omega)))] at hg
      exact top _ (modL _ s th hg)
  | succ q ih =>
    intro i s hi0 th gh g7 hg
    rw [uC_check]
    unfold b_X9_check_63
    have ii := HI_pass (spT_R σ0 T) i m h1 i1
    have m55 : s 5 2 5 = nI (m + i) := by
      have y : hlC s 2 5 5 = nI (m + i) := by rw [gh]; exact pass_55 _ _ _ q55
      exact y
    refine ⟨fun g => absurd g (nI_ge (by omega) (by omega)), fun _ => ?_⟩
    refine sX1_pass (c := 1) (n := n) (m := m + i) (by rw [gh]; exact ii.1.1) m55 (by omega) (spiteTh hT14 hT th.1 g7) (fun s3 e3 f3 => ?_)
    have e3 : hlC s3 2 = passH (spT σ0 T) n (i + 1) m h1 := by rw [e3, gh, pass_succ (sp := spT σ0 T) (n := n) i m h1, passH, passH]
    have th3 := Th_FR th f3
    have i3 := HI_pass (spT_R σ0 T) (i + 1) m h1 i1
    have e52 : s3 5 2 2 = dueF (spT σ0 T) n m h1 (2 * i) := by
      unfold dueF
      rw [if_pos (by omega), show 2 * i / 2 + 1 = i + 1 by omega, ← e3]
      rfl
    have wt : ∀ p, p < w → s3 1 0 p = τ0 19 0 p := fun p hp => (th3.1 1 0 p (by decide) (by decide) (by decide) (by omega) (by omega)).trans (wt4 p hp)
    rw [show 2 * (q + 1) = 2 * q + 1 + 1 by omega, chkF] at hg
    rw [show (2 : Int32) * nI i = nI (2 * i) from pk_mul 2 i, e52]
    refine cWaits w1 (by omega) ?_
    by_cases c1 : w ≤ 2 * i
    · rw [if_pos c1] at hg
      rw [if_pos c1, show (1 : Int32) + nI (2 * i) = nI (1 + 2 * i) from nI_add 1 _]
      exact ⟨fun g => absurd rfl g, fun _ => top _ (modL _ s3 th3 hg)⟩
    · rw [if_neg c1] at hg
      rw [if_neg c1, wt _ (by omega)]
      by_cases c2 : τ0 19 0 (2 * i) = dueF (spT σ0 T) n m h1 (2 * i)
      · rw [if_pos c2, chkF] at hg
        rw [if_pos c2]
        refine ⟨fun _ => sX1_leakOfAll (n := n) (by rw [show s3 5 2 0 = hlC s3 2 5 0 from rfl, e3]; exact i3.1.1.2.1) hn ?_, fun g => absurd g (by decide)⟩
        have eL : sumTo (fun k => s3 8 2 k) n = dueF (spT σ0 T) n m h1 (2 * i + 1) := by
          unfold dueF
          rw [if_neg (by omega), show (2 * i + 1) / 2 + 1 = i + 1 by omega, ← e3]
          rfl
        rw [eL, nI_1 (2 * i)]
        refine cWaits w1 (by omega) ?_
        by_cases c3 : w ≤ 2 * i + 1
        · rw [if_pos c3] at hg
          rw [if_pos c3, show (2 : Int32) + nI (2 * i) = nI (1 + (2 * i + 1)) from by rw [show 1 + (2 * i + 1) = 2 + 2 * i by omega]; exact nI_add 2 _]
          exact ⟨fun g => absurd rfl g, fun _ => top _ (modL _ s3 th3 hg)⟩
        · rw [if_neg c3] at hg
          rw [if_neg c3, wt _ (by omega)]
          by_cases c4 : τ0 19 0 (2 * i + 1) = dueF (spT σ0 T) n m h1 (2 * i + 1)
          · rw [if_pos c4] at hg
            rw [if_pos c4]
            refine ⟨fun _ v ev => ?_, fun g => absurd g (by decide)⟩
            subst ev
            rw [nI_1]
            exact ih (i + 1) s3 (by omega) th3 e3 ((f3 5 2 7 (by decide) (by omega)).trans g7) (by rw [show 2 * (i + 1) = 2 * i + 1 + 1 by omega]; exact hg)
          · rw [if_neg c4] at hg
            rw [if_neg c4, show (2 : Int32) + nI (2 * i) = nI (1 + (2 * i + 1)) from by rw [show 1 + (2 * i + 1) = 2 + 2 * i by omega]; exact nI_add 2 _]
            exact ⟨fun g => absurd rfl g, fun _ => top _ (modL _ s3 th3 hg)⟩
      · rw [if_neg c2] at hg
        rw [if_neg c2, show (1 : Int32) + nI (2 * i) = nI (1 + 2 * i) from nI_add 1 _]
        exact ⟨fun g => absurd rfl g, fun _ => top _ (modL _ s3 th3 hg)⟩
