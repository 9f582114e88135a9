/-! LAYER 2. The first calls: roofs, houses. -/
theorem mi6 (k : Nat) : mi 6 k = 10 + 4 * k := by unfold mi; simp; omega
theorem mi7 (k : Nat) : mi 7 k = 10 + 4 * k + 1 := by unfold mi; simp; omega
theorem mi8 (k : Nat) : mi 8 k = 10 + 4 * k + 2 := by unfold mi; simp; omega
theorem mi9 (k : Nat) : mi 9 k = 10 + 4 * k + 3 := by unfold mi; simp; omega
theorem mi10 (k : Nat) : mi 10 k = 58 + k := by unfold mi; simp
theorem mi11 (k : Nat) : mi 11 k = 70 + k := by unfold mi; simp
theorem mi13 (k : Nat) : mi 13 k = 3 + k := by unfold mi; simp
theorem mof0 (k : Nat) : (10 + 4 * nI k : Int32) = nI (10 + 4 * k) := by
  rw [show (4 : Int32) = nI 4 from rfl, show (10 : Int32) = nI 10 from rfl, pk_mul, nI_add]
theorem HI_build {h : Hl} {n q z l a : Nat} (hi : HI h n) (hn : n < 12) (hq : q < 6) (hz : 1 ≤ z) (hz9 : z ≤ 9) (hl : l ≤ 99) (ha : a < 12) (hf : h 12 a = NON) : HI (buildH h n (nI q) (nI z) (nI l) a) (n + 1) := by
  obtain ⟨⟨⟨s1, s2, s3, s4⟩, o1, o2⟩, r1, r2⟩ := hi
  refine ⟨⟨⟨by omega, by simp [buildH, setH], fun k hk => ?_, fun b hb => ?_⟩, fun k hk => ?_, fun b hb => ?_⟩, fun k hk => ?_, fun b hb => ?_⟩
  · by_cases e : k = n
    · exact ⟨a, ha, by simp [buildH, setH, e]⟩
    · simpa [buildH, setH, e] using s3 k hk
  · by_cases e : b = a
    · exact Or.inr ⟨n, hn, by simp [buildH, setH, e]⟩
    · simpa [buildH, setH, e] using s4 b hb
  · by_cases e : k = n
    · exact ⟨a, ha, by simp [buildH, setH, e], by simp [buildH, setH, e]⟩
    · obtain ⟨b, hb, g1, g2⟩ := o1 k (by omega)
      have hba : b ≠ a := fun q => nI_NON (show k < 2 ^ 31 by omega) (by rw [← g2, q, hf])
      exact ⟨b, hb, by simp [buildH, setH, e, g1], by simp [buildH, setH, hba, g2]⟩
  · by_cases e : b = a
    · exact Or.inr ⟨n, by omega, by simp [buildH, setH, e], by simp [buildH, setH, e]⟩
    · rcases o2 b hb with g | ⟨k, hk, g1, g2⟩
      · exact Or.inl (by simp [buildH, setH, e, g])
      · have hkn : k ≠ n := by omega
        exact Or.inr ⟨k, by omega, by simp [buildH, setH, e, g1], by simp [buildH, setH, hkn, g2]⟩
  · by_cases e : k = n
    · subst e
      exact ⟨⟨q, hq, by simp [buildH, setH]⟩, ⟨z, hz, hz9, by simp [buildH, setH]⟩, ⟨l, hl, by simp [buildH, setH]⟩⟩
    · obtain ⟨g1, g2, g3⟩ := r1 k (by omega)
      exact ⟨by simpa [buildH, setH, e] using g1, by simpa [buildH, setH, e] using g2, by simpa [buildH, setH, e] using g3⟩
  · simpa [buildH, setH] using r2 b hb
theorem sX10_comes {post : St → Prop} {τ : St} {h : Hl} {n a : Nat} {k z l : Int32} (hm : HM h (τ 1 0)) (hn : h 5 0 = nI n) (h12 : n < 12) (hp : ∀ τ' : St, HM (buildH h n k z l a) (τ' 1 0) → FM τ τ' → post τ') : w_X10_comes post τ k z l (nI a) := by
  unfold w_X10_comes
  have c0 : (0 : Int32).toNatClampNeg = 0 := by decide
  have hi0 : vp_in (0 : Int32) 3082 := vp_in_nI (n := 0) (by decide) (by decide)
  have e0 : τ 1 0 0 = nI n := (hm 5 0 (by unfold vm; omega)).trans hn
  rw [c0, e0]
  refine ⟨hi0, fun v ev => ⟨hi0, hi0, fun s5 e5 => ?_⟩⟩
  subst ev
  rw [nI_1] at e5
  have hm5 : HM (setH h 5 0 (nI (n + 1))) (s5 1 0) := by
    rw [e5, wr1]
    exact HM_set (k := 5) (j := 0) hm (by unfold vm; omega)
  have f5 : FM τ s5 := by
    rw [e5]
    exact FM_wr (by decide) (by decide)
  refine sSets (w := 0) hm5 h12 (by decide) (fun s6 hm6 f6 => sSets (w := 1) hm6 h12 (by decide) (fun s7 hm7 f7 => sSets (w := 2) hm7 h12 (by decide) (fun s8 hm8 f8 => sSets (w := 3) hm8 h12 (by decide) (fun s9 hm9 f9 => ?_))))
  refine hp s9 (fun k j hv => (hm9 k j hv).trans ?_) ((((f5.tr f6).tr f7).tr f8).tr f9)
  have k12 : k ≠ 12 := by unfold vm at hv; omega
  by_cases e : k = 5 ∧ j = 0
  · obtain ⟨rfl, rfl⟩ := e
    simp [buildH, setH]
  · simp [buildH, setH, e, k12]
theorem sim0 (σ τ : St) (a0 a1 a2 a3 : Int32) (hR : Rel σ τ) : w_X9_roof (fun r σ1 => w_X10_roof (fun r2 τ1 => r = r2 ∧ Rel σ1 τ1) τ a0 a1 a2 a3) σ a0 a1 a2 a3 := by
  rcases wv_10 a0 0 5 with ⟨e0, -⟩ | ⟨e0, q0⟩
  · exact gKC0 e0 (gM0 e0 ⟨rfl, hR⟩)
  rcases wv_10 a1 1 9 with ⟨e1, -⟩ | ⟨e1, q1⟩
  · exact gKC1 e0 (gC0 e1 (gM1 e0 (gM0 e1 ⟨rfl, hR⟩)))
  rcases wv_10 a2 0 99 with ⟨e2, -⟩ | ⟨e2, q2⟩
  · exact gKC1 e0 (gC1 e1 (gC0 e2 (gM1 e0 (gM1 e1 (gM0 e2 ⟨rfl, hR⟩)))))
  rcases wv_10 a3 0 11 with ⟨e3, -⟩ | ⟨e3, q3⟩
  · exact gKC1 e0 (gC1 e1 (gC1 e2 (gHC0' e3 (gM1 e0 (gM1 e1 (gM1 e2 (gHM0' e3 ⟨rfl, hR⟩)))))))
  obtain ⟨k, _, hk, rfl⟩ := wv_n (a := 0) (b := 5) (by decide) (by decide) q0
  obtain ⟨z, hz1, hz, rfl⟩ := wv_n (a := 1) (b := 9) (by decide) (by decide) q1
  obtain ⟨l, _, hl, rfl⟩ := wv_n (a := 0) (b := 99) (by decide) (by decide) q2
  obtain ⟨a, _, ha, rfl⟩ := wv_n (a := 0) (b := 11) (by decide) (by decide) q3
  obtain ⟨n, m, T, hH, hT, hRR⟩ := id hR
  obtain ⟨hm, hi, h55, hm9, h57, hT14⟩ := id hH
  have hn := hi.1.1.1
  have e50 : σ 5 0 0 = nI n := hi.1.1.2.1
  have e10 : τ 1 0 0 = nI n := mN hm hi.1.1
  have ha12 : a < 12 := by omega
  have c0 : (0 : Int32).toNatClampNeg = 0 := by decide
  have hi0 : vp_in (0 : Int32) 3082 := vp_in_nI (n := 0) (by decide) (by decide)
  refine gKC1 e0 (gC1 e1 (gC1 e2 (gHC1' e3 ?_)))
  rw [cl (show a < 2 ^ 31 by omega), e50]
  refine ⟨vp_in_nI ha12 (by decide), fun c => ⟨fun c2 => ?_, fun c2 => ?_⟩, fun c => ?_⟩
  · have hn12 : n < 12 := (nI_ltI (b := 12) (by omega) (by decide)).1 c2
    refine sX1_build e50 hn12 ha12 (fun σ' e f => gM1 e0 (gM1 e1 (gM1 e2 (gHM1' e3 (sX10_over hm hi.1 ha12 ?_)))))
    have ev : ovV (hlC σ 0) a = -1 := if_pos c
    rw [ev, c0, e10]
    refine ⟨fun _ => ⟨hi0, fun _ => sX10_comes hm hi.1.1.2.1 hn12 (fun τ' hm' f' => ⟨hi0, ?_, ?_⟩), fun c3 => ?_⟩, fun c3 => absurd (by decide) c3⟩
    · have g : τ' 1 0 0 = nI (n + 1) := (hm' 5 0 (by unfold vm; omega)).trans (by simp [buildH, setH])
      rw [g, nI_pred]
    · refine Rel_mk hH hT hRR (EC_FR (by decide) f) (EM_FM f') (n' := n + 1) (m' := m) ?_
      rw [e]
      exact ⟨hm', HI_build hi hn12 (by omega) hz1 hz hl ha12 c, by simpa [buildH, setH] using h55, hm9, by simpa [buildH, setH] using h57, hT14⟩
    · exact absurd ((nI_eq (b := 12) (by omega) (by decide)).1 c3) (by omega)
  · have hn12 : n = 12 := by
      have : ¬ n < 12 := fun q => c2 (nI_lt (b := 12) q (by decide))
      omega
    refine gM1 e0 (gM1 e1 (gM1 e2 (gHM1' e3 (sX10_over hm hi.1 ha12 ?_))))
    have ev : ovV (hlC σ 0) a = -1 := if_pos c
    rw [ev, c0, e10, hn12]
    exact ⟨fun _ => ⟨hi0, fun c3 => absurd rfl c3, fun _ => ⟨rfl, hR⟩⟩, fun c3 => absurd (by decide) c3⟩
  · refine gM1 e0 (gM1 e1 (gM1 e2 (gHM1' e3 (sX10_over hm hi.1 ha12 ?_))))
    have ev : ovV (hlC σ 0) a = σ 12 0 a := if_neg c
    obtain ⟨k, hk, g, _⟩ := (hi.1.2.2 a ha12).resolve_left c
    rw [ev, show σ 12 0 a = nI k from g]
    exact ⟨fun c3 => absurd c3 (nI_pos (by omega)), fun _ => ⟨rfl, hR⟩⟩
theorem sim1 (σ τ : St) (a0 a1 : Int32) (hR : Rel σ τ) : w_X9_told (fun r σ1 => w_X10_told (fun r2 τ1 => r = r2 ∧ Rel σ1 τ1) τ a0 a1) σ a0 a1 := by
  obtain ⟨n, hn, en, en2⟩ := Rel_n hR
  rcases wv_10 a0 0 (nI n - 1) with ⟨e0, -⟩ | ⟨e0, q0⟩
  · exact gRC0' en e0 (gRM0 en2 e0 ⟨rfl, hR⟩)
  obtain ⟨r, hr, rfl⟩ := wv_r (by omega) q0
  have hv : vp_in (nI r) 12 := vp_in_nI (by omega) (by decide)
  have hr12 : r < 12 := by omega
  obtain ⟨n', m, T, ⟨hm, -⟩, -, -⟩ := id hR
  refine gRC1' en e0 ?_
  rw [cl (show r < 2 ^ 31 by omega)]
  refine ⟨hv, fun v ev => ⟨hv, fun w ew => ?_⟩⟩
  subst ev
  subst ew
  rcases wv_01 a1 0 7 with ⟨e1, q1⟩ | ⟨e1, q1⟩
  · obtain ⟨b, _, hb, rfl⟩ := wv_n (a := 0) (b := 7) (by decide) (by decide) q1
    rcases (show b = 0 ∨ b = 1 ∨ b = 2 ∨ b = 3 ∨ b = 4 ∨ b = 5 ∨ b = 6 ∨ b = 7 by omega) with rfl | rfl | rfl | rfl | rfl | rfl | rfl | rfl
    · exact ⟨fun _ => gRM1 en2 e0 (gM1' e1 (⟨fun c => absurd c (by decide), fun _ => ⟨fun c => absurd c (by decide), fun _ => ⟨fun c => absurd c (by decide), fun _ => ⟨fun c => absurd c (by decide), fun _ => sOf0 hm hr12 ⟨rfl, hR⟩⟩⟩⟩⟩)), fun c => absurd rfl c⟩
    · exact ⟨fun c => absurd c (by decide), fun _ => ⟨fun _ => gRM1 en2 e0 (gM1' e1 (⟨fun c => absurd c (by decide), fun _ => ⟨fun c => absurd c (by decide), fun _ => ⟨fun c => absurd c (by decide), fun _ => ⟨fun c => absurd c (by decide), fun _ => sOf1 hm hr12 ⟨rfl, hR⟩⟩⟩⟩⟩)), fun c => absurd rfl c⟩⟩
    · exact ⟨fun c => absurd c (by decide), fun _ => ⟨fun c => absurd c (by decide), fun _ => ⟨fun _ => ⟨hv, gRM1 en2 e0 (gM1' e1 (⟨fun c => absurd c (by decide), fun _ => ⟨fun c => absurd c (by decide), fun _ => ⟨fun c => absurd c (by decide), fun _ => ⟨fun c => absurd c (by decide), fun _ => sOf2 hm hr12 ⟨rfl, hR⟩⟩⟩⟩⟩))⟩, fun c => absurd rfl c⟩⟩⟩
    · exact ⟨fun c => absurd c (by decide), fun _ => ⟨fun c => absurd c (by decide), fun _ => ⟨fun c => absurd c (by decide), fun _ => ⟨fun _ => ⟨hv, gRM1 en2 e0 (gM1' e1 (⟨fun c => absurd c (by decide), fun _ => ⟨fun c => absurd c (by decide), fun _ => ⟨fun c => absurd c (by decide), fun _ => ⟨fun c => absurd c (by decide), fun _ => sOf3 hm hr12 ⟨rfl, hR⟩⟩⟩⟩⟩))⟩, fun c => absurd rfl c⟩⟩⟩⟩
    · exact ⟨fun c => absurd c (by decide), fun _ => ⟨fun c => absurd c (by decide), fun _ => ⟨fun c => absurd c (by decide), fun _ => ⟨fun c => absurd c (by decide), fun _ => ⟨fun _ => sX2_weighs (gRM1 en2 e0 (gM1' e1 (⟨fun _ => sX10_weighs hm hr12 ⟨rfl, hR⟩, fun c => absurd rfl c⟩))), fun c => absurd rfl c⟩⟩⟩⟩⟩
    · exact ⟨fun c => absurd c (by decide), fun _ => ⟨fun c => absurd c (by decide), fun _ => ⟨fun c => absurd c (by decide), fun _ => ⟨fun c => absurd c (by decide), fun _ => ⟨fun c => absurd c (by decide), fun _ => ⟨fun _ => sX2_covers (gRM1 en2 e0 (gM1' e1 (⟨fun c => absurd c (by decide), fun _ => ⟨fun _ => sX10_covers hm hr12 ⟨rfl, hR⟩, fun c => absurd rfl c⟩⟩))), fun c => absurd rfl c⟩⟩⟩⟩⟩⟩
    · exact ⟨fun c => absurd c (by decide), fun _ => ⟨fun c => absurd c (by decide), fun _ => ⟨fun c => absurd c (by decide), fun _ => ⟨fun c => absurd c (by decide), fun _ => ⟨fun c => absurd c (by decide), fun _ => ⟨fun c => absurd c (by decide), fun _ => ⟨fun _ => ⟨hv, sX2_drips (gRM1 en2 e0 (gM1' e1 (⟨fun c => absurd c (by decide), fun _ => ⟨fun c => absurd c (by decide), fun _ => ⟨fun _ => sX10_drips hm hr12 ⟨rfl, hR⟩, fun c => absurd rfl c⟩⟩⟩)))⟩, fun c => absurd rfl c⟩⟩⟩⟩⟩⟩⟩
    · exact ⟨fun c => absurd c (by decide), fun _ => ⟨fun c => absurd c (by decide), fun _ => ⟨fun c => absurd c (by decide), fun _ => ⟨fun c => absurd c (by decide), fun _ => ⟨fun c => absurd c (by decide), fun _ => ⟨fun c => absurd c (by decide), fun _ => ⟨fun c => absurd c (by decide), fun _ => ⟨fun _ => sX2_worth (gRM1 en2 e0 (gM1' e1 (⟨fun c => absurd c (by decide), fun _ => ⟨fun c => absurd c (by decide), fun _ => ⟨fun c => absurd c (by decide), fun _ => ⟨fun _ => sX10_worth hm hr12 ⟨rfl, hR⟩, fun c => absurd rfl c⟩⟩⟩⟩))), fun c => absurd rfl c⟩⟩⟩⟩⟩⟩⟩⟩
  · exact ⟨fun c => absurd c (fun c => absurd q1 (by rw [c]; decide)), fun _ => ⟨fun c => absurd c (fun c => absurd q1 (by rw [c]; decide)), fun _ => ⟨fun c => absurd c (fun c => absurd q1 (by rw [c]; decide)), fun _ => ⟨fun c => absurd c (fun c => absurd q1 (by rw [c]; decide)), fun _ => ⟨fun c => absurd c (fun c => absurd q1 (by rw [c]; decide)), fun _ => ⟨fun c => absurd c (fun c => absurd q1 (by rw [c]; decide)), fun _ => ⟨fun c => absurd c (fun c => absurd q1 (by rw [c]; decide)), fun _ => ⟨fun c => absurd c (fun c => absurd q1 (by rw [c]; decide)), fun _ => gRM1 en2 e0 (gM0' e1 ⟨rfl, hR⟩)⟩⟩⟩⟩⟩⟩⟩⟩
def one (q p : Nat) : Bool := q == p || p == 0 || (p == 1 && q == 3) || (p == 2 && q == 4)
theorem sX2_isOne {post : Int32 → St → Prop} {σ : St} {q p : Nat} (hq : q < 6) (hp : p < 6) (h : post (if one q p = true then 1 else 0) σ) : w_X2_isOne post σ (nI q) (nI p) := by
  refine ⟨4, ?_⟩
  show b_X2_isOne_4 (b_X2_isOne_4 (b_X2_isOne_4 (b_X2_isOne_4 (fun _ _ _ _ => False) post) post) post) post σ (nI p) (nI q) 0
  rcases (show q = 0 ∨ q = 1 ∨ q = 2 ∨ q = 3 ∨ q = 4 ∨ q = 5 by omega) with rfl | rfl | rfl | rfl | rfl | rfl <;> rcases (show p = 0 ∨ p = 1 ∨ p = 2 ∨ p = 3 ∨ p = 4 ∨ p = 5 by omega) with rfl | rfl | rfl | rfl | rfl | rfl <;> simpa [b_X2_isOne_4, w_X2_above, one, show nI 0 = 0 from rfl, show nI 1 = 1 from rfl, show nI 2 = 2 from rfl, show nI 3 = 3 from rfl, show nI 4 = 4 from rfl, show nI 5 = 5 from rfl] using h
theorem sX10_isOf {post : Int32 → St → Prop} {σ : St} {q p : Nat} (hq : q < 6) (hp : p < 6) (h : post (if one q p = true then 1 else 0) σ) : w_X10_isOf post σ (nI q) (nI p) := by
  unfold w_X10_isOf b_X10_isOf_19
  rcases (show q = 0 ∨ q = 1 ∨ q = 2 ∨ q = 3 ∨ q = 4 ∨ q = 5 by omega) with rfl | rfl | rfl | rfl | rfl | rfl <;> rcases (show p = 0 ∨ p = 1 ∨ p = 2 ∨ p = 3 ∨ p = 4 ∨ p = 5 by omega) with rfl | rfl | rfl | rfl | rfl | rfl <;> simpa [one, show nI 0 = 0 from rfl, show nI 1 = 1 from rfl, show nI 2 = 2 from rfl, show nI 3 = 3 from rfl, show nI 4 = 4 from rfl, show nI 5 = 5 from rfl] using h
theorem sim2 (σ τ : St) (a0 a1 : Int32) (hR : Rel σ τ) : w_X9_as (fun r σ1 => w_X10_as (fun r2 τ1 => r = r2 ∧ Rel σ1 τ1) τ a0 a1) σ a0 a1 := by
  obtain ⟨n', m, T, ⟨hm, hi, -⟩, -, -⟩ := id hR
  have en : σ 5 0 0 = nI n' := hi.1.1.2.1
  have en2 : τ 1 0 0 = nI n' := mN hm hi.1.1
  have hn := hi.1.1.1
  rcases wv_10 a0 0 (nI n' - 1) with ⟨e0, -⟩ | ⟨e0, q0⟩
  · exact gRC0 en e0 (gRM0 en2 e0 ⟨rfl, hR⟩)
  obtain ⟨r, hr, rfl⟩ := wv_r (by omega) q0
  rcases wv_10 a1 0 5 with ⟨e1, -⟩ | ⟨e1, q1⟩
  · exact gRC1 en e0 (gC0' e1 (gRM1 en2 e0 (gM0' e1 ⟨rfl, hR⟩)))
  obtain ⟨b, _, hb, rfl⟩ := wv_n (a := 0) (b := 5) (by decide) (by decide) q1
  have hv : vp_in (nI r) 12 := vp_in_nI (by omega) (by decide)
  have hr12 : r < 12 := by omega
  obtain ⟨⟨q, hq, eq⟩, -, -⟩ := hi.2.1 r hr
  have eq2 : σ 6 0 r = nI q := eq
  refine gRC1 en e0 (gC1' e1 ?_)
  rw [cl (show r < 2 ^ 31 by omega), eq2]
  refine ⟨hv, sX2_isOne hq (by omega) ?_⟩
  by_cases c : one q b = true
  · rw [if_pos c]
    refine ⟨fun c => absurd c (by decide), fun _ => ⟨hv, gRM1 en2 e0 (gM1' e1 (sOf0 hm hr12 ?_))⟩⟩
    rw [eq]
    refine sX10_isOf hq (by omega) ?_
    rw [if_pos c]
    exact ⟨fun c => absurd c (by decide), fun _ => sOf3 hm hr12 ⟨rfl, hR⟩⟩
  · rw [if_neg c]
    refine ⟨fun _ => gRM1 en2 e0 (gM1' e1 (sOf0 hm hr12 ?_)), fun c => absurd rfl c⟩
    rw [eq]
    refine sX10_isOf hq (by omega) ?_
    rw [if_neg c]
    exact ⟨fun _ => ⟨rfl, hR⟩, fun c => absurd rfl c⟩
theorem sim3 (σ τ : St) (a0 a1 : Int32) (hR : Rel σ τ) : w_X9_turns (fun r σ1 => w_X10_turns (fun r2 τ1 => r = r2 ∧ Rel σ1 τ1) τ a0 a1) σ a0 a1 := by
  obtain ⟨n, hn, en, en2⟩ := Rel_n hR
  rcases wv_10 a0 0 (nI n - 1) with ⟨e0, -⟩ | ⟨e0, q0⟩
  · exact gRC0 en e0 (gRM0 en2 e0 ⟨rfl, hR⟩)
  obtain ⟨r, hr, rfl⟩ := wv_r (by omega) q0
  rcases wv_10 a1 0 5 with ⟨e1, -⟩ | ⟨e1, q1⟩
  · exact gRC1 en e0 (gC0' e1 (gRM1 en2 e0 (gM0 e1 ⟨rfl, hR⟩)))
  obtain ⟨b, _, hb, rfl⟩ := wv_n (a := 0) (b := 5) (by decide) (by decide) q1
  have hv : vp_in (nI r) 12 := vp_in_nI (by omega) (by decide)
  refine gRC1 en e0 (gC1' e1 ?_)
  rw [cl (show r < 2 ^ 31 by omega)]
  refine ⟨hv, fun v ev => ⟨hv, fun s es => gRM1 en2 e0 (gM1 e1 ?_)⟩⟩
  subst ev
  subst es
  rw [mof0]
  have hvm : vm 6 r := by unfold vm; omega
  have g := Rel_cell (v := nI b) hR hvm (by decide) (by omega) (fun g n hi => HR_kind hi.2 (by omega))
  have g2 := Rel_val hR hvm
  rw [mi6] at g g2
  exact sX10_changes (by omega) ⟨g2, g⟩
theorem sim4 (σ τ : St) (a0 a1 a2 : Int32) (hR : Rel σ τ) : w_X9_set (fun r σ1 => w_X10_set (fun r2 τ1 => r = r2 ∧ Rel σ1 τ1) τ a0 a1 a2) σ a0 a1 a2 := by
  obtain ⟨n, hn, en, en2⟩ := Rel_n hR
  rcases wv_10 a0 0 (nI n - 1) with ⟨e0, -⟩ | ⟨e0, q0⟩
  · exact gRC0' en e0 (gRM0 en2 e0 ⟨rfl, hR⟩)
  obtain ⟨r, hr, rfl⟩ := wv_r (by omega) q0
  have hv : vp_in (nI r) 12 := vp_in_nI (by omega) (by decide)
  refine gRC1' en e0 ?_
  rcases wv_10 a1 1 2 with ⟨e1, q1⟩ | ⟨e1, q1⟩
  · have h1 : ¬ a1 = 1 := fun c => absurd q1 (by rw [c]; decide)
    have h2 : ¬ a1 = 2 := fun c => absurd q1 (by rw [c]; decide)
    refine ⟨fun _ => ?_, fun c => absurd c h1⟩
    unfold b_X9_set_50
    exact ⟨fun _ => gRM1 en2 e0 (gM0 e1 ⟨rfl, hR⟩), fun c => absurd c h2⟩
  obtain ⟨b, hb1, hb, rfl⟩ := wv_n (a := 1) (b := 2) (by decide) (by decide) q1
  rcases (show b = 1 ∨ b = 2 by omega) with rfl | rfl
  · refine ⟨fun c => absurd rfl c, fun _ => ?_⟩
    rcases wv_01 a2 1 9 with ⟨e2, q2⟩ | ⟨e2, q2⟩
    · obtain ⟨d, hd1, hd, rfl⟩ := wv_n (a := 1) (b := 9) (by decide) (by decide) q2
      refine gC1 e2 ?_
      rw [cl (show r < 2 ^ 31 by omega)]
      refine ⟨hv, fun v ev => ⟨hv, fun s es => gRM1 en2 e0 (gM1 e1 ⟨fun c => absurd rfl c, fun _ => gM1 e2 ?_⟩)⟩⟩
      subst ev
      subst es
      unfold b_X10_set_55
      rw [mofx]
      have hvm : vm 7 r := by unfold vm; omega
      have g := Rel_cell (v := nI d) hR hvm (by decide) (by omega) (fun g n hi => HR_size hi.2 hd1 hd)
      have g2 := Rel_val hR hvm
      rw [mi7] at g g2
      exact sX10_changes (by omega) ⟨g2, g⟩
    · refine gC0 e2 ?_
      unfold b_X9_set_50
      exact ⟨fun _ => gRM1 en2 e0 (gM1 e1 ⟨fun c => absurd rfl c, fun _ => gM0 e2 ⟨rfl, hR⟩⟩), fun c => absurd c (by decide)⟩
  · refine ⟨fun _ => ?_, fun c => absurd c (by decide)⟩
    unfold b_X9_set_50
    refine ⟨fun c => absurd rfl c, fun _ => ?_⟩
    rcases wv_01 a2 0 99 with ⟨e2, q2⟩ | ⟨e2, q2⟩
    · obtain ⟨d, hd1, hd, rfl⟩ := wv_n (a := 0) (b := 99) (by decide) (by decide) q2
      refine gC1 e2 ?_
      rw [cl (show r < 2 ^ 31 by omega)]
      refine ⟨hv, fun v ev => ⟨hv, fun s es => gRM1 en2 e0 (gM1 e1 ⟨fun _ => gM1' e2 ?_, fun c => absurd c (by decide)⟩)⟩⟩
      subst ev
      subst es
      unfold b_X10_set_55
      rw [mofx]
      have hvm : vm 8 r := by unfold vm; omega
      have g := Rel_cell (v := nI d) hR hvm (by decide) (by omega) (fun g n hi => HR_leak hi.2 hd)
      have g2 := Rel_val hR hvm
      rw [mi8] at g g2
      exact sX10_changes (by omega) ⟨g2, g⟩
    · exact gC0 e2 (gRM1 en2 e0 (gM1 e1 ⟨fun _ => gM0' e2 ⟨rfl, hR⟩, fun c => absurd c (by decide)⟩))
theorem HM_put {h : Hl} {f : Nat → Int32} {r a : Nat} (hm : HM h f) (hr : r < 12) : HM (putH h r a) (upd f (10 + 4 * r + 3) (nI a)) := by
  have g := HM_set12 (j := a) (v := nI r) (HM_set (k := 9) (j := r) (v := nI a) (HM_set12 (j := (h 9 r).toNatClampNeg) (v := NON) hm) (by unfold vm; omega))
  rw [mi9] at g
  exact g
theorem sim5 (σ τ : St) (a0 a1 : Int32) (hR : Rel σ τ) : w_X9_moves (fun r σ1 => w_X10_moves (fun r2 τ1 => r = r2 ∧ Rel σ1 τ1) τ a0 a1) σ a0 a1 := by
  obtain ⟨n, m, T, hH, hT, hRR⟩ := id hR
  obtain ⟨hm, hi, h55, hm9, h57, hT14⟩ := id hH
  have en : σ 5 0 0 = nI n := hi.1.1.2.1
  have en2 : τ 1 0 0 = nI n := mN hm hi.1.1
  have hn := hi.1.1.1
  rcases wv_10 a0 0 (nI n - 1) with ⟨e0, -⟩ | ⟨e0, q0⟩
  · exact gRC0 en e0 (gRM0 en2 e0 ⟨rfl, hR⟩)
  obtain ⟨r, hr, rfl⟩ := wv_r (by omega) q0
  rcases wv_10 a1 0 11 with ⟨e1, -⟩ | ⟨e1, q1⟩
  · exact gRC1 en e0 (gHC0' e1 (gRM1 en2 e0 (gHM0' e1 ⟨rfl, hR⟩)))
  obtain ⟨a, _, ha, rfl⟩ := wv_n (a := 0) (b := 11) (by decide) (by decide) q1
  have ha12 : a < 12 := by omega
  have hr12 : r < 12 := by omega
  refine gRC1 en e0 (gHC1' e1 ?_)
  rw [cl (show r < 2 ^ 31 by omega), cl (show a < 2 ^ 31 by omega)]
  refine ⟨vp_in_nI ha12 (by decide), fun c => ⟨vp_in_nI hr12 (by decide), fun v ev => ?_⟩, fun c => gRM1 en2 e0 (gHM1' e1 (sX10_over hm hi.1 ha12 ?_))⟩
  · obtain ⟨b, hb, e9, _⟩ := hi.1.2.1 r hr
    refine sX1_put hr12 ha12 (by rw [show σ 9 0 r = nI b from e9]; exact vp_in_nI hb (by decide)) (fun σ' e f => gRM1 en2 e0 (gHM1' e1 (sX10_over hm hi.1 ha12 ?_)))
    have ev2 : ovV (hlC σ 0) a = -1 := if_pos c
    rw [ev2]
    refine ⟨fun c => absurd c (by decide), fun _ => ?_⟩
    rw [show (3 : Int32) = nI 3 from rfl, mofx]
    refine sX10_changes (by omega) ⟨?_, ?_⟩
    · rw [ev]
      have g := hm 9 r (by unfold vm; omega)
      rw [mi9] at g
      exact g.symm
    · refine Rel_mk hH hT hRR (EC_FR (by decide) f) (EM_FM (FM_wr (by omega) (by omega))) (n' := n) (m' := m) ?_
      rw [e, wr1]
      exact ⟨HM_put hm hr12, ⟨HO_put hi.1 hr ha12 c, HR_set (HR_set (HR_set hi.2 (by decide)) (by decide)) (by decide)⟩, by simpa [putH, setH] using h55, hm9, by simpa [putH, setH] using h57, hT14⟩
  · have ev : ovV (hlC σ 0) a = σ 12 0 a := if_neg c
    obtain ⟨k, hk, g, _⟩ := (hi.1.2.2 a ha12).resolve_left c
    rw [ev, show σ 12 0 a = nI k from g]
    exact ⟨fun _ => ⟨rfl, hR⟩, fun c3 => absurd (nI_pos' (by omega)) c3⟩
theorem mOrNone {post : Int32 → St → Prop} {τ : St} {x : Int32} (hx : x = NON ∨ ∃ k, k < 2 ^ 31 ∧ x = nI k) (h : post x τ) : w_X10_orNone post τ (if x = NON then -1 else x) := by
  unfold w_X10_orNone
  rcases hx with e | ⟨k, hk, e⟩
  · rw [if_pos e]
    rw [e] at h
    exact ⟨fun c => absurd c (by decide), fun _ => h⟩
  · rw [e, if_neg (nI_NON hk)]
    rw [e] at h
    exact ⟨fun _ => h, fun c => absurd (nI_pos' hk) c⟩
theorem HO_ov {h : Hl} {n a : Nat} (ho : HO h n) (ha : a < 12) : h 12 a = NON ∨ ∃ k, k < 2 ^ 31 ∧ h 12 a = nI k := by
  have hn := ho.1.1
  exact (ho.2.2 a ha).imp id (fun ⟨k, hk, g, _⟩ => ⟨k, by omega, g⟩)
theorem sim6 (σ τ : St) (a0 a1 : Int32) (hR : Rel σ τ) : w_X9_house (fun r σ1 => w_X10_house (fun r2 τ1 => r = r2 ∧ Rel σ1 τ1) τ a0 a1) σ a0 a1 := by
  obtain ⟨n, m, T, ⟨hm, hi, -⟩, -, -⟩ := id hR
  rcases wv_10 a0 0 11 with ⟨e0, -⟩ | ⟨e0, q0⟩
  · exact gHC0' e0 (gHM0 e0 ⟨rfl, hR⟩)
  obtain ⟨a, _, ha, rfl⟩ := wv_n (a := 0) (b := 11) (by decide) (by decide) q0
  have ha12 : a < 12 := by omega
  have hv : vp_in (nI a) 12 := vp_in_nI ha12 (by decide)
  refine gHC1' e0 ?_
  rw [cl (show a < 2 ^ 31 by omega)]
  rcases wv_10 a1 0 3 with ⟨e1, q1⟩ | ⟨e1, q1⟩
  · exact ⟨fun c => absurd c (fun c => absurd q1 (by rw [c]; decide)), fun _ => ⟨fun c => absurd c (fun c => absurd q1 (by rw [c]; decide)), fun _ => ⟨fun c => absurd c (fun c => absurd q1 (by rw [c]; decide)), fun _ => ⟨fun c => absurd c (fun c => absurd q1 (by rw [c]; decide)), fun _ => gHM1 e0 (gM0' e1 ⟨rfl, hR⟩)⟩⟩⟩⟩
  obtain ⟨b, _, hb, rfl⟩ := wv_n (a := 0) (b := 3) (by decide) (by decide) q1
  rcases (show b = 0 ∨ b = 1 ∨ b = 2 ∨ b = 3 by omega) with rfl | rfl | rfl | rfl
  · refine ⟨fun _ => ⟨hv, gHM1 e0 (gM1' e1 ⟨fun c => absurd rfl c, fun _ => ?_⟩)⟩, fun c => absurd rfl c⟩
    rw [show (58 : Int32) + nI a = nI (58 + a) from nI_add 58 a, cl (show 58 + a < 2 ^ 31 by omega), mPe hm ha12]
    exact ⟨vp_in_nI (by omega) (by decide), rfl, hR⟩
  · refine ⟨fun c => absurd c (by decide), fun _ => ⟨fun _ => ⟨hv, gHM1 e0 (gM1' e1 ⟨fun _ => ⟨fun c => absurd rfl c, fun _ => ?_⟩, fun c => absurd c (by decide)⟩)⟩, fun c => absurd rfl c⟩⟩
    rw [show (70 : Int32) + nI a = nI (70 + a) from nI_add 70 a, cl (show 70 + a < 2 ^ 31 by omega), mWa hm ha12]
    exact ⟨vp_in_nI (by omega) (by decide), rfl, hR⟩
  · exact ⟨fun c => absurd c (by decide), fun _ => ⟨fun c => absurd c (by decide), fun _ => ⟨fun _ => ⟨hv, gHM1 e0 (gM1' e1 ⟨fun _ => ⟨fun _ => ⟨fun c => absurd rfl c, fun _ => sX10_over hm hi.1 ha12 (mOrNone (HO_ov hi.1 ha12) ⟨rfl, hR⟩)⟩, fun c => absurd c (by decide)⟩, fun c => absurd c (by decide)⟩)⟩, fun c => absurd rfl c⟩⟩⟩
  · exact ⟨fun c => absurd c (by decide), fun _ => ⟨fun c => absurd c (by decide), fun _ => ⟨fun c => absurd c (by decide), fun _ => ⟨fun _ => sX1_dryIn ha12 (hi.1.1.2.2.2 a ha12) (gHM1 e0 (gM1' e1 ⟨fun _ => ⟨fun _ => ⟨fun _ => sX10_dryIn hm hi.1 ha12 ⟨rfl, hR⟩, fun c => absurd c (by decide)⟩, fun c => absurd c (by decide)⟩, fun c => absurd c (by decide)⟩)), fun c => absurd rfl c⟩⟩⟩⟩
theorem sim7 (σ τ : St) (a0 a1 a2 : Int32) (hR : Rel σ τ) : w_X9_lodges (fun r σ1 => w_X10_lodges (fun r2 τ1 => r = r2 ∧ Rel σ1 τ1) τ a0 a1 a2) σ a0 a1 a2 := by
  rcases wv_10 a0 0 11 with ⟨e0, -⟩ | ⟨e0, q0⟩
  · exact gHC0' e0 (gHM0 e0 ⟨rfl, hR⟩)
  obtain ⟨a, _, ha, rfl⟩ := wv_n (a := 0) (b := 11) (by decide) (by decide) q0
  have ha12 : a < 12 := by omega
  have hv : vp_in (nI a) 12 := vp_in_nI ha12 (by decide)
  refine gHC1' e0 ?_
  rcases wv_10 a1 0 1 with ⟨e1, q1⟩ | ⟨e1, q1⟩
  · have h1 : ¬ a1 = 0 := fun c => absurd q1 (by rw [c]; decide)
    have h2 : ¬ a1 = 1 := fun c => absurd q1 (by rw [c]; decide)
    refine ⟨fun _ => ?_, fun c => absurd c h1⟩
    unfold b_X9_lodges_48
    exact ⟨fun _ => gHM1 e0 (gM0 e1 ⟨rfl, hR⟩), fun c => absurd c h2⟩
  obtain ⟨b, hb1, hb, rfl⟩ := wv_n (a := 0) (b := 1) (by decide) (by decide) q1
  rcases (show b = 0 ∨ b = 1 by omega) with rfl | rfl
  · refine ⟨fun c => absurd rfl c, fun _ => ?_⟩
    rcases wv_01 a2 0 9 with ⟨e2, q2⟩ | ⟨e2, q2⟩
    · obtain ⟨d, hd1, hd, rfl⟩ := wv_n (a := 0) (b := 9) (by decide) (by decide) q2
      refine gC1 e2 ?_
      rw [cl (show a < 2 ^ 31 by omega)]
      refine ⟨hv, fun v ev => ⟨hv, fun s es => gHM1 e0 (gM1 e1 ⟨fun c => absurd rfl c, fun _ => ?_⟩)⟩⟩
      subst ev
      subst es
      unfold b_X10_lodges_33
      refine gM1' e2 ⟨fun c => absurd rfl c, fun _ => ?_⟩
      unfold b_X10_lodges_54
      rw [show (58 : Int32) + nI a = nI (58 + a) from nI_add 58 a]
      have hvm : vm 10 a := by unfold vm; omega
      have g := Rel_cell (v := nI d) hR hvm (by decide) (by omega) (fun g n hi => HR_people hi.2 hd)
      have g2 := Rel_val hR hvm
      rw [mi10] at g g2
      exact sX10_changes (by omega) ⟨g2, g⟩
    · refine gC0 e2 ?_
      unfold b_X9_lodges_48
      refine ⟨fun _ => gHM1 e0 (gM1 e1 ⟨fun c => absurd rfl c, fun _ => ?_⟩), fun c => absurd c (by decide)⟩
      unfold b_X10_lodges_33
      exact gM0' e2 ⟨rfl, hR⟩
  · refine ⟨fun _ => ?_, fun c => absurd c (by decide)⟩
    unfold b_X9_lodges_48
    refine ⟨fun c => absurd rfl c, fun _ => ?_⟩
    rcases wv_01 a2 0 100 with ⟨e2, q2⟩ | ⟨e2, q2⟩
    · refine gC1 e2 ?_
      rw [cl (show a < 2 ^ 31 by omega)]
      refine ⟨hv, fun v ev => ⟨hv, fun s es => gHM1 e0 (gM1 e1 ⟨fun _ => ?_, fun c => absurd c (by decide)⟩)⟩⟩
      subst ev
      subst es
      unfold b_X10_lodges_33
      refine gM1' e2 ⟨fun _ => ?_, fun c => absurd c (by decide)⟩
      unfold b_X10_lodges_54
      rw [show (70 : Int32) + nI a = nI (70 + a) from nI_add 70 a]
      have hvm : vm 11 a := by unfold vm; omega
      have g := Rel_cell (v := a2) hR hvm (by decide) (by omega) (fun g n hi => HR_set hi.2 (by decide))
      have g2 := Rel_val hR hvm
      rw [mi11] at g g2
      exact sX10_changes (by omega) ⟨g2, g⟩
    · refine gC0 e2 (gHM1 e0 (gM1 e1 ⟨fun _ => ?_, fun c => absurd c (by decide)⟩))
      unfold b_X10_lodges_33
      exact gM0' e2 ⟨rfl, hR⟩
theorem sim8 (σ τ : St) (a0 a1 : Int32) (hR : Rel σ τ) : w_X9_rule (fun r σ1 => w_X10_rule (fun r2 τ1 => r = r2 ∧ Rel σ1 τ1) τ a0 a1) σ a0 a1 := by
  rcases wv_10 a0 0 2 with ⟨e0, q0⟩ | ⟨e0, q0⟩
  · have h0 : ¬ a0 = 0 := fun c => absurd q0 (by rw [c]; decide)
    have h1 : ¬ a0 = 1 := fun c => absurd q0 (by rw [c]; decide)
    have h2 : ¬ a0 = 2 := fun c => absurd q0 (by rw [c]; decide)
    refine ⟨fun c => absurd c h0, fun _ => ⟨fun _ => ?_, fun c => absurd c h1⟩⟩
    unfold b_X9_rule_41
    exact ⟨fun _ => gM0 e0 ⟨rfl, hR⟩, fun c => absurd c h2⟩
  obtain ⟨b, _, hb, rfl⟩ := wv_n (a := 0) (b := 2) (by decide) (by decide) q0
  have key : ∀ t, t < 2 → wv (nI t) 0 2 = 1 → b_X9_rule_9 (fun r σ1 => w_X10_rule (fun r2 τ1 => r = r2 ∧ Rel σ1 τ1) τ (nI t) a1) σ (nI t) a1 := by
    intro t ht e0
    have n2t : ¬ nI t = 2 := fun c => absurd ((nI_eq (b := 2) (by omega) (by decide)).1 c) (by omega)
    unfold b_X9_rule_9
    rcases wv_01 a1 0 99 with ⟨e2, q2⟩ | ⟨e2, q2⟩
    · refine gC1 e2 ?_
      rw [cl (show t < 2 ^ 31 by omega)]
      have hv : vp_in (nI t) 2 := vp_in_nI ht (by decide)
      refine ⟨hv, fun v ev => ⟨hv, fun s es => gM1 e0 ⟨fun _ => ?_, fun c => absurd c n2t⟩⟩⟩
      subst ev
      subst es
      unfold b_X10_rule_29
      refine gM1 e2 ?_
      rw [show (3 : Int32) + nI t = nI (3 + t) from nI_add 3 t]
      have hvm : vm 13 t := by unfold vm; omega
      have g := Rel_cell (v := a1) hR hvm (by decide) (by omega) (fun g n hi => HR_set hi.2 (by decide))
      have g2 := Rel_val hR hvm
      rw [mi13] at g g2
      exact sX10_changes (by omega) ⟨g2, g⟩
    · refine gC0 e2 ?_
      unfold b_X9_rule_41
      refine ⟨fun _ => gM1 e0 ⟨fun _ => ?_, fun c => absurd c n2t⟩, fun c => absurd c n2t⟩
      unfold b_X10_rule_29
      exact gM0 e2 ⟨rfl, hR⟩
  rcases (show b = 0 ∨ b = 1 ∨ b = 2 by omega) with rfl | rfl | rfl
  · exact ⟨fun _ => key 0 (by decide) e0, fun c => absurd rfl c⟩
  · exact ⟨fun c => absurd c (by decide), fun _ => ⟨fun c => absurd rfl c, fun _ => key 1 (by decide) e0⟩⟩
  · refine ⟨fun c => absurd c (by decide), fun _ => ⟨fun _ => ?_, fun c => absurd c (by decide)⟩⟩
    unfold b_X9_rule_41
    refine ⟨fun c => absurd rfl c, fun _ => ?_⟩
    rcases wv_01 a1 0 100 with ⟨e2, q2⟩ | ⟨e2, q2⟩
    · refine gC1 e2 (fun v ev s es => gM1 e0 ⟨fun c => absurd rfl c, fun _ => ?_⟩)
      subst ev
      subst es
      unfold b_X10_rule_29
      refine gM1 e2 ?_
      have hvm : vm 5 1 := by unfold vm; omega
      have g := Rel_cell (v := a1) hR hvm (by decide) (by omega) (fun g n hi => HR_set hi.2 (by decide))
      have g2 := Rel_val hR hvm
      exact sX10_changes (i := 5) (by omega) ⟨g2, g⟩
    · refine gC0 e2 (gM1 e0 ⟨fun c => absurd rfl c, fun _ => ?_⟩)
      unfold b_X10_rule_29
      exact gM0 e2 ⟨rfl, hR⟩
theorem sim10 (σ τ : St) (a0 : Int32) (hR : Rel σ τ) : w_X9_seed (fun r σ1 => w_X10_seed (fun r2 τ1 => r = r2 ∧ Rel σ1 τ1) τ a0) σ a0 := by
  unfold w_X9_seed w_X10_seed
  intro v ev s es
  subst ev
  subst es
  have hvm : vm 5 6 := by unfold vm; omega
  have g := Rel_cell (v := a0) hR hvm (by decide) (by omega) (fun g n hi => HR_set hi.2 (by decide))
  exact sX10_changes (i := 9) (by omega) ⟨Rel_val hR hvm, g⟩
