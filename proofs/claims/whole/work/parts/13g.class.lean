/-! LAYER 2. The class: a hill that becomes like another one, a roof that is built, drawn. -/
def vc (k j : Nat) : Prop := (k = 5 ∧ j < 8) ∨ (6 ≤ k ∧ k ≤ 12 ∧ j < 12) ∨ (k = 13 ∧ j < 2)
def EqH (h h' : Hl) : Prop := ∀ k j, vc k j → h k j = h' k j
/-- all but one hill stays -/
def FH (σ σ' : St) (i : Nat) : Prop := ∀ k a j, (a ≠ i ∨ k < 5 ∨ 13 < k) → σ' k a j = σ k a j
theorem sX1_becomeLike {post : St → Prop} {σ : St} {i i2 : Nat} (h : ∀ σ' : St, EqH (hlC σ' i) (hlC σ i2) → FH σ σ' i → post σ') : w_X1_becomeLike post σ i i2 := by
  unfold w_X1_becomeLike
  refine ⟨by decide, fun s1 e1 => ⟨by decide, fun s2 e2 => ⟨by decide, fun s3 e3 => ⟨by decide, fun s4 e4 => ⟨by decide, fun s5 e5 => ⟨by decide, fun s6 e6 => ⟨by decide, fun s7 e7 => ⟨by decide, fun s8 e8 => ?_⟩⟩⟩⟩⟩⟩⟩⟩
  intro t1 d1 t2 d2 t3 d3 t4 d4 t5 d5 t6 d6 t7 d7 t8 d8
  have c0 : (0 : Int32).toNatClampNeg = 0 := by decide
  have c12 : (12 : Int32).toNatClampNeg = 12 := by decide
  have c2 : (2 : Int32).toNatClampNeg = 2 := by decide
  rw [c0, c12] at e1 e2 e3 e4 e5 e6 e7
  rw [c0, c2] at e8
  refine h _ ?_ ?_
  · intro k j hv
    unfold vc at hv
    simp only [hlC]
    rcases (show (k = 5 ∧ (j = 0 ∨ j = 1 ∨ j = 2 ∨ j = 3 ∨ j = 4 ∨ j = 5 ∨ j = 6 ∨ j = 7)) ∨ (k = 6 ∧ j < 12) ∨ (k = 7 ∧ j < 12) ∨ (k = 8 ∧ j < 12) ∨ (k = 9 ∧ j < 12) ∨ (k = 10 ∧ j < 12) ∨ (k = 11 ∧ j < 12) ∨ (k = 12 ∧ j < 12) ∨ (k = 13 ∧ j < 2) by omega) with ⟨rfl, hj⟩ | ⟨rfl, hj⟩ | ⟨rfl, hj⟩ | ⟨rfl, hj⟩ | ⟨rfl, hj⟩ | ⟨rfl, hj⟩ | ⟨rfl, hj⟩ | ⟨rfl, hj⟩ | ⟨rfl, hj⟩
    · by_cases hi : i2 = i
      · subst hi
        rcases hj with rfl | rfl | rfl | rfl | rfl | rfl | rfl | rfl <;> simp [d8, d7, d6, d5, d4, d3, d2, d1, e8, e7, e6, e5, e4, e3, e2, e1, wr, wrR]
      · rcases hj with rfl | rfl | rfl | rfl | rfl | rfl | rfl | rfl <;> simp [d8, d7, d6, d5, d4, d3, d2, d1, e8, e7, e6, e5, e4, e3, e2, e1, wr, wrR, hi]
    all_goals simp [d8, d7, d6, d5, d4, d3, d2, d1, e8, e7, e6, e5, e4, e3, e2, e1, wr, wrR, va_cpy, hj]
  · intro k a j hv
    have x : ∀ q : Nat, 5 ≤ q → q ≤ 13 → ¬ (k = q ∧ a = i) := fun q h1 h2 h3 => by omega
    have x2 : ∀ q : Nat, ¬ (k = 5 ∧ a = i ∧ j = q) := fun q h3 => by omega
    simp [d8, d7, d6, d5, d4, d3, d2, d1, e8, e7, e6, e5, e4, e3, e2, e1, wr, wrR, x, x2]
def buildH (h : Hl) (n : Nat) (k z l : Int32) (a : Nat) : Hl := setH (setH (setH (setH (setH (setH h 6 n k) 7 n z) 8 n l) 9 n (nI a)) 12 a (nI n)) 5 0 (nI (n + 1))
theorem sX1_build {post : Int32 → St → Prop} {σ : St} {i n a : Nat} {k z l : Int32} (hn : σ 5 i 0 = nI n) (h12 : n < 12) (ha : a < 12) (h : ∀ σ' : St, hlC σ' i = buildH (hlC σ i) n k z l a → FR σ σ' i → post (nI n) σ') : w_X1_build post σ i k z l (nI a) := by
  unfold w_X1_build
  intro v ev
  rw [hn] at ev
  subst ev
  have hi : vp_in (nI n) 12 := vp_in_nI h12 (by decide)
  rw [cl (show n < 2 ^ 31 by omega), cl (show a < 2 ^ 31 by omega)]
  refine ⟨hi, fun s1 e1 => ⟨hi, fun s2 e2 => ⟨hi, fun s3 e3 => ⟨hi, fun s4 e4 => ⟨vp_in_nI ha (by decide), fun s5 e5 s6 e6 => ?_⟩⟩⟩⟩⟩
  have h0 : s5 5 i 0 = nI n := by simp [e5, e4, e3, e2, e1, wr, hn]
  rw [h0, nI_1] at e6
  subst e6
  subst e5
  subst e4
  subst e3
  subst e2
  subst e1
  refine h _ ?_ ?_
  · rw [hl_wr (by decide), hl_wr (by decide), hl_wr (by decide), hl_wr (by decide), hl_wr (by decide), hl_wr (by decide)]
    rfl
  · exact ((((((FR_wr (by decide) (by decide) (by omega)).tr (FR_wr (by decide) (by decide) (by omega))).tr (FR_wr (by decide) (by decide) (by omega))).tr (FR_wr (by decide) (by decide) (by omega))).tr (FR_wr (by decide) (by decide) (by omega))).tr (FR_wr (by decide) (by decide) (by omega)))
/-- from a house on, round, the first one without a roof -/
def seekH (h : Hl) : Nat → Nat → Nat
  | 0, a => a
  | m + 1, a => if h 12 a = NON then a else seekH h m ((a + 1) % 12)
theorem seekH_lt (h : Hl) : ∀ (m a : Nat), a < 12 → seekH h m a < 12 := by
  intro m
  induction m with
  | zero => intro a ha; exact ha
  | succ m ih =>
    intro a ha
    unfold seekH
    split
    · exact ha
    · exact ih _ (by omega)
theorem of32 (x : Int32) : ∃ n, n < 2 ^ 32 ∧ x = nI n := by
  refine ⟨x.toBitVec.toNat, x.toBitVec.isLt, ?_⟩
  apply Int32.toBitVec_inj.1
  show x.toBitVec = BitVec.ofNat 32 x.toBitVec.toNat
  simp
theorem zN_n (z : Int32) : ∃ q : Nat, q < 2 ^ 24 ∧ jushr (zN z) 8 = nI q := by
  obtain ⟨n, hn, e⟩ := of32 (zN z)
  refine ⟨n / 2 ^ 8, by omega, ?_⟩
  rw [e]
  exact pk_ushrN hn 8 8 (by decide)
theorem draw_mod (h : Hl) {d : Nat} (h0 : 0 < d) (hd : d < 2 ^ 31) : ∃ q : Nat, q < d ∧ jrem (drawV h) (nI d) = nI q := by
  obtain ⟨q, hq, e⟩ := zN_n (h 5 6)
  unfold drawV
  rw [e]
  exact ⟨q % d, Nat.mod_lt _ h0, jrem_n (by omega) h0 hd⟩
def houseD (h : Hl) : Nat := (jrem (drawV h) 12).toNatClampNeg
theorem houseD_n (h : Hl) : houseD h < 12 ∧ jrem (drawV h) 12 = nI (houseD h) := by
  obtain ⟨q, hq, e⟩ := draw_mod h (d := 12) (by decide) (by decide)
  have e : jrem (drawV h) 12 = nI q := e
  unfold houseD
  rw [e, cl (by omega)]
  exact ⟨hq, rfl⟩
def d4 (h : Hl) : Hl := drawH (drawH (drawH (drawH h)))
def drawRoofH (h : Hl) (n : Nat) : Hl := buildH (d4 h) n (jrem (drawV h) 6) (1 + jrem (drawV (drawH h)) 9) (jrem (drawV (drawH (drawH h))) 50) (seekH (d4 h) 12 (houseD (drawH (drawH (drawH h)))))
theorem sX1_drawRoof {post : St → Prop} {σ : St} {i n : Nat} (hn : σ 5 i 0 = nI n) (h12 : n < 12) (h : ∀ σ' : St, hlC σ' i = drawRoofH (hlC σ i) n → FR σ σ' i → post σ') : w_X1_drawRoof post σ i := by
  unfold w_X1_drawRoof
  refine sX1_draw (fun s1 e1 f1 => ⟨by decide, fun v1 u1 => sX1_draw (fun s2 e2 f2 => ⟨by decide, fun v2 u2 v3 u3 => sX1_draw (fun s3 e3 f3 => ⟨by decide, fun v4 u4 => sX1_draw (fun s4 e4 f4 => ⟨by decide, fun v5 u5 => ⟨13, ?_⟩⟩)⟩)⟩)⟩)
  rw [e1] at u2 e2
  rw [e2] at u4 e3
  rw [e3] at u5 e4
  obtain ⟨hq, eq⟩ := houseD_n (drawH (drawH (drawH (hlC σ i))))
  rw [eq] at u5
  have hn4 : s4 5 i 0 = nI n := by
    have g : hlC s4 i 5 0 = d4 (hlC σ i) 5 0 := by rw [e4]; rfl
    have g2 : d4 (hlC σ i) 5 0 = hlC σ i 5 0 := by simp [d4, drawH, setH]
    exact (g.trans g2).trans hn
  have f : FR σ s4 i := ((f1.tr f2).tr f3).tr f4
  subst u3
  subst u1
  subst u2
  subst u4
  subst u5
  suffices H : ∀ m k a, k + m = 12 → a < 12 → seekH (d4 (hlC σ i)) m a = seekH (d4 (hlC σ i)) 12 (houseD (drawH (drawH (drawH (hlC σ i))))) → l_X1_drawRoof_38 post (m + 1) s4 i (jrem (drawV (hlC σ i)) 6) (1 + jrem (drawV (drawH (hlC σ i))) 9) (jrem (drawV (drawH (drawH (hlC σ i)))) 50) (nI a) (nI k) by
    exact H 12 0 _ (by omega) hq rfl
  have fin : ∀ a, a < 12 → a = seekH (d4 (hlC σ i)) 12 (houseD (drawH (drawH (drawH (hlC σ i))))) → b_X1_drawRoof_72 post s4 i (jrem (drawV (hlC σ i)) 6) (1 + jrem (drawV (drawH (hlC σ i))) 9) (jrem (drawV (drawH (drawH (hlC σ i)))) 50) (nI a) := by
    intro a ha ea
    unfold b_X1_drawRoof_72
    refine sX1_build hn4 h12 ha (fun s5 e5 f5 => h s5 ?_ (f.tr f5))
    rw [e5, e4, ea]
    rfl
  intro m
  induction m with
  | zero =>
    intro k a hk ha hs
    obtain rfl : k = 12 := by omega
    show b_X1_drawRoof_38 _ post s4 i _ _ _ _ _
    unfold b_X1_drawRoof_38
    exact ⟨fun _ => fin a ha hs, fun c => absurd (show (12 : Int32) ≤ nI 12 by decide) c⟩
  | succ m ih =>
    intro k a hk ha hs
    show b_X1_drawRoof_38 (l_X1_drawRoof_38 post (m + 1)) post s4 i _ _ _ _ _
    unfold b_X1_drawRoof_38
    rw [seekH] at hs
    have e12 : s4 12 i a = d4 (hlC σ i) 12 a := by
      have g : hlC s4 i 12 a = d4 (hlC σ i) 12 a := by rw [e4]; rfl
      exact g
    rw [cl (show a < 2 ^ 31 by omega), e12]
    refine ⟨fun c => absurd (show nI 12 ≤ nI k from c) (nI_ge (by omega) (by omega)), fun _ => ⟨vp_in_nI ha (by decide), fun c => ?_, fun c => ⟨by decide, fun v ev v2 ev2 => ?_⟩⟩⟩
    · rw [if_pos c] at hs
      exact fin a ha hs
    · rw [if_neg c] at hs
      subst ev
      subst ev2
      rw [nI_1, nI_1, show jrem (nI (a + 1)) 12 = nI ((a + 1) % 12) from jrem_n (by omega) (by decide) (by decide)]
      exact ih (k + 1) _ (by omega) (by omega) hs
