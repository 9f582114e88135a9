/-! LAYER 2. The model's words and signs. -/
def nmF (by' : Nat → Nat) (s : Nat) : Nat → Nat
  | 0 => 0
  | k + 1 => 10 * nmF by' s k + (by' (s + k) - 48)
theorem nmF_lt {by' : Nat → Nat} {s : Nat} : ∀ k, k ≤ 4 → (∀ j, j < k → srt (by' (s + j)) = 2) → nmF by' s k < 10 ^ k := by
  intro k
  induction k with
  | zero => intro _ _; exact Nat.one_pos
  | succ k ih =>
    intro hk h
    have g := ih (by omega) (fun j hj => h j (by omega))
    have g2 := h k (by omega)
    unfold nmF
    have : by' (s + k) ≤ 57 := by
      unfold srt at g2
      split at g2
      · omega
      · split at g2 <;> omega
    rw [Nat.pow_succ]
    omega
def TPm (τ : St) (by' : Nat → Nat) (Lb : Nat) : Prop := Lb ≤ 96 ∧ τ 0 0 2 = nI Lb ∧ ∀ j, j < Lb → by' j < 256 ∧ τ 15 0 j = nI (by' j)
def MFr (τ0 τ : St) : Prop := ∀ k a j, ¬ (k = 0 ∧ a = 0 ∧ 3 ≤ j ∧ j ≤ 7) → τ k a j = τ0 k a j
theorem MFr_wr {τ0 τ : St} {j : Nat} {v : Int32} (h : MFr τ0 τ) (h1 : 3 ≤ j) (h2 : j ≤ 7) : MFr τ0 (wr τ 0 0 j v) := fun k a i hc => by
  simp only [wr]
  rw [if_neg (by omega)]
  exact h k a i hc
theorem TPm_fr {τ0 τ : St} {by' : Nat → Nat} {Lb : Nat} (h : TPm τ0 by' Lb) (f : MFr τ0 τ) : TPm τ by' Lb := ⟨h.1, (f 0 0 2 (by omega)).trans h.2.1, fun j hj => ⟨(h.2.2 j hj).1, (f 15 0 j (by omega)).trans (h.2.2 j hj).2⟩⟩
theorem mLet {post : Int32 → St → Prop} {τ : St} {by' : Nat → Nat} {Lb x : Nat} (hT : TPm τ by' Lb) (hx : x ≤ Lb) (h : post (if x < Lb ∧ srt (by' x) = 1 then 1 else 0) τ) : w_X10_isLetter post τ (nI x) := by
  obtain ⟨t1, t2, t3⟩ := hT
  unfold w_X10_isLetter
  rw [t2, cl (show x < 2 ^ 31 by omega)]
  refine ⟨fun g => ?_, fun g => ?_⟩
  · have := (nI_leI (by omega) (by omega)).1 g
    rw [if_neg (by omega)] at h
    exact h
  · have lt : x < Lb := Nat.lt_of_not_le (fun y => g (nI_le y (by omega)))
    obtain ⟨b1, b2⟩ := t3 x lt
    rw [b2]
    refine ⟨vp_in_nI (by omega) (by decide), ?_⟩
    have l1 : nI (by' x) < (97 : Int32) ↔ by' x < 97 := nI_ltI (b := 97) (by omega) (by decide)
    have l2 : (122 : Int32) < nI (by' x) ↔ 122 < by' x := nI_ltI (a := 122) (by decide) (by omega)
    rcases wv_10 (nI (by' x)) 97 122 with ⟨e0, q0⟩ | ⟨e0, q0⟩
    · refine gM0 e0 ?_
      rw [l1, l2] at q0
      rw [if_neg (fun y => by
        have y2 := y.2
        unfold srt at y2
        split at y2
        · omega
        · split at y2 <;> omega)] at h
      exact h
    · refine gM1 e0 ?_
      rw [l1, l2] at q0
      rw [if_pos ⟨lt, by unfold srt; rw [if_pos (by omega)]⟩] at h
      exact h
theorem mDig {post : Int32 → St → Prop} {τ : St} {by' : Nat → Nat} {Lb x : Nat} (hT : TPm τ by' Lb) (hx : x ≤ Lb) (h : post (if x < Lb ∧ srt (by' x) = 2 then 1 else 0) τ) : w_X10_isDigit post τ (nI x) := by
  obtain ⟨t1, t2, t3⟩ := hT
  unfold w_X10_isDigit
  rw [t2, cl (show x < 2 ^ 31 by omega)]
  refine ⟨fun g => ?_, fun g => ?_⟩
  · have := (nI_leI (by omega) (by omega)).1 g
    rw [if_neg (by omega)] at h
    exact h
  · have lt : x < Lb := Nat.lt_of_not_le (fun y => g (nI_le y (by omega)))
    obtain ⟨b1, b2⟩ := t3 x lt
    rw [b2]
    refine ⟨vp_in_nI (by omega) (by decide), ?_⟩
    have l1 : nI (by' x) < (48 : Int32) ↔ by' x < 48 := nI_ltI (b := 48) (by omega) (by decide)
    have l2 : (57 : Int32) < nI (by' x) ↔ 57 < by' x := nI_ltI (a := 57) (by decide) (by omega)
    rcases wv_10 (nI (by' x)) 48 57 with ⟨e0, q0⟩ | ⟨e0, q0⟩
    · refine gM0 e0 ?_
      rw [l1, l2] at q0
      rw [if_neg (fun y => by
        have y2 := y.2
        unfold srt at y2
        split at y2
        · omega
        · split at y2 <;> omega)] at h
      exact h
    · refine gM1 e0 ?_
      rw [l1, l2] at q0
      rw [if_pos ⟨lt, by unfold srt; rw [if_neg (by omega), if_pos (by omega)]⟩] at h
      exact h
def MTok (τ0 τ : St) (q s e : Nat) : Prop := τ 0 0 5 = nI q ∧ τ 0 0 3 = nI s ∧ τ 0 0 4 = nI e ∧ MFr τ0 τ
def TKv (by' : Nat → Nat) (τ : St) (q s e : Nat) : Prop := (q = 3 → τ 0 0 7 = nI (by' s)) ∧ (q = 1 → τ 0 0 7 = nI (if e - s = 1 then by' s else 0)) ∧ (q = 2 → τ 0 0 6 = nI (nmF by' s (e - s)))
theorem uM_n34 (post : St → Prop) (q : Nat) : l_X10_nextToken_34 post (q + 1) = b_X10_nextToken_34 (l_X10_nextToken_34 post q) post := rfl
theorem uM_n128 (post : St → Prop) (q : Nat) : l_X10_nextToken_128 post (q + 1) = b_X10_nextToken_128 (l_X10_nextToken_128 post q) post := rfl
theorem uM_n214 (post : St → Prop) (q : Nat) : l_X10_nextToken_214 post (q + 1) = b_X10_nextToken_214 (l_X10_nextToken_214 post q) post := rfl
theorem mStep {post : St → Prop} {τ : St} {by' : Nat → Nat} {Lb q e : Nat} (hT : TPm τ by' Lb) (hq : q ≤ 4) (e0 : τ 0 0 5 = nI q) (e4 : τ 0 0 4 = nI e) (he : e ≤ Lb) (hqe : q = 1 ∨ q = 2 → 0 < e) (hp : ∀ τ' : St, MTok τ τ' (tQ by' Lb q e) (tS by' Lb e) (tE by' Lb e) → TKv by' τ' (tQ by' Lb q e) (tS by' Lb e) (tE by' Lb e) → post τ') : w_X10_nextToken post τ := by
  have hT' := hT
  obtain ⟨t1, t2, t3⟩ := hT'
  have hskip := skp_b by' Lb (Lb - e) e
  have b89 : ∀ (s1 : St) (tg : Nat), (tg = 1 ∨ tg = 0) → (tg = 1 ↔ ((q = 1 ∨ q = 2) ∧ tS by' Lb e = e)) → MFr τ s1 → s1 0 0 4 = nI (tS by' Lb e) → b_X10_nextToken_89 post s1 (nI tg) := by
    intro s1 tg htg htg2 fr h4
    unfold b_X10_nextToken_89
    intro s2 es2
    rw [h4] at es2
    have fr2 : MFr τ s2 := by rw [es2]; exact MFr_wr fr (by decide) (by decide)
    have h3 : s2 0 0 3 = nI (tS by' Lb e) := by rw [es2]; simp [wr]
    have h42 : s2 0 0 4 = nI (tS by' Lb e) := by rw [es2]; simp [wr, h4]
    have hT2 := TPm_fr hT fr2
    rw [h3, hT2.2.1]
    have hS : tS by' Lb e = skp by' Lb (Lb - e) e := rfl
    refine ⟨fun ne => ?_, fun eq s8 e8 => ?_⟩
    · have lt : tS by' Lb e < Lb := by
        have : tS by' Lb e ≠ Lb := fun y => ne (by rw [y])
        omega
      have q123 := srt_r (by' (tS by' Lb e))
      refine mLet hT2 (by omega) ?_
      by_cases r1 : srt (by' (tS by' Lb e)) = 1
      · rw [if_pos ⟨lt, r1⟩]
        refine ⟨fun g => absurd g (by decide), fun _ => ?_⟩
        have hE : tE by' Lb e = extn by' 1 (Lb - (tS by' Lb e + 1)) (tS by' Lb e + 1) := by
          unfold tE
          rw [if_pos lt, r1, if_neg (by decide)]
        have eb := extn_b by' 1 (Lb - (tS by' Lb e + 1)) (tS by' Lb e + 1)
        have hQ : tQ by' Lb q e = if tg = 1 then 4 else 1 := by
          unfold tQ
          rw [if_pos lt, r1]
          by_cases g : tg = 1
          · rw [if_pos g, if_pos (Or.inr ⟨by decide, htg2.1 g⟩)]
          · rw [if_neg g, if_neg (fun y => y.elim (fun z => absurd z.1 (by decide)) (fun z => g (htg2.2 z.2)))]
        have b162 : ∀ (s7 : St) (qq : Nat), qq = tQ by' Lb q e → MFr τ s7 → s7 0 0 3 = nI (tS by' Lb e) → s7 0 0 4 = nI (tE by' Lb e) → b_X10_nextToken_162 post s7 (nI qq) := by
          intro s7 qq hqq fr7 h37 h47
          unfold b_X10_nextToken_162
          intro s9 e9
          have fr9 : MFr τ s9 := by rw [e9]; exact MFr_wr fr7 (by decide) (by decide)
          have h39 : s9 0 0 3 = nI (tS by' Lb e) := by rw [e9]; simpa [wr] using h37
          have h49 : s9 0 0 4 = nI (tE by' Lb e) := by rw [e9]; simpa [wr] using h47
          have h59 : s9 0 0 5 = nI qq := by rw [e9]; simp [wr]
          have hT9 := TPm_fr hT fr9
          rw [h39, h49, pk_sub (by omega), cl (show tS by' Lb e < 2 ^ 31 by omega), (hT9.2.2 _ lt).2]
          have last : ∀ v : Nat, v = (if tE by' Lb e - tS by' Lb e = 1 then by' (tS by' Lb e) else 0) → b_X10_nextToken_192 post s9 (nI v) := by
            intro v ev
            unfold b_X10_nextToken_192
            intro s10 e10
            refine hp s10 ⟨?_, ?_, ?_, ?_⟩ ⟨fun g => ?_, fun g => ?_, fun g => ?_⟩
            · rw [e10, ← hqq]; simpa [wr] using h59
            · rw [e10]; simpa [wr] using h39
            · rw [e10]; simpa [wr] using h49
            · rw [e10]; exact MFr_wr fr9 (by decide) (by decide)
            · rw [hQ] at g
              split at g <;> omega
            · rw [e10, ← ev]; simp [wr]
            · rw [hQ] at g
              split at g <;> omega
          refine ⟨fun g => last 0 (by rw [if_neg (fun y => g (by rw [y]; rfl))]), fun g => ⟨vp_in_nI (by omega) (by decide), last _ (by rw [if_pos ((nI_eq (b := 1) (by omega) (by decide)).1 g)])⟩⟩
        refine ⟨Lb - (tS by' Lb e) + 1, ?_⟩
        suffices H : ∀ f y (s7 : St), y + f = Lb → MFr τ s7 → s7 0 0 3 = nI (tS by' Lb e) → s7 0 0 4 = nI y → extn by' 1 f y = tE by' Lb e → l_X10_nextToken_128 post (f + 1) s7 (nI tg) by
          refine H _ (tS by' Lb e) s2 (by omega) fr2 h3 h42 ?_
          rw [show Lb - tS by' Lb e = Lb - (tS by' Lb e + 1) + 1 by omega, extn, if_pos r1]
          exact hE.symm
        intro f
        induction f with
        | zero =>
          intro y s7 hy fr7 h37 h47 hx
          rw [uM_n128]
          unfold b_X10_nextToken_128
          rw [h47]
          refine mLet (TPm_fr hT fr7) (by omega) ?_
          rw [if_neg (by omega)]
          have hx : y = tE by' Lb e := hx
          rw [hx] at h47
          refine ⟨fun _ => ⟨fun g => ?_, fun g => ?_⟩, fun g => absurd rfl g⟩
          · have g0 : tg = 0 := (nI_eq (b := 0) (by omega) (by decide)).1 g
            exact b162 s7 1 (by rw [hQ, if_neg (by omega)]) fr7 h37 h47
          · have g1 : tg = 1 := htg.resolve_right (fun y => g (by rw [y]; rfl))
            exact b162 s7 4 (by rw [hQ, if_pos g1]) fr7 h37 h47
        | succ f ih =>
          intro y s7 hy fr7 h37 h47 hx
          rw [uM_n128]
          unfold b_X10_nextToken_128
          rw [h47]
          rw [extn] at hx
          refine mLet (TPm_fr hT fr7) (by omega) ?_
          by_cases g : srt (by' y) = 1
          · rw [if_pos g] at hx
            rw [if_pos ⟨by omega, g⟩]
            refine ⟨fun g => absurd g (by decide), fun _ s8 e8 => ?_⟩
            rw [h47, nI_1] at e8
            exact ih (y + 1) s8 (by omega) (by rw [e8]; exact MFr_wr fr7 (by decide) (by decide)) (by rw [e8]; simpa [wr] using h37) (by rw [e8]; simp [wr]) hx
          · rw [if_neg g] at hx
            rw [if_neg (fun z => g z.2)]
            rw [hx] at h47
            refine ⟨fun _ => ⟨fun g => ?_, fun g => ?_⟩, fun g => absurd rfl g⟩
            · have g0 : tg = 0 := (nI_eq (b := 0) (by omega) (by decide)).1 g
              exact b162 s7 1 (by rw [hQ, if_neg (by omega)]) fr7 h37 h47
            · have g1 : tg = 1 := htg.resolve_right (fun y => g (by rw [y]; rfl))
              exact b162 s7 4 (by rw [hQ, if_pos g1]) fr7 h37 h47
      · rw [if_neg (fun y => r1 y.2)]
        refine ⟨fun _ => ?_, fun g => absurd rfl g⟩
        rw [h3]
        refine mDig hT2 (by omega) ?_
        by_cases r2 : srt (by' (tS by' Lb e)) = 2
        · rw [if_pos ⟨lt, r2⟩]
          refine ⟨fun g => absurd g (by decide), fun _ s11 e11 => ?_⟩
          have hE : tE by' Lb e = extn by' 2 (Lb - (tS by' Lb e + 1)) (tS by' Lb e + 1) := by
            unfold tE
            rw [if_pos lt, r2, if_neg (by decide)]
          have hQ : tQ by' Lb q e = if 4 < tE by' Lb e - tS by' Lb e ∨ tg = 1 then 4 else 2 := by
            unfold tQ
            rw [if_pos lt, r2]
            by_cases g : 4 < tE by' Lb e - tS by' Lb e ∨ tg = 1
            · rw [if_pos g, if_pos (g.elim (fun z => Or.inl ⟨rfl, z⟩) (fun z => Or.inr ⟨by decide, htg2.1 z⟩))]
            · rw [if_neg g, if_neg (fun y => y.elim (fun z => g (Or.inl z.2)) (fun z => g (Or.inr (htg2.2 z.2))))]
          have b305 : ∀ (s7 : St) (qq : Nat), qq = tQ by' Lb q e → MFr τ s7 → s7 0 0 3 = nI (tS by' Lb e) → s7 0 0 4 = nI (tE by' Lb e) → (qq = 2 → s7 0 0 6 = nI (nmF by' (tS by' Lb e) (tE by' Lb e - tS by' Lb e))) → b_X10_nextToken_305 post s7 (nI qq) := by
            intro s7 qq hqq fr7 h37 h47 h67
            unfold b_X10_nextToken_305
            intro s9 e9
            refine hp s9 ⟨?_, ?_, ?_, ?_⟩ ⟨fun g => ?_, fun g => ?_, fun g => ?_⟩
            · rw [e9, ← hqq]; simp [wr]
            · rw [e9]; simpa [wr] using h37
            · rw [e9]; simpa [wr] using h47
            · rw [e9]; exact MFr_wr fr7 (by decide) (by decide)
            · rw [hQ] at g
              split at g <;> omega
            · rw [hQ] at g
              split at g <;> omega
            · rw [e9]
              simpa [wr] using h67 (hqq.trans g)
          have fin : ∀ (s7 : St) (y : Nat), y = tE by' Lb e → tS by' Lb e ≤ y → y ≤ 96 → MFr τ s7 → s7 0 0 3 = nI (tS by' Lb e) → s7 0 0 4 = nI y → s7 0 0 6 = nI (nmF by' (tS by' Lb e) (if y - tS by' Lb e < 4 then y - tS by' Lb e else 4)) → ((¬ nI tg = 0 → b_X10_nextToken_300 post s7) ∧ (nI tg = 0 → ((s7 0 0 4 - s7 0 0 3 ≤ 4 → b_X10_nextToken_305 post s7 2) ∧ (¬ s7 0 0 4 - s7 0 0 3 ≤ 4 → b_X10_nextToken_300 post s7)))) := by
            intro s7 y hy hy1 hy2 fr7 h37 h47 h67
            rw [h37, h47, pk_sub hy1]
            subst hy
            refine ⟨fun g => ?_, fun g => ⟨fun g2 => ?_, fun g2 => ?_⟩⟩
            · have g1 : tg = 1 := htg.resolve_right (fun y => g (by rw [y]; rfl))
              unfold b_X10_nextToken_300
              exact b305 s7 4 (by rw [hQ, if_pos (Or.inr g1)]) fr7 h37 h47 (fun z => absurd z (by decide))
            · have g0 : tg = 0 := (nI_eq (b := 0) (by omega) (by decide)).1 g
              have g4 := (nI_leI (b := 4) (by omega) (by decide)).1 g2
              refine b305 s7 2 (by rw [hQ, if_neg (by omega)]) fr7 h37 h47 (fun _ => ?_)
              rw [h67]
              congr 2
              split <;> omega
            · have g4 : ¬ tE by' Lb e - tS by' Lb e ≤ 4 := fun z => g2 (nI_le (b := 4) z (by decide))
              unfold b_X10_nextToken_300
              exact b305 s7 4 (by rw [hQ, if_pos (Or.inl (by omega))]) fr7 h37 h47 (fun z => absurd z (by decide))
          refine ⟨Lb - (tS by' Lb e) + 1, ?_⟩
          suffices H : ∀ f y (s7 : St), y + f = Lb → tS by' Lb e ≤ y → MFr τ s7 → s7 0 0 3 = nI (tS by' Lb e) → s7 0 0 4 = nI y → s7 0 0 6 = nI (nmF by' (tS by' Lb e) (if y - tS by' Lb e < 4 then y - tS by' Lb e else 4)) → (∀ j, tS by' Lb e ≤ j → j < y → srt (by' j) = 2) → extn by' 2 f y = tE by' Lb e → l_X10_nextToken_214 post (f + 1) s7 (nI tg) by
            refine H _ (tS by' Lb e) s11 (by omega) (Nat.le_refl _) (by rw [e11]; exact MFr_wr fr2 (by decide) (by decide)) (by rw [e11]; simpa [wr] using h3) (by rw [e11]; simpa [wr] using h42) (by rw [e11, Nat.sub_self, if_pos (by decide)]; simp [wr, nmF, nI_0]) (fun j h1 h2 => absurd h2 (Nat.not_lt.2 h1)) ?_
            rw [show Lb - tS by' Lb e = Lb - (tS by' Lb e + 1) + 1 by omega, extn, if_pos r2]
            exact hE.symm
          intro f
          induction f with
          | zero =>
            intro y s7 hy hy1 fr7 h37 h47 h67 hd hx
            rw [uM_n214]
            unfold b_X10_nextToken_214
            rw [h47]
            refine mDig (TPm_fr hT fr7) (by omega) ?_
            rw [if_neg (by omega)]
            refine ⟨fun _ => ?_, fun g => absurd rfl g⟩
            exact fin s7 y hx hy1 (by omega) fr7 h37 h47 h67
          | succ f ih =>
            intro y s7 hy hy1 fr7 h37 h47 h67 hd hx
            rw [uM_n214]
            unfold b_X10_nextToken_214
            rw [h47]
            rw [extn] at hx
            refine mDig (TPm_fr hT fr7) (by omega) ?_
            by_cases g : srt (by' y) = 2
            · rw [if_pos g] at hx
              rw [if_pos ⟨by omega, g⟩]
              refine ⟨fun g => absurd g (by decide), fun _ => ?_⟩
              have hd2 : ∀ j, tS by' Lb e ≤ j → j < y + 1 → srt (by' j) = 2 := fun j h1 h2 => by
                by_cases z : j = y
                · rw [z]; exact g
                · exact hd j h1 (by omega)
              have nx : ∀ v : Nat, v = nmF by' (tS by' Lb e) (if y + 1 - tS by' Lb e < 4 then y + 1 - tS by' Lb e else 4) → b_X10_nextToken_266 (l_X10_nextToken_214 post (f + 1)) post s7 (nI v) (nI tg) := by
                intro v ev
                unfold b_X10_nextToken_266
                intro s8 e8 s9 e9
                have h48 : s8 0 0 4 = nI y := by rw [e8]; simpa [wr] using h47
                rw [h48, nI_1] at e9
                refine ih (y + 1) s9 (by omega) (by omega) (by rw [e9, e8]; exact MFr_wr (MFr_wr fr7 (by decide) (by decide)) (by decide) (by decide)) (by rw [e9, e8]; simpa [wr] using h37) (by rw [e9]; simp [wr]) (by rw [e9, e8, ← ev]; simp [wr]) hd2 hx
              rw [h37, h47, pk_sub hy1, h67, cl (show y < 2 ^ 31 by omega), ((TPm_fr hT fr7).2.2 y (by omega)).2]
              refine ⟨fun g4 => nx _ ?_, fun g4 => ⟨vp_in_nI (by omega) (by decide), ?_⟩⟩
              · have := (nI_leI (a := 4) (by decide) (by omega)).1 g4
                rw [if_neg (by omega), if_neg (by omega)]
              · have g5 : y - tS by' Lb e < 4 := Nat.lt_of_not_le (fun z => g4 (nI_le (a := 4) z (by omega)))
                have lt2 := nmF_lt (by' := by') (s := tS by' Lb e) (y - tS by' Lb e) (by omega) (fun j hj => hd _ (by omega) (by omega))
                have b48 : 48 ≤ by' y := by
                  unfold srt at g
                  split at g
                  · omega
                  · split at g <;> omega
                rw [if_pos g5, show (10 : Int32) * nI (nmF by' (tS by' Lb e) (y - tS by' Lb e)) = nI (10 * nmF by' (tS by' Lb e) (y - tS by' Lb e)) from pk_mul 10 _, nI_add, show nI (10 * nmF by' (tS by' Lb e) (y - tS by' Lb e) + by' y) - 48 = nI (10 * nmF by' (tS by' Lb e) (y - tS by' Lb e) + by' y - 48) from pk_sub (b := 48) (by omega)]
                refine nx _ ?_
                have e1 : (if y + 1 - tS by' Lb e < 4 then y + 1 - tS by' Lb e else 4) = y - tS by' Lb e + 1 := by split <;> omega
                rw [e1, nmF, show tS by' Lb e + (y - tS by' Lb e) = y by omega]
                omega
            · rw [if_neg g] at hx
              rw [if_neg (fun z => g z.2)]
              refine ⟨fun _ => ?_, fun g => absurd rfl g⟩
              exact fin s7 y hx hy1 (by omega) fr7 h37 h47 h67
        · rw [if_neg (fun y => r2 y.2)]
          have r3 : srt (by' (tS by' Lb e)) = 3 := by omega
          refine ⟨fun _ s7 e7 => ?_, fun g => absurd rfl g⟩
          have hE : tE by' Lb e = tS by' Lb e + 1 := by
            unfold tE
            rw [if_pos lt, if_pos r3]
          have hQ : tQ by' Lb q e = 3 := by
            unfold tQ
            rw [if_pos lt, r3, if_neg (fun y => y.elim (fun z => absurd z.1 (by decide)) (fun z => z.1 rfl))]
          have fr7 : MFr τ s7 := by rw [e7]; exact MFr_wr fr2 (by decide) (by decide)
          have h37 : s7 0 0 3 = nI (tS by' Lb e) := by rw [e7]; simpa [wr] using h3
          rw [h37, cl (show tS by' Lb e < 2 ^ 31 by omega), ((TPm_fr hT fr7).2.2 _ lt).2]
          refine ⟨vp_in_nI (by omega) (by decide), fun s9 e9 s10 e10 => ?_⟩
          have h49 : s9 0 0 4 = nI (tS by' Lb e) := by rw [e9, e7]; simpa [wr] using h42
          rw [h49, nI_1] at e10
          rw [hQ, hE] at hp
          refine hp s10 ⟨?_, ?_, ?_, ?_⟩ ⟨fun _ => ?_, fun g => absurd g (by decide), fun g => absurd g (by decide)⟩
          · rw [e10, e9, e7]; simp [wr]; rfl
          · rw [e10, e9]; simpa [wr] using h37
          · rw [e10]; simp [wr]
          · rw [e10, e9]; exact MFr_wr (MFr_wr fr7 (by decide) (by decide)) (by decide) (by decide)
          · rw [e10, e9]; simp [wr]
    · have eq2 := (nI_eq (by omega) (by omega)).1 eq
      have hQ : tQ by' Lb q e = 0 := by unfold tQ; rw [if_neg (by omega)]
      have hE : tE by' Lb e = tS by' Lb e := by unfold tE; rw [if_neg (by omega)]
      rw [hQ, hE] at hp
      refine hp s8 ⟨?_, ?_, ?_, ?_⟩ ⟨fun g => absurd g (by decide), fun g => absurd g (by decide), fun g => absurd g (by decide)⟩
      · rw [e8]; simp [wr]; rfl
      · rw [e8]; simpa [wr] using h3
      · rw [e8]; simpa [wr] using h42
      · rw [e8]; exact MFr_wr fr2 (by decide) (by decide)
  have b72 : ∀ (s1 : St) (bw : Nat), (bw = 1 ∨ bw = 0) → (bw = 1 ↔ (q = 1 ∨ q = 2)) → MFr τ s1 → s1 0 0 4 = nI (tS by' Lb e) → b_X10_nextToken_72 post s1 (nI bw) (nI e) := by
    intro s1 bw h1 h2 fr h4
    have hle : tS by' Lb e ≤ 96 := by
      have : tS by' Lb e = skp by' Lb (Lb - e) e := rfl
      omega
    unfold b_X10_nextToken_72 b_X10_nextToken_88
    rw [h4]
    refine ⟨fun g => ?_, fun g => ⟨fun g2 => ?_, fun g2 => ?_⟩⟩
    · have g0 : bw = 0 := (nI_eq (b := 0) (by omega) (by decide)).1 g
      exact b89 s1 0 (Or.inr rfl) ⟨fun y => absurd y (by decide), fun y => absurd (h2.2 y.1) (by omega)⟩ fr h4
    · exact b89 s1 0 (Or.inr rfl) ⟨fun y => absurd y (by decide), fun y => absurd (by rw [y.2]) g2⟩ fr h4
    · have g1 : bw = 1 := h1.resolve_right (fun y => g (by rw [y]; rfl))
      exact b89 s1 1 (Or.inl rfl) ⟨fun _ => ⟨h2.1 g1, ((nI_eq (by omega) (by omega)).1 g2).symm⟩, fun _ => rfl⟩ fr h4
  have b34 : ∀ bw : Nat, (bw = 1 ∨ bw = 0) → (bw = 1 ↔ (q = 1 ∨ q = 2)) → ∃ n3, l_X10_nextToken_34 post n3 τ (nI bw) (nI e) := by
    intro bw h1 h2
    refine ⟨Lb - e + 1, ?_⟩
    suffices H : ∀ f y (s7 : St), y + f = Lb → MFr τ s7 → s7 0 0 4 = nI y → skp by' Lb f y = tS by' Lb e → l_X10_nextToken_34 post (f + 1) s7 (nI bw) (nI e) by
      exact H _ e τ (by omega) (fun _ _ _ _ => rfl) e4 rfl
    intro f
    induction f with
    | zero =>
      intro y s7 hy fr7 h47 hx
      rw [uM_n34]
      unfold b_X10_nextToken_34
      rw [h47, (TPm_fr hT fr7).2.1]
      have hx : y = tS by' Lb e := hx
      rw [hx] at h47
      exact ⟨fun _ => b72 s7 bw h1 h2 fr7 h47, fun g => absurd (nI_le (by omega) (by omega)) g⟩
    | succ f ih =>
      intro y s7 hy fr7 h47 hx
      rw [uM_n34]
      unfold b_X10_nextToken_34
      obtain ⟨b1, b2⟩ := (TPm_fr hT fr7).2.2 y (by omega)
      rw [h47, (TPm_fr hT fr7).2.1, cl (show y < 2 ^ 31 by omega), b2]
      rw [skp] at hx
      refine ⟨fun g => absurd g (nI_ge (by omega) (by omega)), fun _ => ⟨vp_in_nI (by omega) (by decide), fun g => ?_, fun g s8 e8 => ?_⟩⟩
      · rw [if_neg (fun z => g (by rw [z]; rfl))] at hx
        rw [hx] at h47
        exact b72 s7 bw h1 h2 fr7 h47
      · rw [if_pos ((nI_eq (b := 32) (by omega) (by decide)).1 g)] at hx
        rw [nI_1] at e8
        exact ih (y + 1) s8 (by omega) (by rw [e8]; exact MFr_wr fr7 (by decide) (by decide)) (by rw [e8]; simp [wr]) hx
  unfold w_X10_nextToken b_X10_nextToken_23
  rw [e0, e4]
  refine ⟨fun g v ev => ?_, fun g => ⟨fun g2 v ev => ?_, fun g2 => ⟨fun g3 v ev => ?_, fun g3 v ev => ?_⟩⟩⟩
  · subst ev
    have e00 : e = 0 := Nat.le_zero.1 ((nI_leI (b := 0) (by omega) (by decide)).1 g)
    exact b34 0 (Or.inr rfl) ⟨fun y => absurd y (by decide), fun y => absurd (hqe y) (by omega)⟩
  · subst ev
    have q1 := (nI_eq (b := 1) (by omega) (by decide)).1 g2
    exact b34 1 (Or.inl rfl) ⟨fun _ => Or.inl q1, fun _ => rfl⟩
  · subst ev
    exact b34 0 (Or.inr rfl) ⟨fun y => absurd y (by decide), fun y => y.elim (fun z => absurd (by rw [z]; rfl) g2) (fun z => absurd (by rw [z]; rfl) g3)⟩
  · subst ev
    have q2 := (nI_eq (b := 2) (by omega) (by decide)).1 g3
    exact b34 1 (Or.inl rfl) ⟨fun _ => Or.inr q2, fun _ => rfl⟩
