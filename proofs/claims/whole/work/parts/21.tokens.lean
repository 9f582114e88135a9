/-! LAYER 2. Words and signs of the tape, on both sides. -/
def srt (x : Nat) : Nat := if 97 ≤ x ∧ x ≤ 122 then 1 else if 48 ≤ x ∧ x ≤ 57 then 2 else 3
def skp (by' : Nat → Nat) (Lb : Nat) : Nat → Nat → Nat
  | 0, s => s
  | f + 1, s => if by' s = 32 then skp by' Lb f (s + 1) else s
def extn (by' : Nat → Nat) (q : Nat) : Nat → Nat → Nat
  | 0, e => e
  | f + 1, e => if srt (by' e) = q then extn by' q f (e + 1) else e
theorem skp_b (by' : Nat → Nat) (Lb : Nat) : ∀ f s, s ≤ skp by' Lb f s ∧ skp by' Lb f s ≤ s + f := by
  intro f
  induction f with
  | zero => intro s; exact ⟨Nat.le_refl _, Nat.le_refl _⟩
  | succ f ih =>
    intro s
    unfold skp
    split
    · have := ih (s + 1)
      omega
    · omega
theorem extn_b (by' : Nat → Nat) (q : Nat) : ∀ f e, e ≤ extn by' q f e ∧ extn by' q f e ≤ e + f ∧ ∀ j, e ≤ j → j < extn by' q f e → srt (by' j) = q := by
  intro f
  induction f with
  | zero => intro e; exact ⟨Nat.le_refl _, Nat.le_refl _, fun j h1 h2 => absurd h2 (Nat.not_lt.2 h1)⟩
  | succ f ih =>
    intro e
    unfold extn
    split
    · rename_i c
      obtain ⟨g1, g2, g3⟩ := ih (e + 1)
      refine ⟨by omega, by omega, fun j h1 h2 => ?_⟩
      by_cases y : j = e
      · rw [y]; exact c
      · exact g3 j (by omega) h2
    · exact ⟨Nat.le_refl _, by omega, fun j h1 h2 => absurd h2 (Nat.not_lt.2 h1)⟩
def tS (by' : Nat → Nat) (Lb e : Nat) : Nat := skp by' Lb (Lb - e) e
def tE (by' : Nat → Nat) (Lb e : Nat) : Nat := if tS by' Lb e < Lb then (if srt (by' (tS by' Lb e)) = 3 then tS by' Lb e + 1 else extn by' (srt (by' (tS by' Lb e))) (Lb - (tS by' Lb e + 1)) (tS by' Lb e + 1)) else tS by' Lb e
def tQ (by' : Nat → Nat) (Lb q e : Nat) : Nat := if tS by' Lb e < Lb then (if (srt (by' (tS by' Lb e)) = 2 ∧ 4 < tE by' Lb e - tS by' Lb e) ∨ (srt (by' (tS by' Lb e)) ≠ 3 ∧ (q = 1 ∨ q = 2) ∧ tS by' Lb e = e) then 4 else srt (by' (tS by' Lb e))) else 0
theorem srt_r (x : Nat) : srt x = 1 ∨ srt x = 2 ∨ srt x = 3 := by
  unfold srt
  split
  · exact Or.inl rfl
  · split
    · exact Or.inr (Or.inl rfl)
    · exact Or.inr (Or.inr rfl)
theorem sX5_sortOf {post : Int32 → St → Prop} {σ : St} {x : Nat} (hx : x < 256) (h : post (nI (srt x)) σ) : w_X5_sortOf post σ (nI x) := by
  unfold w_X5_sortOf b_X5_sortOf_14
  unfold srt at h
  have l1 : nI x < (97 : Int32) ↔ x < 97 := nI_ltI (b := 97) (by omega) (by decide)
  have l2 : (122 : Int32) < nI x ↔ 122 < x := nI_ltI (a := 122) (by decide) (by omega)
  have l3 : nI x < (48 : Int32) ↔ x < 48 := nI_ltI (b := 48) (by omega) (by decide)
  have l4 : (57 : Int32) < nI x ↔ 57 < x := nI_ltI (a := 57) (by decide) (by omega)
  rw [l1, l2, l3, l4]
  by_cases c1 : 97 ≤ x ∧ x ≤ 122
  · rw [if_pos c1] at h
    exact ⟨fun g => by omega, fun _ => ⟨fun g => by omega, fun _ => h⟩⟩
  · rw [if_neg c1] at h
    have key : (x < 48 → post 3 σ) ∧ (¬ x < 48 → ((57 < x → post 3 σ) ∧ (¬ 57 < x → post 2 σ))) := by
      by_cases c2 : 48 ≤ x ∧ x ≤ 57
      · rw [if_pos c2] at h
        exact ⟨fun g => by omega, fun _ => ⟨fun g => by omega, fun _ => h⟩⟩
      · rw [if_neg c2] at h
        exact ⟨fun _ => h, fun _ => ⟨fun _ => h, fun g => by omega⟩⟩
    exact ⟨fun _ => key, fun g => ⟨fun _ => key, fun g2 => by omega⟩⟩
/-- the class' reader's token -/
def CTok (σ0 σ : St) (q s e : Nat) : Prop := σ 21 0 0 = nI q ∧ σ 21 0 1 = nI s ∧ σ 21 0 2 = nI e ∧ ∀ k a j, ¬ (k = 21 ∧ a = 0 ∧ j ≤ 2) → σ k a j = σ0 k a j
theorem CTok_0 {σ0 σ : St} {q s e q' : Nat} {v : Int32} (h : CTok σ0 σ q s e) (hv : v = nI q') : CTok σ0 (wr σ 21 0 0 v) q' s e := by
  obtain ⟨h0, h1, h2, h3⟩ := h
  refine ⟨by simp [wr, hv], by simpa [wr] using h1, by simpa [wr] using h2, fun k a j hc => ?_⟩
  simp only [wr]
  rw [if_neg (by omega)]
  exact h3 k a j hc
theorem CTok_1 {σ0 σ : St} {q s e s' : Nat} {v : Int32} (h : CTok σ0 σ q s e) (hv : v = nI s') : CTok σ0 (wr σ 21 0 1 v) q s' e := by
  obtain ⟨h0, h1, h2, h3⟩ := h
  refine ⟨by simpa [wr] using h0, by simp [wr, hv], by simpa [wr] using h2, fun k a j hc => ?_⟩
  simp only [wr]
  rw [if_neg (by omega)]
  exact h3 k a j hc
theorem CTok_2 {σ0 σ : St} {q s e e' : Nat} {v : Int32} (h : CTok σ0 σ q s e) (hv : v = nI e') : CTok σ0 (wr σ 21 0 2 v) q s e' := by
  obtain ⟨h0, h1, h2, h3⟩ := h
  refine ⟨by simpa [wr] using h0, by simpa [wr] using h1, by simp [wr, hv], fun k a j hc => ?_⟩
  simp only [wr]
  rw [if_neg (by omega)]
  exact h3 k a j hc
theorem uC_s32 (post : St → Prop) (q : Nat) : l_X5_step_32 post (q + 1) = b_X5_step_32 (l_X5_step_32 post q) post := rfl
theorem uC_s133 (post : St → Prop) (q : Nat) : l_X5_step_133 post (q + 1) = b_X5_step_133 (l_X5_step_133 post q) post := rfl
def TPc (σ : St) (by' : Nat → Nat) (Lb : Nat) : Prop := Lb ≤ 96 ∧ σ 19 0 0 = nI Lb ∧ ∀ j, j < Lb → by' j < 256 ∧ σ 20 0 j = nI (by' j)
theorem cStep {post : St → Prop} {σ : St} {by' : Nat → Nat} {Lb q e : Nat} (hT : TPc σ by' Lb) (hq : q ≤ 4) (e0 : σ 21 0 0 = nI q) (e2 : σ 21 0 2 = nI e) (he : e ≤ Lb) (hp : ∀ σ' : St, CTok σ σ' (tQ by' Lb q e) (tS by' Lb e) (tE by' Lb e) → post σ') : w_X5_step post σ := by
  obtain ⟨t1, t2, t3⟩ := hT
  obtain ⟨bw, hbw⟩ : ∃ bw : Nat, bw = if q = 1 ∨ q = 2 then 1 else 0 := ⟨_, rfl⟩
  have hskip := skp_b by' Lb (Lb - e) e
  -- the end of the step
  have fin : ∀ (s1 : St) (q0 e' : Nat), q0 = srt (by' (tS by' Lb e)) → e' = tE by' Lb e → tS by' Lb e < Lb → e' ≤ 96 → tS by' Lb e ≤ e' → CTok σ s1 q0 (tS by' Lb e) e' → b_X5_step_190 post s1 (nI bw) (nI e) := by
    intro s1 q0 e' hq0 he' hlt h96 hse ct
    obtain ⟨c0, c1, c2, c3⟩ := id ct
    have q123 := srt_r (by' (tS by' Lb e))
    have b231 : tQ by' Lb q e = 4 → b_X5_step_231 post s1 := by
      intro h4
      unfold b_X5_step_231
      intro s2 es
      subst es
      refine hp _ ?_
      rw [h4, ← he']
      exact CTok_0 ct rfl
    have okp : tQ by' Lb q e = q0 → post s1 := by
      intro h4
      refine hp _ ?_
      rw [h4, ← he']
      exact ct
    have tq : tQ by' Lb q e = if (q0 = 2 ∧ 4 < e' - tS by' Lb e) ∨ (q0 ≠ 3 ∧ (q = 1 ∨ q = 2) ∧ tS by' Lb e = e) then 4 else q0 := by
      unfold tQ
      rw [if_pos hlt, ← hq0, ← he']
    have b211 : ¬ (q0 = 2 ∧ 4 < e' - tS by' Lb e) → b_X5_step_211 post s1 (nI bw) (nI e) := by
      intro n1
      unfold b_X5_step_211
      rw [c0, c1]
      refine ⟨fun g => ?_, fun g => ⟨fun g2 => ?_, fun g2 => ⟨fun g3 => ?_, fun g3 => ?_⟩⟩⟩
      · have q3 := (nI_eq (b := 3) (by omega) (by decide)).1 g
        exact okp (by rw [tq, if_neg (by omega)])
      · have b0 : bw = 0 := (nI_eq (b := 0) (by rw [hbw]; split <;> omega) (by decide)).1 g2
        have nn : ¬ ((q0 = 2 ∧ 4 < e' - tS by' Lb e) ∨ (q0 ≠ 3 ∧ (q = 1 ∨ q = 2) ∧ tS by' Lb e = e)) := by
          intro hc
          rw [b0] at hbw
          rcases hc with hc | hc
          · exact n1 hc
          · rw [if_pos hc.2.1] at hbw
            omega
        exact okp (by rw [tq, if_neg nn])
      · have ne : tS by' Lb e ≠ e := fun y => g3 (by rw [y])
        exact okp (by rw [tq, if_neg (by omega)])
      · have eq := (nI_eq (by omega) (by omega)).1 g3
        have b1 : bw ≠ 0 := fun y => g2 (by rw [y]; rfl)
        have q3 : q0 ≠ 3 := fun y => g (by rw [y]; rfl)
        refine b231 (by rw [tq, if_pos (Or.inr ⟨q3, ?_, eq⟩)])
        by_cases y : q = 1 ∨ q = 2
        · exact y
        · rw [if_neg y] at hbw
          exact absurd hbw b1
    unfold b_X5_step_190
    rw [c0, c1, c2, pk_sub hse]
    refine ⟨fun g => b211 (fun y => g (by rw [y.1]; rfl)), fun g => ⟨fun g2 => b231 ?_, fun g2 => b211 (fun y => g2 (nI_lt (a := 4) y.2 (by omega)))⟩⟩
    have q2 := (nI_eq (b := 2) (by omega) (by decide)).1 g
    have g4 := (nI_ltI (a := 4) (by decide) (by omega)).1 g2
    rw [tq, if_pos (Or.inl ⟨q2, g4⟩)]
  -- behind the blanks
  have b76 : ∀ s1 : St, (∃ x, CTok σ s1 q (tS by' Lb e) x) → b_X5_step_76 post s1 (nI bw) (nI e) := by
    rintro s1 ⟨x, ct⟩
    unfold b_X5_step_76
    intro s2 es2
    have ct2 : CTok σ s2 q (tS by' Lb e) (tS by' Lb e) := by rw [es2]; exact CTok_2 ct ct.2.1
    obtain ⟨c0, c1, c2, c3⟩ := id ct2
    have l19 : s2 19 0 0 = nI Lb := (c3 19 0 0 (by omega)).trans t2
    rw [c1, l19]
    by_cases lt : tS by' Lb e < Lb
    · refine ⟨fun _ => ?_, fun g => absurd (nI_lt lt (by omega)) g⟩
      obtain ⟨b1, b2⟩ := t3 _ lt
      rw [cl (show tS by' Lb e < 2 ^ 31 by omega), c3 20 0 _ (by omega), b2]
      refine ⟨vp_in_nI (by omega) (by decide), sX5_sortOf b1 (fun s5 e5 s6 e6 => ?_)⟩
      obtain ⟨q0, hq0⟩ : ∃ q0, q0 = srt (by' (tS by' Lb e)) := ⟨_, rfl⟩
      rw [← hq0] at e5
      have ct5 : CTok σ s5 q0 (tS by' Lb e) (tS by' Lb e) := by rw [e5]; exact CTok_0 ct2 rfl
      rw [ct5.2.2.1, nI_1] at e6
      have ct6 : CTok σ s6 q0 (tS by' Lb e) (tS by' Lb e + 1) := by rw [e6]; exact CTok_2 ct5 rfl
      by_cases q3 : q0 = 3
      · refine ⟨1, ?_⟩
        rw [uC_s133]
        unfold b_X5_step_133
        rw [ct6.1]
        refine ⟨fun _ => fin s6 q0 _ hq0 ?_ lt (by omega) (by omega) ct6, fun g => absurd (by rw [q3]; rfl) g⟩
        unfold tE
        rw [if_pos lt, if_pos (by rw [← hq0]; exact q3)]
      · have hE : tE by' Lb e = extn by' q0 (Lb - (tS by' Lb e + 1)) (tS by' Lb e + 1) := by
          unfold tE
          rw [if_pos lt, ← hq0, if_neg q3]
        refine ⟨Lb - (tS by' Lb e + 1) + 1, ?_⟩
        suffices H : ∀ f y (s7 : St), y + f = Lb → CTok σ s7 q0 (tS by' Lb e) y → extn by' q0 f y = tE by' Lb e → tS by' Lb e ≤ y → l_X5_step_133 post (f + 1) s7 (nI bw) (nI e) by
          exact H _ (tS by' Lb e + 1) s6 (by omega) ct6 hE.symm (by omega)
        intro f
        induction f with
        | zero =>
          intro y s7 hy ct7 hx hsy
          rw [uC_s133]
          unfold b_X5_step_133
          rw [ct7.1, ct7.2.2.1, (ct7.2.2.2 19 0 0 (by omega)).trans t2]
          have := srt_r (by' (tS by' Lb e))
          refine ⟨fun g => absurd ((nI_eq (b := 3) (by omega) (by decide)).1 g) q3, fun _ => ⟨fun _ => fin s7 q0 y hq0 hx lt (by omega) hsy ct7, fun g => absurd (nI_le (by omega) (by omega)) g⟩⟩
        | succ f ih =>
          intro y s7 hy ct7 hx hsy
          rw [uC_s133]
          unfold b_X5_step_133
          rw [ct7.1, ct7.2.2.1, (ct7.2.2.2 19 0 0 (by omega)).trans t2, cl (show y < 2 ^ 31 by omega), ct7.2.2.2 20 0 _ (by omega), (t3 y (by omega)).2]
          rw [extn] at hx
          have := srt_r (by' (tS by' Lb e))
          have := srt_r (by' y)
          refine ⟨fun g => absurd ((nI_eq (b := 3) (by omega) (by decide)).1 g) q3, fun _ => ⟨fun g => absurd g (nI_ge (by omega) (by omega)), fun _ => ⟨vp_in_nI (by omega) (by decide), sX5_sortOf (t3 y (by omega)).1 ?_⟩⟩⟩
          rw [ct7.1]
          refine ⟨fun g => ?_, fun g s8 e8 => ?_⟩
          · rw [if_neg (fun z => g (by rw [z]))] at hx
            exact fin s7 q0 y hq0 hx lt (by omega) hsy ct7
          · rw [if_pos ((nI_eq (by omega) (by omega)).1 g)] at hx
            rw [ct7.2.2.1, nI_1] at e8
            exact ih (y + 1) s8 (by omega) (by rw [e8]; exact CTok_2 ct7 rfl) hx (by omega)
    · have hS2 : tS by' Lb e ≤ e + (Lb - e) := hskip.2
      refine ⟨fun g => absurd ((nI_ltI (by omega) (by omega)).1 g) lt, fun _ s8 e8 => hp s8 ?_⟩
      have q0 : tQ by' Lb q e = 0 := by unfold tQ; rw [if_neg lt]
      have eE : tE by' Lb e = tS by' Lb e := by unfold tE; rw [if_neg lt]
      rw [q0, eE, e8]
      exact CTok_0 ct2 rfl
  have b21 : b_X5_step_21 post σ (nI bw) := by
    unfold b_X5_step_21
    intro v ev s2 es2
    rw [e2] at ev
    subst ev
    have ct2 : CTok σ s2 q e e := by
      rw [es2]
      refine ⟨by simpa [wr] using e0, by simp [wr], by simpa [wr] using e2, fun k a j hc => ?_⟩
      simp only [wr]
      rw [if_neg (by omega)]
    refine ⟨Lb - e + 1, ?_⟩
    suffices H : ∀ f y (s7 : St), y + f = Lb → CTok σ s7 q y e → skp by' Lb f y = tS by' Lb e → l_X5_step_32 post (f + 1) s7 (nI bw) (nI e) by
      exact H _ e s2 (by omega) ct2 rfl
    intro f
    induction f with
    | zero =>
      intro y s7 hy ct7 hx
      rw [uC_s32]
      unfold b_X5_step_32
      rw [ct7.2.1, (ct7.2.2.2 19 0 0 (by omega)).trans t2]
      have hx : y = tS by' Lb e := hx
      rw [hx] at ct7
      exact ⟨fun _ => b76 s7 ⟨e, ct7⟩, fun g => absurd (nI_le (by omega) (by omega)) g⟩
    | succ f ih =>
      intro y s7 hy ct7 hx
      rw [uC_s32]
      unfold b_X5_step_32
      obtain ⟨b1, b2⟩ := t3 y (by omega)
      rw [ct7.2.1, (ct7.2.2.2 19 0 0 (by omega)).trans t2, cl (show y < 2 ^ 31 by omega), ct7.2.2.2 20 0 _ (by omega), b2]
      rw [skp] at hx
      refine ⟨fun g => absurd g (nI_ge (by omega) (by omega)), fun _ => ⟨vp_in_nI (by omega) (by decide), fun g => ?_, fun g s8 e8 => ?_⟩⟩
      · rw [if_neg (fun z => g (by rw [z]; rfl))] at hx
        have hx : y = tS by' Lb e := hx
        rw [hx] at ct7
        exact b76 s7 ⟨e, ct7⟩
      · rw [if_pos ((nI_eq (b := 32) (by omega) (by decide)).1 g)] at hx
        rw [nI_1] at e8
        exact ih (y + 1) s8 (by omega) (by rw [e8]; exact CTok_1 ct7 rfl) hx
  unfold w_X5_step b_X5_step_16
  rw [e0]
  refine ⟨fun g => ?_, fun g => ⟨fun g2 => ?_, fun g2 => ?_⟩⟩
  · have q1 := (nI_eq (b := 1) (by omega) (by decide)).1 g
    rw [if_pos (Or.inl q1)] at hbw
    rw [hbw] at b21
    exact b21
  · have q1 : ¬ (q = 1 ∨ q = 2) := fun y => y.elim (fun z => g (by rw [z]; rfl)) (fun z => g2 (by rw [z]; rfl))
    rw [if_neg q1] at hbw
    rw [hbw] at b21
    exact b21
  · have q2 := (nI_eq (b := 2) (by omega) (by decide)).1 g2
    rw [if_pos (Or.inr q2)] at hbw
    rw [hbw] at b21
    exact b21
