/-! LAYER 2. Fits: what is best, by one function; the class' table; the model's search. -/
def rm (S : Nat → Bool) (i : Nat) : Nat → Bool := fun q => if q = i then false else S q
def top (a : Nat → Bool) (v : Nat → Nat) : Nat → Option Nat
  | 0 => none
  | i + 1 => if a i = true then (match top a v i with
    | none => some i
    | some p => if v p < v i then some i else some p) else top a v i
theorem top_spec {a : Nat → Bool} {v : Nat → Nat} : ∀ N p, top a v N = some p → p < N ∧ a p = true ∧ (∀ i, i < N → a i = true → v i ≤ v p) ∧ (∀ i, i < p → a i = true → v i < v p) := by
  have key : ∀ N, (top a v N = none → ∀ i, i < N → ¬ a i = true) ∧ ∀ p, top a v N = some p → p < N ∧ a p = true ∧ (∀ i, i < N → a i = true → v i ≤ v p) ∧ (∀ i, i < p → a i = true → v i < v p) := by
    intro N
    induction N with
    | zero => exact ⟨fun _ i hi => absurd hi (Nat.not_lt_zero _), fun p h => by simp [top] at h⟩
    | succ N ih =>
      refine ⟨fun h i hi => ?_, fun p h => ?_⟩
      · unfold top at h
        split at h
        · split at h
          · exact absurd h (by simp)
          · split at h <;> exact absurd h (by simp)
        · rename_i c
          by_cases e : i = N
          · rw [e]; exact c
          · exact ih.1 h i (by omega)
      · unfold top at h
        split at h
        · rename_i c
          split at h
          · rename_i e
            cases h
            refine ⟨Nat.lt_succ_self _, c, fun i hi ai => ?_, fun i hi ai => absurd ai (ih.1 e i hi)⟩
            by_cases e2 : i = N
            · rw [e2]; exact Nat.le_refl _
            · exact absurd ai (ih.1 e i (by omega))
          · rename_i p2 e
            obtain ⟨g1, g2, g3, g4⟩ := ih.2 p2 e
            split at h
            · rename_i c2
              cases h
              refine ⟨Nat.lt_succ_self _, c, fun i hi ai => ?_, fun i hi ai => Nat.lt_of_le_of_lt (g3 i hi ai) c2⟩
              by_cases e2 : i = N
              · rw [e2]; exact Nat.le_refl _
              · exact Nat.le_of_lt (Nat.lt_of_le_of_lt (g3 i (by omega) ai) c2)
            · rename_i c2
              cases h
              refine ⟨by omega, g2, fun i hi ai => ?_, g4⟩
              by_cases e2 : i = N
              · rw [e2]; omega
              · exact g3 i (by omega) ai
        · rename_i c
          obtain ⟨g1, g2, g3, g4⟩ := ih.2 p h
          refine ⟨by omega, g2, fun i hi ai => ?_, g4⟩
          by_cases e2 : i = N
          · exact absurd (e2 ▸ ai) c
          · exact g3 i (by omega) ai
  exact fun N => (key N).2
theorem top_some {a : Nat → Bool} {v : Nat → Nat} {N : Nat} (ha : a N = true) : ∃ p, top a v (N + 1) = some p := by
  unfold top
  rw [if_pos ha]
  split
  · exact ⟨_, rfl⟩
  · split <;> exact ⟨_, rfl⟩
def aF (c : Nat) (S : Nat → Bool) (i : Nat) : Bool := if i < c then S i else true
def vW (D : Nat → Nat → Nat) (c j : Nat) (f : (Nat → Bool) → Nat) (S : Nat → Bool) (i : Nat) : Nat := if i < c then D i (5 - j) + f (rm S i) else f S
def Wf (D : Nat → Nat → Nat) (c : Nat) : Nat → (Nat → Bool) → Nat
  | 0 => fun _ => 0
  | j + 1 => fun S => (top (aF c S) (vW D c j (Wf D c j) S) (c + 1)).elim 0 (vW D c j (Wf D c j) S)
def pick (D : Nat → Nat → Nat) (c j : Nat) (S : Nat → Bool) : Nat := (top (aF c S) (vW D c j (Wf D c j) S) (c + 1)).elim c id
theorem pick_spec (D : Nat → Nat → Nat) (c j : Nat) (S : Nat → Bool) : top (aF c S) (vW D c j (Wf D c j) S) (c + 1) = some (pick D c j S) ∧ pick D c j S ≤ c ∧ (pick D c j S < c → S (pick D c j S) = true) ∧ Wf D c (j + 1) S = vW D c j (Wf D c j) S (pick D c j S) ∧ (∀ i, i ≤ c → aF c S i = true → vW D c j (Wf D c j) S i ≤ vW D c j (Wf D c j) S (pick D c j S)) ∧ (∀ i, i < pick D c j S → aF c S i = true → vW D c j (Wf D c j) S i < vW D c j (Wf D c j) S (pick D c j S)) := by
  obtain ⟨p, hp⟩ := top_some (a := aF c S) (v := vW D c j (Wf D c j) S) (N := c) (by simp [aF])
  have e : pick D c j S = p := by
    unfold pick
    rw [hp]
    rfl
  obtain ⟨g1, g2, g3, g4⟩ := top_spec _ _ hp
  rw [e]
  refine ⟨hp, by omega, fun h => ?_, ?_, fun i hi ai => g3 i (by omega) ai, g4⟩
  · unfold aF at g2
    rw [if_pos h] at g2
    exact g2
  · show (top (aF c S) (vW D c j (Wf D c j) S) (c + 1)).elim 0 (vW D c j (Wf D c j) S) = _
    rw [hp]
    rfl
theorem Wf_le {D : Nat → Nat → Nat} {c : Nat} (hD : ∀ i k, D i k ≤ 9) : ∀ j S, Wf D c j S ≤ 9 * j := by
  intro j
  induction j with
  | zero => intro S; exact Nat.le_refl _
  | succ j ih =>
    intro S
    rw [(pick_spec D c j S).2.2.2.1]
    unfold vW
    split
    · have := ih (rm S (pick D c j S))
      have := hD (pick D c j S) (5 - j)
      omega
    · have := ih S
      omega
def chF (D : Nat → Nat → Nat) (c : Nat) (ρ : Nat → Nat) : Nat → (Nat → Bool) → Nat → Int32
  | 0 => fun _ _ => -1
  | j + 1 => fun S q => if q = 5 - j then (if pick D c j S < c then nI (ρ (pick D c j S)) else -1) else chF D c ρ j (if pick D c j S < c then rm S (pick D c j S) else S) q
/-- the roofs of a town, in their order -/
def PP (h : Hl) (n t c : Nat) (ρ : Nat → Nat) : Prop := c ≤ 6 ∧ (∀ i, i < c → ρ i < n ∧ tw (h 9 (ρ i)) = nI t) ∧ (∀ i i2, i < i2 → i2 < c → ρ i < ρ i2) ∧ (∀ r, r < n → tw (h 9 r) = nI t → ∃ i, i < c ∧ ρ i = r)
theorem house_of {h : Hl} {n t k : Nat} (ho : HO h n) (hk : k < n) (ht : t < 2) (e : tw (h 9 k) = nI t) : ∃ a, 6 * t ≤ a ∧ a < 6 * t + 6 ∧ h 9 k = nI a ∧ h 12 a = nI k := by
  obtain ⟨a, ha, g1, g2⟩ := ho.2.1 k hk
  rw [g1, tw_n ha] at e
  have := (nI_eq (by omega) (by omega)).1 e
  exact ⟨a, by omega, by omega, g1, g2⟩
theorem PP_full {h : Hl} {n r t c : Nat} {ρ : Nat → Nat} (ho : HO h n) (ht : t < 2) (hr : r ≤ n) (hp : PP h r t c ρ) (hc : c = 6 ∨ r = n) : PP h n t c ρ := by
  obtain ⟨p1, p2, p3, p4⟩ := hp
  refine ⟨p1, fun i hi => ⟨by have := (p2 i hi).1; omega, (p2 i hi).2⟩, p3, fun k hk ek => ?_⟩
  by_cases c1 : k < r
  · exact p4 k c1 ek
  · rcases hc with hc | hc
    · exfalso
      subst hc
      have hn := ho.1.1
      have tm : ∀ i, i < 7 → (if i < 6 then ρ i else k) < n ∧ tw (h 9 (if i < 6 then ρ i else k)) = nI t := fun i hi => by
        by_cases g : i < 6
        · rw [if_pos g]
          exact ⟨by have := (p2 i g).1; omega, (p2 i g).2⟩
        · rw [if_neg g]
          exact ⟨hk, ek⟩
      have dif : ∀ i i2, i < 7 → i2 < 7 → (if i < 6 then ρ i else k) = (if i2 < 6 then ρ i2 else k) → i = i2 := fun i i2 h1 h2 e => by
        by_cases g1 : i < 6
        · rw [if_pos g1] at e
          have := (p2 i g1).1
          by_cases g2 : i2 < 6
          · rw [if_pos g2] at e
            rcases Nat.lt_trichotomy i i2 with l | l | l
            · have := p3 i i2 l g2
              omega
            · exact l
            · have := p3 i2 i l g1
              omega
          · rw [if_neg g2] at e
            omega
        · rw [if_neg g1] at e
          by_cases g2 : i2 < 6
          · rw [if_pos g2] at e
            have := (p2 i2 g2).1
            omega
          · omega
      have := php 6 7 (fun i => (h 9 (if i < 6 then ρ i else k)).toNatClampNeg - 6 * t) (fun i hi => by
        obtain ⟨g1, g2⟩ := tm i hi
        obtain ⟨a, a1, a2, a3, _⟩ := house_of ho g1 ht g2
        show (h 9 (if i < 6 then ρ i else k)).toNatClampNeg - 6 * t < 6
        rw [a3, cl (by omega)]
        omega) (fun i i2 h1 h2 e => by
        obtain ⟨g1, g2⟩ := tm i h1
        obtain ⟨a, a1, a2, a3, a4⟩ := house_of ho g1 ht g2
        obtain ⟨g3, g4⟩ := tm i2 h2
        obtain ⟨b, b1, b2, b3, b4⟩ := house_of ho g3 ht g4
        have e : (h 9 (if i < 6 then ρ i else k)).toNatClampNeg - 6 * t = (h 9 (if i2 < 6 then ρ i2 else k)).toNatClampNeg - 6 * t := e
        rw [a3, b3, cl (by omega), cl (by omega)] at e
        have ab : a = b := by omega
        subst ab
        exact dif i i2 h1 h2 ((nI_eq (by omega) (by omega)).1 (a4.symm.trans b4)))
      omega
    · omega
theorem dwV_n {h : Hl} {n r a : Nat} (hi : HI h n) (hr : r < n) (ha : a < 12) : ∃ d, d ≤ 9 ∧ dwV h r a = nI d := by
  obtain ⟨⟨q, hq, eq⟩, ⟨z, _, hz, ez⟩, -⟩ := hi.2.1 r hr
  obtain ⟨p, hp, ep⟩ := hi.2.2 a ha
  obtain ⟨c, hc, ec⟩ := kCov_n hq hz
  unfold dwV
  rw [eq, ez, ep, ec, min_n hc hp]
  refine ⟨_, ?_, rfl⟩
  split <;> omega
def DD (h : Hl) (t c : Nat) (ρ : Nat → Nat) (i k : Nat) : Nat := if i < c ∧ k < 6 then (dwV h (ρ i) (6 * t + k)).toNatClampNeg else 0
theorem DD_n {h : Hl} {n t c : Nat} {ρ : Nat → Nat} (hi : HI h n) (ht : t < 2) (hp : PP h n t c ρ) : (∀ i k, DD h t c ρ i k ≤ 9) ∧ ∀ i k, i < c → k < 6 → dwV h (ρ i) (6 * t + k) = nI (DD h t c ρ i k) := by
  have key : ∀ i k, i < c → k < 6 → ∃ d, d ≤ 9 ∧ dwV h (ρ i) (6 * t + k) = nI d := fun i k h1 h2 => dwV_n hi (hp.2.1 i h1).1 (by omega)
  refine ⟨fun i k => ?_, fun i k h1 h2 => ?_⟩
  · unfold DD
    split
    · rename_i g
      obtain ⟨d, hd, e⟩ := key i k g.1 g.2
      rw [e, cl (by omega)]
      exact hd
    · omega
  · obtain ⟨d, hd, e⟩ := key i k h1 h2
    unfold DD
    rw [if_pos ⟨h1, h2⟩, e, cl (by omega)]
theorem nI_xor (a b : Nat) : nI a ^^^ nI b = nI (a ^^^ b) := by
  apply Int32.toBitVec_inj.1
  show BitVec.ofNat 32 a ^^^ BitVec.ofNat 32 b = BitVec.ofNat 32 (a ^^^ b)
  apply BitVec.eq_of_getLsbD_eq
  intro i hi
  simp [hi]
abbrev bits (s : Nat) : Nat → Bool := fun i => s.testBit i
theorem bits_rm {s i : Nat} (h : s.testBit i = true) : bits (s ^^^ 2 ^ i) = rm (bits s) i := by
  funext q
  simp only [bits, rm]
  rw [Nat.testBit_xor, Nat.testBit_two_pow]
  by_cases e : q = i
  · subst e
    simp [h]
  · simp [e, Ne.symm e]
/-- what thinking of fits leaves alone -/
def FT (σ s : St) : Prop := ∀ k a j, k ≠ 25 → k ≠ 26 → k ≠ 27 → ¬ (k = 29 ∧ a ≠ 6) → s k a j = σ k a j
theorem FT.rf {σ : St} : FT σ σ := fun _ _ _ _ _ _ _ => rfl
section ClassFits
variable {σ : St} {n t c : Nat} {ρ : Nat → Nat}
/-- a state while the class thinks of fits -/
def BF (σ s : St) (c : Nat) (ρ : Nat → Nat) : Prop := FT σ s ∧ s 25 0 0 = nI c ∧ ∀ p, p < c → s 26 0 p = nI (ρ p)
theorem BF_wr {s : St} {a j : Nat} {v : Int32} {k : Nat} (h : BF σ s c ρ) (hk : k = 27 ∨ (k = 29 ∧ a ≠ 6)) : BF σ (wr s k a j v) c ρ := ⟨fun x y z c1 c2 c3 c4 => by rw [wr_off _ _ _ (by omega)]; exact h.1 x y z c1 c2 c3 c4, by rw [wr_off _ _ _ (by omega)]; exact h.2.1, fun p hp => by rw [wr_off _ _ _ (by omega)]; exact h.2.2 p hp⟩
theorem cDryWith {post : Int32 → St → Prop} {s : St} {D : Nat → Nat → Nat} {i k set j : Nat} (hn : n ≤ 12) (ht : t < 2) (hp : PP (hlC σ 0) n t c ρ) (hB : BF σ s c ρ) (hD : ∀ i k, i < c → k < 6 → dwV (hlC σ 0) (ρ i) (6 * t + k) = nI (D i k)) (hic : i < c) (hk : k + j = 5) (hs : set < 2 ^ c) (hbit : set.testBit i = true) (htb : ∀ x, x < 2 ^ c → s 29 (k + 1) x = nI (Wf D c j (bits x))) (h : post (nI (vW D c j (Wf D c j) (bits set) i)) s) : w_X0_dryWith post s 0 (nI t) (nI k) (nI set) (nI i) := by
  have hc6 := hp.1
  have h64 : (2 : Nat) ^ c ≤ 2 ^ 6 := Nat.pow_le_pow_right (by decide) hc6
  have hx : set ^^^ 2 ^ i < 2 ^ c := Nat.xor_lt_two_pow hs (Nat.pow_lt_pow_right (by decide) hic)
  unfold w_X0_dryWith
  refine ⟨vp_in_nI (by omega) (by decide), sX9_firstHouse ?_⟩
  rw [cl (show i < 2 ^ 31 by omega), hB.2.2 i hic, nI_add]
  have hr := (hp.2.1 i hic).1
  refine sX1_dryWere (by omega) (by omega) ?_
  have e : dwV (hlC s 0) (ρ i) (6 * t + k) = dwV (hlC σ 0) (ρ i) (6 * t + k) := by
    unfold dwV
    show (if kCovers (s 6 0 (ρ i)) (s 7 0 (ρ i)) < s 10 0 (6 * t + k) then kCovers (s 6 0 (ρ i)) (s 7 0 (ρ i)) else s 10 0 (6 * t + k)) = _
    rw [hB.1 6 0 _ (by decide) (by decide) (by decide) (by omega), hB.1 7 0 _ (by decide) (by decide) (by decide) (by omega), hB.1 10 0 _ (by decide) (by decide) (by decide) (by omega)]
    rfl
  rw [e, hD i k hic (by omega), one_shl i (by omega), nI_xor, nI_1, cl (show k + 1 < 2 ^ 31 by omega), cl (show set ^^^ 2 ^ i < 2 ^ 31 by omega), htb _ hx, nI_add, bits_rm hbit]
  refine ⟨vp_in_nI (by omega) (by decide), vp_in_nI (by omega) (by decide), ?_⟩
  unfold vW at h
  rw [if_pos hic, show 5 - j = k by omega] at h
  exact h
theorem uC_mf (post : Int32 → St → Prop) (q : Nat) : l_X0_mostFrom_16 post (q + 1) = b_X0_mostFrom_16 (l_X0_mostFrom_16 post q) post := rfl
theorem cMostFrom {post : Int32 → St → Prop} {s : St} {D : Nat → Nat → Nat} {k set j : Nat} (hn : n ≤ 12) (ht : t < 2) (hp : PP (hlC σ 0) n t c ρ) (hB : BF σ s c ρ) (hD9 : ∀ i k, D i k ≤ 9) (hD : ∀ i k, i < c → k < 6 → dwV (hlC σ 0) (ρ i) (6 * t + k) = nI (D i k)) (hk : k + j = 5) (hs : set < 2 ^ c) (htb : ∀ x, x < 2 ^ c → s 29 (k + 1) x = nI (Wf D c j (bits x))) (h : post (nI (Wf D c (j + 1) (bits set))) s) : w_X0_mostFrom post s 0 (nI t) (nI k) (nI set) := by
  have hc6 := hp.1
  have h64 : (2 : Nat) ^ c ≤ 2 ^ 6 := Nat.pow_le_pow_right (by decide) hc6
  unfold w_X0_mostFrom
  rw [nI_1, cl (show k + 1 < 2 ^ 31 by omega), cl (show set < 2 ^ 31 by omega), htb set hs]
  refine ⟨vp_in_nI (by omega) (by decide), vp_in_nI (by omega) (by decide), fun v ev => ⟨c + 1, ?_⟩⟩
  subst ev
  obtain ⟨g1, g2, g3, g4, g5, g6⟩ := pick_spec D c j (bits set)
  have bound : ∀ i, vW D c j (Wf D c j) (bits set) i ≤ 100 := fun i => by
    unfold vW
    have := Wf_le (c := c) hD9 j (rm (bits set) i)
    have := Wf_le (c := c) hD9 j (bits set)
    have := hD9 i (5 - j)
    split <;> omega
  have vc : vW D c j (Wf D c j) (bits set) c = Wf D c j (bits set) := by
    unfold vW
    rw [if_neg (by omega)]
  suffices H : ∀ q i b, i + q = c → b ≤ Wf D c (j + 1) (bits set) → (∀ p, p < i → (bits set) p = true → vW D c j (Wf D c j) (bits set) p ≤ b) → Wf D c j (bits set) ≤ b → l_X0_mostFrom_16 post (q + 1) s 0 (nI t) (nI k) (nI set) (nI b) (nI i) by
    exact H c 0 _ (by omega) (by rw [g4, ← vc]; exact g5 c (Nat.le_refl _) (by simp [aF])) (fun p hp => absurd hp (Nat.not_lt_zero _)) (Nat.le_refl _)
  intro q
  induction q with
  | zero =>
    intro i b hi hb1 hb2 hb3
    obtain rfl : i = c := by omega
    rw [uC_mf]
    unfold b_X0_mostFrom_16
    rw [hB.2.1]
    have e : b = Wf D i (j + 1) (bits set) := by
      refine Nat.le_antisymm hb1 ?_
      rw [g4]
      by_cases c1 : pick D i j (bits set) < i
      · exact hb2 _ c1 (g3 c1)
      · rw [show pick D i j (bits set) = i by omega, vc]
        exact hb3
    rw [e]
    exact ⟨fun _ => h, fun c => absurd (nI_le (Nat.le_refl _) (by omega)) c⟩
  | succ q ih =>
    intro i b hi hb1 hb2 hb3
    rw [uC_mf]
    unfold b_X0_mostFrom_16
    rw [hB.2.1]
    have hb100 : b ≤ 100 := by
      rw [g4] at hb1
      exact Nat.le_trans hb1 (bound _)
    refine ⟨fun c => absurd c (nI_ge (by omega) (by omega)), fun _ => sX9_inSet ?_⟩
    rw [bitOf_t (by omega) (by omega)]
    by_cases cb : set.testBit i = true
    · rw [if_pos cb, if_pos rfl]
      refine ⟨fun c => absurd c (by decide), fun _ => cDryWith hn ht hp hB hD (by omega) hk hs cb htb (fun v ev w ew => ?_)⟩
      have hv := bound i
      have ev : v = nI (if b < vW D c j (Wf D c j) (bits set) i then vW D c j (Wf D c j) (bits set) i else b) := by
        rw [ev]
        by_cases g : b < vW D c j (Wf D c j) (bits set) i
        · rw [if_pos (nI_lt g (by omega)), if_pos g]
        · rw [if_neg (nI_nlt (by omega) (by omega)), if_neg g]
      subst ev
      subst ew
      rw [nI_1]
      refine ih (i + 1) _ (by omega) ?_ (fun p hp2 hbp => ?_) ?_
      · split
        · rw [g4]
          exact g5 i (by omega) (by unfold aF; rw [if_pos (by omega)]; exact cb)
        · exact hb1
      · by_cases e : p = i
        · rw [e]
          split <;> omega
        · have := hb2 p (by omega) hbp
          split <;> omega
      · split <;> omega
    · rw [if_neg cb, if_neg (by decide)]
      refine ⟨fun _ v ev => ?_, fun c => absurd rfl c⟩
      subst ev
      rw [nI_1]
      refine ih (i + 1) b (by omega) hb1 (fun p hp2 hbp => ?_) hb3
      by_cases e : p = i
      · rw [e] at hbp
        exact absurd hbp cb
      · exact hb2 p (by omega) hbp
theorem uC_lb (post : Int32 → St → Prop) (q : Nat) : l_X0_leastOfBest_3 post (q + 1) = b_X0_leastOfBest_3 (l_X0_leastOfBest_3 post q) post := rfl
theorem cLeast {post : Int32 → St → Prop} {s : St} {D : Nat → Nat → Nat} {k set j : Nat} (hn : n ≤ 12) (ht : t < 2) (hp : PP (hlC σ 0) n t c ρ) (hB : BF σ s c ρ) (hD9 : ∀ i k, D i k ≤ 9) (hD : ∀ i k, i < c → k < 6 → dwV (hlC σ 0) (ρ i) (6 * t + k) = nI (D i k)) (hk : k + j = 5) (hs : set < 2 ^ c) (htb : ∀ x, x < 2 ^ c → s 29 (k + 1) x = nI (Wf D c j (bits x))) (htb2 : s 29 k set = nI (Wf D c (j + 1) (bits set))) (h : post (if pick D c j (bits set) < c then nI (pick D c j (bits set)) else NON) s) : w_X0_leastOfBest post s 0 (nI t) (nI k) (nI set) := by
  have hc6 := hp.1
  have h64 : (2 : Nat) ^ c ≤ 2 ^ 6 := Nat.pow_le_pow_right (by decide) hc6
  obtain ⟨g1, g2, g3, g4, g5, g6⟩ := pick_spec D c j (bits set)
  have bound : ∀ i, vW D c j (Wf D c j) (bits set) i ≤ 100 := fun i => by
    unfold vW
    have := Wf_le (c := c) hD9 j (rm (bits set) i)
    have := Wf_le (c := c) hD9 j (bits set)
    have := hD9 i (5 - j)
    split <;> omega
  refine ⟨c + 1, ?_⟩
  suffices H : ∀ q i, i + q = c → i ≤ pick D c j (bits set) → l_X0_leastOfBest_3 post (q + 1) s 0 (nI t) (nI k) (nI set) (nI i) by
    exact H c 0 (by omega) (Nat.zero_le _)
  intro q
  induction q with
  | zero =>
    intro i hi hip
    obtain rfl : i = c := by omega
    rw [uC_lb]
    unfold b_X0_leastOfBest_3
    rw [hB.2.1]
    rw [if_neg (by omega)] at h
    exact ⟨fun _ => h, fun c => absurd (nI_le (Nat.le_refl _) (by omega)) c⟩
  | succ q ih =>
    intro i hi hip
    rw [uC_lb]
    unfold b_X0_leastOfBest_3
    rw [hB.2.1]
    refine ⟨fun c => absurd c (nI_ge (by omega) (by omega)), fun _ => sX9_inSet ?_⟩
    rw [bitOf_t (by omega) (by omega)]
    by_cases cb : set.testBit i = true
    · rw [if_pos cb, if_pos rfl]
      refine ⟨fun c => absurd c (by decide), fun _ => cDryWith hn ht hp hB hD (by omega) hk hs cb htb ?_⟩
      rw [cl (show k < 2 ^ 31 by omega), cl (show set < 2 ^ 31 by omega), htb2, g4]
      refine ⟨vp_in_nI (by omega) (by decide), vp_in_nI (by omega) (by decide), fun ne v ev => ?_, fun e => ?_⟩
      · subst ev
        rw [nI_1]
        refine ih (i + 1) (by omega) ?_
        by_cases x : i = pick D c j (bits set)
        · exact absurd (by rw [← x]) ne
        · omega
      · have e2 := (nI_eq (by have := bound i; omega) (by have := bound (pick D c j (bits set)); omega)).1 e
        have x : i = pick D c j (bits set) := by
          refine Nat.le_antisymm hip (Nat.le_of_not_lt (fun y => ?_))
          have := g6 i y (by unfold aF; rw [if_pos (by omega)]; exact cb)
          omega
        rw [← x, if_pos (by omega)] at h
        exact h
    · rw [if_neg cb, if_neg (by decide)]
      refine ⟨fun _ v ev => ?_, fun c => absurd rfl c⟩
      subst ev
      rw [nI_1]
      refine ih (i + 1) (by omega) ?_
      by_cases x : i = pick D c j (bits set)
      · exact absurd (show (bits set) i = true by rw [x]; exact g3 (by omega)) cb
      · omega
theorem uC_cho (post : St → Prop) (q : Nat) : l_X0_choose_12 post (q + 1) = b_X0_choose_12 (l_X0_choose_12 post q) post := rfl
def orN (x : Int32) : Int32 := if x = -1 then NON else x
theorem nI_m1 {k : Nat} (hk : k < 2 ^ 31) : ¬ nI k = -1 := fun e => absurd (show nI k < 0 by rw [e]; decide) (nI_pos hk)
theorem cChoose {post : St → Prop} {s : St} {D : Nat → Nat → Nat} (hn : n ≤ 12) (ht : t < 2) (hp : PP (hlC σ 0) n t c ρ) (hB : BF σ s c ρ) (hD9 : ∀ i k, D i k ≤ 9) (hD : ∀ i k, i < c → k < 6 → dwV (hlC σ 0) (ρ i) (6 * t + k) = nI (D i k)) (htb : ∀ k, k ≤ 6 → ∀ x, x < 2 ^ c → s 29 k x = nI (Wf D c (6 - k) (bits x))) (h : ∀ s' : St, BF σ s' c ρ → (∀ k x, s' 29 k x = s 29 k x) → (∀ q, q < 6 → s' 27 0 q = orN (chF D c ρ 6 (bits (2 ^ c - 1)) q)) → post s') : w_X0_choose post s 0 (nI t) := by
  have hc6 := hp.1
  have h64 : (2 : Nat) ^ c ≤ 2 ^ 6 := Nat.pow_le_pow_right (by decide) hc6
  have hpos := Nat.two_pow_pos c
  unfold w_X0_choose
  rw [hB.2.1, one_shl c (by omega), show nI (2 ^ c) - 1 = nI (2 ^ c - 1) from pk_sub (b := 1) hpos]
  intro v ev
  subst ev
  refine ⟨7, ?_⟩
  suffices H : ∀ q k set (s1 : St), k + q = 6 → set < 2 ^ c → BF σ s1 c ρ → (∀ k x, s1 29 k x = s 29 k x) → (∀ i, i < k → s1 27 0 i = orN (chF D c ρ 6 (bits (2 ^ c - 1)) i)) → (∀ i, k ≤ i → i < 6 → chF D c ρ q (bits set) i = chF D c ρ 6 (bits (2 ^ c - 1)) i) → l_X0_choose_12 post (q + 1) s1 0 (nI t) (nI set) (nI k) by
    exact H 6 0 (2 ^ c - 1) s (by omega) (by omega) hB (fun _ _ => rfl) (fun i hi => absurd hi (Nat.not_lt_zero _)) (fun _ _ _ => rfl)
  intro q
  induction q with
  | zero =>
    intro k set s1 hk hs hB1 g29 g27 gc
    obtain rfl : k = 6 := by omega
    rw [uC_cho]
    unfold b_X0_choose_12
    exact ⟨fun _ => h s1 hB1 g29 g27, fun c => absurd (by decide) c⟩
  | succ q ih =>
    intro k set s1 hk hs hB1 g29 g27 gc
    rw [uC_cho]
    unfold b_X0_choose_12
    refine ⟨fun c => absurd c (nI_ge (b := 6) (by omega) (by decide)), fun _ => ?_⟩
    have t1 : ∀ x, x < 2 ^ c → s1 29 (k + 1) x = nI (Wf D c q (bits x)) := fun x hx => by
      rw [g29, htb (k + 1) (by omega) x hx, show 6 - (k + 1) = q by omega]
    have t2 : s1 29 k set = nI (Wf D c (q + 1) (bits set)) := by
      rw [g29, htb k (by omega) set hs, show 6 - k = q + 1 by omega]
    refine cLeast hn ht hp hB1 hD9 hD (by omega) hs t1 t2 ?_
    obtain ⟨g1, g2, g3, g4, g5, g6⟩ := pick_spec D c q (bits set)
    have ck : chF D c ρ (q + 1) (bits set) k = (if pick D c q (bits set) < c then nI (ρ (pick D c q (bits set))) else -1) := by
      show (if k = 5 - q then _ else _) = _
      rw [if_pos (by omega)]
    have cr : ∀ i, k < i → chF D c ρ (q + 1) (bits set) i = chF D c ρ q (if pick D c q (bits set) < c then rm (bits set) (pick D c q (bits set)) else bits set) i := fun i hi => by
      show (if i = 5 - q then _ else _) = _
      rw [if_neg (by omega)]
    have e27 : ∀ (v : Int32), v = orN (chF D c ρ 6 (bits (2 ^ c - 1)) k) → ∀ i, i < k + 1 → wr s1 27 0 k v 27 0 i = orN (chF D c ρ 6 (bits (2 ^ c - 1)) i) := by
      intro v ev i hi
      rw [wr_row]
      by_cases e : i = k
      · rw [e, pk_us]
        exact ev
      · rw [pk_un e]
        exact g27 i (by omega)
    have gk := gc k (Nat.le_refl _) (by omega)
    by_cases cp : pick D c q (bits set) < c
    · rw [if_pos cp]
      rw [if_pos cp] at ck
      have hrr := (hp.2.1 _ cp).1
      refine ⟨fun _ => ⟨vp_in_nI (by omega) (by decide), ?_⟩, fun e => absurd e (nI_NON (by omega))⟩
      unfold b_X0_choose_55
      rw [cl (show pick D c q (bits set) < 2 ^ 31 by omega), cl (show k < 2 ^ 31 by omega), hB1.2.2 _ cp]
      refine ⟨vp_in_nI (by omega) (by decide), fun s2 e2 => ⟨fun e => absurd e (nI_NON (by omega)), fun _ v ev w ew => ?_⟩⟩
      rw [one_shl _ (by omega), nI_xor] at ev
      subst ev
      subst ew
      rw [nI_1]
      subst e2
      refine ih (k + 1) _ _ (by omega) (Nat.xor_lt_two_pow hs (Nat.pow_lt_pow_right (by decide) cp)) (BF_wr hB1 (Or.inl rfl)) (fun k2 x => by rw [wr_off _ _ _ (by omega)]; exact g29 k2 x) (e27 _ ?_) (fun i h1 h2 => ?_)
      · rw [← gk, ck]
        unfold orN
        rw [if_neg (nI_m1 (by omega))]
      · rw [bits_rm (g3 cp), ← gc i (by omega) h2, cr i (by omega), if_pos cp]
    · rw [if_neg cp]
      rw [if_neg cp] at ck
      refine ⟨fun e => absurd rfl e, fun _ => ?_⟩
      unfold b_X0_choose_55
      rw [cl (show k < 2 ^ 31 by omega)]
      refine ⟨vp_in_nI (by omega) (by decide), fun s2 e2 => ⟨fun _ w ew => ?_, fun e => absurd rfl e⟩⟩
      subst ew
      rw [nI_1]
      subst e2
      refine ih (k + 1) set _ (by omega) hs (BF_wr hB1 (Or.inl rfl)) (fun k2 x => by rw [wr_off _ _ _ (by omega)]; exact g29 k2 x) (e27 _ ?_) (fun i h1 h2 => ?_)
      · rw [← gk, ck]
        rfl
      · rw [← gc i (by omega) h2, cr i (by omega), if_neg cp]
end ClassFits
