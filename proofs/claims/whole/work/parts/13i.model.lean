/-! LAYER 2. Sets by bits; the model's nights. -/
theorem nI_or (a b : Nat) : nI a ||| nI b = nI (a ||| b) := by
  apply Int32.toBitVec_inj.1
  show BitVec.ofNat 32 a ||| BitVec.ofNat 32 b = BitVec.ofNat 32 (a ||| b)
  apply BitVec.eq_of_getLsbD_eq
  intro i hi
  simp [hi]
theorem nI_and (a b : Nat) : nI a &&& nI b = nI (a &&& b) := by
  apply Int32.toBitVec_inj.1
  show BitVec.ofNat 32 a &&& BitVec.ofNat 32 b = BitVec.ofNat 32 (a &&& b)
  apply BitVec.eq_of_getLsbD_eq
  intro i hi
  simp [hi]
theorem sh_l : ∀ n, n < 32 → ((nI n &&& 31).toBitVec.smod 32).toNat = n := by decide +kernel
theorem one_shl : ∀ k, k < 31 → (1 : Int32) <<< (nI k &&& 31) = nI (2 ^ k) := by decide +kernel
theorem bitOf_n {s k : Nat} (hs : s < 2 ^ 31) (hk : k < 32) : bitOf (nI s) k = nI (s / 2 ^ k % 2) := by
  unfold bitOf
  rw [pk_shrN hs _ k (sh_l k hk)]
  have : s / 2 ^ k ≤ s := Nat.div_le_self _ _
  exact pk_andN (by omega) 1 (by decide)
theorem bitOf_t {s k : Nat} (hs : s < 2 ^ 31) (hk : k < 32) : bitOf (nI s) k = if s.testBit k = true then 1 else 0 := by
  rw [bitOf_n hs hk, Nat.testBit_eq_decide_div_mod_eq]
  by_cases c : s / 2 ^ k % 2 = 1
  · rw [c]
    simp
    rfl
  · rw [show s / 2 ^ k % 2 = 0 by omega]
    simp
    rfl
def lootN (h : Hl) (t : Nat) : Nat → Nat
  | 0 => 0
  | k + 1 => if tw (h 9 k) = nI t then lootN h t k else if h 13 t < kWeighs (h 6 k) (h 7 k) then lootN h t k else lootN h t k ||| 2 ^ k
theorem lootTo_n (h : Hl) (t : Nat) : ∀ k, k ≤ 12 → lootTo h t k = nI (lootN h t k) := by
  intro k
  induction k with
  | zero => intro _; rfl
  | succ k ih =>
    intro hk
    unfold lootTo lootN
    rw [ih (by omega), one_shl k (by omega), nI_or]
    split
    · rfl
    · split <;> rfl
theorem lootN_lt (h : Hl) (t : Nat) : ∀ k, lootN h t k < 2 ^ k := by
  intro k
  induction k with
  | zero => exact Nat.one_pos
  | succ k ih =>
    have h2 : (2 : Nat) ^ (k + 1) = 2 ^ k + 2 ^ k := by omega
    unfold lootN
    split
    · omega
    · split
      · omega
      · exact Nat.or_lt_two_pow (by omega) (by have := Nat.two_pow_pos k; omega)
theorem lootN_bit (h : Hl) (t j : Nat) : ∀ k, (lootN h t k).testBit j = true ↔ j < k ∧ ¬ tw (h 9 j) = nI t ∧ ¬ h 13 t < kWeighs (h 6 j) (h 7 j) := by
  intro k
  induction k with
  | zero => simp [lootN]
  | succ k ih =>
    unfold lootN
    by_cases e : j = k
    · subst e
      have h0 : (lootN h t j).testBit j = false := Nat.testBit_lt_two_pow (lootN_lt h t j)
      split
      · rename_i c
        simp [h0, c]
      · rename_i c
        split
        · rename_i c2
          simp [h0, c2]
        · rename_i c2
          simp [h0, c, c2, Nat.testBit_or, Nat.testBit_two_pow_self]
    · have h1 : (2 ^ k).testBit j = false := by rw [Nat.testBit_two_pow]; simp; omega
      have h2 : j < k + 1 ↔ j < k := by omega
      split
      · rw [ih, h2]
      · split
        · rw [ih, h2]
        · rw [Nat.testBit_or, h1, Bool.or_false, ih, h2]
def cntN (s : Nat) : Nat → Nat → Nat
  | 0, _ => 0
  | m + 1, k => (if s.testBit k = true then 1 else 0) + cntN s m (k + 1)
def mF : Nat → Nat → Nat → Option Nat
  | 0, _, _ => none
  | f + 1, acc, s => if s = 0 then some acc else mF f (acc + 1) (s &&& (s - 1))
theorem cnt_all : ∀ a, a < 64 → ∀ b, b < 64 → bitC (nI (64 * a + b)) = nI (cntN (64 * a + b) 12 0) ∧ mF 13 0 (64 * a + b) = some (cntN (64 * a + b) 12 0) := by decide +kernel
theorem cnt_s {s : Nat} (hs : s < 4096) : bitC (nI s) = nI (cntN s 12 0) ∧ mF 13 0 s = some (cntN s 12 0) := by
  have h1 := cnt_all (s / 64) (by omega) (s % 64) (by omega)
  rw [show 64 * (s / 64) + s % 64 = s by omega] at h1
  exact h1
theorem cnt_le (s : Nat) : ∀ m k, cntN s m k ≤ m := by
  intro m
  induction m with
  | zero => intro k; exact Nat.le_refl _
  | succ m ih =>
    intro k
    unfold cntN
    have := ih (k + 1)
    split <;> omega
theorem cnt_0 {s : Nat} (hs : s < 4096) : cntN s 12 0 = 0 ↔ s = 0 := by
  constructor
  · intro e
    have h1 := (cnt_s hs).2
    rw [e, mF] at h1
    by_cases c : s = 0
    · exact c
    · exfalso
      rw [if_neg c] at h1
      have key : ∀ f acc s c, mF f acc s = some c → acc ≤ c := by
        intro f
        induction f with
        | zero => intro acc s c h; simp [mF] at h
        | succ f ih =>
          intro acc s c h
          rw [mF] at h
          split at h
          · cases h
            exact Nat.le_refl _
          · have := ih _ _ _ h
            omega
      have := key _ _ _ _ h1
      omega
  · intro e
    subst e
    decide
theorem sX10_many {post : Int32 → St → Prop} {τ : St} {s : Nat} (hs : s < 4096) (hp : post (nI (cntN s 12 0)) τ) : w_X10_many post τ (nI s) := by
  refine ⟨13, ?_⟩
  suffices H : ∀ f acc s c, s < 4096 → mF f acc s = some c → post (nI c) τ → l_X10_many_4 post f τ (nI acc) (nI s) by
    exact H 13 0 s _ hs (cnt_s hs).2 hp
  intro f
  induction f with
  | zero => intro acc s c _ h; simp [mF] at h
  | succ f ih =>
    intro acc s c hs hm hp
    show b_X10_many_4 (l_X10_many_4 post f) post τ _ _
    unfold b_X10_many_4
    rw [mF] at hm
    by_cases c0 : s = 0
    · rw [if_pos c0] at hm
      cases hm
      subst c0
      exact ⟨fun _ => hp, fun c => absurd rfl c⟩
    · rw [if_neg c0] at hm
      refine ⟨fun c => absurd c (nI_ne0 (by omega) (by omega)), fun _ v e v2 e2 => ?_⟩
      subst e
      subst e2
      have hle : s &&& (s - 1) ≤ s := Nat.and_le_left
      rw [nI_1, show nI s - 1 = nI (s - 1) from pk_sub (b := 1) (by omega), nI_and]
      exact ih _ _ _ (by omega) hm hp
def nthN (s : Nat) : Nat → Nat → Nat → Option Nat
  | 0, _, _ => none
  | m + 1, k, left => if s.testBit k = true then (if left = 0 then some k else nthN s m (k + 1) (left - 1)) else nthN s m (k + 1) left
theorem nthS_n {s : Nat} (hs : s < 2 ^ 31) : ∀ m k left, k + m ≤ 31 → left < 2 ^ 31 → nthS (nI s) m k (nI left) = (nthN s m k left).elim NON nI := by
  intro m
  induction m with
  | zero => intro k left _ _; rfl
  | succ m ih =>
    intro k left hk hl
    unfold nthS nthN
    rw [bitOf_t hs (by omega)]
    by_cases c : s.testBit k = true
    · rw [if_pos c, if_pos rfl, if_pos c]
      by_cases c2 : left = 0
      · rw [if_pos c2, c2, if_pos nI_0]
        rfl
      · rw [if_neg c2, if_neg (nI_ne0 (by omega) hl)]
        have e : nI left + (-1) = nI (left - 1) := by
          obtain ⟨q, rfl⟩ : ∃ q, left = q + 1 := ⟨left - 1, by omega⟩
          exact pk_m1 q
        rw [e]
        exact ih _ _ (by omega) (by omega)
    · rw [if_neg c, if_neg (by decide), if_neg c]
      exact ih _ _ (by omega) hl
theorem nthN_some (s : Nat) : ∀ m k left, left < cntN s m k → ∃ j, nthN s m k left = some j ∧ s.testBit j = true ∧ j < k + m := by
  intro m
  induction m with
  | zero => intro k left h; exact absurd h (by simp [cntN])
  | succ m ih =>
    intro k left h
    unfold cntN at h
    unfold nthN
    by_cases c : s.testBit k = true
    · rw [if_pos c] at h ⊢
      by_cases c2 : left = 0
      · rw [if_pos c2]
        exact ⟨k, rfl, c, by omega⟩
      · rw [if_neg c2]
        obtain ⟨j, h1, h2, h3⟩ := ih (k + 1) (left - 1) (by omega)
        exact ⟨j, h1, h2, by omega⟩
    · rw [if_neg c] at h ⊢
      obtain ⟨j, h1, h2, h3⟩ := ih (k + 1) left (by omega)
      exact ⟨j, h1, h2, by omega⟩
/-- what a going out does, in numbers -/
theorem goOut_n (sp : Int32 → Int32 → Int32 → Int32) {h : Hl} {t n : Nat} (ht : t < 2) (hs : HS h n) : (lootN h t n = 0 ∧ goOutH sp h t n = h) ∨ (homeV h t = NON ∧ goOutH sp h t n = h) ∨ (lootN h t n ≠ 0 ∧ ∃ r a c, r < n ∧ a < 12 ∧ homeV h t = nI a ∧ h 12 a = NON ∧ (lootN h t n).testBit r = true ∧ 0 < c ∧ c ≤ 12 ∧ cntN (lootN h t n) 12 0 = c ∧ (∃ q, q < c ∧ jrem (drawV h) (nI c) = nI q ∧ nthN (lootN h t n) 12 0 q = some r) ∧ goOutH sp h t n = if h 11 (h 9 r).toNatClampNeg ≤ jrem (drawV (drawH h)) 100 then carryH sp (drawH (drawH h)) r a else setH (drawH (drawH h)) 5 3 (drawH (drawH h) 5 3 + 1)) := by
  obtain ⟨h12, hn, h9, hr⟩ := hs
  have hl := lootTo_n h t n h12
  have hlt : lootN h t n < 4096 := Nat.lt_of_lt_of_le (lootN_lt h t n) (Nat.pow_le_pow_right (by decide) h12 : 2 ^ n ≤ 2 ^ 12)
  have hc := (cnt_s hlt).1
  have hcl := cnt_le (lootN h t n) 12 0
  unfold goOutH
  rw [hl, hc]
  by_cases c0 : lootN h t n = 0
  · exact Or.inl ⟨c0, by rw [(cnt_0 hlt).2 c0]; exact if_pos nI_0⟩
  · have c1 : 0 < cntN (lootN h t n) 12 0 := Nat.pos_of_ne_zero (fun e => c0 ((cnt_0 hlt).1 e))
    rw [if_neg (nI_ne0 c1 (by omega))]
    by_cases c2 : homeV h t = NON
    · exact Or.inr (Or.inl ⟨c2, if_pos c2⟩)
    · rw [if_neg c2]
      obtain ⟨a, _, _, ha, ea, efree⟩ := homeV_in h ht c2
      obtain ⟨q, hq, eq⟩ := draw_mod h c1 (by omega)
      obtain ⟨r, er, hb, hr12⟩ := nthN_some _ _ _ _ hq
      have hrn := ((lootN_bit h t r n).1 hb).1
      refine Or.inr (Or.inr ⟨c0, r, a, _, hrn, ha, ea, efree, hb, c1, hcl, rfl, ⟨q, hq, eq, er⟩, ?_⟩)
      rw [eq, nthS_n (by omega) 12 0 q (by omega) (by omega), er, ea]
      unfold stealH
      show (if nI r = NON then _ else _) = _
      rw [if_neg (nI_NON (by omega)), show (Option.elim (some r) NON nI) = nI r from rfl, cl (show r < 2 ^ 31 by omega), cl (show a < 2 ^ 31 by omega)]
      have g11 : ∀ x, drawH (drawH h) 11 x = h 11 x := fun x => by simp [drawH, setH]
      have g9 : ∀ x, drawH (drawH h) 9 x = h 9 x := fun x => by simp [drawH, setH]
      rw [g11, g9]
theorem HO_set {h : Hl} {n k j : Nat} {v : Int32} (ho : HO h n) (h1 : ¬ (k = 5 ∧ j = 0)) (h2 : k ≠ 9) (h3 : k ≠ 12) : HO (setH h k j v) n := by
  refine ⟨HS_set ho.1 h1 h2 h3, fun q hq => ?_, fun a ha => ?_⟩
  · obtain ⟨a, ha, e1, e2⟩ := ho.2.1 q hq
    refine ⟨a, ha, ?_, ?_⟩
    · simp only [setH]
      rw [if_neg (by omega)]
      exact e1
    · simp only [setH]
      rw [if_neg (by omega)]
      exact e2
  · simp only [setH]
    rw [if_neg (by omega)]
    refine (ho.2.2 a ha).imp id (fun ⟨q, hq, e1, e2⟩ => ⟨q, hq, e1, ?_⟩)
    rw [if_neg (by omega)]
    exact e2
theorem HO_put {h : Hl} {n r a : Nat} (ho : HO h n) (hr : r < n) (ha : a < 12) (hf : h 12 a = NON) : HO (putH h r a) n := by
  have hn := ho.1.1
  obtain ⟨b, hb, e1, e2⟩ := ho.2.1 r hr
  have hba : b ≠ a := fun e => nI_NON (show r < 2 ^ 31 by omega) (by rw [← e2, e, hf])
  refine ⟨HS_put ho.1 (by omega) ha, fun k hk => ?_, fun c hc => ?_⟩
  · by_cases e : k = r
    · subst e
      exact ⟨a, ha, by simp [putH, setH], by simp [putH, setH]⟩
    · obtain ⟨c, hc, g1, g2⟩ := ho.2.1 k hk
      have hca : c ≠ a := fun e => nI_NON (show k < 2 ^ 31 by omega) (by rw [← g2, e, hf])
      have hcb : c ≠ b := fun e3 => by
        subst e3
        exact e ((nI_eq (by omega) (by omega)).1 (g2.symm.trans e2))
      refine ⟨c, hc, by simp [putH, setH, e, g1], ?_⟩
      simp [putH, setH, hca, e1, cl (show b < 2 ^ 31 by omega), hcb, g2]
  · by_cases e : c = a
    · subst e
      exact Or.inr ⟨r, hr, by simp [putH, setH], by simp [putH, setH]⟩
    · by_cases e3 : c = b
      · subst e3
        exact Or.inl (by simp [putH, setH, e, e1, cl (show c < 2 ^ 31 by omega)])
      · rcases ho.2.2 c hc with g | ⟨k, hk, g1, g2⟩
        · exact Or.inl (by simp [putH, setH, e, e1, cl (show b < 2 ^ 31 by omega), e3, g])
        · have hkr : k ≠ r := fun q => by
            subst q
            exact e3 ((nI_eq (by omega) (by omega)).1 (g2.symm.trans e1))
          exact Or.inr ⟨k, hk, by simp [putH, setH, e, e1, cl (show b < 2 ^ 31 by omega), e3, g1], by simp [putH, setH, hkr, g2]⟩
/-- ranges -/
def HR (h : Hl) (n : Nat) : Prop := (∀ k, k < n → (∃ q, q < 6 ∧ h 6 k = nI q) ∧ (∃ z, 1 ≤ z ∧ z ≤ 9 ∧ h 7 k = nI z) ∧ (∃ l, l ≤ 99 ∧ h 8 k = nI l)) ∧ (∀ a, a < 12 → ∃ p, p ≤ 9 ∧ h 10 a = nI p)
theorem HR_set {h : Hl} {n k j : Nat} {v : Int32} (hr : HR h n) (h1 : k = 5 ∨ k = 9 ∨ 11 ≤ k) : HR (setH h k j v) n := by
  refine ⟨fun q hq => ?_, fun a ha => ?_⟩
  · have := hr.1 q hq
    simp only [setH]
    rw [if_neg (by omega), if_neg (by omega), if_neg (by omega)]
    exact this
  · have := hr.2 a ha
    simp only [setH]
    rw [if_neg (by omega)]
    exact this
theorem HR_leak {h : Hl} {n r l : Nat} (hr : HR h n) (hl : l ≤ 99) : HR (setH h 8 r (nI l)) n := by
  refine ⟨fun q hq => ?_, fun a ha => ?_⟩
  · obtain ⟨g1, g2, g3⟩ := hr.1 q hq
    simp only [setH]
    rw [if_neg (by omega), if_neg (by omega)]
    refine ⟨g1, g2, ?_⟩
    by_cases e : q = r
    · rw [if_pos (by simp [e])]
      exact ⟨l, hl, rfl⟩
    · rw [if_neg (by omega)]
      exact g3
  · have := hr.2 a ha
    simp only [setH]
    rw [if_neg (by omega)]
    exact this
def HI (h : Hl) (n : Nat) : Prop := HO h n ∧ HR h n
def SpR (sp : Int32 → Int32 → Int32 → Int32) : Prop := ∀ a b c, ∃ q, q ≤ 99 ∧ sp a b c = nI q
theorem leakUp_n {l s : Nat} (hl : l ≤ 99) (hs : s ≤ 99) : leakUp (nI l) (nI s) = nI (if l + s < 99 then l + s else 99) := by
  unfold leakUp
  rw [nI_add]
  by_cases c : l + s < 99
  · rw [if_pos (show nI (l + s) < (99 : Int32) from nI_lt (b := 99) c (by decide)), if_pos c]
  · rw [if_neg (show ¬ nI (l + s) < (99 : Int32) from nI_nlt (b := 99) (by omega) (by omega)), if_neg c]
    rfl
theorem HI_draw {h : Hl} {n : Nat} (hi : HI h n) : HI (drawH h) n := ⟨HO_set hi.1 (by decide) (by decide) (by decide), HR_set hi.2 (by decide)⟩
theorem HI_carry {sp : Int32 → Int32 → Int32 → Int32} (hsp : SpR sp) {h : Hl} {n r a : Nat} (hi : HI h n) (hr : r < n) (ha : a < 12) (hf : h 12 a = NON) : HI (carryH sp h r a) n := by
  obtain ⟨-, -, l, hl, el⟩ := hi.2.1 r hr
  obtain ⟨s, hs, es⟩ := hsp (h 8 r) (h 7 r) (h 5 5)
  have e : leakUp (h 8 r) (sp (h 8 r) (h 7 r) (h 5 5)) = nI (if l + s < 99 then l + s else 99) := by rw [es, el, leakUp_n hl hs]
  unfold carryH
  rw [e]
  refine ⟨HO_set (HO_set (HO_put hi.1 hr ha hf) (by omega) (by decide) (by decide)) (by decide) (by decide) (by decide), HR_set (HR_leak (HR_set (HR_set (HR_set hi.2 (by decide)) (by decide)) (by decide)) ?_) (by decide)⟩
  split <;> omega
theorem HI_goOut {sp : Int32 → Int32 → Int32 → Int32} (hsp : SpR sp) {h : Hl} {t n : Nat} (ht : t < 2) (hi : HI h n) : HI (goOutH sp h t n) n := by
  rcases goOut_n sp ht hi.1.1 with ⟨-, e⟩ | ⟨-, e⟩ | ⟨-, r, a, c, hr, ha, -, hf, -, -, -, -, -, e⟩
  · rw [e]; exact hi
  · rw [e]; exact hi
  · rw [e]
    split
    · exact HI_carry hsp (HI_draw (HI_draw hi)) hr ha (by simp [drawH, setH, hf])
    · exact ⟨HO_set (HI_draw (HI_draw hi)).1 (by decide) (by decide) (by decide), HR_set (HI_draw (HI_draw hi)).2 (by decide)⟩
theorem HI_wet {h : Hl} {n : Nat} (hi : HI h n) : HI (wetH h n) n := by
  unfold wetH
  split
  · exact HI_draw hi
  · exact ⟨HO_set (HI_draw hi).1 (by decide) (by decide) (by decide), HR_set (HI_draw hi).2 (by decide)⟩
theorem HI_night {sp : Int32 → Int32 → Int32 → Int32} (hsp : SpR sp) {h : Hl} {n m : Nat} (hi : HI h n) : HI (nightH sp h n m) n := by
  have g := HI_wet (HI_goOut (t := 1 - m % 2) hsp (by omega) (HI_goOut (t := m % 2) hsp (by omega) hi))
  exact ⟨HO_set g.1 (by decide) (by decide) (by decide), HR_set g.2 (by decide)⟩
theorem HI_pass {sp : Int32 → Int32 → Int32 → Int32} (hsp : SpR sp) {n : Nat} : ∀ (q m : Nat) (h : Hl), HI h n → HI (passH sp n q m h) n := by
  intro q
  induction q with
  | zero => intro m h hi; rw [passH]; exact hi
  | succ q ih => intro m h hi; rw [passH]; exact ih _ _ (HI_night hsp hi)
/-- the model's spite, as its texts have it -/
def SpiteM (τ : St) (sp : Int32 → Int32 → Int32 → Int32) : Prop := ∀ (τ1 : St) (h : Hl), FM τ τ1 → HM h (τ1 1 0) → ∀ (post : Int32 → St → Prop) (r : Nat), r < 12 → (∀ τ' : St, HM h (τ' 1 0) → FM τ1 τ' → post (sp (h 8 r) (h 7 r) (h 5 5)) τ') → w_X10_spiteOf post τ1 (nI r)
theorem sX10_within {post : Int32 → St → Prop} {τ : St} {v n : Nat} (hv : v < 2 ^ 31) (hn : n < 2 ^ 31) (hp : post (nI (if v ≤ n then v else n)) τ) : w_X10_within post τ (nI v) (nI n) := by
  unfold w_X10_within
  refine ⟨fun _ => ⟨fun c => ?_, fun c => ?_⟩, fun c => absurd (nI_pos' hv) c⟩
  · rw [if_pos ((nI_leI hv hn).1 c)] at hp
    exact hp
  · rw [if_neg (fun q => c (nI_le q hn))] at hp
    exact hp
theorem sX10_isCarried {post : St → Prop} {τ : St} {h : Hl} {n r a : Nat} {sp : Int32 → Int32 → Int32 → Int32} (hM : SpiteM τ sp) (hsp : SpR sp) (hm : HM h (τ 1 0)) (hi : HI h n) (hr : r < n) (hp : ∀ τ' : St, HM (carryH sp h r a) (τ' 1 0) → FM τ τ' → post τ') : w_X10_isCarried post τ (nI r) (nI a) := by
  have hn := hi.1.1.1
  have hr12 : r < 12 := by omega
  unfold w_X10_isCarried
  refine sOf2 hm hr12 (hM τ h FM.rf hm _ r hr12 (fun τ1 hm1 f1 => fun v ev => ?_))
  obtain ⟨-, -, l, hl, el⟩ := hi.2.1 r hr
  obtain ⟨s, hs, es⟩ := hsp (h 8 r) (h 7 r) (h 5 5)
  have e : leakUp (h 8 r) (sp (h 8 r) (h 7 r) (h 5 5)) = nI (if l + s < 99 then l + s else 99) := by rw [es, el, leakUp_n hl hs]
  rw [es, el, nI_add] at ev
  subst ev
  refine sSets (w := 3) (h := h) hm1 hr12 (by decide) (fun τ2 hm2 f2 => sX10_within (n := 99) (by omega) (by decide) (sSets (w := 2) hm2 hr12 (by decide) (fun τ3 hm3 f3 => ?_)))
  have c6 : (6 : Int32).toNatClampNeg = 6 := by decide
  rw [c6]
  have hi6 : vp_in (6 : Int32) 3082 := vp_in_nI (n := 6) (by decide) (by decide)
  refine ⟨hi6, hi6, fun τ4 e4 => ?_⟩
  subst e4
  refine hp _ ?_ (((f1.tr f2).tr f3).tr (FM_wr (by decide) (by decide)))
  rw [wr1]
  have e6 : τ3 1 0 6 = h 5 2 := by
    have g := hm3 5 2 (by unfold vm; omega)
    exact g.trans (by simp [setH])
  rw [e6]
  have eq : (if l + s ≤ 99 then l + s else 99) = (if l + s < 99 then l + s else 99) := by
    split <;> split <;> omega
  rw [eq, ← e] at hm3
  have hm4 := HM_set (k := 5) (j := 2) (v := h 5 2 + 1) hm3 (by unfold vm; omega)
  intro k j hv
  have g := hm4 k j hv
  refine g.trans ?_
  have k12 : k ≠ 12 := by unfold vm at hv; omega
  simp [carryH, putH, setH, k12]
theorem sX10_goesOut {post : St → Prop} {τ : St} {h : Hl} {n t : Nat} {sp : Int32 → Int32 → Int32 → Int32} (hM : SpiteM τ sp) (hsp : SpR sp) (hm : HM h (τ 1 0)) (hi : HI h n) (ht : t < 2) (hp : ∀ τ' : St, HM (goOutH sp h t n) (τ' 1 0) → FM τ τ' → post τ') : w_X10_goesOut post τ (nI t) := by
  have hs := hi.1.1
  have hn := hs.1
  unfold w_X10_goesOut
  refine sX10_lootOf hm hs ht (sX10_homeOf hm hi.1 ht ?_)
  have hl := lootTo_n h t n hn
  have hlt : lootN h t n < 4096 := Nat.lt_of_lt_of_le (lootN_lt h t n) (Nat.pow_le_pow_right (by decide) hn : 2 ^ n ≤ 2 ^ 12)
  rw [hl]
  rcases goOut_n sp ht hs with ⟨e0, e⟩ | ⟨e0, e⟩ | ⟨c0, r, a, c, hr, ha, ea, hf, hb, hc0, hc12, ec, ⟨q, hq, eq, er⟩, e⟩
  · rw [e] at hp
    rw [e0]
    exact ⟨fun _ => hp τ hm FM.rf, fun c => absurd rfl c⟩
  · rw [e] at hp
    refine ⟨fun _ => hp τ hm FM.rf, fun _ => ⟨fun c => ?_, fun _ => hp τ hm FM.rf⟩⟩
    unfold hmV at c
    rw [if_pos e0] at c
    exact absurd c (by decide)
  · have eh : hmV h t = nI a := by
      unfold hmV
      rw [ea, if_neg (nI_NON (by omega))]
    rw [eh]
    refine ⟨fun g => absurd g (nI_ne0 (by omega) (by omega)), fun _ => ⟨fun _ => ?_, fun g => absurd (nI_pos' (by omega)) g⟩⟩
    refine sX10_drawn hm (fun τ1 hm1 f1 => sX10_many hlt ?_)
    rw [ec]
    refine ⟨nI_ne0 hc0 (by omega), fun v ev => ⟨13, ?_⟩⟩
    rw [eq] at ev
    subst ev
    have fin : b_X10_goesOut_35 (fun _ _ _ _ _ => True) post τ1 (nI (lootN h t n)) (nI a) 0 (nI r) → True := fun _ => trivial
    suffices H : ∀ m k left, k + m = 12 → left < 13 → nthN (lootN h t n) m k left = some r → l_X10_goesOut_35 post (m + 1) τ1 (nI (lootN h t n)) (nI a) (nI left) (nI k) by
      exact H 12 0 q (by omega) (by omega) er
    intro m
    induction m with
    | zero => intro k left _ _ g; simp [nthN] at g
    | succ m ih =>
      intro k left hk hleft g
      show b_X10_goesOut_35 (l_X10_goesOut_35 post (m + 1)) post τ1 _ _ _ _
      unfold b_X10_goesOut_35
      have eb : ((nI (lootN h t n) >>> (nI k &&& 31)) &&& 1) = if (lootN h t n).testBit k = true then 1 else 0 := bitOf_t (by omega) (by omega)
      rw [nthN] at g
      by_cases cb : (lootN h t n).testBit k = true
      · rw [if_pos cb] at g eb
        by_cases cl0 : left = 0
        · rw [if_pos cl0] at g
          cases g
          rw [cl0, eb]
          refine ⟨fun g => absurd g (by decide), fun _ => ⟨fun _ => ?_, fun g => absurd g (by decide)⟩⟩
          refine sX10_drawn hm1 (fun τ2 hm2 f2 => ⟨by decide, fun w ew => sOf3 hm2 (by omega) ?_⟩)
          have hi2 : HI (drawH (drawH h)) n := HI_draw (HI_draw hi)
          obtain ⟨b, hb12, e9, _⟩ := hi.1.2.1 r hr
          have e92 : drawH (drawH h) 9 r = nI b := by simp [drawH, setH, e9]
          rw [e92, show (70 : Int32) + nI b = nI (70 + b) from nI_add 70 b, cl (show 70 + b < 2 ^ 31 by omega), mWa hm2 hb12]
          have e11 : drawH (drawH h) 11 b = h 11 b := by simp [drawH, setH]
          rw [e11]
          rw [e9, cl (show b < 2 ^ 31 by omega)] at e
          subst ew
          refine ⟨vp_in_nI (by omega) (by decide), fun c3 => ?_, fun c3 => ?_⟩
          · rw [if_pos c3] at e
            rw [e] at hp
            exact sX10_isCarried (n := n) (h := drawH (drawH h)) (fun τ9 h9 f9 hm9 => hM τ9 h9 ((f1.tr f2).tr f9) hm9) hsp hm2 hi2 hr (fun τ3 hm3 f3 => hp τ3 hm3 ((f1.tr f2).tr f3))
          · rw [if_neg c3] at e
            rw [e] at hp
            have c7 : (7 : Int32).toNatClampNeg = 7 := by decide
            rw [c7]
            have hi7 : vp_in (7 : Int32) 3082 := vp_in_nI (n := 7) (by decide) (by decide)
            refine ⟨hi7, hi7, fun τ3 e3 => ?_⟩
            subst e3
            refine hp _ ?_ ((f1.tr f2).tr (FM_wr (by decide) (by decide)))
            rw [wr1]
            have e7 : τ2 1 0 7 = drawH (drawH h) 5 3 := hm2 5 3 (by unfold vm; omega)
            rw [e7]
            exact HM_set (k := 5) (j := 3) hm2 (by unfold vm; omega)
        · rw [if_neg cl0] at g
          rw [eb]
          have step : b_X10_goesOut_49 (l_X10_goesOut_35 post (m + 1)) post τ1 (nI (lootN h t n)) (nI a) (nI left) (nI k) := by
            unfold b_X10_goesOut_49
            rw [eb]
            intro v ev v2 ev2
            subst ev
            subst ev2
            rw [nI_1, show nI left - 1 = nI (left - 1) from pk_sub (b := 1) (by omega)]
            exact ih _ _ (by omega) (by omega) g
          exact ⟨fun _ => step, fun g => absurd (show nI 0 < nI left from nI_lt (by omega) (by omega)) g⟩
      · rw [if_neg cb] at g eb
        rw [eb]
        have step : b_X10_goesOut_49 (l_X10_goesOut_35 post (m + 1)) post τ1 (nI (lootN h t n)) (nI a) (nI left) (nI k) := by
          unfold b_X10_goesOut_49
          rw [eb]
          intro v ev v2 ev2
          subst ev
          subst ev2
          rw [nI_1, Int32.sub_zero]
          exact ih _ _ (by omega) (by omega) g
        exact ⟨fun _ => step, fun _ => ⟨fun g => absurd rfl g, fun _ => step⟩⟩
theorem sX10_goesOn {post : St → Prop} {τ : St} {h : Hl} {n m : Nat} {sp : Int32 → Int32 → Int32 → Int32} (hM : SpiteM τ sp) (hsp : SpR sp) (hm : HM h (τ 1 0)) (hi : HI h n) (h5 : h 5 5 = nI m) (hm30 : m < 2 ^ 30) (hp : ∀ τ' : St, HM (nightH sp h n m) (τ' 1 0) → FM τ τ' → post τ') : w_X10_goesOn post τ := by
  unfold w_X10_goesOn
  have c2 : (2 : Int32).toNatClampNeg = 2 := by decide
  have c5 : (5 : Int32).toNatClampNeg = 5 := by decide
  have c8 : (8 : Int32).toNatClampNeg = 8 := by decide
  have hi2 : vp_in (2 : Int32) 3082 := vp_in_nI (n := 2) (by decide) (by decide)
  have hi5 : vp_in (5 : Int32) 3082 := vp_in_nI (n := 5) (by decide) (by decide)
  have hi8 : vp_in (8 : Int32) 3082 := vp_in_nI (n := 8) (by decide) (by decide)
  rw [c2, c5, c8]
  have e2 : τ 1 0 2 = nI m := (hm 5 5 (by unfold vm; omega)).trans h5
  rw [e2]
  refine ⟨hi2, n2, fun v ev => ?_⟩
  have ev : v = nI (m % 2) := ev.trans (jrem_n (d := 2) (by omega) (by decide) (by decide))
  subst ev
  refine sX10_goesOut hM hsp hm hi (by omega) (fun τ1 hm1 f1 => ?_)
  have hi1 : HI (goOutH sp h (m % 2) n) n := HI_goOut hsp (by omega) hi
  rw [show (1 : Int32) - nI (m % 2) = nI (1 - m % 2) from pk_sub (a := 1) (by omega)]
  refine sX10_goesOut (fun τ9 h9 f9 hm9 => hM τ9 h9 (f1.tr f9) hm9) hsp hm1 hi1 (by omega) (fun τ2 hm2 f2 => ?_)
  have hi2' : HI (goOutH sp (goOutH sp h (m % 2) n) (1 - m % 2) n) n := HI_goOut hsp (by omega) hi1
  have q55 : goOutH sp (goOutH sp h (m % 2) n) (1 - m % 2) n 5 5 = nI m := by rw [goOut_55 (by omega), goOut_55 (by omega), h5]
  unfold nightH at hp
  generalize goOutH sp (goOutH sp h (m % 2) n) (1 - m % 2) n = g at hm2 hi2' q55 hp
  refine sX10_drawn hm2 (fun τ3 hm3 f3 => ⟨by decide, fun w ew => ⟨hi5, ?_⟩⟩)
  have e5 : τ3 1 0 5 = g 5 1 := by
    have g1 := hm3 5 1 (by unfold vm; omega)
    exact g1.trans (by simp [drawH, setH])
  rw [e5]
  subst ew
  have fin : ∀ (τ4 : St), HM (wetH g n) (τ4 1 0) → FM τ τ4 → b_X10_goesOn_51 post τ4 := by
    intro τ4 hm4 f4
    unfold b_X10_goesOn_51
    rw [c2]
    refine ⟨hi2, hi2, fun τ5 e5 => ?_⟩
    have e2 : τ4 1 0 2 = nI m := by
      have g1 := hm4 5 5 (by unfold vm; omega)
      refine g1.trans (Eq.trans ?_ q55)
      unfold wetH
      split <;> simp [drawH, setH]
    rw [e2, nI_1] at e5
    subst e5
    refine hp _ ?_ (f4.tr (FM_wr (by decide) (by decide)))
    rw [wr1]
    exact HM_set (k := 5) (j := 5) hm4 (by unfold vm; omega)
  have f03 : FM τ τ3 := (f1.tr f2).tr f3
  refine ⟨fun c => fin τ3 ?_ f03, fun c => ⟨hi8, sX10_rains (n := n) hm3 (HI_draw hi2').1 ⟨hi8, fun τ4 e4 => ?_⟩⟩⟩
  · unfold wetH
    rw [if_pos c]
    exact hm3
  · have e8 : τ3 1 0 8 = drawH g 5 4 := hm3 5 4 (by unfold vm; omega)
    rw [e8] at e4
    subst e4
    refine fin _ ?_ (f03.tr (FM_wr (by decide) (by decide)))
    unfold wetH
    rw [if_neg c, wr1]
    exact HM_set (k := 5) (j := 4) hm3 (by unfold vm; omega)
theorem sX10_goesOnMany {post : St → Prop} {τ : St} {h : Hl} {n m c : Nat} {sp : Int32 → Int32 → Int32 → Int32} (hM : SpiteM τ sp) (hsp : SpR sp) (hm : HM h (τ 1 0)) (hi : HI h n) (h5 : h 5 5 = nI m) (hb : m + c < 2 ^ 30) (hp : ∀ τ' : St, HM (passH sp n c m h) (τ' 1 0) → FM τ τ' → post τ') : w_X10_goesOnMany post τ (nI c) := by
  refine ⟨c + 1, ?_⟩
  suffices H : ∀ q d (τ1 : St) (h1 : Hl), d + q = c → FM τ τ1 → HM h1 (τ1 1 0) → HI h1 n → h1 5 5 = nI (m + d) → passH sp n q (m + d) h1 = passH sp n c m h → l_X10_goesOnMany_2 post (q + 1) τ1 (nI c) (nI d) by
    exact H c 0 τ h (by omega) FM.rf hm hi h5 rfl
  intro q
  induction q with
  | zero =>
    intro d τ1 h1 hd f hm1 hi1 h51 hq
    obtain rfl : d = c := by omega
    show b_X10_goesOnMany_2 _ post τ1 _ _
    unfold b_X10_goesOnMany_2
    rw [passH] at hq
    rw [hq] at hm1
    exact ⟨fun _ => hp τ1 hm1 f, fun c => absurd (nI_le (Nat.le_refl _) (by omega)) c⟩
  | succ q ih =>
    intro d τ1 h1 hd f hm1 hi1 h51 hq
    show b_X10_goesOnMany_2 (l_X10_goesOnMany_2 post (q + 1)) post τ1 _ _
    unfold b_X10_goesOnMany_2
    rw [passH] at hq
    refine ⟨fun c => absurd c (nI_ge (by omega) (by omega)), fun _ => ?_⟩
    refine sX10_goesOn (fun τ9 h9 f9 hm9 => hM τ9 h9 (f.tr f9) hm9) hsp hm1 hi1 h51 (by omega) (fun τ2 hm2 f2 v ev => ?_)
    subst ev
    rw [nI_1]
    exact ih (d + 1) τ2 _ (by omega) (f.tr f2) hm2 (HI_night hsp hi1) (by rw [night_55, Nat.add_assoc]) (by rw [← Nat.add_assoc]; exact hq)
