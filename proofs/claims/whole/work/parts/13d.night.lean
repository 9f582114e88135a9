/-! LAYER 2. A hill's nights: draws, what is carried. -/
def setH (h : Hl) (k j : Nat) (v : Int32) : Hl := fun a b => if a = k ∧ b = j then v else h a b
theorem hl_wr {σ : St} {k i j : Nat} {v : Int32} (hk : k ≠ 16) : hlC (wr σ k i j v) i = setH (hlC σ i) k j v := by
  funext a b
  simp only [hlC, wr, setH]
  by_cases h1 : a = 16
  · subst h1
    simp [Ne.symm hk]
  · by_cases h2 : a = k
    · subst h2
      by_cases h3 : b = j <;> simp [h1, h3, hk]
    · by_cases h3 : b = j <;> simp [h1, h2, h3, hk]
/-- all but the stack, and but one hill, stays -/
def FR (σ σ' : St) (i : Nat) : Prop := ∀ k a j, k ≠ 16 → (a ≠ i ∨ k < 5 ∨ 13 < k ∨ (k = 5 ∧ j = 7)) → σ' k a j = σ k a j
theorem FR.rf {σ : St} {i : Nat} : FR σ σ i := fun _ _ _ _ _ => rfl
theorem FR.tr {σ σ1 σ2 : St} {i : Nat} (h1 : FR σ σ1 i) (h2 : FR σ1 σ2 i) : FR σ σ2 i := fun k a j h3 h4 => (h2 k a j h3 h4).trans (h1 k a j h3 h4)
theorem FR_wr {σ : St} {k i j : Nat} {v : Int32} (h1 : 5 ≤ k) (h2 : k ≤ 13) (h5 : ¬ (k = 5 ∧ j = 7)) : FR σ (wr σ k i j v) i := fun a b c h3 h4 => by
  simp only [wr]
  rw [if_neg (by omega)]
def zN (z : Int32) : Int32 := z * 1103515245 + 12345
def drawH (h : Hl) : Hl := setH h 5 6 (zN (h 5 6))
def drawV (h : Hl) : Int32 := jushr (zN (h 5 6)) 8
theorem sX1_draw {post : Int32 → St → Prop} {σ : St} {i : Nat} (h : ∀ σ' : St, hlC σ' i = drawH (hlC σ i) → FR σ σ' i → post (drawV (hlC σ i)) σ') : w_X1_draw post σ i := by
  unfold w_X1_draw
  intro s1 e
  subst e
  have h1 := h (wr σ 5 i 6 (σ 5 i 6 * 1103515245 + 12345)) (hl_wr (by decide)) (FR_wr (by decide) (by decide) (by omega))
  have e1 : wr σ 5 i 6 (σ 5 i 6 * 1103515245 + 12345) 5 i 6 = zN (hlC σ i 5 6) := by simp [wr, zN, hlC]
  rw [e1]
  exact h1
def putH (h : Hl) (r a : Nat) : Hl := setH (setH (setH h 12 (h 9 r).toNatClampNeg NON) 9 r (nI a)) 12 a (nI r)
theorem sX1_put {post : St → Prop} {σ : St} {i r a : Nat} (hr : r < 12) (ha : a < 12) (ho : vp_in (σ 9 i r) 12) (h : ∀ σ' : St, hlC σ' i = putH (hlC σ i) r a → FR σ σ' i → post σ') : w_X1_put post σ i (nI r) (nI a) := by
  unfold w_X1_put
  have hi : vp_in (nI r) 12 := vp_in_nI hr (by decide)
  rw [cl (show r < 2 ^ 31 by omega), cl (show a < 2 ^ 31 by omega)]
  refine ⟨hi, ho, fun s1 e1 => ⟨hi, fun s2 e2 => ⟨vp_in_nI ha (by decide), fun s3 e3 => ?_⟩⟩⟩
  subst e1
  subst e2
  subst e3
  refine h _ ?_ ?_
  · rw [hl_wr (by decide), hl_wr (by decide), hl_wr (by decide)]
    rfl
  · exact ((FR_wr (by decide) (by decide) (by omega)).tr (FR_wr (by decide) (by decide) (by omega))).tr (FR_wr (by decide) (by decide) (by omega))
/-- what carries: the spite as the texts have it; the stack alone is touched -/
def SpiteAt (σ : St) (i n : Nat) (sp : Int32 → Int32 → Int32 → Int32) : Prop := ∀ (σ1 : St), FR σ σ1 i → ∀ (post : Int32 → St → Prop) (r : Nat), r < n → (∀ σ' : St, (∀ k a j, k ≠ 16 → σ' k a j = σ1 k a j) → post (sp (σ1 8 i r) (σ1 7 i r) (σ1 5 i 5)) σ') → w_X4_spiteOf post σ1 i (nI r)
theorem hl_same {σ σ' : St} {i : Nat} (h : ∀ k a j, k ≠ 16 → σ' k a j = σ k a j) : hlC σ' i = hlC σ i := by
  funext a b
  simp only [hlC]
  by_cases h1 : a = 16
  · simp [h1]
  · simp [h1, h a i b h1]
theorem FR_same {σ σ' : St} {i : Nat} (h : ∀ k a j, k ≠ 16 → σ' k a j = σ k a j) : FR σ σ' i := fun k a j hk _ => h k a j hk
def leakUp (l s : Int32) : Int32 := if l + s < 99 then l + s else 99
def carryH (sp : Int32 → Int32 → Int32 → Int32) (h : Hl) (r a : Nat) : Hl := setH (setH (putH h r a) 8 r (leakUp (h 8 r) (sp (h 8 r) (h 7 r) (h 5 5)))) 5 2 (h 5 2 + 1)
theorem sX1_carry {post : St → Prop} {σ : St} {i r a n : Nat} {sp : Int32 → Int32 → Int32 → Int32} (hsp : SpiteAt σ i n sp) (hrn : r < n) (hr : r < 12) (ha : a < 12) (ho : vp_in (σ 9 i r) 12) (h : ∀ σ' : St, hlC σ' i = carryH sp (hlC σ i) r a → FR σ σ' i → post σ') : w_X1_carry post σ i (nI r) (nI a) := by
  unfold w_X1_carry
  refine hsp σ FR.rf _ r hrn (fun s1 e1 => sX1_put hr ha (by rw [e1 9 i r (by decide)]; exact ho) (fun s2 e2 f2 => ?_))
  have hi : vp_in (nI r) 12 := vp_in_nI hr (by decide)
  rw [cl (show r < 2 ^ 31 by omega)]
  refine ⟨hi, fun v ev => ⟨hi, fun s3 e3 s4 e4 => ?_⟩⟩
  have h8 : s2 8 i r = σ 8 i r := by
    have q : hlC s2 i 8 r = putH (hlC s1 i) r a 8 r := by rw [e2]
    rw [hl_same e1] at q
    simpa [putH, setH, hlC] using q
  have h52 : s2 5 i 2 = σ 5 i 2 := by
    have q : hlC s2 i 5 2 = putH (hlC s1 i) r a 5 2 := by rw [e2]
    rw [hl_same e1] at q
    simpa [putH, setH, hlC] using q
  subst e4
  subst e3
  subst ev
  refine h _ ?_ ?_
  · rw [hl_wr (by decide), hl_wr (by decide), e2, hl_same e1, h8]
    have q : wr s2 8 i r (if σ 8 i r + sp (σ 8 i r) (σ 7 i r) (σ 5 i 5) < 99 then σ 8 i r + sp (σ 8 i r) (σ 7 i r) (σ 5 i 5) else 99) 5 i 2 = s2 5 i 2 := by simp [wr]
    rw [q, h52]
    rfl
  · exact (((FR_same e1).tr f2).tr (FR_wr (by decide) (by decide) (by omega))).tr (FR_wr (by decide) (by decide) (by omega))
