/-! LAYER 2. The first state; all calls. -/
theorem eZ5 (i j : Nat) : sC0 5 i j = if j = 1 then 40 else if j = 6 then 1 else 0 := rfl
theorem first_kind : ∀ j, j < 12 → sC0 10 0 j = 3 ∧ sC0 12 0 j = NON ∧ sM0 1 0 (58 + j) = 3 ∧ sM0 1 0 (70 + j) = 0 := by decide +kernel
theorem first_hm : ∀ k, k < 14 → ∀ j, j < 12 → vm k j → sM0 1 0 (mi k j) = hlC sC0 0 k j := by
  unfold vm
  decide +kernel
theorem first_rel : Rel sC0 sM0 := by
  have hm : HM (hlC sC0 0) (sM0 1 0) := fun k j hv => by
    have hv2 := hv
    unfold vm at hv2
    exact first_hm k (by omega) j (by omega) hv
  have h9 : ∀ j, hlC sC0 0 9 j = 0 := fun j => rfl
  have h12 : ∀ j, j < 12 → hlC sC0 0 12 j = NON := fun j hj => (first_kind j hj).2.1
  have hs : HS (hlC sC0 0) 0 := ⟨by decide, rfl, fun k hk => ⟨0, by decide, rfl⟩, fun a ha => Or.inl (h12 a ha)⟩
  have ho : HO (hlC sC0 0) 0 := ⟨hs, fun k hk => absurd hk (Nat.not_lt_zero k), fun a ha => Or.inl (h12 a ha)⟩
  have hr : HR (hlC sC0 0) 0 := ⟨fun k hk => absurd hk (Nat.not_lt_zero k), fun a ha => ⟨3, by decide, (first_kind a ha).1⟩⟩
  refine ⟨0, 0, 0, ⟨hm, ⟨ho, hr⟩, rfl, by decide, rfl, by decide⟩, fun t ht => absurd ht (Nat.not_lt_zero t), Or.inl ⟨rfl, rfl⟩, ⟨0, by decide, rfl, rfl, fun j hj => absurd hj (Nat.not_lt_zero j)⟩, fun k hk => ?_, fun i hi => ?_, ⟨0, ⟨by decide, fun j => rfl⟩, rfl, rfl, fun j hj => absurd hj (Nat.not_lt_zero j)⟩⟩
  · refine ⟨?_, Or.inl rfl, 0, by decide, rfl, rfl, fun j hj => absurd hj (Nat.not_lt_zero j)⟩
    rcases (show k = 0 ∨ k = 1 ∨ k = 2 ∨ k = 3 by omega) with rfl | rfl | rfl | rfl <;> rfl
  · exact ⟨0, by decide, rfl, rfl, fun h => absurd h (by decide), fun h => absurd h (by decide), fun h => absurd h (by decide)⟩
theorem sim_all : SimAll Rel := ⟨sim0, sim1, sim2, sim3, sim4, sim5, sim6, sim7, sim8, sim9, sim10, sim11, sim12, sim13, sim14, sim15, sim16, sim17, sim18, sim19, sim20, sim21, sim22, sim23, sim24, sim25, sim26, sim27, sim28, sim29, sim30, sim31, sim32, sim33, sim34, sim35, sim36, sim37, sim38, sim39, sim40, sim41, sim42⟩
