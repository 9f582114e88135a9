/-! What the Statement says of the start: the texts, the nest's words. -/
theorem isRef_rf {w : Value} (h : w.isRef = true) : ∃ r : Option Nat, w = va_rf r := by
  cases w <;> first | exact ⟨none, rfl⟩ | exact ⟨some _, rfl⟩ | (exact absurd h (by simp [Value.isRef]))
abbrev tmS (i : Nat) : Term := .string "RoofWar$Reader" (SIs.getD i (0, "")).1
theorem at_ex : ∀ i, i < 14 → (Cond.exactly (tmS i) "java/lang/String") ∈ flatC (Cond.and given_1 narrow_1) := by decide +kernel
theorem at_co : ∀ i, i < 14 → (Cond.eq (.field (tmS i) "java/lang/String" "coder" "B") (.int 0)) ∈ flatC (Cond.and given_1 narrow_1) := by decide +kernel
theorem at_ar : ∀ i, i < 14 → (Cond.arrayOf (.field (tmS i) "java/lang/String" "value" "[B") .byte) ∈ flatC (Cond.and given_1 narrow_1) := by decide +kernel
theorem at_le : ∀ i, i < 14 → (Cond.eq (.length (.field (tmS i) "java/lang/String" "value" "[B")) (.int (Int32.ofNat (LNs.getD i 0)))) ∈ flatC (Cond.and given_1 narrow_1) := by decide +kernel
theorem at_el : ∀ i, i < 14 → ∀ j, j < LNs.getD i 0 → (Cond.eq (.elem (.field (tmS i) "java/lang/String" "value" "[B") (.int (Int32.ofNat j))) (.int ((BYs.getD i []).getD j 0))) ∈ flatC (Cond.and given_1 narrow_1) := by decide +kernel
theorem at_ne0 : ∀ j, j < 14 → 0 < j → (Cond.not (Cond.eq (tmS 0) (tmS j))) ∈ flatC (Cond.and given_1 narrow_1) := by decide +kernel
theorem at_ne1 : ∀ j, j < 14 → 1 < j → (Cond.not (Cond.eq (tmS 1) (tmS j))) ∈ flatC (Cond.and given_1 narrow_1) := by decide +kernel
theorem at_ne2 : ∀ j, j < 14 → 2 < j → (Cond.not (Cond.eq (tmS 2) (tmS j))) ∈ flatC (Cond.and given_1 narrow_1) := by decide +kernel
theorem at_ne3 : ∀ j, j < 14 → 3 < j → (Cond.not (Cond.eq (tmS 3) (tmS j))) ∈ flatC (Cond.and given_1 narrow_1) := by decide +kernel
theorem at_ne4 : ∀ j, j < 14 → 4 < j → (Cond.not (Cond.eq (tmS 4) (tmS j))) ∈ flatC (Cond.and given_1 narrow_1) := by decide +kernel
theorem at_ne5 : ∀ j, j < 14 → 5 < j → (Cond.not (Cond.eq (tmS 5) (tmS j))) ∈ flatC (Cond.and given_1 narrow_1) := by decide +kernel
theorem at_ne6 : ∀ j, j < 14 → 6 < j → (Cond.not (Cond.eq (tmS 6) (tmS j))) ∈ flatC (Cond.and given_1 narrow_1) := by decide +kernel
theorem at_ne7 : ∀ j, j < 14 → 7 < j → (Cond.not (Cond.eq (tmS 7) (tmS j))) ∈ flatC (Cond.and given_1 narrow_1) := by decide +kernel
theorem at_ne8 : ∀ j, j < 14 → 8 < j → (Cond.not (Cond.eq (tmS 8) (tmS j))) ∈ flatC (Cond.and given_1 narrow_1) := by decide +kernel
theorem at_ne9 : ∀ j, j < 14 → 9 < j → (Cond.not (Cond.eq (tmS 9) (tmS j))) ∈ flatC (Cond.and given_1 narrow_1) := by decide +kernel
theorem at_ne10 : ∀ j, j < 14 → 10 < j → (Cond.not (Cond.eq (tmS 10) (tmS j))) ∈ flatC (Cond.and given_1 narrow_1) := by decide +kernel
theorem at_ne11 : ∀ j, j < 14 → 11 < j → (Cond.not (Cond.eq (tmS 11) (tmS j))) ∈ flatC (Cond.and given_1 narrow_1) := by decide +kernel
theorem at_ne12 : ∀ j, j < 14 → 12 < j → (Cond.not (Cond.eq (tmS 12) (tmS j))) ∈ flatC (Cond.and given_1 narrow_1) := by decide +kernel
theorem at_lt : ∀ i, i < 14 → ∀ j, j < 14 → i < j → (Cond.not (Cond.eq (tmS i) (tmS j))) ∈ flatC (Cond.and given_1 narrow_1) := by
  intro i hi j hj h
  match i, hi with
  | 0, _ => exact at_ne0 j hj h
  | 1, _ => exact at_ne1 j hj h
  | 2, _ => exact at_ne2 j hj h
  | 3, _ => exact at_ne3 j hj h
  | 4, _ => exact at_ne4 j hj h
  | 5, _ => exact at_ne5 j hj h
  | 6, _ => exact at_ne6 j hj h
  | 7, _ => exact at_ne7 j hj h
  | 8, _ => exact at_ne8 j hj h
  | 9, _ => exact at_ne9 j hj h
  | 10, _ => exact at_ne10 j hj h
  | 11, _ => exact at_ne11 j hj h
  | 12, _ => exact at_ne12 j hj h
  | n + 13, _ => exact absurd h (by omega)
theorem at_ne : ∀ i, i < 14 → ∀ j, j < 14 → i ≠ j → (Cond.not (Cond.eq (tmS i) (tmS j))) ∈ flatC (Cond.and given_1 narrow_1) ∨ (Cond.not (Cond.eq (tmS j) (tmS i))) ∈ flatC (Cond.and given_1 narrow_1) := fun i hi j hj h => by
  rcases Nat.lt_or_gt_of_ne h with h | h
  · exact Or.inl (at_lt i hi j hj h)
  · exact Or.inr (at_lt j hj i hi h)
theorem at_cs : (Cond.eq (.static "java/lang/String" "COMPACT_STRINGS" "Z") (.int 1)) ∈ flatC (Cond.and given_1 narrow_1) := by decide +kernel
theorem at_bf : (Cond.isRef (.static "jdk/internal/util/Preconditions" "SIOOBE_FORMATTER" "Ljava/util/function/BiFunction;")) ∈ flatC (Cond.and given_1 narrow_1) := by decide +kernel
theorem tb_sr : ∀ i, i < 14 → (Cond.stringRef "RoofWar$Reader" (SIs.getD i (0, "")).1 (SIs.getD i (0, "")).2) ∈ tables_1 := by decide +kernel
theorem tb_nw : ∀ q ∈ NWq, (Cond.methodLinkNest q.1 q.2.1 q.2.2.1 q.2.2.2) ∈ tables_1 := by decide +kernel
theorem tb_ls : (Cond.laysStatic "java/lang/String" "COMPACT_STRINGS" "Z") ∈ tables_1 ∧ (Cond.initialized "java/lang/String") ∈ tables_1 ∧ (Cond.laysStatic "jdk/internal/util/Preconditions" "SIOOBE_FORMATTER" "Ljava/util/function/BiFunction;") ∈ tables_1 ∧ (Cond.initialized "jdk/internal/util/Preconditions") ∈ tables_1 := by decide +kernel
theorem tb_ao : (Cond.arrayOver (.object "RoofWar$Law")) ∈ tables_1 ∧ (Cond.arrayOver (.object "RoofWar$Row")) ∈ tables_1 ∧ (Cond.arrayOver (.object "RoofWar$Slot")) ∈ tables_1 ∧ (Cond.arrayOver (.array .int)) ∈ tables_1 := by decide +kernel
theorem in_tbl {w : Cond} (h : w ∈ tables_1) : w ∈ lw_tbl := List.mem_append_right _ h
theorem NK_start {s : State} {args : Array Value} (hts : ∀ w ∈ lw_tbl, w.before args s = true) : NK s :=
  ⟨fun q hq => va_Nw.of rfl (hts _ (in_tbl (tb_nw q hq))), va_AO.of (hts _ (in_tbl tb_ao.1)), va_AO.of (hts _ (in_tbl tb_ao.2.1)), va_AO.of (hts _ (in_tbl tb_ao.2.2.1)), hts _ (in_tbl tb_ao.2.2.2)⟩
theorem KL_start {s : State} {args : Array Value} (hts : ∀ w ∈ lw_tbl, w.before args s = true) (hgv : (Jvm.Cond.and given_1 narrow_1).before args s = true) : ∃ sk sv : Nat → Nat, ∀ ad : Nat → Nat → Nat, ad 90 = sk → ad 91 = sv → KL ad s := by
  have hs := flat_of_before _ hgv
  have hA : ∀ a : Nat, a < s.heap.size → ¬ (fun q : Nat => s.heap.size ≤ q) a := fun a h => Nat.not_le.mpr h
  obtain ⟨sk, sv, hS, hE⟩ := vk_Sof (N := 14) (tm := tmS) (len := LNs) (byt := BYs) (A := fun q : Nat => s.heap.size ≤ q) (by decide) (fun i hi => hs _ (at_ex i hi)) (fun i hi => hs _ (at_co i hi)) (fun i hi => hs _ (at_ar i hi)) (fun i hi => hs _ (at_le i hi)) (fun i hi j hj => hs _ (at_el i hi j hj)) (fun i j hi hj hne => (at_ne i hi j hj hne).imp (hs _) (hs _)) hA
  refine ⟨sk, sv, fun ad h1 h2 => ?_⟩
  subst h1
  subst h2
  obtain ⟨w1, e1, e2⟩ := Cond.eq_one (show (Cond.eq (.static "java/lang/String" "COMPACT_STRINGS" "Z") (.int 1)).holds args s none s [] = true from hs _ at_cs)
  obtain ⟨w2, e3, e4⟩ := Cond.isRef_spec (hs _ at_bf)
  obtain ⟨r, rfl⟩ := isRef_rf e4
  refine ⟨fun q hq => va_Nw.of rfl (hts _ (in_tbl (tb_nw q hq))), hS, fun i hi => vk_R.of (hts _ (in_tbl (tb_sr i hi))) (hE i hi), va_Zof (hts _ (in_tbl tb_ls.1)) (hts _ (in_tbl tb_ls.2.1)) (by rw [e1]; exact e2.symm) hA, r, va_Zof (hts _ (in_tbl tb_ls.2.2.1)) (hts _ (in_tbl tb_ls.2.2.2)) e3 hA⟩
