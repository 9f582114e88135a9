/-! The law, from its entry: over any relation that the two systems keep. -/
def SimAll (Rel : St → St → Prop) : Prop := Sim_0 Rel ∧ Sim_1 Rel ∧ Sim_2 Rel ∧ Sim_3 Rel ∧ Sim_4 Rel ∧ Sim_5 Rel ∧ Sim_6 Rel ∧ Sim_7 Rel ∧ Sim_8 Rel ∧ Sim_9 Rel ∧ Sim_10 Rel ∧ Sim_11 Rel ∧ Sim_12 Rel ∧ Sim_13 Rel ∧ Sim_14 Rel ∧ Sim_15 Rel ∧ Sim_16 Rel ∧ Sim_17 Rel ∧ Sim_18 Rel ∧ Sim_19 Rel ∧ Sim_20 Rel ∧ Sim_21 Rel ∧ Sim_22 Rel ∧ Sim_23 Rel ∧ Sim_24 Rel ∧ Sim_25 Rel ∧ Sim_26 Rel ∧ Sim_27 Rel ∧ Sim_28 Rel ∧ Sim_29 Rel ∧ Sim_30 Rel ∧ Sim_31 Rel ∧ Sim_32 Rel ∧ Sim_33 Rel ∧ Sim_34 Rel ∧ Sim_35 Rel ∧ Sim_36 Rel ∧ Sim_37 Rel ∧ Sim_38 Rel ∧ Sim_39 Rel ∧ Sim_40 Rel ∧ Sim_41 Rel ∧ Sim_42 Rel
set_option maxHeartbeats 8000000 in
set_option maxRecDepth 100000 in
theorem law_loop {p : Program} {l : Launch} {e : Env} {s : State} {m : MethodId} {below : List Frame} {meth : Method} {c : Code} {b L : Nat} {xs : Nat → Int32} {D : va_G} {cy : Nat → ClassId} {adC adM : Nat → Nat → Nat} {Rel : St → St → Prop} (hsim : SimAll Rel) (C0 : LawC p s m meth c b L xs D cy adC adM) (hL : L ≤ 3072) : ∀ (n j : Nat) (x3 : Int32), j ≤ L → L + 1 ≤ j + n → x3 = nI j → ∀ (σ τ : St), Rel σ τ → ∀ (H : Heap) (locs : List Loc) (ls : Array Slot), va_P D CLS (wC cy adC σ) H → va_P D CLS (wM cy adM τ) H → va_S (fun q : Nat => s.heap.size ≤ q) s.heap H locs → lv_has ls 4 [(0, .ref b), (1, .ref (adC 0 0)), (2, .ref (adM 0 0)), (3, .int x3)] → W p l e room_1 s m #[Value.ref b] below meth c H locs 600000 7302250 (lw_Z below #[Value.ref b] s) (F0 m 18 ls []) := by
  obtain ⟨S0, S1, S2, S3, S4, S5, S6, S7, S8, S9, S10, S11, S12, S13, S14, S15, S16, S17, S18, S19, S20, S21, S22, S23, S24, S25, S26, S27, S28, S29, S30, S31, S32, S33, S34, S35, S36, S37, S38, S39, S40, S41, S42⟩ := hsim
  have C1 := C0
  obtain ⟨hx, hb, hr, hml, hown, hts, hX, hbl, hlocks, hK, hKC, hKM, hgC, hgM, hC, hM, hdj⟩ := C0
  have hbA : ¬ (fun q : Nat => s.heap.size ≤ q) b := Nat.not_le.mpr hbl
  intro n
  induction n with
  | zero => intro j x3 h1 h2; exact absurd h2 (by omega)
  | succ n ih =>
    intro j x3 hj hn ex σ τ hR H locs ls hP hQ hS hl
    refine lv_iload_n hx hb dL_law_18 rfl (lv_at hl 3 rfl) ?_
    refine lv_aload_n hx hb dL_law_19 rfl (lv_at hl 0 rfl) ?_
    refine va_slen hx hb hX hbl hbA hS dL_law_20 ?_
    refine lv_bipush (v := 6) hx hb dL_law_21 (by decide) ?_
    refine lv_isub hx hb dL_law_23 ?_
    refine lv_icmp_gt (tgt := 1555) hx hb dL_law_24 (by decide) (fun c1 => ?_) (fun c1 => ?_)
    · refine lv_iconst (v := 1) hx hb dL_law_1555 (by decide) ?_
      refine va_forget (fun q hq => hS.2.2 q hq) ?_
      exact lw_ret hx hb hr hlocks dL_law_1556
    · have hj6 : j + 6 ≤ L := by
        rcases Nat.lt_or_ge L (j + 6) with q | q
        · refine absurd ?_ c1
          rw [ex]
          by_cases h6 : 6 ≤ L
          · have e6 : nI L - 6 = nI (L - 6) := pk_sub h6
            show nI L - 6 < nI j
            rw [e6]
            exact nI_lt (by omega) (by omega)
          · show nI L - 6 < nI j
            have h0 : nI L - nI 6 < 0 := pk_sneg (by omega) (by omega)
            have h1 : (0 : Int32) ≤ nI j := nI_pos' (by omega)
            exact Int32.lt_of_lt_of_le h0 h1
        · exact q
      have hin : ∀ k : Int32, k = 1 ∨ k = 2 ∨ k = 3 ∨ k = 4 ∨ k = 5 → vp_in (x3 + k) L := by
        intro k hk
        rw [ex]
        rcases hk with rfl | rfl | rfl | rfl | rfl
        · exact (nI_add j 1) ▸ vp_in_nI (by omega) (by omega)
        · exact (nI_add j 2) ▸ vp_in_nI (by omega) (by omega)
        · exact (nI_add j 3) ▸ vp_in_nI (by omega) (by omega)
        · exact (nI_add j 4) ▸ vp_in_nI (by omega) (by omega)
        · exact (nI_add j 5) ▸ vp_in_nI (by omega) (by omega)
      have h0 : vp_in x3 L := by rw [ex]; exact vp_in_nI (by omega) (by omega)
      have hk : ∀ (σ τ : St), Rel σ τ → ∀ (H : Heap) (locs : List Loc) (ls : Array Slot), va_P D CLS (wC cy adC σ) H → va_P D CLS (wM cy adM τ) H → va_S (fun q : Nat => s.heap.size ≤ q) s.heap H locs → lv_has ls 4 [(0, .ref b), (1, .ref (adC 0 0)), (2, .ref (adM 0 0)), (3, .int x3)] → W p l e room_1 s m #[Value.ref b] below meth c H locs 600000 7302250 (lw_Z below #[Value.ref b] s) (F0 m 1549 ls []) := by
        intro σ τ hR H locs ls hP hQ hS hl
        obtain ⟨y3, ey3⟩ : ∃ y : Int32, y = x3 + 6 := ⟨_, rfl⟩
        refine lv_iinc (v := y3) (lv' := [(3, .int y3), (0, .ref b), (1, .ref (adC 0 0)), (2, .ref (adM 0 0))]) hx hb dL_law_1549 hl (k := 3) rfl (by rw [ey3]; rfl) (by decide) rfl (fun ls hl => ?_)
        refine lv_goto (tgt := 18) hx hb dL_law_1552 (by decide) ?_
        exact ih (j + 6) y3 hj6 (by omega) (by rw [ey3, ex]; exact nI_add j 6) σ τ hR H locs ls hP hQ hS (lv_sub hl [1, 2, 3, 0] rfl)
      refine lv_aload_n hx hb dL_law_27 rfl (lv_at hl 0 rfl) ?_
      refine lv_iload_n hx hb dL_law_28 rfl (lv_at hl 3 rfl) ?_
      refine va_sld hx hb hX hbl hbA hS h0 dL_law_29 ?_
      refine lv_bipush (v := 63) hx hb dL_law_30 (by decide) ?_
      refine lv_iand hx hb dL_law_32 ?_
      refine lv_topi (fun y ey => ?_)
      by_cases c100 : y = 0
      · refine lv_tableIn (off := 187) (tgt := 220) hx hb dL_law_33 (by rw [c100]; decide) (by rw [c100]; decide) (by rw [c100]; rfl) (by decide) ?_
        exact case_0 C1 S0 hin hk hR hP hQ hS hl
      by_cases c101 : y = 1
      · refine lv_tableIn (off := 240) (tgt := 273) hx hb dL_law_33 (by rw [c101]; decide) (by rw [c101]; decide) (by rw [c101]; rfl) (by decide) ?_
        exact case_1 C1 S1 hin hk hR hP hQ hS hl
      by_cases c102 : y = 2
      · refine lv_tableIn (off := 273) (tgt := 306) hx hb dL_law_33 (by rw [c102]; decide) (by rw [c102]; decide) (by rw [c102]; rfl) (by decide) ?_
        exact case_2 C1 S2 hin hk hR hP hQ hS hl
      by_cases c103 : y = 3
      · refine lv_tableIn (off := 306) (tgt := 339) hx hb dL_law_33 (by rw [c103]; decide) (by rw [c103]; decide) (by rw [c103]; rfl) (by decide) ?_
        exact case_3 C1 S3 hin hk hR hP hQ hS hl
      by_cases c104 : y = 4
      · refine lv_tableIn (off := 339) (tgt := 372) hx hb dL_law_33 (by rw [c104]; decide) (by rw [c104]; decide) (by rw [c104]; rfl) (by decide) ?_
        exact case_4 C1 S4 hin hk hR hP hQ hS hl
      by_cases c105 : y = 5
      · refine lv_tableIn (off := 382) (tgt := 415) hx hb dL_law_33 (by rw [c105]; decide) (by rw [c105]; decide) (by rw [c105]; rfl) (by decide) ?_
        exact case_5 C1 S5 hin hk hR hP hQ hS hl
      by_cases c106 : y = 6
      · refine lv_tableIn (off := 415) (tgt := 448) hx hb dL_law_33 (by rw [c106]; decide) (by rw [c106]; decide) (by rw [c106]; rfl) (by decide) ?_
        exact case_6 C1 S6 hin hk hR hP hQ hS hl
      by_cases c107 : y = 7
      · refine lv_tableIn (off := 448) (tgt := 481) hx hb dL_law_33 (by rw [c107]; decide) (by rw [c107]; decide) (by rw [c107]; rfl) (by decide) ?_
        exact case_7 C1 S7 hin hk hR hP hQ hS hl
      by_cases c108 : y = 8
      · refine lv_tableIn (off := 491) (tgt := 524) hx hb dL_law_33 (by rw [c108]; decide) (by rw [c108]; decide) (by rw [c108]; rfl) (by decide) ?_
        exact case_8 C1 S8 hin hk hR hP hQ hS hl
      by_cases c109 : y = 9
      · refine lv_tableIn (off := 524) (tgt := 557) hx hb dL_law_33 (by rw [c109]; decide) (by rw [c109]; decide) (by rw [c109]; rfl) (by decide) ?_
        exact case_9 C1 S9 hin hk hR hP hQ hS hl
      by_cases c110 : y = 10
      · refine lv_tableIn (off := 547) (tgt := 580) hx hb dL_law_33 (by rw [c110]; decide) (by rw [c110]; decide) (by rw [c110]; rfl) (by decide) ?_
        exact case_10 C1 S10 hin hk hR hP hQ hS hl
      by_cases c111 : y = 11
      · refine lv_tableIn (off := 570) (tgt := 603) hx hb dL_law_33 (by rw [c111]; decide) (by rw [c111]; decide) (by rw [c111]; rfl) (by decide) ?_
        exact case_11 C1 S11 hin hk hR hP hQ hS hl
      by_cases c112 : y = 12
      · refine lv_tableIn (off := 593) (tgt := 626) hx hb dL_law_33 (by rw [c112]; decide) (by rw [c112]; decide) (by rw [c112]; rfl) (by decide) ?_
        exact case_12 C1 S12 hin hk hR hP hQ hS hl
      by_cases c113 : y = 13
      · refine lv_tableIn (off := 616) (tgt := 649) hx hb dL_law_33 (by rw [c113]; decide) (by rw [c113]; decide) (by rw [c113]; rfl) (by decide) ?_
        exact case_13 C1 S13 hin hk hR hP hQ hS hl
      by_cases c114 : y = 14
      · refine lv_tableIn (off := 649) (tgt := 682) hx hb dL_law_33 (by rw [c114]; decide) (by rw [c114]; decide) (by rw [c114]; rfl) (by decide) ?_
        exact case_14 C1 S14 hin hk hR hP hQ hS hl
      by_cases c115 : y = 15
      · refine lv_tableIn (off := 672) (tgt := 705) hx hb dL_law_33 (by rw [c115]; decide) (by rw [c115]; decide) (by rw [c115]; rfl) (by decide) ?_
        exact case_15 C1 S15 hin hk hR hP hQ hS hl
      by_cases c116 : y = 16
      · refine lv_tableIn (off := 705) (tgt := 738) hx hb dL_law_33 (by rw [c116]; decide) (by rw [c116]; decide) (by rw [c116]; rfl) (by decide) ?_
        exact case_16 C1 S16 hin hk hR hP hQ hS hl
      by_cases c117 : y = 17
      · refine lv_tableIn (off := 738) (tgt := 771) hx hb dL_law_33 (by rw [c117]; decide) (by rw [c117]; decide) (by rw [c117]; rfl) (by decide) ?_
        exact case_17 C1 S17 hin hk hR hP hQ hS hl
      by_cases c118 : y = 18
      · refine lv_tableIn (off := 771) (tgt := 804) hx hb dL_law_33 (by rw [c118]; decide) (by rw [c118]; decide) (by rw [c118]; rfl) (by decide) ?_
        exact case_18 C1 S18 hin hk hR hP hQ hS hl
      by_cases c119 : y = 19
      · refine lv_tableIn (off := 794) (tgt := 827) hx hb dL_law_33 (by rw [c119]; decide) (by rw [c119]; decide) (by rw [c119]; rfl) (by decide) ?_
        exact case_19 C1 S19 hin hk hR hP hQ hS hl
      by_cases c120 : y = 20
      · refine lv_tableIn (off := 837) (tgt := 870) hx hb dL_law_33 (by rw [c120]; decide) (by rw [c120]; decide) (by rw [c120]; rfl) (by decide) ?_
        exact case_20 C1 S20 hin hk hR hP hQ hS hl
      by_cases c121 : y = 21
      · refine lv_tableIn (off := 880) (tgt := 913) hx hb dL_law_33 (by rw [c121]; decide) (by rw [c121]; decide) (by rw [c121]; rfl) (by decide) ?_
        exact case_21 C1 S21 hin hk hR hP hQ hS hl
      by_cases c122 : y = 22
      · refine lv_tableIn (off := 913) (tgt := 946) hx hb dL_law_33 (by rw [c122]; decide) (by rw [c122]; decide) (by rw [c122]; rfl) (by decide) ?_
        exact case_22 C1 S22 hin hk hR hP hQ hS hl
      by_cases c123 : y = 23
      · refine lv_tableIn (off := 926) (tgt := 959) hx hb dL_law_33 (by rw [c123]; decide) (by rw [c123]; decide) (by rw [c123]; rfl) (by decide) ?_
        exact case_23 C1 S23 hin hk hR hP hQ hS hl
      by_cases c124 : y = 24
      · refine lv_tableIn (off := 949) (tgt := 982) hx hb dL_law_33 (by rw [c124]; decide) (by rw [c124]; decide) (by rw [c124]; rfl) (by decide) ?_
        exact case_24 C1 S24 hin hk hR hP hQ hS hl
      by_cases c125 : y = 25
      · refine lv_tableIn (off := 992) (tgt := 1025) hx hb dL_law_33 (by rw [c125]; decide) (by rw [c125]; decide) (by rw [c125]; rfl) (by decide) ?_
        exact case_25 C1 S25 hin hk hR hP hQ hS hl
      by_cases c126 : y = 26
      · refine lv_tableIn (off := 1015) (tgt := 1048) hx hb dL_law_33 (by rw [c126]; decide) (by rw [c126]; decide) (by rw [c126]; rfl) (by decide) ?_
        exact case_26 C1 S26 hin hk hR hP hQ hS hl
      by_cases c127 : y = 27
      · refine lv_tableIn (off := 1028) (tgt := 1061) hx hb dL_law_33 (by rw [c127]; decide) (by rw [c127]; decide) (by rw [c127]; rfl) (by decide) ?_
        exact case_27 C1 S27 hin hk hR hP hQ hS hl
      by_cases c128 : y = 28
      · refine lv_tableIn (off := 1061) (tgt := 1094) hx hb dL_law_33 (by rw [c128]; decide) (by rw [c128]; decide) (by rw [c128]; rfl) (by decide) ?_
        exact case_28 C1 S28 hin hk hR hP hQ hS hl
      by_cases c129 : y = 29
      · refine lv_tableIn (off := 1084) (tgt := 1117) hx hb dL_law_33 (by rw [c129]; decide) (by rw [c129]; decide) (by rw [c129]; rfl) (by decide) ?_
        exact case_29 C1 S29 hin hk hR hP hQ hS hl
      by_cases c130 : y = 30
      · refine lv_tableIn (off := 1127) (tgt := 1160) hx hb dL_law_33 (by rw [c130]; decide) (by rw [c130]; decide) (by rw [c130]; rfl) (by decide) ?_
        exact case_30 C1 S30 hin hk hR hP hQ hS hl
      by_cases c131 : y = 31
      · refine lv_tableIn (off := 1170) (tgt := 1203) hx hb dL_law_33 (by rw [c131]; decide) (by rw [c131]; decide) (by rw [c131]; rfl) (by decide) ?_
        exact case_31 C1 S31 hin hk hR hP hQ hS hl
      by_cases c132 : y = 32
      · refine lv_tableIn (off := 1193) (tgt := 1226) hx hb dL_law_33 (by rw [c132]; decide) (by rw [c132]; decide) (by rw [c132]; rfl) (by decide) ?_
        exact case_32 C1 S32 hin hk hR hP hQ hS hl
      by_cases c133 : y = 33
      · refine lv_tableIn (off := 1216) (tgt := 1249) hx hb dL_law_33 (by rw [c133]; decide) (by rw [c133]; decide) (by rw [c133]; rfl) (by decide) ?_
        exact case_33 C1 S33 hin hk hR hP hQ hS hl
      by_cases c134 : y = 34
      · refine lv_tableIn (off := 1279) (tgt := 1312) hx hb dL_law_33 (by rw [c134]; decide) (by rw [c134]; decide) (by rw [c134]; rfl) (by decide) ?_
        exact case_34 C1 S34 hin hk hR hP hQ hS hl
      by_cases c135 : y = 35
      · refine lv_tableIn (off := 1322) (tgt := 1355) hx hb dL_law_33 (by rw [c135]; decide) (by rw [c135]; decide) (by rw [c135]; rfl) (by decide) ?_
        exact case_35 C1 S35 hin hk hR hP hQ hS hl
      by_cases c136 : y = 36
      · refine lv_tableIn (off := 1355) (tgt := 1388) hx hb dL_law_33 (by rw [c136]; decide) (by rw [c136]; decide) (by rw [c136]; rfl) (by decide) ?_
        exact case_36 C1 S36 hin hk hR hP hQ hS hl
      by_cases c137 : y = 37
      · refine lv_tableIn (off := 1388) (tgt := 1421) hx hb dL_law_33 (by rw [c137]; decide) (by rw [c137]; decide) (by rw [c137]; rfl) (by decide) ?_
        exact case_37 C1 S37 hin hk hR hP hQ hS hl
      by_cases c138 : y = 38
      · refine lv_tableIn (off := 1421) (tgt := 1454) hx hb dL_law_33 (by rw [c138]; decide) (by rw [c138]; decide) (by rw [c138]; rfl) (by decide) ?_
        exact case_38 C1 S38 hin hk hR hP hQ hS hl
      by_cases c139 : y = 39
      · refine lv_tableIn (off := 1444) (tgt := 1477) hx hb dL_law_33 (by rw [c139]; decide) (by rw [c139]; decide) (by rw [c139]; rfl) (by decide) ?_
        exact case_39 C1 S39 hin hk hR hP hQ hS hl
      by_cases c140 : y = 40
      · refine lv_tableIn (off := 1467) (tgt := 1500) hx hb dL_law_33 (by rw [c140]; decide) (by rw [c140]; decide) (by rw [c140]; rfl) (by decide) ?_
        exact case_40 C1 S40 hin hk hR hP hQ hS hl
      by_cases c141 : y = 41
      · refine lv_tableIn (off := 1480) (tgt := 1513) hx hb dL_law_33 (by rw [c141]; decide) (by rw [c141]; decide) (by rw [c141]; rfl) (by decide) ?_
        exact case_41 C1 S41 hin hk hR hP hQ hS hl
      by_cases c142 : y = 42
      · refine lv_tableIn (off := 1493) (tgt := 1526) hx hb dL_law_33 (by rw [c142]; decide) (by rw [c142]; decide) (by rw [c142]; rfl) (by decide) ?_
        exact case_42 C1 S42 hin hk hR hP hQ hS hl
      have e0 := ne_toI c100 (n := 0) (k := 0) (by decide)
      have e1 := ne_toI c101 (n := 1) (k := 1) (by decide)
      have e2 := ne_toI c102 (n := 2) (k := 2) (by decide)
      have e3 := ne_toI c103 (n := 3) (k := 3) (by decide)
      have e4 := ne_toI c104 (n := 4) (k := 4) (by decide)
      have e5 := ne_toI c105 (n := 5) (k := 5) (by decide)
      have e6 := ne_toI c106 (n := 6) (k := 6) (by decide)
      have e7 := ne_toI c107 (n := 7) (k := 7) (by decide)
      have e8 := ne_toI c108 (n := 8) (k := 8) (by decide)
      have e9 := ne_toI c109 (n := 9) (k := 9) (by decide)
      have e10 := ne_toI c110 (n := 10) (k := 10) (by decide)
      have e11 := ne_toI c111 (n := 11) (k := 11) (by decide)
      have e12 := ne_toI c112 (n := 12) (k := 12) (by decide)
      have e13 := ne_toI c113 (n := 13) (k := 13) (by decide)
      have e14 := ne_toI c114 (n := 14) (k := 14) (by decide)
      have e15 := ne_toI c115 (n := 15) (k := 15) (by decide)
      have e16 := ne_toI c116 (n := 16) (k := 16) (by decide)
      have e17 := ne_toI c117 (n := 17) (k := 17) (by decide)
      have e18 := ne_toI c118 (n := 18) (k := 18) (by decide)
      have e19 := ne_toI c119 (n := 19) (k := 19) (by decide)
      have e20 := ne_toI c120 (n := 20) (k := 20) (by decide)
      have e21 := ne_toI c121 (n := 21) (k := 21) (by decide)
      have e22 := ne_toI c122 (n := 22) (k := 22) (by decide)
      have e23 := ne_toI c123 (n := 23) (k := 23) (by decide)
      have e24 := ne_toI c124 (n := 24) (k := 24) (by decide)
      have e25 := ne_toI c125 (n := 25) (k := 25) (by decide)
      have e26 := ne_toI c126 (n := 26) (k := 26) (by decide)
      have e27 := ne_toI c127 (n := 27) (k := 27) (by decide)
      have e28 := ne_toI c128 (n := 28) (k := 28) (by decide)
      have e29 := ne_toI c129 (n := 29) (k := 29) (by decide)
      have e30 := ne_toI c130 (n := 30) (k := 30) (by decide)
      have e31 := ne_toI c131 (n := 31) (k := 31) (by decide)
      have e32 := ne_toI c132 (n := 32) (k := 32) (by decide)
      have e33 := ne_toI c133 (n := 33) (k := 33) (by decide)
      have e34 := ne_toI c134 (n := 34) (k := 34) (by decide)
      have e35 := ne_toI c135 (n := 35) (k := 35) (by decide)
      have e36 := ne_toI c136 (n := 36) (k := 36) (by decide)
      have e37 := ne_toI c137 (n := 37) (k := 37) (by decide)
      have e38 := ne_toI c138 (n := 38) (k := 38) (by decide)
      have e39 := ne_toI c139 (n := 39) (k := 39) (by decide)
      have e40 := ne_toI c140 (n := 40) (k := 40) (by decide)
      have e41 := ne_toI c141 (n := 41) (k := 41) (by decide)
      have e42 := ne_toI c142 (n := 42) (k := 42) (by decide)
      refine lv_tableOut (tgt := 1549) hx hb dL_law_33 (by omega) (by decide) ?_
      exact hk σ τ hR H locs ls hP hQ hS hl
theorem wd_D2 {cell : CellF} {regs : List (Nat × Nat)} {ad : Nat → Nat → Nat} {σ : St} {A : Nat → Prop} (ha : Apart regs ad) (hA : ∀ r ∈ regs, A (ad r.1 r.2)) : va_D A (wd cell regs ad σ) := by
  refine ⟨(wd_D (sz := 0) ha).1, fun k q hk => ?_⟩
  simp only [wd, List.getElem?_map, Option.map_eq_some_iff] at hk
  obtain ⟨r, hr, rfl⟩ := hk
  exact hA r (List.mem_of_getElem? hr)
theorem P_left {D : va_G} {cl : List vw_C} {a b : va_W} {H : Heap} (h : va_P D cl (a ++ b) H) : va_P D cl a H := fun k q hk => h k q (by rw [List.getElem?_append_left (List.getElem?_eq_some_iff.mp hk).1]; exact hk)
theorem right_at {a b : va_W} {k : Nat} {q : Nat × va_E} (h : b[k]? = some q) : (a ++ b)[a.length + k]? = some q := by
  rw [List.getElem?_append_right (Nat.le_add_right _ _), Nat.add_sub_cancel_left]
  exact h
theorem P_right {D : va_G} {cl : List vw_C} {a b : va_W} {H : Heap} (h : va_P D cl (a ++ b) H) : va_P D cl b H := fun k q hk => h _ q (right_at hk)
theorem D_right {A : Nat → Prop} {a b : va_W} (h : va_D A (a ++ b)) : va_D (fun x => (∃ (k : Nat) (e : va_E), b[k]? = some (x, e)) ∧ A x) b :=
  ⟨fun i j p q hi hj e => by have := h.1 _ _ p q (right_at hi) (right_at hj) e; omega, fun k q hk => ⟨⟨k, q.2, hk⟩, h.2 _ q (right_at hk)⟩⟩
theorem D_apart {cell : CellF} {regs : List (Nat × Nat)} {ad : Nat → Nat → Nat} {σ : St} {A : Nat → Prop} {b : va_W} (h : va_D A (wd cell regs ad σ ++ b)) {r : Nat × Nat} (hr : r ∈ regs) {x : Nat} (hx : ∃ (k : Nat) (e : va_E), b[k]? = some (x, e)) : ad r.1 r.2 ≠ x := by
  intro e
  obtain ⟨k, ee, hk⟩ := hx
  obtain ⟨i, hi⟩ := List.mem_iff_getElem?.mp hr
  have h1 : (wd cell regs ad σ)[i]? = some (ad r.1 r.2, cell r.1 r.2 (σ r.1 r.2)) := wd_at hi
  have hlt := (List.getElem?_eq_some_iff.mp h1).1
  have h2 := h.1 i _ _ _ (by rw [List.getElem?_append_left hlt]; exact h1) (right_at hk) (by first | exact e | exact e.symm)
  omega
set_option maxHeartbeats 8000000 in
set_option maxRecDepth 100000 in
theorem start_of {Rel : St → St → Prop} (hsim : SimAll Rel) (hR0 : Rel sC0 sM0) {p : Program} {e : Env} {s : State} {m : MethodId} {below : List Frame} {meth : Method} {c : Code} (l : Launch) {b L : Nat} {xs : Nat → Int32} (hL : L ≤ 3072) (C0 : lw_At p s m meth c b L xs) : W p l e room_1 s m #[Value.ref b] below meth c s.heap [] 0 0 (lw_Z below #[Value.ref b] s) (entryFrame m ([Value.ref b] : List Value).toArray 4) := by
  obtain ⟨hx, hb, hr, hml, hown, hts1, hX, hbl, hlocks, hgv⟩ := id C0
  have hN := NK_start hts1
  obtain ⟨sk, sv, hKL⟩ := KL_start hts1 hgv
  have hts : ∀ w ∈ WT, w.before #[Value.ref b] s = true := fun w hw => hts1 w (WT_sub w hw)
  have hA : ∀ q : Nat, s.heap.size ≤ q → (fun q : Nat => s.heap.size ≤ q) q := fun _ h => h
  have hbA : ¬ (fun q : Nat => s.heap.size ≤ q) b := Nat.not_le.mpr hbl
  obtain ⟨c0, iS0, hKn0⟩ := u_known (C := RX0) (T := TX0) (N := 4) (n := 4) hts iwX0 (hts _ mw_221)
  obtain ⟨c1, iS1, hKn1⟩ := u_known (C := RX1) (T := TX1) (N := 17) (n := 17) hts iwX1 (hts _ mw_140)
  obtain ⟨c2, iS2, hKn2⟩ := u_known (C := RX3) (T := TX3) (N := 4) (n := 4) hts iwX3 (hts _ mw_108)
  obtain ⟨c3, iS3, hKn3⟩ := u_known (C := RX4) (T := TX4) (N := 2) (n := 2) hts iwX4 (hts _ mw_102)
  obtain ⟨c4, iS4, hKn4⟩ := u_known (C := RX5) (T := TX5) (N := 7) (n := 7) hts iwX5 (hts _ mw_255)
  obtain ⟨c5, iS5, hKn5⟩ := u_known (C := RX6) (T := TX6) (N := 3) (n := 3) hts iwX6 (hts _ mw_283)
  obtain ⟨c6, iS6, hKn6⟩ := u_known (C := RX7) (T := TX7) (N := 5) (n := 5) hts iwX7 (hts _ mw_301)
  obtain ⟨c7, iS7, hKn7⟩ := u_known (C := RX8) (T := TX8) (N := 2) (n := 2) hts iwX8 (hts _ mw_240)
  obtain ⟨c8, iS8, hKn8⟩ := u_known (C := RX9) (T := TX9) (N := 13) (n := 13) hts iwX9 (hts _ mw_94)
  obtain ⟨c9, iS9, hKn9⟩ := u_known (C := RX10) (T := TX10) (N := 34) (n := 34) hts iwX10 (hts _ mw_941)
  obtain ⟨dC, dI, hKc⟩ : ∃ (dC : Nat → ClassId) (dI : Nat → Nat → Nat), ∀ (k : Nat) (q : vw_C), CLS[k]? = some q → u_Kn s q.1 q.2.1 q.2.2 (dC k) (dI k) := by
    refine ⟨fun k => [c0, c1, c2, c3, c4, c5, c6, c7, c8, c9].getD k c0, fun k => [iS0, iS1, iS2, iS3, iS4, iS5, iS6, iS7, iS8, iS9].getD k iS0, ?_⟩
    intro k q hq
    match k, hq with
    | 0, hq => cases hq; exact hKn0
    | 1, hq => cases hq; exact hKn1
    | 2, hq => cases hq; exact hKn2
    | 3, hq => cases hq; exact hKn3
    | 4, hq => cases hq; exact hKn4
    | 5, hq => cases hq; exact hKn5
    | 6, hq => cases hq; exact hKn6
    | 7, hq => cases hq; exact hKn7
    | 8, hq => cases hq; exact hKn8
    | 9, hq => cases hq; exact hKn9
    | k + 10, hq => simp [CLS] at hq
  have hS : va_S (fun q : Nat => s.heap.size ≤ q) s.heap s.heap [] := va_S.rf
  have hK : va_K (dC, dI) CLS [] s := ⟨hKc, fun k q h => by simp at h⟩
  have hP : va_P (dC, dI) CLS [] s.heap := fun k q h => by simp at h
  have hD : va_D (fun q : Nat => s.heap.size ≤ q) [] := ⟨fun i j p q h => by simp at h, fun k q h => by simp at h⟩
  have hl := lv_entry ([.ref b]) (n := 4) (Nat.le_of_ble_eq_true rfl)
  rw [lg_entry_eq]
  generalize (lg_sl ([.ref b]) ++ List.replicate (4 - (lg_sl ([.ref b])).length) Slot.unset).toArray = ls at hl ⊢
  have hl : lv_has ls 4 [(0, .ref b)] := hl
  refine va_new (ci := 8) (fs := [.null, .null, .null, .null, .int 0, .null, .null, .null, .null, .null, .null, .int 0, .null]) (C := RX9) (T := TX9) (N := 13) hx hb hts iwX9 tyX9 tyX9_ok hown (hts _ mw_93) (hts _ mw_94) (hts _ mw_74) hK hP hD hS hA rfl (fun j hj => by rcases (show j = 0 ∨ j = 1 ∨ j = 2 ∨ j = 3 ∨ j = 4 ∨ j = 5 ∨ j = 6 ∨ j = 7 ∨ j = 8 ∨ j = 9 ∨ j = 10 ∨ j = 11 ∨ j = 12 by omega) with rfl | rfl | rfl | rfl | rfl | rfl | rfl | rfl | rfl | rfl | rfl | rfl | rfl <;> rfl) (Nat.le_of_ble_eq_true rfl) (Nat.le_of_ble_eq_true rfl) dL_law_0 (fun q0v H hP2 hD2 hS => ?_)
  refine lv_dup hx hb dL_law_3 rfl ?_
  have hFc := freeL hD2 hS hA
  refine g_cK (As := []) (rest := [.ref q0v]) hx hb hml hown hts hN hl.1 (k_X9_init l dC dI q0v H.size) ⟨rfl, rfl⟩ rfl mw_74 mw_96 mw_97 okd_X9_init mw_95 ⟨(Nat.le_of_ble_eq_true rfl), (Nat.le_of_ble_eq_true rfl)⟩ rfl rfl (Nat.le_of_ble_eq_true rfl) ⟨(Nat.le_of_ble_eq_true rfl), (Nat.le_of_ble_eq_true rfl)⟩ hK hP2 hD2 hS hA dL_law_4 (fun t H1 locs ht hvm hB hk1 hS => ?_)
  obtain ⟨q1C, q2C, q3C, q4C, q5C, q6C, q7C, q8C, q9C, q10C, q11C, q12C, q13C, q14C, q15C, q16C, q17C, q18C, q19C, q20C, q21C, q22C, q23C, q24C, q25C, q26C, q27C, q28C, q29C, q30C, q31C, q32C, q33C, q36C, q37C, q38C, q39C, q40C, q41C, q42C, q43C, q44C, q46C, q47C, q48C, q49C, q50C, q51C, q52C, q53C, q54C, q56C, q57C, q58C, q59C, q60C, q61C, q62C, q63C, q64C, q66C, q67C, r68C, q69C, q70C, q73C, q74C, q76C, q77C, q79C, q80C, q82C, q83C, q85C, q86C, q88C, q89C, q91C, q93C, q94C, q95C, q97C, q98C, q99C, q101C, q102C, q103C, q105C, q106C, q107C, q109C, q110C, q111C, q113C, q115C, cA34C, cA35C, cA72C, cA78C, cA92C, hP1, hK1, hD1⟩ := hB
  rw [ht] at hP1
  have hK1 := va_K.moved hvm.symm hK1
  obtain ⟨hP3, hD3⟩ := joinL hP2 hD2 hk1 hFc hP1 hD1
  obtain ⟨adC, ek, ev, e0, hPC, hApC, hInC⟩ := conv_C dC dI sk sv q0v q1C q2C q3C q4C q5C q6C q7C q8C q9C q10C q11C q12C q13C q14C q15C q16C q17C q18C q19C q20C q21C q22C q23C q24C q25C q26C q27C q28C q29C q30C q31C q32C q33C q36C q37C q38C q39C q40C q41C q42C q43C q44C q46C q47C q48C q49C q50C q51C q52C q53C q54C q56C q57C q58C q59C q60C q61C q62C q63C q64C q66C q67C r68C q69C q70C q73C q74C q76C q77C q79C q80C q82C q83C q85C q86C q88C q89C q91C q93C q94C q95C q97C q98C q99C q101C q102C q103C q105C q106C q107C q109C q110C q111C q113C q115C cA34C cA35C cA72C cA78C cA92C hP3 hD3
  have hK2 := hK1.sub (tys' := tysW (fun k => [cA35C, cA34C, cA78C, cA92C, cA72C].getD k cA35C)) [1, 0, 3, 4, 2] rfl
  generalize hcy : (fun k => [cA35C, cA34C, cA78C, cA92C, cA72C].getD k cA35C) = cy at hPC hK2
  clear hP1 hD1 hP2 hD2 hP3 hD3 hk1 hFc hK1 hK
  have hK := hK2
  have hP := hPC
  have hD : va_D (fun q : Nat => s.heap.size ≤ q) (wC cy adC sC0) := wd_D2 hApC hInC
  subst e0
  generalize H1 = H at hP hPC hS ⊢
  refine lv_astore_n (lv' := [(1, .ref (adC 0 0)), (0, .ref b)]) hx hb dL_law_7 rfl hl (by decide) rfl (fun ls hl => ?_)
  refine va_new (ci := 9) (fs := [.null, .null, .null, .int 0, .null, .null, .null, .null, .null, .null, .null, .null, .null, .null, .int 0, .null, .null, .int 0, .int 0, .int 0, .int 0, .int 0, .int 0, .int 0, .int 0, .int 0, .int 0, .int 0, .null, .null, .null, .null, .int 0, .null]) (C := RX10) (T := TX10) (N := 34) hx hb hts iwX10 tyX10 tyX10_ok hown (hts _ mw_940) (hts _ mw_941) (hts _ mw_83) hK hP hD hS hA rfl (fun j hj => by rcases (show j = 0 ∨ j = 1 ∨ j = 2 ∨ j = 3 ∨ j = 4 ∨ j = 5 ∨ j = 6 ∨ j = 7 ∨ j = 8 ∨ j = 9 ∨ j = 10 ∨ j = 11 ∨ j = 12 ∨ j = 13 ∨ j = 14 ∨ j = 15 ∨ j = 16 ∨ j = 17 ∨ j = 18 ∨ j = 19 ∨ j = 20 ∨ j = 21 ∨ j = 22 ∨ j = 23 ∨ j = 24 ∨ j = 25 ∨ j = 26 ∨ j = 27 ∨ j = 28 ∨ j = 29 ∨ j = 30 ∨ j = 31 ∨ j = 32 ∨ j = 33 by omega) with rfl | rfl | rfl | rfl | rfl | rfl | rfl | rfl | rfl | rfl | rfl | rfl | rfl | rfl | rfl | rfl | rfl | rfl | rfl | rfl | rfl | rfl | rfl | rfl | rfl | rfl | rfl | rfl | rfl | rfl | rfl | rfl | rfl | rfl <;> rfl) (Nat.le_of_ble_eq_true rfl) (Nat.le_of_ble_eq_true rfl) dL_law_8 (fun q1v H hP2 hD2 hS => ?_)
  refine lv_dup hx hb dL_law_11 rfl ?_
  have hFc := freeL hD2 hS hA
  refine g_cK (As := []) (rest := [.ref q1v]) hx hb hml hown hts hN hl.1 (k_X10_init l dC dI q1v H.size) ⟨rfl, rfl⟩ rfl mw_83 mw_943 mw_944 okd_X10_init mw_942 ⟨(Nat.le_of_ble_eq_true rfl), (Nat.le_of_ble_eq_true rfl)⟩ rfl rfl (Nat.le_of_ble_eq_true rfl) ⟨(Nat.le_of_ble_eq_true rfl), (Nat.le_of_ble_eq_true rfl)⟩ hK hP2 hD2 hS hA dL_law_12 (fun t H1 locs ht hvm hB hk1 hS => ?_)
  obtain ⟨q1M, q3M, q5M, q7M, q9M, q11M, q13M, q15M, q17M, q19M, q21M, q23M, q25M, q27M, q29M, q31M, q33M, q35M, q37M, q39M, cA2M, hP1, hK1, hD1⟩ := hB
  rw [ht] at hP1
  have hK1 := va_K.moved hvm.symm hK1
  obtain ⟨hP3, hD3⟩ := joinL hP2 hD2 hk1 hFc hP1 hD1
  have hcI : cy 0 = cA2M := tysame (hK.app hK1) (i := 0) (j := 5) rfl rfl
  obtain ⟨adM, ek2, ev2, e1, hPM, hApM, hInM⟩ := conv_M dC dI sk sv q1v q1M q3M q5M q7M q9M q11M q13M q15M q17M q19M q21M q23M q25M q27M q29M q31M q33M q35M q37M q39M cA2M cy hcI (P_right hP3) (D_right hD3)
  have hPC2 := P_left hP3
  have hdj : ∀ r ∈ regsC, ∀ r' ∈ regsM, adC r.1 r.2 ≠ adM r'.1 r'.2 := fun r hr r' hr' => D_apart hD3 hr (hInM r' hr').1
  clear hP1 hD1 hP2 hD2 hP3 hD3 hk1 hFc
  subst e1
  generalize H1 = H at hPC2 hPM hS ⊢
  refine lv_astore_n (lv' := [(2, .ref (adM 0 0)), (1, .ref (adC 0 0)), (0, .ref b)]) hx hb dL_law_15 rfl hl (by decide) rfl (fun ls hl => ?_)
  refine lv_iconst (v := 0) hx hb dL_law_16 (by decide) ?_
  refine lv_istore_n (lv' := [(3, .int 0), (2, .ref (adM 0 0)), (1, .ref (adC 0 0)), (0, .ref b)]) hx hb dL_law_17 rfl hl (by decide) rfl (fun ls hl => ?_)
  refine W.widen (k := 600000) (n := 7302250) (Nat.le_of_ble_eq_true rfl) (Nat.le_of_ble_eq_true rfl) ?_
  exact law_loop hsim ⟨hx, hb, hr, hml, hown, hts, hX, hbl, hlocks, hK, hKL adC ek ev, hKL adM ek2 ev2, hInC, fun r hr => (hInM r hr).2, hApC, hApM, hdj⟩ hL (L + 1) 0 0 (Nat.zero_le L) (by omega) nI_0.symm sC0 sM0 hR0 _ _ _ hPC2 hPM hS (lv_sub hl [3, 2, 1, 0] rfl)
