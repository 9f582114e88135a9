theorem dJ3_checkIndex_8e157_0 : decode cJ3_checkIndex_8e157 0 = .ok (.iload_n 0, 1) := by decide +kernel
theorem dJ3_checkIndex_8e157_1 : decode cJ3_checkIndex_8e157 1 = .ok (.ifCond .lt 8, 3) := by decide +kernel
theorem dJ3_checkIndex_8e157_4 : decode cJ3_checkIndex_8e157 4 = .ok (.iload_n 0, 1) := by decide +kernel
theorem dJ3_checkIndex_8e157_5 : decode cJ3_checkIndex_8e157 5 = .ok (.iload_n 1, 1) := by decide +kernel
theorem dJ3_checkIndex_8e157_6 : decode cJ3_checkIndex_8e157 6 = .ok (.if_icmp .lt 10, 3) := by decide +kernel
theorem dJ3_checkIndex_8e157_9 : decode cJ3_checkIndex_8e157 9 = .ok (.aload_n 2, 1) := by decide +kernel
theorem dJ3_checkIndex_8e157_10 : decode cJ3_checkIndex_8e157 10 = .ok (.iload_n 0, 1) := by decide +kernel
theorem dJ3_checkIndex_8e157_11 : decode cJ3_checkIndex_8e157 11 = .ok (.iload_n 1, 1) := by decide +kernel
theorem dJ3_checkIndex_8e157_12 : decode cJ3_checkIndex_8e157 12 = .ok (.invokestatic 95, 3) := by decide +kernel
theorem dJ3_checkIndex_8e157_15 : decode cJ3_checkIndex_8e157 15 = .ok (.athrow, 1) := by decide +kernel
theorem dJ3_checkIndex_8e157_16 : decode cJ3_checkIndex_8e157 16 = .ok (.iload_n 0, 1) := by decide +kernel
theorem dJ3_checkIndex_8e157_17 : decode cJ3_checkIndex_8e157 17 = .ok (.ireturn, 1) := by decide +kernel
theorem dJ0_checkIndex_df160_0 : decode cJ0_checkIndex_df160 0 = .ok (.iload_n 0, 1) := by decide +kernel
theorem dJ0_checkIndex_df160_1 : decode cJ0_checkIndex_df160 1 = .ok (.iload_n 1, 1) := by decide +kernel
theorem dJ0_checkIndex_df160_2 : decode cJ0_checkIndex_df160 2 = .ok (.getstatic 1053, 3) := by decide +kernel
theorem dJ0_checkIndex_df160_5 : decode cJ0_checkIndex_df160 5 = .ok (.invokestatic 1059, 3) := by decide +kernel
theorem dJ0_checkIndex_df160_8 : decode cJ0_checkIndex_df160 8 = .ok (.pop, 1) := by decide +kernel
theorem dJ0_checkIndex_df160_9 : decode cJ0_checkIndex_df160 9 = .ok (.return_, 1) := by decide +kernel
theorem ok_J3_checkIndex_8e157 : okS yJ3_checkIndex_8e157 cJ3_checkIndex_8e157 3 (some .int) 3 := ⟨mw_731, mw_90, mw_732, by decide +kernel, by decide +kernel⟩
theorem ok_J0_checkIndex_df160 : okS yJ0_checkIndex_df160 cJ0_checkIndex_df160 2 none 2 := ⟨mw_727, mw_88, mw_728, by decide +kernel, by decide +kernel⟩
abbrev rm_J3_checkIndex_8e157 : Room := { frames := 0, cells := 0, slots := 0, locals := 0 }
abbrev rm_J0_checkIndex_df160 : Room := { frames := 1, cells := 0, slots := 0, locals := 22 }
def w_J3_checkIndex_8e157 (post : Int32 → St → Prop) (σ : St) (x0 : Int32) (x1 : Int32) : Prop := ¬ x0 < 0 ∧ x0 < x1 ∧ post x0 σ
def w_J0_checkIndex_df160 (post : St → Prop) (σ : St) (x0 : Int32) (x1 : Int32) : Prop := ¬ x0 < 0 ∧ x0 < x1 ∧ post σ
theorem c_J3_checkIndex_8e157 (l : Launch) (D : va_G) (cy : Nat → ClassId) (ad : Nat → Nat → Nat) (ha : Apart regsC ad) {post : Int32 → St → Prop} {σ : St} {x0 x1 : Int32} {b : Value} (hb1 : b.category = 1) (hw : w_J3_checkIndex_8e157 post σ x0 x1) (sz : Nat) : MetI l yJ3_checkIndex_8e157 cJ3_checkIndex_8e157 3 .int rm_J3_checkIndex_8e157 [.int x0, .int x1, b] D cy (cellC cy ad) regsC ad σ sz post := by
  refine Met_inI ok_J3_checkIndex_8e157.2.2.2.2 (by cases b <;> first | exact Nat.le_of_ble_eq_true rfl | exact absurd hb1 (fun h => by cases h)) (fun p e s m below meth c ls E hP hl => ?_)
  obtain ⟨hx, hb, -⟩ := id E
  have hS : va_S (AC ad s.heap.size) s.heap s.heap [] := va_S.rf
  obtain ⟨h0, h1, hw⟩ := hw
  have hl : lv_has ls 3 [(0, .int x0), (1, .int x1), (2, b)] := hl
  refine lv_iload_n hx hb dJ3_checkIndex_8e157_0 rfl (lv_at hl 0 rfl) ?_
  refine lv_if_lt (tgt := 9) hx hb dJ3_checkIndex_8e157_1 (by decide) (fun q => absurd q h0) (fun _ => ?_)
  refine lv_iload_n hx hb dJ3_checkIndex_8e157_4 rfl (lv_at hl 0 rfl) ?_
  refine lv_iload_n hx hb dJ3_checkIndex_8e157_5 rfl (lv_at hl 1 rfl) ?_
  refine lv_icmp_lt (tgt := 16) hx hb dJ3_checkIndex_8e157_6 (by decide) (fun _ => ?_) (fun q => absurd h1 q)
  refine lv_iload_n hx hb dJ3_checkIndex_8e157_16 rfl (lv_at hl 0 rfl) ?_
  exact g_iret E hw hP hS dJ3_checkIndex_8e157_17
theorem c_J0_checkIndex_df160 (l : Launch) (D : va_G) (cy : Nat → ClassId) (ad : Nat → Nat → Nat) (ha : Apart regsC ad) {post : St → Prop} {σ : St} {x0 x1 : Int32} (hw : w_J0_checkIndex_df160 post σ x0 x1) (sz : Nat) : MetV l yJ0_checkIndex_df160 cJ0_checkIndex_df160 2 rm_J0_checkIndex_df160 [.int x0, .int x1] D cy (cellC cy ad) regsC ad σ sz post := by
  refine Met_inV ok_J0_checkIndex_df160.2.2.2.2 (Nat.le_of_ble_eq_true rfl) (fun p e s m below meth c ls E hP hl => ?_)
  obtain ⟨hx, hb, -⟩ := id E
  have hS : va_S (AC ad s.heap.size) s.heap s.heap [] := va_S.rf
  have hl : lv_has ls 2 [(0, .int x0), (1, .int x1)] := hl
  refine lv_iload_n hx hb dJ0_checkIndex_df160_0 rfl (lv_at hl 0 rfl) ?_
  refine lv_iload_n hx hb dJ0_checkIndex_df160_1 rfl (lv_at hl 1 rfl) ?_
  refine g_gsBF E hS mw_729 dJ0_checkIndex_df160_2 (fun r => ?_)
  refine g_cSi (As := [.int x0, .int x1, va_rf r]) (rest := []) E hl.1 (c_J3_checkIndex_8e157 l D cy ad ha (post := fun _ u => post u) (by cases r <;> rfl) hw _) ok_J3_checkIndex_8e157 mw_730 ⟨Nat.le_of_ble_eq_true rfl, Nat.le_of_ble_eq_true rfl⟩ ⟨rfl, rfl⟩ rfl rfl (Nat.le_of_ble_eq_true rfl) ⟨Nat.zero_le _, Nat.zero_le _⟩ hP hS dJ0_checkIndex_df160_5 (fun r1 s1 hw H locs hP hS => ?_)
  refine lv_pop hx hb dJ0_checkIndex_df160_8 rfl ?_
  exact g_vret E hw hP hS dJ0_checkIndex_df160_9
section WalkT1
variable {p : Program} {l : Launch} {e : Env} {s : State} {m : MethodId} {args : Array Value} {below : List Frame} {meth : Method} {c : Code} {D : va_G} {cy : Nat → ClassId} {ad : Nat → Nat → Nat}
-- RoofWar$Reader.sortOf(I)I
theorem dX5_sortOf_0 : decode cX5_sortOf 0 = .ok (.iload_n 0, 1) := by decide +kernel
theorem dX5_sortOf_1 : decode cX5_sortOf 1 = .ok (.bipush 97, 2) := by decide +kernel
theorem dX5_sortOf_3 : decode cX5_sortOf 3 = .ok (.if_icmp .lt 11, 3) := by decide +kernel
theorem dX5_sortOf_6 : decode cX5_sortOf 6 = .ok (.iload_n 0, 1) := by decide +kernel
theorem dX5_sortOf_7 : decode cX5_sortOf 7 = .ok (.bipush 122, 2) := by decide +kernel
theorem dX5_sortOf_9 : decode cX5_sortOf 9 = .ok (.if_icmp .gt 5, 3) := by decide +kernel
theorem dX5_sortOf_12 : decode cX5_sortOf 12 = .ok (.iconst 1, 1) := by decide +kernel
theorem dX5_sortOf_13 : decode cX5_sortOf 13 = .ok (.ireturn, 1) := by decide +kernel
theorem dX5_sortOf_14 : decode cX5_sortOf 14 = .ok (.iload_n 0, 1) := by decide +kernel
theorem dX5_sortOf_15 : decode cX5_sortOf 15 = .ok (.bipush 48, 2) := by decide +kernel
theorem dX5_sortOf_17 : decode cX5_sortOf 17 = .ok (.if_icmp .lt 13, 3) := by decide +kernel
theorem dX5_sortOf_20 : decode cX5_sortOf 20 = .ok (.iload_n 0, 1) := by decide +kernel
theorem dX5_sortOf_21 : decode cX5_sortOf 21 = .ok (.bipush 57, 2) := by decide +kernel
theorem dX5_sortOf_23 : decode cX5_sortOf 23 = .ok (.if_icmp .gt 7, 3) := by decide +kernel
theorem dX5_sortOf_26 : decode cX5_sortOf 26 = .ok (.iconst 2, 1) := by decide +kernel
theorem dX5_sortOf_27 : decode cX5_sortOf 27 = .ok (.goto 4, 3) := by decide +kernel
theorem dX5_sortOf_30 : decode cX5_sortOf 30 = .ok (.iconst 3, 1) := by decide +kernel
theorem dX5_sortOf_31 : decode cX5_sortOf 31 = .ok (.ireturn, 1) := by decide +kernel
theorem ok_X5_sortOf : okS yX5_sortOf cX5_sortOf 1 (some .int) 1 := ⟨mw_695, mw_80, mw_696, by decide +kernel, by decide +kernel⟩
abbrev rm_X5_sortOf : Room := { frames := 0, cells := 0, slots := 0, locals := 0 }
def b_X5_sortOf_14 (post : Int32 → St → Prop) (σ : St) (x0 : Int32) : Prop := ((x0 < 48 → (post 3 σ)) ∧ (¬ x0 < 48 → (((57 < x0 → (post 3 σ)) ∧ (¬ 57 < x0 → (post 2 σ))))))
theorem B_X5_sortOf_14 (E : EnvW p s m args meth c D cy regsC ad "RoofWar$Reader" cX5_sortOf 1 (some .int)) (ha : Apart regsC ad) {post : Int32 → St → Prop} {σ : St} {x0 : Int32} (hw : b_X5_sortOf_14 post σ x0) {H : Heap} {locs : List Loc} {ls : Array Slot} (hP : va_P D CLS (wC cy ad σ) H) (hS : va_S (AC ad s.heap.size) s.heap H locs) (hl : lv_has ls 1 [(0, .int x0)]) : W p l e rm_X5_sortOf s m args below meth c H locs 0 0 (MQ below (QI D cy (cellC cy ad) regsC ad s.heap.size post) args s 0 0 (AC ad s.heap.size)) (F0 m 14 ls []) := by
  obtain ⟨hx, hb, -⟩ := id E
  unfold b_X5_sortOf_14 at hw
  refine lv_iload_n hx hb dX5_sortOf_14 rfl (lv_at hl 0 rfl) ?_
  refine lv_bipush (v := 48) hx hb dX5_sortOf_15 (by decide) ?_
  refine lv_icmp_lt (tgt := 30) hx hb dX5_sortOf_17 (by decide) (fun c1 => ?_) (fun c1 => ?_)
  · replace hw := hw.1 c1
    refine lv_iconst (v := 3) hx hb dX5_sortOf_30 (by decide) ?_
    exact g_iret E hw hP hS dX5_sortOf_31
  · replace hw := hw.2 c1
    refine lv_iload_n hx hb dX5_sortOf_20 rfl (lv_at hl 0 rfl) ?_
    refine lv_bipush (v := 57) hx hb dX5_sortOf_21 (by decide) ?_
    refine lv_icmp_gt (tgt := 30) hx hb dX5_sortOf_23 (by decide) (fun c2 => ?_) (fun c2 => ?_)
    · replace hw := hw.1 c2
      refine lv_iconst (v := 3) hx hb dX5_sortOf_30 (by decide) ?_
      exact g_iret E hw hP hS dX5_sortOf_31
    · replace hw := hw.2 c2
      refine lv_iconst (v := 2) hx hb dX5_sortOf_26 (by decide) ?_
      refine lv_goto (tgt := 31) hx hb dX5_sortOf_27 (by decide) ?_
      exact g_iret E hw hP hS dX5_sortOf_31
def w_X5_sortOf (post : Int32 → St → Prop) (σ : St) (x0 : Int32) : Prop := ((x0 < 97 → (b_X5_sortOf_14 post σ x0)) ∧ (¬ x0 < 97 → (((122 < x0 → (b_X5_sortOf_14 post σ x0)) ∧ (¬ 122 < x0 → (post 1 σ))))))
theorem B_X5_sortOf_0 (E : EnvW p s m args meth c D cy regsC ad "RoofWar$Reader" cX5_sortOf 1 (some .int)) (ha : Apart regsC ad) {post : Int32 → St → Prop} {σ : St} {x0 : Int32} (hw : w_X5_sortOf post σ x0) {H : Heap} {locs : List Loc} {ls : Array Slot} (hP : va_P D CLS (wC cy ad σ) H) (hS : va_S (AC ad s.heap.size) s.heap H locs) (hl : lv_has ls 1 [(0, .int x0)]) : W p l e rm_X5_sortOf s m args below meth c H locs 0 0 (MQ below (QI D cy (cellC cy ad) regsC ad s.heap.size post) args s 0 0 (AC ad s.heap.size)) (F0 m 0 ls []) := by
  obtain ⟨hx, hb, -⟩ := id E
  unfold w_X5_sortOf at hw
  refine lv_iload_n hx hb dX5_sortOf_0 rfl (lv_at hl 0 rfl) ?_
  refine lv_bipush (v := 97) hx hb dX5_sortOf_1 (by decide) ?_
  refine lv_icmp_lt (tgt := 14) hx hb dX5_sortOf_3 (by decide) (fun c1 => ?_) (fun c1 => ?_)
  · replace hw := hw.1 c1
    exact B_X5_sortOf_14 E ha hw hP hS (lv_sub hl [0] rfl)
  · replace hw := hw.2 c1
    refine lv_iload_n hx hb dX5_sortOf_6 rfl (lv_at hl 0 rfl) ?_
    refine lv_bipush (v := 122) hx hb dX5_sortOf_7 (by decide) ?_
    refine lv_icmp_gt (tgt := 14) hx hb dX5_sortOf_9 (by decide) (fun c2 => ?_) (fun c2 => ?_)
    · replace hw := hw.1 c2
      exact B_X5_sortOf_14 E ha hw hP hS (lv_sub hl [0] rfl)
    · replace hw := hw.2 c2
      refine lv_iconst (v := 1) hx hb dX5_sortOf_12 (by decide) ?_
      exact g_iret E hw hP hS dX5_sortOf_13
theorem c_X5_sortOf (l : Launch) (D : va_G) (cy : Nat → ClassId) (ad : Nat → Nat → Nat) (ha : Apart regsC ad) {post : Int32 → St → Prop} {σ : St} {x0 : Int32} (hw : w_X5_sortOf post σ x0) (sz : Nat) : MetI l yX5_sortOf cX5_sortOf 1 .int rm_X5_sortOf [.int x0] D cy (cellC cy ad) regsC ad σ sz post :=
  Met_inI ok_X5_sortOf.2.2.2.2 (Nat.le_of_ble_eq_true rfl) (fun p e s m below meth c ls E hP hl => B_X5_sortOf_0 E ha hw hP va_S.rf hl)
-- RoofWar$Reader.step()V
theorem dX5_step_0 : decode cX5_step 0 = .ok (.aload_n 0, 1) := by decide +kernel
theorem dX5_step_1 : decode cX5_step 1 = .ok (.getfield 24, 3) := by decide +kernel
theorem dX5_step_4 : decode cX5_step 4 = .ok (.iconst 1, 1) := by decide +kernel
theorem dX5_step_5 : decode cX5_step 5 = .ok (.if_icmp .eq 11, 3) := by decide +kernel
theorem dX5_step_8 : decode cX5_step 8 = .ok (.aload_n 0, 1) := by decide +kernel
theorem dX5_step_9 : decode cX5_step 9 = .ok (.getfield 24, 3) := by decide +kernel
theorem dX5_step_12 : decode cX5_step 12 = .ok (.iconst 2, 1) := by decide +kernel
theorem dX5_step_13 : decode cX5_step 13 = .ok (.if_icmp .ne 7, 3) := by decide +kernel
theorem dX5_step_16 : decode cX5_step 16 = .ok (.iconst 1, 1) := by decide +kernel
theorem dX5_step_17 : decode cX5_step 17 = .ok (.goto 4, 3) := by decide +kernel
theorem dX5_step_20 : decode cX5_step 20 = .ok (.iconst 0, 1) := by decide +kernel
theorem dX5_step_21 : decode cX5_step 21 = .ok (.istore_n 1, 1) := by decide +kernel
theorem dX5_step_22 : decode cX5_step 22 = .ok (.aload_n 0, 1) := by decide +kernel
theorem dX5_step_23 : decode cX5_step 23 = .ok (.getfield 28, 3) := by decide +kernel
theorem dX5_step_26 : decode cX5_step 26 = .ok (.istore_n 2, 1) := by decide +kernel
theorem dX5_step_27 : decode cX5_step 27 = .ok (.aload_n 0, 1) := by decide +kernel
theorem dX5_step_28 : decode cX5_step 28 = .ok (.iload_n 2, 1) := by decide +kernel
theorem dX5_step_29 : decode cX5_step 29 = .ok (.putfield 48, 3) := by decide +kernel
theorem dX5_step_32 : decode cX5_step 32 = .ok (.aload_n 0, 1) := by decide +kernel
theorem dX5_step_33 : decode cX5_step 33 = .ok (.getfield 48, 3) := by decide +kernel
theorem dX5_step_36 : decode cX5_step 36 = .ok (.aload_n 0, 1) := by decide +kernel
theorem dX5_step_37 : decode cX5_step 37 = .ok (.getfield 9, 3) := by decide +kernel
theorem dX5_step_40 : decode cX5_step 40 = .ok (.getfield 51, 3) := by decide +kernel
theorem dX5_step_43 : decode cX5_step 43 = .ok (.if_icmp .ge 33, 3) := by decide +kernel
theorem dX5_step_46 : decode cX5_step 46 = .ok (.aload_n 0, 1) := by decide +kernel
theorem dX5_step_47 : decode cX5_step 47 = .ok (.getfield 9, 3) := by decide +kernel
theorem dX5_step_50 : decode cX5_step 50 = .ok (.getfield 56, 3) := by decide +kernel
theorem dX5_step_53 : decode cX5_step 53 = .ok (.aload_n 0, 1) := by decide +kernel
theorem dX5_step_54 : decode cX5_step 54 = .ok (.getfield 48, 3) := by decide +kernel
theorem dX5_step_57 : decode cX5_step 57 = .ok (.iaload, 1) := by decide +kernel
theorem dX5_step_58 : decode cX5_step 58 = .ok (.bipush 32, 2) := by decide +kernel
theorem dX5_step_60 : decode cX5_step 60 = .ok (.if_icmp .ne 16, 3) := by decide +kernel
theorem dX5_step_63 : decode cX5_step 63 = .ok (.aload_n 0, 1) := by decide +kernel
theorem dX5_step_64 : decode cX5_step 64 = .ok (.dup, 1) := by decide +kernel
theorem dX5_step_65 : decode cX5_step 65 = .ok (.getfield 48, 3) := by decide +kernel
theorem dX5_step_68 : decode cX5_step 68 = .ok (.iconst 1, 1) := by decide +kernel
theorem dX5_step_69 : decode cX5_step 69 = .ok (.iadd, 1) := by decide +kernel
theorem dX5_step_70 : decode cX5_step 70 = .ok (.putfield 48, 3) := by decide +kernel
theorem dX5_step_73 : decode cX5_step 73 = .ok (.goto (-41), 3) := by decide +kernel
theorem dX5_step_76 : decode cX5_step 76 = .ok (.aload_n 0, 1) := by decide +kernel
theorem dX5_step_77 : decode cX5_step 77 = .ok (.aload_n 0, 1) := by decide +kernel
theorem dX5_step_78 : decode cX5_step 78 = .ok (.getfield 48, 3) := by decide +kernel
theorem dX5_step_81 : decode cX5_step 81 = .ok (.putfield 28, 3) := by decide +kernel
theorem dX5_step_84 : decode cX5_step 84 = .ok (.aload_n 0, 1) := by decide +kernel
theorem dX5_step_85 : decode cX5_step 85 = .ok (.getfield 48, 3) := by decide +kernel
theorem dX5_step_88 : decode cX5_step 88 = .ok (.aload_n 0, 1) := by decide +kernel
theorem dX5_step_89 : decode cX5_step 89 = .ok (.getfield 9, 3) := by decide +kernel
theorem dX5_step_92 : decode cX5_step 92 = .ok (.getfield 51, 3) := by decide +kernel
theorem dX5_step_95 : decode cX5_step 95 = .ok (.if_icmp .lt 9, 3) := by decide +kernel
theorem dX5_step_98 : decode cX5_step 98 = .ok (.aload_n 0, 1) := by decide +kernel
theorem dX5_step_99 : decode cX5_step 99 = .ok (.iconst 0, 1) := by decide +kernel
theorem dX5_step_100 : decode cX5_step 100 = .ok (.putfield 24, 3) := by decide +kernel
theorem dX5_step_103 : decode cX5_step 103 = .ok (.return_, 1) := by decide +kernel
theorem dX5_step_104 : decode cX5_step 104 = .ok (.aload_n 0, 1) := by decide +kernel
theorem dX5_step_105 : decode cX5_step 105 = .ok (.aload_n 0, 1) := by decide +kernel
theorem dX5_step_106 : decode cX5_step 106 = .ok (.getfield 9, 3) := by decide +kernel
theorem dX5_step_109 : decode cX5_step 109 = .ok (.getfield 56, 3) := by decide +kernel
theorem dX5_step_112 : decode cX5_step 112 = .ok (.aload_n 0, 1) := by decide +kernel
theorem dX5_step_113 : decode cX5_step 113 = .ok (.getfield 48, 3) := by decide +kernel
theorem dX5_step_116 : decode cX5_step 116 = .ok (.iaload, 1) := by decide +kernel
theorem dX5_step_117 : decode cX5_step 117 = .ok (.invokestatic 60, 3) := by decide +kernel
theorem dX5_step_120 : decode cX5_step 120 = .ok (.putfield 24, 3) := by decide +kernel
theorem dX5_step_123 : decode cX5_step 123 = .ok (.aload_n 0, 1) := by decide +kernel
theorem dX5_step_124 : decode cX5_step 124 = .ok (.dup, 1) := by decide +kernel
theorem dX5_step_125 : decode cX5_step 125 = .ok (.getfield 28, 3) := by decide +kernel
theorem dX5_step_128 : decode cX5_step 128 = .ok (.iconst 1, 1) := by decide +kernel
theorem dX5_step_129 : decode cX5_step 129 = .ok (.iadd, 1) := by decide +kernel
theorem dX5_step_130 : decode cX5_step 130 = .ok (.putfield 28, 3) := by decide +kernel
theorem dX5_step_133 : decode cX5_step 133 = .ok (.aload_n 0, 1) := by decide +kernel
theorem dX5_step_134 : decode cX5_step 134 = .ok (.getfield 24, 3) := by decide +kernel
theorem dX5_step_137 : decode cX5_step 137 = .ok (.iconst 3, 1) := by decide +kernel
theorem dX5_step_138 : decode cX5_step 138 = .ok (.if_icmp .eq 52, 3) := by decide +kernel
theorem dX5_step_141 : decode cX5_step 141 = .ok (.aload_n 0, 1) := by decide +kernel
theorem dX5_step_142 : decode cX5_step 142 = .ok (.getfield 28, 3) := by decide +kernel
theorem dX5_step_145 : decode cX5_step 145 = .ok (.aload_n 0, 1) := by decide +kernel
theorem dX5_step_146 : decode cX5_step 146 = .ok (.getfield 9, 3) := by decide +kernel
theorem dX5_step_149 : decode cX5_step 149 = .ok (.getfield 51, 3) := by decide +kernel
theorem dX5_step_152 : decode cX5_step 152 = .ok (.if_icmp .ge 38, 3) := by decide +kernel
theorem dX5_step_155 : decode cX5_step 155 = .ok (.aload_n 0, 1) := by decide +kernel
theorem dX5_step_156 : decode cX5_step 156 = .ok (.getfield 9, 3) := by decide +kernel
theorem dX5_step_159 : decode cX5_step 159 = .ok (.getfield 56, 3) := by decide +kernel
theorem dX5_step_162 : decode cX5_step 162 = .ok (.aload_n 0, 1) := by decide +kernel
theorem dX5_step_163 : decode cX5_step 163 = .ok (.getfield 28, 3) := by decide +kernel
theorem dX5_step_166 : decode cX5_step 166 = .ok (.iaload, 1) := by decide +kernel
theorem dX5_step_167 : decode cX5_step 167 = .ok (.invokestatic 60, 3) := by decide +kernel
theorem dX5_step_170 : decode cX5_step 170 = .ok (.aload_n 0, 1) := by decide +kernel
theorem dX5_step_171 : decode cX5_step 171 = .ok (.getfield 24, 3) := by decide +kernel
theorem dX5_step_174 : decode cX5_step 174 = .ok (.if_icmp .ne 16, 3) := by decide +kernel
theorem dX5_step_177 : decode cX5_step 177 = .ok (.aload_n 0, 1) := by decide +kernel
theorem dX5_step_178 : decode cX5_step 178 = .ok (.dup, 1) := by decide +kernel
theorem dX5_step_179 : decode cX5_step 179 = .ok (.getfield 28, 3) := by decide +kernel
theorem dX5_step_182 : decode cX5_step 182 = .ok (.iconst 1, 1) := by decide +kernel
theorem dX5_step_183 : decode cX5_step 183 = .ok (.iadd, 1) := by decide +kernel
theorem dX5_step_184 : decode cX5_step 184 = .ok (.putfield 28, 3) := by decide +kernel
theorem dX5_step_187 : decode cX5_step 187 = .ok (.goto (-54), 3) := by decide +kernel
theorem dX5_step_190 : decode cX5_step 190 = .ok (.aload_n 0, 1) := by decide +kernel
theorem dX5_step_191 : decode cX5_step 191 = .ok (.getfield 24, 3) := by decide +kernel
theorem dX5_step_194 : decode cX5_step 194 = .ok (.iconst 2, 1) := by decide +kernel
theorem dX5_step_195 : decode cX5_step 195 = .ok (.if_icmp .ne 16, 3) := by decide +kernel
theorem dX5_step_198 : decode cX5_step 198 = .ok (.aload_n 0, 1) := by decide +kernel
theorem dX5_step_199 : decode cX5_step 199 = .ok (.getfield 28, 3) := by decide +kernel
theorem dX5_step_202 : decode cX5_step 202 = .ok (.aload_n 0, 1) := by decide +kernel
theorem dX5_step_203 : decode cX5_step 203 = .ok (.getfield 48, 3) := by decide +kernel
theorem dX5_step_206 : decode cX5_step 206 = .ok (.isub, 1) := by decide +kernel
theorem dX5_step_207 : decode cX5_step 207 = .ok (.iconst 4, 1) := by decide +kernel
theorem dX5_step_208 : decode cX5_step 208 = .ok (.if_icmp .gt 23, 3) := by decide +kernel
theorem dX5_step_211 : decode cX5_step 211 = .ok (.aload_n 0, 1) := by decide +kernel
theorem dX5_step_212 : decode cX5_step 212 = .ok (.getfield 24, 3) := by decide +kernel
theorem dX5_step_215 : decode cX5_step 215 = .ok (.iconst 3, 1) := by decide +kernel
theorem dX5_step_216 : decode cX5_step 216 = .ok (.if_icmp .eq 20, 3) := by decide +kernel
theorem dX5_step_219 : decode cX5_step 219 = .ok (.iload_n 1, 1) := by decide +kernel
theorem dX5_step_220 : decode cX5_step 220 = .ok (.ifCond .eq 16, 3) := by decide +kernel
theorem dX5_step_223 : decode cX5_step 223 = .ok (.aload_n 0, 1) := by decide +kernel
theorem dX5_step_224 : decode cX5_step 224 = .ok (.getfield 48, 3) := by decide +kernel
theorem dX5_step_227 : decode cX5_step 227 = .ok (.iload_n 2, 1) := by decide +kernel
theorem dX5_step_228 : decode cX5_step 228 = .ok (.if_icmp .ne 8, 3) := by decide +kernel
theorem dX5_step_231 : decode cX5_step 231 = .ok (.aload_n 0, 1) := by decide +kernel
theorem dX5_step_232 : decode cX5_step 232 = .ok (.iconst 4, 1) := by decide +kernel
theorem dX5_step_233 : decode cX5_step 233 = .ok (.putfield 24, 3) := by decide +kernel
theorem dX5_step_236 : decode cX5_step 236 = .ok (.return_, 1) := by decide +kernel
theorem ok_X5_step : okV yX5_step cX5_step 3 none 0 := ⟨mw_692, mw_9, mw_80, mw_693, by decide +kernel, by decide +kernel⟩
abbrev rm_X5_step : Room := { frames := 1, cells := 0, slots := 0, locals := 20 }
def b_X5_step_231 (post : St → Prop) (σ : St) : Prop := ∀ s1 : St, s1 = wr σ 21 0 0 4 → (post s1)
theorem B_X5_step_231 (E : EnvW p s m args meth c D cy regsC ad "RoofWar$Reader" cX5_step 3 none) (ha : Apart regsC ad) {post : St → Prop} {σ : St} (hw : b_X5_step_231 post σ) {H : Heap} {locs : List Loc} {ls : Array Slot} (hP : va_P D CLS (wC cy ad σ) H) (hS : va_S (AC ad s.heap.size) s.heap H locs) (hl : lv_has ls 3 [(0, .ref (ad 21 0))]) : W p l e rm_X5_step s m args below meth c H locs 0 0 (MQ below (QV D cy (cellC cy ad) regsC ad s.heap.size post) args s 0 0 (AC ad s.heap.size)) (F0 m 231 ls []) := by
  obtain ⟨hx, hb, -⟩ := id E
  unfold b_X5_step_231 at hw
  refine lv_aload_n hx hb dX5_step_231 rfl (lv_at hl 0 rfl) ?_
  refine lv_iconst (v := 4) hx hb dX5_step_232 (by decide) ?_
  refine uX5_2 E ha mw_262 dX5_step_233 hP hS (fun s1 es1 H locs hP hS => ?_)
  replace hw := hw s1 es1
  exact g_vret E hw hP hS dX5_step_236
def b_X5_step_211 (post : St → Prop) (σ : St) (x1 : Int32) (x2 : Int32) : Prop := (((σ 21 0 0) = 3 → (post σ)) ∧ (¬ (σ 21 0 0) = 3 → (((x1 = 0 → (post σ)) ∧ (¬ x1 = 0 → (((¬ (σ 21 0 1) = x2 → (post σ)) ∧ ((σ 21 0 1) = x2 → (b_X5_step_231 post σ)))))))))
theorem B_X5_step_211 (E : EnvW p s m args meth c D cy regsC ad "RoofWar$Reader" cX5_step 3 none) (ha : Apart regsC ad) {post : St → Prop} {σ : St} {x1 : Int32} {x2 : Int32} (hw : b_X5_step_211 post σ x1 x2) {H : Heap} {locs : List Loc} {ls : Array Slot} (hP : va_P D CLS (wC cy ad σ) H) (hS : va_S (AC ad s.heap.size) s.heap H locs) (hl : lv_has ls 3 [(0, .ref (ad 21 0)), (1, .int x1), (2, .int x2)]) : W p l e rm_X5_step s m args below meth c H locs 0 0 (MQ below (QV D cy (cellC cy ad) regsC ad s.heap.size post) args s 0 0 (AC ad s.heap.size)) (F0 m 211 ls []) := by
  obtain ⟨hx, hb, -⟩ := id E
  unfold b_X5_step_211 at hw
  refine lv_aload_n hx hb dX5_step_211 rfl (lv_at hl 0 rfl) ?_
  refine fX5_2 E hP mw_262 dX5_step_212 ?_
  refine lv_iconst (v := 3) hx hb dX5_step_215 (by decide) ?_
  refine lv_icmp_eq (tgt := 236) hx hb dX5_step_216 (by decide) (fun c1 => ?_) (fun c1 => ?_)
  · replace hw := hw.1 c1
    exact g_vret E hw hP hS dX5_step_236
  · replace hw := hw.2 c1
    refine lv_iload_n hx hb dX5_step_219 rfl (lv_at hl 1 rfl) ?_
    refine lv_if_eq (tgt := 236) hx hb dX5_step_220 (by decide) (fun c2 => ?_) (fun c2 => ?_)
    · replace hw := hw.1 c2
      exact g_vret E hw hP hS dX5_step_236
    · replace hw := hw.2 c2
      refine lv_aload_n hx hb dX5_step_223 rfl (lv_at hl 0 rfl) ?_
      refine fX5_3 E hP mw_263 dX5_step_224 ?_
      refine lv_iload_n hx hb dX5_step_227 rfl (lv_at hl 2 rfl) ?_
      refine lv_icmp_ne (tgt := 236) hx hb dX5_step_228 (by decide) (fun c3 => ?_) (fun c3 => ?_)
      · replace hw := hw.1 c3
        exact g_vret E hw hP hS dX5_step_236
      · replace hw := hw.2 c3
        exact B_X5_step_231 E ha hw hP hS (lv_sub hl [0] rfl)
def b_X5_step_190 (post : St → Prop) (σ : St) (x1 : Int32) (x2 : Int32) : Prop := ((¬ (σ 21 0 0) = 2 → (b_X5_step_211 post σ x1 x2)) ∧ ((σ 21 0 0) = 2 → (((4 < ((σ 21 0 2) - (σ 21 0 1)) → (b_X5_step_231 post σ)) ∧ (¬ 4 < ((σ 21 0 2) - (σ 21 0 1)) → (b_X5_step_211 post σ x1 x2))))))
theorem B_X5_step_190 (E : EnvW p s m args meth c D cy regsC ad "RoofWar$Reader" cX5_step 3 none) (ha : Apart regsC ad) {post : St → Prop} {σ : St} {x1 : Int32} {x2 : Int32} (hw : b_X5_step_190 post σ x1 x2) {H : Heap} {locs : List Loc} {ls : Array Slot} (hP : va_P D CLS (wC cy ad σ) H) (hS : va_S (AC ad s.heap.size) s.heap H locs) (hl : lv_has ls 3 [(0, .ref (ad 21 0)), (1, .int x1), (2, .int x2)]) : W p l e rm_X5_step s m args below meth c H locs 0 0 (MQ below (QV D cy (cellC cy ad) regsC ad s.heap.size post) args s 0 0 (AC ad s.heap.size)) (F0 m 190 ls []) := by
  obtain ⟨hx, hb, -⟩ := id E
  unfold b_X5_step_190 at hw
  refine lv_aload_n hx hb dX5_step_190 rfl (lv_at hl 0 rfl) ?_
  refine fX5_2 E hP mw_262 dX5_step_191 ?_
  refine lv_iconst (v := 2) hx hb dX5_step_194 (by decide) ?_
  refine lv_icmp_ne (tgt := 211) hx hb dX5_step_195 (by decide) (fun c1 => ?_) (fun c1 => ?_)
  · replace hw := hw.1 c1
    exact B_X5_step_211 E ha hw hP hS (lv_sub hl [0, 1, 2] rfl)
  · replace hw := hw.2 c1
    refine lv_aload_n hx hb dX5_step_198 rfl (lv_at hl 0 rfl) ?_
    refine fX5_4 E hP mw_264 dX5_step_199 ?_
    refine lv_aload_n hx hb dX5_step_202 rfl (lv_at hl 0 rfl) ?_
    refine fX5_3 E hP mw_263 dX5_step_203 ?_
    refine lv_isub hx hb dX5_step_206 ?_
    refine lv_iconst (v := 4) hx hb dX5_step_207 (by decide) ?_
    refine lv_icmp_gt (tgt := 231) hx hb dX5_step_208 (by decide) (fun c2 => ?_) (fun c2 => ?_)
    · replace hw := hw.1 c2
      exact B_X5_step_231 E ha hw hP hS (lv_sub hl [0] rfl)
    · replace hw := hw.2 c2
      exact B_X5_step_211 E ha hw hP hS (lv_sub hl [0, 1, 2] rfl)
def b_X5_step_133 (K133 : St → Int32 → Int32 → Prop) (post : St → Prop) (σ : St) (x1 : Int32) (x2 : Int32) : Prop := (((σ 21 0 0) = 3 → (b_X5_step_190 post σ x1 x2)) ∧ (¬ (σ 21 0 0) = 3 → ((((σ 19 0 0) ≤ (σ 21 0 2) → (b_X5_step_190 post σ x1 x2)) ∧ (¬ (σ 19 0 0) ≤ (σ 21 0 2) → (vp_in (σ 21 0 2) 96 ∧ (w_X5_sortOf (fun r4 s4 => ((¬ r4 = (s4 21 0 0) → (b_X5_step_190 post s4 x1 x2)) ∧ (r4 = (s4 21 0 0) → (∀ s6 : St, s6 = wr s4 21 0 2 ((s4 21 0 2) + 1) → (K133 s6 x1 x2))))) σ (σ 20 0 (σ 21 0 2).toNatClampNeg))))))))
noncomputable def l_X5_step_133 (post : St → Prop) : Nat → St → Int32 → Int32 → Prop := fun n => Nat.rec (motive := fun _ => St → Int32 → Int32 → Prop) (fun _ _ _ => False) (fun _ ih => b_X5_step_133 ih post) n
theorem L_X5_step_133 (E : EnvW p s m args meth c D cy regsC ad "RoofWar$Reader" cX5_step 3 none) (ha : Apart regsC ad) {post : St → Prop} : ∀ (n : Nat), ∀ (σ : St) (x1 : Int32) (x2 : Int32), l_X5_step_133 post n σ x1 x2 → ∀ (H : Heap) (locs : List Loc) (ls : Array Slot), va_P D CLS (wC cy ad σ) H → va_S (AC ad s.heap.size) s.heap H locs → lv_has ls 3 [(0, .ref (ad 21 0)), (1, .int x1), (2, .int x2)] → W p l e rm_X5_step s m args below meth c H locs 0 0 (MQ below (QV D cy (cellC cy ad) regsC ad s.heap.size post) args s 0 0 (AC ad s.heap.size)) (F0 m 133 ls []) := by
  obtain ⟨hx, hb, -⟩ := id E
  intro n
  induction n with
  | zero => intro σ x1 x2 hw; exact hw.elim
  | succ n hk133 =>
    intro σ x1 x2 hw H locs ls hP hS hl
    replace hw : b_X5_step_133 (l_X5_step_133 post n) post σ x1 x2 := hw
    unfold b_X5_step_133 at hw
    refine lv_aload_n hx hb dX5_step_133 rfl (lv_at hl 0 rfl) ?_
    refine fX5_2 E hP mw_262 dX5_step_134 ?_
    refine lv_iconst (v := 3) hx hb dX5_step_137 (by decide) ?_
    refine lv_icmp_eq (tgt := 190) hx hb dX5_step_138 (by decide) (fun c1 => ?_) (fun c1 => ?_)
    · replace hw := hw.1 c1
      exact B_X5_step_190 E ha hw hP hS (lv_sub hl [0, 1, 2] rfl)
    · replace hw := hw.2 c1
      refine lv_aload_n hx hb dX5_step_141 rfl (lv_at hl 0 rfl) ?_
      refine fX5_4 E hP mw_264 dX5_step_142 ?_
      refine lv_aload_n hx hb dX5_step_145 rfl (lv_at hl 0 rfl) ?_
      refine fX5_0 E hP mw_260 dX5_step_146 ?_
      refine fX8_1 E hP mw_247 dX5_step_149 ?_
      refine lv_icmp_ge (tgt := 190) hx hb dX5_step_152 (by decide) (fun c2 => ?_) (fun c2 => ?_)
      · replace hw := hw.1 c2
        exact B_X5_step_190 E ha hw hP hS (lv_sub hl [0, 1, 2] rfl)
      · replace hw := hw.2 c2
        refine lv_aload_n hx hb dX5_step_155 rfl (lv_at hl 0 rfl) ?_
        refine fX5_0 E hP mw_260 dX5_step_156 ?_
        refine fX8_0 E hP mw_245 dX5_step_159 ?_
        refine lv_aload_n hx hb dX5_step_162 rfl (lv_at hl 0 rfl) ?_
        refine fX5_4 E hP mw_264 dX5_step_163 ?_
        obtain ⟨h3, hw⟩ := hw
        refine aC20 E hP h3 dX5_step_166 ?_
        refine g_cSi (As := [.int (σ 20 0 (σ 21 0 2).toNatClampNeg)]) (rest := []) E hl.1 (c_X5_sortOf l D cy ad ha hw _) ok_X5_sortOf mw_694 ⟨(Nat.le_of_ble_eq_true rfl), (Nat.le_of_ble_eq_true rfl)⟩ ⟨rfl, rfl⟩ rfl rfl (Nat.le_of_ble_eq_true rfl) ⟨Nat.zero_le _, Nat.zero_le _⟩ hP hS dX5_step_167 (fun r4 s4 hw H locs hP hS => ?_)
        refine lv_aload_n hx hb dX5_step_170 rfl (lv_at hl 0 rfl) ?_
        refine fX5_2 E hP mw_262 dX5_step_171 ?_
        refine lv_icmp_ne (tgt := 190) hx hb dX5_step_174 (by decide) (fun c5 => ?_) (fun c5 => ?_)
        · replace hw := hw.1 c5
          exact B_X5_step_190 E ha hw hP hS (lv_sub hl [0, 1, 2] rfl)
        · replace hw := hw.2 c5
          refine lv_aload_n hx hb dX5_step_177 rfl (lv_at hl 0 rfl) ?_
          refine lv_dup hx hb dX5_step_178 rfl ?_
          refine fX5_4 E hP mw_264 dX5_step_179 ?_
          refine lv_iconst (v := 1) hx hb dX5_step_182 (by decide) ?_
          refine lv_iadd hx hb dX5_step_183 ?_
          refine uX5_4 E ha mw_264 dX5_step_184 hP hS (fun s6 es6 H locs hP hS => ?_)
          replace hw := hw s6 es6
          refine lv_goto (tgt := 133) hx hb dX5_step_187 (by decide) ?_
          exact hk133 s6 x1 x2 hw _ _ _ hP hS (lv_sub hl [0, 1, 2] rfl)
def b_X5_step_76 (post : St → Prop) (σ : St) (x1 : Int32) (x2 : Int32) : Prop := ∀ s1 : St, s1 = wr σ 21 0 2 (σ 21 0 1) → ((((s1 21 0 1) < (s1 19 0 0) → (vp_in (s1 21 0 1) 96 ∧ (w_X5_sortOf (fun r4 s4 => ∀ s5 : St, s5 = wr s4 21 0 0 r4 → (∀ s6 : St, s6 = wr s5 21 0 2 ((s5 21 0 2) + 1) → (∃ n7 : Nat, l_X5_step_133 post n7 s6 x1 x2))) s1 (s1 20 0 (s1 21 0 1).toNatClampNeg)))) ∧ (¬ (s1 21 0 1) < (s1 19 0 0) → (∀ s8 : St, s8 = wr s1 21 0 0 0 → (post s8)))))
theorem B_X5_step_76 (E : EnvW p s m args meth c D cy regsC ad "RoofWar$Reader" cX5_step 3 none) (ha : Apart regsC ad) {post : St → Prop} {σ : St} {x1 : Int32} {x2 : Int32} (hw : b_X5_step_76 post σ x1 x2) {H : Heap} {locs : List Loc} {ls : Array Slot} (hP : va_P D CLS (wC cy ad σ) H) (hS : va_S (AC ad s.heap.size) s.heap H locs) (hl : lv_has ls 3 [(0, .ref (ad 21 0)), (1, .int x1), (2, .int x2)]) : W p l e rm_X5_step s m args below meth c H locs 0 0 (MQ below (QV D cy (cellC cy ad) regsC ad s.heap.size post) args s 0 0 (AC ad s.heap.size)) (F0 m 76 ls []) := by
  obtain ⟨hx, hb, -⟩ := id E
  unfold b_X5_step_76 at hw
  refine lv_aload_n hx hb dX5_step_76 rfl (lv_at hl 0 rfl) ?_
  refine lv_aload_n hx hb dX5_step_77 rfl (lv_at hl 0 rfl) ?_
  refine fX5_3 E hP mw_263 dX5_step_78 ?_
  refine uX5_4 E ha mw_264 dX5_step_81 hP hS (fun s1 es1 H locs hP hS => ?_)
  replace hw := hw s1 es1
  refine lv_aload_n hx hb dX5_step_84 rfl (lv_at hl 0 rfl) ?_
  refine fX5_3 E hP mw_263 dX5_step_85 ?_
  refine lv_aload_n hx hb dX5_step_88 rfl (lv_at hl 0 rfl) ?_
  refine fX5_0 E hP mw_260 dX5_step_89 ?_
  refine fX8_1 E hP mw_247 dX5_step_92 ?_
  refine lv_icmp_lt (tgt := 104) hx hb dX5_step_95 (by decide) (fun c2 => ?_) (fun c2 => ?_)
  · replace hw := hw.1 c2
    refine lv_aload_n hx hb dX5_step_104 rfl (lv_at hl 0 rfl) ?_
    refine lv_aload_n hx hb dX5_step_105 rfl (lv_at hl 0 rfl) ?_
    refine fX5_0 E hP mw_260 dX5_step_106 ?_
    refine fX8_0 E hP mw_245 dX5_step_109 ?_
    refine lv_aload_n hx hb dX5_step_112 rfl (lv_at hl 0 rfl) ?_
    refine fX5_3 E hP mw_263 dX5_step_113 ?_
    obtain ⟨h3, hw⟩ := hw
    refine aC20 E hP h3 dX5_step_116 ?_
    refine g_cSi (As := [.int (s1 20 0 (s1 21 0 1).toNatClampNeg)]) (rest := [.ref (ad 21 0)]) E hl.1 (c_X5_sortOf l D cy ad ha hw _) ok_X5_sortOf mw_694 ⟨(Nat.le_of_ble_eq_true rfl), (Nat.le_of_ble_eq_true rfl)⟩ ⟨rfl, rfl⟩ rfl rfl (Nat.le_of_ble_eq_true rfl) ⟨Nat.zero_le _, Nat.zero_le _⟩ hP hS dX5_step_117 (fun r4 s4 hw H locs hP hS => ?_)
    refine uX5_2 E ha mw_262 dX5_step_120 hP hS (fun s5 es5 H locs hP hS => ?_)
    replace hw := hw s5 es5
    refine lv_aload_n hx hb dX5_step_123 rfl (lv_at hl 0 rfl) ?_
    refine lv_dup hx hb dX5_step_124 rfl ?_
    refine fX5_4 E hP mw_264 dX5_step_125 ?_
    refine lv_iconst (v := 1) hx hb dX5_step_128 (by decide) ?_
    refine lv_iadd hx hb dX5_step_129 ?_
    refine uX5_4 E ha mw_264 dX5_step_130 hP hS (fun s6 es6 H locs hP hS => ?_)
    replace hw := hw s6 es6
    obtain ⟨n7, hw⟩ := hw
    exact L_X5_step_133 E ha n7 s6 x1 x2 hw _ _ _ hP hS (lv_sub hl [0, 1, 2] rfl)
  · replace hw := hw.2 c2
    refine lv_aload_n hx hb dX5_step_98 rfl (lv_at hl 0 rfl) ?_
    refine lv_iconst (v := 0) hx hb dX5_step_99 (by decide) ?_
    refine uX5_2 E ha mw_262 dX5_step_100 hP hS (fun s8 es8 H locs hP hS => ?_)
    replace hw := hw s8 es8
    exact g_vret E hw hP hS dX5_step_103
def b_X5_step_32 (K32 : St → Int32 → Int32 → Prop) (post : St → Prop) (σ : St) (x1 : Int32) (x2 : Int32) : Prop := (((σ 19 0 0) ≤ (σ 21 0 1) → (b_X5_step_76 post σ x1 x2)) ∧ (¬ (σ 19 0 0) ≤ (σ 21 0 1) → (vp_in (σ 21 0 1) 96 ∧ (((¬ (σ 20 0 (σ 21 0 1).toNatClampNeg) = 32 → (b_X5_step_76 post σ x1 x2)) ∧ ((σ 20 0 (σ 21 0 1).toNatClampNeg) = 32 → (∀ s4 : St, s4 = wr σ 21 0 1 ((σ 21 0 1) + 1) → (K32 s4 x1 x2))))))))
noncomputable def l_X5_step_32 (post : St → Prop) : Nat → St → Int32 → Int32 → Prop := fun n => Nat.rec (motive := fun _ => St → Int32 → Int32 → Prop) (fun _ _ _ => False) (fun _ ih => b_X5_step_32 ih post) n
theorem L_X5_step_32 (E : EnvW p s m args meth c D cy regsC ad "RoofWar$Reader" cX5_step 3 none) (ha : Apart regsC ad) {post : St → Prop} : ∀ (n : Nat), ∀ (σ : St) (x1 : Int32) (x2 : Int32), l_X5_step_32 post n σ x1 x2 → ∀ (H : Heap) (locs : List Loc) (ls : Array Slot), va_P D CLS (wC cy ad σ) H → va_S (AC ad s.heap.size) s.heap H locs → lv_has ls 3 [(0, .ref (ad 21 0)), (1, .int x1), (2, .int x2)] → W p l e rm_X5_step s m args below meth c H locs 0 0 (MQ below (QV D cy (cellC cy ad) regsC ad s.heap.size post) args s 0 0 (AC ad s.heap.size)) (F0 m 32 ls []) := by
  obtain ⟨hx, hb, -⟩ := id E
  intro n
  induction n with
  | zero => intro σ x1 x2 hw; exact hw.elim
  | succ n hk32 =>
    intro σ x1 x2 hw H locs ls hP hS hl
    replace hw : b_X5_step_32 (l_X5_step_32 post n) post σ x1 x2 := hw
    unfold b_X5_step_32 at hw
    refine lv_aload_n hx hb dX5_step_32 rfl (lv_at hl 0 rfl) ?_
    refine fX5_3 E hP mw_263 dX5_step_33 ?_
    refine lv_aload_n hx hb dX5_step_36 rfl (lv_at hl 0 rfl) ?_
    refine fX5_0 E hP mw_260 dX5_step_37 ?_
    refine fX8_1 E hP mw_247 dX5_step_40 ?_
    refine lv_icmp_ge (tgt := 76) hx hb dX5_step_43 (by decide) (fun c1 => ?_) (fun c1 => ?_)
    · replace hw := hw.1 c1
      exact B_X5_step_76 E ha hw hP hS (lv_sub hl [0, 1, 2] rfl)
    · replace hw := hw.2 c1
      refine lv_aload_n hx hb dX5_step_46 rfl (lv_at hl 0 rfl) ?_
      refine fX5_0 E hP mw_260 dX5_step_47 ?_
      refine fX8_0 E hP mw_245 dX5_step_50 ?_
      refine lv_aload_n hx hb dX5_step_53 rfl (lv_at hl 0 rfl) ?_
      refine fX5_3 E hP mw_263 dX5_step_54 ?_
      obtain ⟨h2, hw⟩ := hw
      refine aC20 E hP h2 dX5_step_57 ?_
      refine lv_bipush (v := 32) hx hb dX5_step_58 (by decide) ?_
      refine lv_icmp_ne (tgt := 76) hx hb dX5_step_60 (by decide) (fun c3 => ?_) (fun c3 => ?_)
      · replace hw := hw.1 c3
        exact B_X5_step_76 E ha hw hP hS (lv_sub hl [0, 1, 2] rfl)
      · replace hw := hw.2 c3
        refine lv_aload_n hx hb dX5_step_63 rfl (lv_at hl 0 rfl) ?_
        refine lv_dup hx hb dX5_step_64 rfl ?_
        refine fX5_3 E hP mw_263 dX5_step_65 ?_
        refine lv_iconst (v := 1) hx hb dX5_step_68 (by decide) ?_
        refine lv_iadd hx hb dX5_step_69 ?_
        refine uX5_3 E ha mw_263 dX5_step_70 hP hS (fun s4 es4 H locs hP hS => ?_)
        replace hw := hw s4 es4
        refine lv_goto (tgt := 32) hx hb dX5_step_73 (by decide) ?_
        exact hk32 s4 x1 x2 hw _ _ _ hP hS (lv_sub hl [0, 1, 2] rfl)
def b_X5_step_21 (post : St → Prop) (σ : St) (y0 : Int32) : Prop := ∀ v1 : Int32, v1 = σ 21 0 2 → (∀ s2 : St, s2 = wr σ 21 0 1 v1 → (∃ n3 : Nat, l_X5_step_32 post n3 s2 y0 v1))
theorem B_X5_step_21 (E : EnvW p s m args meth c D cy regsC ad "RoofWar$Reader" cX5_step 3 none) (ha : Apart regsC ad) {post : St → Prop} {σ : St} {y0 : Int32} (hw : b_X5_step_21 post σ y0) {H : Heap} {locs : List Loc} {ls : Array Slot} (hP : va_P D CLS (wC cy ad σ) H) (hS : va_S (AC ad s.heap.size) s.heap H locs) (hl : lv_has ls 3 [(0, .ref (ad 21 0))]) : W p l e rm_X5_step s m args below meth c H locs 0 0 (MQ below (QV D cy (cellC cy ad) regsC ad s.heap.size post) args s 0 0 (AC ad s.heap.size)) (F0 m 21 ls [.int y0]) := by
  obtain ⟨hx, hb, -⟩ := id E
  unfold b_X5_step_21 at hw
  refine lv_istore_n (lv' := [(1, .int y0), (0, .ref (ad 21 0))]) hx hb dX5_step_21 rfl hl (by decide) rfl (fun ls hl => ?_)
  refine lv_aload_n hx hb dX5_step_22 rfl (lv_at hl 1 rfl) ?_
  refine fX5_4 E hP mw_264 dX5_step_23 ?_
  refine lv_topi (fun v1 ev1 => ?_)
  replace hw := hw v1 ev1
  refine lv_istore_n (lv' := [(2, .int v1), (1, .int y0), (0, .ref (ad 21 0))]) hx hb dX5_step_26 rfl hl (by decide) rfl (fun ls hl => ?_)
  refine lv_aload_n hx hb dX5_step_27 rfl (lv_at hl 2 rfl) ?_
  refine lv_iload_n hx hb dX5_step_28 rfl (lv_at hl 0 rfl) ?_
  refine uX5_3 E ha mw_263 dX5_step_29 hP hS (fun s2 es2 H locs hP hS => ?_)
  replace hw := hw s2 es2
  obtain ⟨n3, hw⟩ := hw
  exact L_X5_step_32 E ha n3 s2 y0 v1 hw _ _ _ hP hS (lv_sub hl [2, 1, 0] rfl)
def b_X5_step_16 (post : St → Prop) (σ : St) : Prop := b_X5_step_21 post σ (1 : Int32)
theorem B_X5_step_16 (E : EnvW p s m args meth c D cy regsC ad "RoofWar$Reader" cX5_step 3 none) (ha : Apart regsC ad) {post : St → Prop} {σ : St} (hw : b_X5_step_16 post σ) {H : Heap} {locs : List Loc} {ls : Array Slot} (hP : va_P D CLS (wC cy ad σ) H) (hS : va_S (AC ad s.heap.size) s.heap H locs) (hl : lv_has ls 3 [(0, .ref (ad 21 0))]) : W p l e rm_X5_step s m args below meth c H locs 0 0 (MQ below (QV D cy (cellC cy ad) regsC ad s.heap.size post) args s 0 0 (AC ad s.heap.size)) (F0 m 16 ls []) := by
  obtain ⟨hx, hb, -⟩ := id E
  unfold b_X5_step_16 at hw
  refine lv_iconst (v := 1) hx hb dX5_step_16 (by decide) ?_
  refine lv_goto (tgt := 21) hx hb dX5_step_17 (by decide) ?_
  exact B_X5_step_21 E ha hw hP hS (lv_sub hl [0] rfl)
def w_X5_step (post : St → Prop) (σ : St) : Prop := (((σ 21 0 0) = 1 → (b_X5_step_16 post σ)) ∧ (¬ (σ 21 0 0) = 1 → (((¬ (σ 21 0 0) = 2 → (b_X5_step_21 post σ (0 : Int32))) ∧ ((σ 21 0 0) = 2 → (b_X5_step_16 post σ))))))
theorem B_X5_step_0 (E : EnvW p s m args meth c D cy regsC ad "RoofWar$Reader" cX5_step 3 none) (ha : Apart regsC ad) {post : St → Prop} {σ : St} (hw : w_X5_step post σ) {H : Heap} {locs : List Loc} {ls : Array Slot} (hP : va_P D CLS (wC cy ad σ) H) (hS : va_S (AC ad s.heap.size) s.heap H locs) (hl : lv_has ls 3 [(0, .ref (ad 21 0))]) : W p l e rm_X5_step s m args below meth c H locs 0 0 (MQ below (QV D cy (cellC cy ad) regsC ad s.heap.size post) args s 0 0 (AC ad s.heap.size)) (F0 m 0 ls []) := by
  obtain ⟨hx, hb, -⟩ := id E
  unfold w_X5_step at hw
  refine lv_aload_n hx hb dX5_step_0 rfl (lv_at hl 0 rfl) ?_
  refine fX5_2 E hP mw_262 dX5_step_1 ?_
  refine lv_iconst (v := 1) hx hb dX5_step_4 (by decide) ?_
  refine lv_icmp_eq (tgt := 16) hx hb dX5_step_5 (by decide) (fun c1 => ?_) (fun c1 => ?_)
  · replace hw := hw.1 c1
    exact B_X5_step_16 E ha hw hP hS (lv_sub hl [0] rfl)
  · replace hw := hw.2 c1
    refine lv_aload_n hx hb dX5_step_8 rfl (lv_at hl 0 rfl) ?_
    refine fX5_2 E hP mw_262 dX5_step_9 ?_
    refine lv_iconst (v := 2) hx hb dX5_step_12 (by decide) ?_
    refine lv_icmp_ne (tgt := 20) hx hb dX5_step_13 (by decide) (fun c2 => ?_) (fun c2 => ?_)
    · replace hw := hw.1 c2
      refine lv_iconst (v := 0) hx hb dX5_step_20 (by decide) ?_
      exact B_X5_step_21 E ha hw hP hS (lv_sub hl [0] rfl)
    · replace hw := hw.2 c2
      exact B_X5_step_16 E ha hw hP hS (lv_sub hl [0] rfl)
theorem c_X5_step (l : Launch) (D : va_G) (cy : Nat → ClassId) (ad : Nat → Nat → Nat) (ha : Apart regsC ad) {post : St → Prop} {σ : St} (hw : w_X5_step post σ) (sz : Nat) : MetV l yX5_step cX5_step 3 rm_X5_step [.ref (ad 21 0)] D cy (cellC cy ad) regsC ad σ sz post :=
  Met_inV ok_X5_step.2.2.2.2.2 (Nat.le_of_ble_eq_true rfl) (fun p e s m below meth c ls E hP hl => B_X5_step_0 E ha hw hP va_S.rf hl)
-- RoofWar$Reader.keyWord(I)Ljava/lang/String;
theorem dX5_keyWord_0 : decode cX5_keyWord 0 = .ok (.iload_n 0, 1) := by decide +kernel
theorem dX5_keyWord_1 : decode cX5_keyWord 1 = .ok (.lookupswitch 33 #[(0, 27), (1, 30)], 27) := by decide +kernel
theorem dX5_keyWord_28 : decode cX5_keyWord 28 = .ok (.ldc 64, 2) := by decide +kernel
theorem dX5_keyWord_30 : decode cX5_keyWord 30 = .ok (.areturn, 1) := by decide +kernel
theorem dX5_keyWord_31 : decode cX5_keyWord 31 = .ok (.ldc 66, 2) := by decide +kernel
theorem dX5_keyWord_33 : decode cX5_keyWord 33 = .ok (.areturn, 1) := by decide +kernel
theorem dX5_keyWord_34 : decode cX5_keyWord 34 = .ok (.ldc 68, 2) := by decide +kernel
theorem dX5_keyWord_36 : decode cX5_keyWord 36 = .ok (.areturn, 1) := by decide +kernel
theorem ok_X5_keyWord : okS yX5_keyWord cX5_keyWord 1 (some (.object "java/lang/String")) 1 := ⟨mw_701, mw_80, mw_702, by decide +kernel, by decide +kernel⟩
abbrev rm_X5_keyWord : Room := { frames := 0, cells := 0, slots := 0, locals := 0 }
def w_X5_keyWord (post : Nat → St → Prop) (σ : St) (x0 : Int32) : Prop := ((x0 = 0 → (post 0 σ)) ∧ (¬ x0 = 0 → (((x0 = 1 → (post 1 σ)) ∧ (¬ x0 = 1 → (post 2 σ))))))
theorem B_X5_keyWord_0 (E : EnvW p s m args meth c D cy regsC ad "RoofWar$Reader" cX5_keyWord 1 (some (.object "java/lang/String"))) (ha : Apart regsC ad) {post : Nat → St → Prop} {σ : St} {x0 : Int32} (hw : w_X5_keyWord post σ x0) {H : Heap} {locs : List Loc} {ls : Array Slot} (hP : va_P D CLS (wC cy ad σ) H) (hS : va_S (AC ad s.heap.size) s.heap H locs) (hl : lv_has ls 1 [(0, .int x0)]) : W p l e rm_X5_keyWord s m args below meth c H locs 0 0 (MQ below (QR D cy (cellC cy ad) regsC ad s.heap.size (fun r u => r < 14 ∧ post r u)) args s 0 0 (AC ad s.heap.size)) (F0 m 0 ls []) := by
  obtain ⟨hx, hb, -⟩ := id E
  unfold w_X5_keyWord at hw
  refine lv_iload_n hx hb dX5_keyWord_0 rfl (lv_at hl 0 rfl) ?_
  by_cases c1 : x0 = 0
  · replace hw := hw.1 c1
    refine lv_lookup (off := 27) (tgt := 28) hx hb dX5_keyWord_1 (by decide) (by rw [c1]; rfl) (by decide) ?_
    refine g_ldcS (i := 0) (by decide) rfl E dX5_keyWord_28 ?_
    exact g_rret (v := 0) E ⟨(by decide : 0 < 14), hw⟩ hP hS dX5_keyWord_30
  · replace hw := hw.2 c1
    by_cases c2 : x0 = 1
    · replace hw := hw.1 c2
      refine lv_lookup (off := 30) (tgt := 31) hx hb dX5_keyWord_1 (by decide) (by rw [c2]; rfl) (by decide) ?_
      refine g_ldcS (i := 1) (by decide) rfl E dX5_keyWord_31 ?_
      exact g_rret (v := 1) E ⟨(by decide : 1 < 14), hw⟩ hP hS dX5_keyWord_33
    · replace hw := hw.2 c2
      have e1 := ne_toI c1 (n := 0) (k := 0) (by decide)
      have e2 := ne_toI c2 (n := 1) (k := 1) (by decide)
      refine lv_lookup (off := 33) (tgt := 34) hx hb dX5_keyWord_1 (by decide) (by simp [Op.lookupswitch.offset, e1, Ne.symm e1, e2, Ne.symm e2]) (by decide) ?_
      refine g_ldcS (i := 2) (by decide) rfl E dX5_keyWord_34 ?_
      exact g_rret (v := 2) E ⟨(by decide : 2 < 14), hw⟩ hP hS dX5_keyWord_36
theorem c_X5_keyWord (l : Launch) (D : va_G) (cy : Nat → ClassId) (ad : Nat → Nat → Nat) (ha : Apart regsC ad) {post : Nat → St → Prop} {σ : St} {x0 : Int32} (hw : w_X5_keyWord post σ x0) (sz : Nat) : MetR l yX5_keyWord cX5_keyWord 1 (.object "java/lang/String") rm_X5_keyWord [.int x0] D cy (cellC cy ad) regsC ad σ sz (fun r u => r < 14 ∧ post r u) :=
  Met_inR ok_X5_keyWord.2.2.2.2 (Nat.le_of_ble_eq_true rfl) (fun p e s m below meth c ls E hP hl => B_X5_keyWord_0 E ha hw hP va_S.rf hl)
-- RoofWar$Reader.names(I)Ljava/lang/String;
theorem dX5_names_0 : decode cX5_names 0 = .ok (.iload_n 0, 1) := by decide +kernel
theorem dX5_names_1 : decode cX5_names 1 = .ok (.lookupswitch 33 #[(0, 27), (1, 30)], 27) := by decide +kernel
theorem dX5_names_28 : decode cX5_names 28 = .ok (.ldc 70, 2) := by decide +kernel
theorem dX5_names_30 : decode cX5_names 30 = .ok (.areturn, 1) := by decide +kernel
theorem dX5_names_31 : decode cX5_names 31 = .ok (.ldc 72, 2) := by decide +kernel
theorem dX5_names_33 : decode cX5_names 33 = .ok (.areturn, 1) := by decide +kernel
theorem dX5_names_34 : decode cX5_names 34 = .ok (.ldc 74, 2) := by decide +kernel
theorem dX5_names_36 : decode cX5_names 36 = .ok (.areturn, 1) := by decide +kernel
theorem ok_X5_names : okS yX5_names cX5_names 1 (some (.object "java/lang/String")) 1 := ⟨mw_772, mw_80, mw_773, by decide +kernel, by decide +kernel⟩
abbrev rm_X5_names : Room := { frames := 0, cells := 0, slots := 0, locals := 0 }
def w_X5_names (post : Nat → St → Prop) (σ : St) (x0 : Int32) : Prop := ((x0 = 0 → (post 3 σ)) ∧ (¬ x0 = 0 → (((x0 = 1 → (post 4 σ)) ∧ (¬ x0 = 1 → (post 5 σ))))))
theorem B_X5_names_0 (E : EnvW p s m args meth c D cy regsC ad "RoofWar$Reader" cX5_names 1 (some (.object "java/lang/String"))) (ha : Apart regsC ad) {post : Nat → St → Prop} {σ : St} {x0 : Int32} (hw : w_X5_names post σ x0) {H : Heap} {locs : List Loc} {ls : Array Slot} (hP : va_P D CLS (wC cy ad σ) H) (hS : va_S (AC ad s.heap.size) s.heap H locs) (hl : lv_has ls 1 [(0, .int x0)]) : W p l e rm_X5_names s m args below meth c H locs 0 0 (MQ below (QR D cy (cellC cy ad) regsC ad s.heap.size (fun r u => r < 14 ∧ post r u)) args s 0 0 (AC ad s.heap.size)) (F0 m 0 ls []) := by
  obtain ⟨hx, hb, -⟩ := id E
  unfold w_X5_names at hw
  refine lv_iload_n hx hb dX5_names_0 rfl (lv_at hl 0 rfl) ?_
  by_cases c1 : x0 = 0
  · replace hw := hw.1 c1
    refine lv_lookup (off := 27) (tgt := 28) hx hb dX5_names_1 (by decide) (by rw [c1]; rfl) (by decide) ?_
    refine g_ldcS (i := 3) (by decide) rfl E dX5_names_28 ?_
    exact g_rret (v := 3) E ⟨(by decide : 3 < 14), hw⟩ hP hS dX5_names_30
  · replace hw := hw.2 c1
    by_cases c2 : x0 = 1
    · replace hw := hw.1 c2
      refine lv_lookup (off := 30) (tgt := 31) hx hb dX5_names_1 (by decide) (by rw [c2]; rfl) (by decide) ?_
      refine g_ldcS (i := 4) (by decide) rfl E dX5_names_31 ?_
      exact g_rret (v := 4) E ⟨(by decide : 4 < 14), hw⟩ hP hS dX5_names_33
    · replace hw := hw.2 c2
      have e1 := ne_toI c1 (n := 0) (k := 0) (by decide)
      have e2 := ne_toI c2 (n := 1) (k := 1) (by decide)
      refine lv_lookup (off := 33) (tgt := 34) hx hb dX5_names_1 (by decide) (by simp [Op.lookupswitch.offset, e1, Ne.symm e1, e2, Ne.symm e2]) (by decide) ?_
      refine g_ldcS (i := 5) (by decide) rfl E dX5_names_34 ?_
      exact g_rret (v := 5) E ⟨(by decide : 5 < 14), hw⟩ hP hS dX5_names_36
theorem c_X5_names (l : Launch) (D : va_G) (cy : Nat → ClassId) (ad : Nat → Nat → Nat) (ha : Apart regsC ad) {post : Nat → St → Prop} {σ : St} {x0 : Int32} (hw : w_X5_names post σ x0) (sz : Nat) : MetR l yX5_names cX5_names 1 (.object "java/lang/String") rm_X5_names [.int x0] D cy (cellC cy ad) regsC ad σ sz (fun r u => r < 14 ∧ post r u) :=
  Met_inR ok_X5_names.2.2.2.2 (Nat.le_of_ble_eq_true rfl) (fun p e s m below meth c ls E hP hl => B_X5_names_0 E ha hw hP va_S.rf hl)
-- RoofWar$Reader.signs(I)Ljava/lang/String;
theorem dX5_signs_0 : decode cX5_signs 0 = .ok (.iload_n 0, 1) := by decide +kernel
theorem dX5_signs_1 : decode cX5_signs 1 = .ok (.tableswitch 43 0 3 #[31, 34, 37, 40], 31) := by decide +kernel
theorem dX5_signs_32 : decode cX5_signs 32 = .ok (.ldc 76, 2) := by decide +kernel
theorem dX5_signs_34 : decode cX5_signs 34 = .ok (.areturn, 1) := by decide +kernel
theorem dX5_signs_35 : decode cX5_signs 35 = .ok (.ldc 78, 2) := by decide +kernel
theorem dX5_signs_37 : decode cX5_signs 37 = .ok (.areturn, 1) := by decide +kernel
theorem dX5_signs_38 : decode cX5_signs 38 = .ok (.ldc 80, 2) := by decide +kernel
theorem dX5_signs_40 : decode cX5_signs 40 = .ok (.areturn, 1) := by decide +kernel
theorem dX5_signs_41 : decode cX5_signs 41 = .ok (.ldc 82, 2) := by decide +kernel
theorem dX5_signs_43 : decode cX5_signs 43 = .ok (.areturn, 1) := by decide +kernel
theorem dX5_signs_44 : decode cX5_signs 44 = .ok (.ldc 84, 2) := by decide +kernel
theorem dX5_signs_46 : decode cX5_signs 46 = .ok (.areturn, 1) := by decide +kernel
theorem ok_X5_signs : okS yX5_signs cX5_signs 1 (some (.object "java/lang/String")) 1 := ⟨mw_843, mw_80, mw_844, by decide +kernel, by decide +kernel⟩
abbrev rm_X5_signs : Room := { frames := 0, cells := 0, slots := 0, locals := 0 }
def w_X5_signs (post : Nat → St → Prop) (σ : St) (x0 : Int32) : Prop := ((x0 = 0 → (post 9 σ)) ∧ (¬ x0 = 0 → (((x0 = 1 → (post 10 σ)) ∧ (¬ x0 = 1 → (((x0 = 2 → (post 11 σ)) ∧ (¬ x0 = 2 → (((x0 = 3 → (post 12 σ)) ∧ (¬ x0 = 3 → (post 13 σ))))))))))))
theorem B_X5_signs_0 (E : EnvW p s m args meth c D cy regsC ad "RoofWar$Reader" cX5_signs 1 (some (.object "java/lang/String"))) (ha : Apart regsC ad) {post : Nat → St → Prop} {σ : St} {x0 : Int32} (hw : w_X5_signs post σ x0) {H : Heap} {locs : List Loc} {ls : Array Slot} (hP : va_P D CLS (wC cy ad σ) H) (hS : va_S (AC ad s.heap.size) s.heap H locs) (hl : lv_has ls 1 [(0, .int x0)]) : W p l e rm_X5_signs s m args below meth c H locs 0 0 (MQ below (QR D cy (cellC cy ad) regsC ad s.heap.size (fun r u => r < 14 ∧ post r u)) args s 0 0 (AC ad s.heap.size)) (F0 m 0 ls []) := by
  obtain ⟨hx, hb, -⟩ := id E
  unfold w_X5_signs at hw
  refine lv_iload_n hx hb dX5_signs_0 rfl (lv_at hl 0 rfl) ?_
  by_cases c1 : x0 = 0
  · replace hw := hw.1 c1
    refine lv_tableIn (off := 31) (tgt := 32) hx hb dX5_signs_1 (by rw [c1]; decide) (by rw [c1]; decide) (by rw [c1]; rfl) (by decide) ?_
    refine g_ldcS (i := 9) (by decide) rfl E dX5_signs_32 ?_
    exact g_rret (v := 9) E ⟨(by decide : 9 < 14), hw⟩ hP hS dX5_signs_34
  · replace hw := hw.2 c1
    by_cases c2 : x0 = 1
    · replace hw := hw.1 c2
      refine lv_tableIn (off := 34) (tgt := 35) hx hb dX5_signs_1 (by rw [c2]; decide) (by rw [c2]; decide) (by rw [c2]; rfl) (by decide) ?_
      refine g_ldcS (i := 10) (by decide) rfl E dX5_signs_35 ?_
      exact g_rret (v := 10) E ⟨(by decide : 10 < 14), hw⟩ hP hS dX5_signs_37
    · replace hw := hw.2 c2
      by_cases c3 : x0 = 2
      · replace hw := hw.1 c3
        refine lv_tableIn (off := 37) (tgt := 38) hx hb dX5_signs_1 (by rw [c3]; decide) (by rw [c3]; decide) (by rw [c3]; rfl) (by decide) ?_
        refine g_ldcS (i := 11) (by decide) rfl E dX5_signs_38 ?_
        exact g_rret (v := 11) E ⟨(by decide : 11 < 14), hw⟩ hP hS dX5_signs_40
      · replace hw := hw.2 c3
        by_cases c4 : x0 = 3
        · replace hw := hw.1 c4
          refine lv_tableIn (off := 40) (tgt := 41) hx hb dX5_signs_1 (by rw [c4]; decide) (by rw [c4]; decide) (by rw [c4]; rfl) (by decide) ?_
          refine g_ldcS (i := 12) (by decide) rfl E dX5_signs_41 ?_
          exact g_rret (v := 12) E ⟨(by decide : 12 < 14), hw⟩ hP hS dX5_signs_43
        · replace hw := hw.2 c4
          have e1 := ne_toI c1 (n := 0) (k := 0) (by decide)
          have e2 := ne_toI c2 (n := 1) (k := 1) (by decide)
          have e3 := ne_toI c3 (n := 2) (k := 2) (by decide)
          have e4 := ne_toI c4 (n := 3) (k := 3) (by decide)
          refine lv_tableOut (tgt := 44) hx hb dX5_signs_1 (by omega) (by decide) ?_
          refine g_ldcS (i := 13) (by decide) rfl E dX5_signs_44 ?_
          exact g_rret (v := 13) E ⟨(by decide : 13 < 14), hw⟩ hP hS dX5_signs_46
theorem c_X5_signs (l : Launch) (D : va_G) (cy : Nat → ClassId) (ad : Nat → Nat → Nat) (ha : Apart regsC ad) {post : Nat → St → Prop} {σ : St} {x0 : Int32} (hw : w_X5_signs post σ x0) (sz : Nat) : MetR l yX5_signs cX5_signs 1 (.object "java/lang/String") rm_X5_signs [.int x0] D cy (cellC cy ad) regsC ad σ sz (fun r u => r < 14 ∧ post r u) :=
  Met_inR ok_X5_signs.2.2.2.2 (Nat.le_of_ble_eq_true rfl) (fun p e s m below meth c ls E hP hl => B_X5_signs_0 E ha hw hP va_S.rf hl)
-- java/lang/String.coder()B
theorem dJ0_coder_7d493_0 : decode cJ0_coder_7d493 0 = .ok (.getstatic 38, 3) := by decide +kernel
theorem dJ0_coder_7d493_3 : decode cJ0_coder_7d493 3 = .ok (.ifCond .eq 10, 3) := by decide +kernel
theorem dJ0_coder_7d493_6 : decode cJ0_coder_7d493 6 = .ok (.aload_n 0, 1) := by decide +kernel
theorem dJ0_coder_7d493_7 : decode cJ0_coder_7d493 7 = .ok (.getfield 15, 3) := by decide +kernel
theorem dJ0_coder_7d493_10 : decode cJ0_coder_7d493 10 = .ok (.goto 4, 3) := by decide +kernel
theorem dJ0_coder_7d493_13 : decode cJ0_coder_7d493 13 = .ok (.iconst 1, 1) := by decide +kernel
theorem dJ0_coder_7d493_14 : decode cJ0_coder_7d493 14 = .ok (.ireturn, 1) := by decide +kernel
theorem ok_J0_coder_7d493 : okV yJ0_coder_7d493 cJ0_coder_7d493 1 (some .byte) 0 := ⟨mw_711, mw_712, mw_88, mw_713, by decide +kernel, by decide +kernel⟩
abbrev rm_J0_coder_7d493 : Room := { frames := 0, cells := 0, slots := 0, locals := 0 }
def w_J0_coder_7d493 (post : Int32 → St → Prop) (σ : St) (i0 : Nat) : Prop := (((1 : Int32) = 0 → (post 1 σ)) ∧ (¬ (1 : Int32) = 0 → (post 0 σ)))
theorem B_J0_coder_7d493_0 (E : EnvW p s m args meth c D cy regsC ad "java/lang/String" cJ0_coder_7d493 1 (some .byte)) (ha : Apart regsC ad) {post : Int32 → St → Prop} {σ : St} {i0 : Nat} (hi0 : i0 < 14) (hw : w_J0_coder_7d493 post σ i0) {H : Heap} {locs : List Loc} {ls : Array Slot} (hP : va_P D CLS (wC cy ad σ) H) (hS : va_S (AC ad s.heap.size) s.heap H locs) (hl : lv_has ls 1 [(0, .ref (ad 90 i0))]) : W p l e rm_J0_coder_7d493 s m args below meth c H locs 0 0 (MQ below (QI D cy (cellC cy ad) regsC ad s.heap.size (fun r u => (narrow .byte (.int r) = .int r) ∧ post r u)) args s 0 0 (AC ad s.heap.size)) (F0 m 0 ls []) := by
  obtain ⟨hx, hb, -⟩ := id E
  unfold w_J0_coder_7d493 at hw
  refine g_gsCS E hS mw_714 dJ0_coder_7d493_0 ?_
  refine lv_if_eq (tgt := 13) hx hb dJ0_coder_7d493_3 (by decide) (fun c1 => ?_) (fun c1 => ?_)
  · replace hw := hw.1 c1
    refine lv_iconst (v := 1) hx hb dJ0_coder_7d493_13 (by decide) ?_
    exact g_nret E rfl hw hP hS dJ0_coder_7d493_14
  · replace hw := hw.2 c1
    refine lv_aload_n hx hb dJ0_coder_7d493_6 rfl (lv_at hl 0 rfl) ?_
    refine g_strC hi0 E hS mw_1439 dJ0_coder_7d493_7 ?_
    refine lv_goto (tgt := 14) hx hb dJ0_coder_7d493_10 (by decide) ?_
    exact g_nret E rfl hw hP hS dJ0_coder_7d493_14
theorem c_J0_coder_7d493 (l : Launch) (D : va_G) (cy : Nat → ClassId) (ad : Nat → Nat → Nat) (ha : Apart regsC ad) {post : Int32 → St → Prop} {σ : St} {i0 : Nat} (hi0 : i0 < 14) (hw : w_J0_coder_7d493 post σ i0) (sz : Nat) : MetI l yJ0_coder_7d493 cJ0_coder_7d493 1 .byte rm_J0_coder_7d493 [.ref (ad 90 i0)] D cy (cellC cy ad) regsC ad σ sz (fun r u => (narrow .byte (.int r) = .int r) ∧ post r u) :=
  Met_inI ok_J0_coder_7d493.2.2.2.2.2 (Nat.le_of_ble_eq_true rfl) (fun p e s m below meth c ls E hP hl => B_J0_coder_7d493_0 E ha hi0 hw hP va_S.rf hl)
-- java/lang/String.length()I
theorem dJ0_length_8abf5_0 : decode cJ0_length_8abf5 0 = .ok (.aload_n 0, 1) := by decide +kernel
theorem dJ0_length_8abf5_1 : decode cJ0_length_8abf5 1 = .ok (.getfield 9, 3) := by decide +kernel
theorem dJ0_length_8abf5_4 : decode cJ0_length_8abf5 4 = .ok (.arraylength, 1) := by decide +kernel
theorem dJ0_length_8abf5_5 : decode cJ0_length_8abf5 5 = .ok (.aload_n 0, 1) := by decide +kernel
theorem dJ0_length_8abf5_6 : decode cJ0_length_8abf5 6 = .ok (.invokevirtual 335, 3) := by decide +kernel
theorem dJ0_length_8abf5_9 : decode cJ0_length_8abf5 9 = .ok (.ishr, 1) := by decide +kernel
theorem dJ0_length_8abf5_10 : decode cJ0_length_8abf5 10 = .ok (.ireturn, 1) := by decide +kernel
theorem ok_J0_length_8abf5 : okV yJ0_length_8abf5 cJ0_length_8abf5 1 (some .int) 0 := ⟨mw_707, mw_708, mw_88, mw_709, by decide +kernel, by decide +kernel⟩
abbrev rm_J0_length_8abf5 : Room := { frames := 1, cells := 0, slots := 0, locals := 20 }
def w_J0_length_8abf5 (post : Int32 → St → Prop) (σ : St) (i0 : Nat) : Prop := w_J0_coder_7d493 (fun r1 s1 => post ((nI (LNs.getD i0 0)) >>> (r1 &&& 31)) s1) σ i0
theorem B_J0_length_8abf5_0 (E : EnvW p s m args meth c D cy regsC ad "java/lang/String" cJ0_length_8abf5 1 (some .int)) (ha : Apart regsC ad) {post : Int32 → St → Prop} {σ : St} {i0 : Nat} (hi0 : i0 < 14) (hw : w_J0_length_8abf5 post σ i0) {H : Heap} {locs : List Loc} {ls : Array Slot} (hP : va_P D CLS (wC cy ad σ) H) (hS : va_S (AC ad s.heap.size) s.heap H locs) (hl : lv_has ls 1 [(0, .ref (ad 90 i0))]) : W p l e rm_J0_length_8abf5 s m args below meth c H locs 0 0 (MQ below (QI D cy (cellC cy ad) regsC ad s.heap.size post) args s 0 0 (AC ad s.heap.size)) (F0 m 0 ls []) := by
  obtain ⟨hx, hb, -⟩ := id E
  unfold w_J0_length_8abf5 at hw
  refine lv_aload_n hx hb dJ0_length_8abf5_0 rfl (lv_at hl 0 rfl) ?_
  refine g_strV hi0 E hS mw_1438 dJ0_length_8abf5_1 ?_
  refine g_strL hi0 E hS dJ0_length_8abf5_4 ?_
  refine lv_aload_n hx hb dJ0_length_8abf5_5 rfl (lv_at hl 0 rfl) ?_
  refine g_cTi (As := []) (rest := [.int (nI (LNs.getD i0 0))]) hi0 rfl E hl.1 (c_J0_coder_7d493 l D cy ad ha hi0 hw _) ok_J0_coder_7d493 mw_710 ⟨(Nat.le_of_ble_eq_true rfl), (Nat.le_of_ble_eq_true rfl)⟩ ⟨rfl, rfl⟩ rfl rfl (Nat.le_of_ble_eq_true rfl) ⟨Nat.zero_le _, Nat.zero_le _⟩ hP hS dJ0_length_8abf5_6 (fun r1 s1 hw H locs hP hS => ?_)
  obtain ⟨z1, hw⟩ := hw
  refine lv_ishr hx hb dJ0_length_8abf5_9 ?_
  exact g_iret E hw hP hS dJ0_length_8abf5_10
theorem c_J0_length_8abf5 (l : Launch) (D : va_G) (cy : Nat → ClassId) (ad : Nat → Nat → Nat) (ha : Apart regsC ad) {post : Int32 → St → Prop} {σ : St} {i0 : Nat} (hi0 : i0 < 14) (hw : w_J0_length_8abf5 post σ i0) (sz : Nat) : MetI l yJ0_length_8abf5 cJ0_length_8abf5 1 .int rm_J0_length_8abf5 [.ref (ad 90 i0)] D cy (cellC cy ad) regsC ad σ sz post :=
  Met_inI ok_J0_length_8abf5.2.2.2.2.2 (Nat.le_of_ble_eq_true rfl) (fun p e s m below meth c ls E hP hl => B_J0_length_8abf5_0 E ha hi0 hw hP va_S.rf hl)
-- java/lang/String.isLatin1()Z
theorem dJ0_isLatin1_aae02_0 : decode cJ0_isLatin1_aae02 0 = .ok (.getstatic 38, 3) := by decide +kernel
theorem dJ0_isLatin1_aae02_3 : decode cJ0_isLatin1_aae02 3 = .ok (.ifCond .eq 14, 3) := by decide +kernel
theorem dJ0_isLatin1_aae02_6 : decode cJ0_isLatin1_aae02 6 = .ok (.aload_n 0, 1) := by decide +kernel
theorem dJ0_isLatin1_aae02_7 : decode cJ0_isLatin1_aae02 7 = .ok (.getfield 15, 3) := by decide +kernel
theorem dJ0_isLatin1_aae02_10 : decode cJ0_isLatin1_aae02 10 = .ok (.ifCond .ne 7, 3) := by decide +kernel
theorem dJ0_isLatin1_aae02_13 : decode cJ0_isLatin1_aae02 13 = .ok (.iconst 1, 1) := by decide +kernel
theorem dJ0_isLatin1_aae02_14 : decode cJ0_isLatin1_aae02 14 = .ok (.goto 4, 3) := by decide +kernel
theorem dJ0_isLatin1_aae02_17 : decode cJ0_isLatin1_aae02 17 = .ok (.iconst 0, 1) := by decide +kernel
theorem dJ0_isLatin1_aae02_18 : decode cJ0_isLatin1_aae02 18 = .ok (.ireturn, 1) := by decide +kernel
theorem ok_J0_isLatin1_aae02 : okV yJ0_isLatin1_aae02 cJ0_isLatin1_aae02 1 (some .boolean) 0 := ⟨mw_720, mw_721, mw_88, mw_722, by decide +kernel, by decide +kernel⟩
abbrev rm_J0_isLatin1_aae02 : Room := { frames := 0, cells := 0, slots := 0, locals := 0 }
def w_J0_isLatin1_aae02 (post : Int32 → St → Prop) (σ : St) (i0 : Nat) : Prop := (((1 : Int32) = 0 → (post 0 σ)) ∧ (¬ (1 : Int32) = 0 → (((¬ (0 : Int32) = 0 → (post 0 σ)) ∧ ((0 : Int32) = 0 → (post 1 σ))))))
theorem B_J0_isLatin1_aae02_0 (E : EnvW p s m args meth c D cy regsC ad "java/lang/String" cJ0_isLatin1_aae02 1 (some .boolean)) (ha : Apart regsC ad) {post : Int32 → St → Prop} {σ : St} {i0 : Nat} (hi0 : i0 < 14) (hw : w_J0_isLatin1_aae02 post σ i0) {H : Heap} {locs : List Loc} {ls : Array Slot} (hP : va_P D CLS (wC cy ad σ) H) (hS : va_S (AC ad s.heap.size) s.heap H locs) (hl : lv_has ls 1 [(0, .ref (ad 90 i0))]) : W p l e rm_J0_isLatin1_aae02 s m args below meth c H locs 0 0 (MQ below (QI D cy (cellC cy ad) regsC ad s.heap.size (fun r u => (r = 0 ∨ r = 1) ∧ post r u)) args s 0 0 (AC ad s.heap.size)) (F0 m 0 ls []) := by
  obtain ⟨hx, hb, -⟩ := id E
  unfold w_J0_isLatin1_aae02 at hw
  refine g_gsCS E hS mw_714 dJ0_isLatin1_aae02_0 ?_
  refine lv_if_eq (tgt := 17) hx hb dJ0_isLatin1_aae02_3 (by decide) (fun c1 => ?_) (fun c1 => ?_)
  · replace hw := hw.1 c1
    refine lv_iconst (v := 0) hx hb dJ0_isLatin1_aae02_17 (by decide) ?_
    exact g_zret E (Or.inl rfl) hw hP hS dJ0_isLatin1_aae02_18
  · replace hw := hw.2 c1
    refine lv_aload_n hx hb dJ0_isLatin1_aae02_6 rfl (lv_at hl 0 rfl) ?_
    refine g_strC hi0 E hS mw_1439 dJ0_isLatin1_aae02_7 ?_
    refine lv_if_ne (tgt := 17) hx hb dJ0_isLatin1_aae02_10 (by decide) (fun c2 => ?_) (fun c2 => ?_)
    · replace hw := hw.1 c2
      refine lv_iconst (v := 0) hx hb dJ0_isLatin1_aae02_17 (by decide) ?_
      exact g_zret E (Or.inl rfl) hw hP hS dJ0_isLatin1_aae02_18
    · replace hw := hw.2 c2
      refine lv_iconst (v := 1) hx hb dJ0_isLatin1_aae02_13 (by decide) ?_
      refine lv_goto (tgt := 18) hx hb dJ0_isLatin1_aae02_14 (by decide) ?_
      exact g_zret E (Or.inr rfl) hw hP hS dJ0_isLatin1_aae02_18
theorem c_J0_isLatin1_aae02 (l : Launch) (D : va_G) (cy : Nat → ClassId) (ad : Nat → Nat → Nat) (ha : Apart regsC ad) {post : Int32 → St → Prop} {σ : St} {i0 : Nat} (hi0 : i0 < 14) (hw : w_J0_isLatin1_aae02 post σ i0) (sz : Nat) : MetI l yJ0_isLatin1_aae02 cJ0_isLatin1_aae02 1 .boolean rm_J0_isLatin1_aae02 [.ref (ad 90 i0)] D cy (cellC cy ad) regsC ad σ sz (fun r u => (r = 0 ∨ r = 1) ∧ post r u) :=
  Met_inI ok_J0_isLatin1_aae02.2.2.2.2.2 (Nat.le_of_ble_eq_true rfl) (fun p e s m below meth c ls E hP hl => B_J0_isLatin1_aae02_0 E ha hi0 hw hP va_S.rf hl)
-- java/lang/StringLatin1.charAt([BI)C
theorem dJ1_charAt_3b067_0 : decode cJ1_charAt_3b067 0 = .ok (.iload_n 1, 1) := by decide +kernel
theorem dJ1_charAt_3b067_1 : decode cJ1_charAt_3b067 1 = .ok (.aload_n 0, 1) := by decide +kernel
theorem dJ1_charAt_3b067_2 : decode cJ1_charAt_3b067 2 = .ok (.arraylength, 1) := by decide +kernel
theorem dJ1_charAt_3b067_3 : decode cJ1_charAt_3b067 3 = .ok (.invokestatic 9, 3) := by decide +kernel
theorem dJ1_charAt_3b067_6 : decode cJ1_charAt_3b067 6 = .ok (.aload_n 0, 1) := by decide +kernel
theorem dJ1_charAt_3b067_7 : decode cJ1_charAt_3b067 7 = .ok (.iload_n 1, 1) := by decide +kernel
theorem dJ1_charAt_3b067_8 : decode cJ1_charAt_3b067 8 = .ok (.baload, 1) := by decide +kernel
theorem dJ1_charAt_3b067_9 : decode cJ1_charAt_3b067 9 = .ok (.sipush 255, 3) := by decide +kernel
theorem dJ1_charAt_3b067_12 : decode cJ1_charAt_3b067 12 = .ok (.iand, 1) := by decide +kernel
theorem dJ1_charAt_3b067_13 : decode cJ1_charAt_3b067 13 = .ok (.i2c, 1) := by decide +kernel
theorem dJ1_charAt_3b067_14 : decode cJ1_charAt_3b067 14 = .ok (.ireturn, 1) := by decide +kernel
theorem ok_J1_charAt_3b067 : okS yJ1_charAt_3b067 cJ1_charAt_3b067 2 (some .char) 2 := ⟨mw_724, mw_89, mw_725, by decide +kernel, by decide +kernel⟩
abbrev rm_J1_charAt_3b067 : Room := { frames := 2, cells := 0, slots := 0, locals := 43 }
def w_J1_charAt_3b067 (post : Int32 → St → Prop) (σ : St) (i0 : Nat) (x1 : Int32) : Prop := w_J0_checkIndex_df160 (fun s1 => vp_in x1 (LNs.getD i0 0) ∧ (post (((((BYs.getD i0 []).getD x1.toNatClampNeg 0) &&& 255).toUInt32 % 65536).toInt32) s1)) σ x1 (nI (LNs.getD i0 0))
theorem B_J1_charAt_3b067_0 (E : EnvW p s m args meth c D cy regsC ad "java/lang/StringLatin1" cJ1_charAt_3b067 2 (some .char)) (ha : Apart regsC ad) {post : Int32 → St → Prop} {σ : St} {i0 : Nat} {x1 : Int32} (hi0 : i0 < 14) (hw : w_J1_charAt_3b067 post σ i0 x1) {H : Heap} {locs : List Loc} {ls : Array Slot} (hP : va_P D CLS (wC cy ad σ) H) (hS : va_S (AC ad s.heap.size) s.heap H locs) (hl : lv_has ls 2 [(0, .ref (ad 91 i0)), (1, .int x1)]) : W p l e rm_J1_charAt_3b067 s m args below meth c H locs 0 0 (MQ below (QI D cy (cellC cy ad) regsC ad s.heap.size (fun r u => (narrow .char (.int r) = .int r) ∧ post r u)) args s 0 0 (AC ad s.heap.size)) (F0 m 0 ls []) := by
  obtain ⟨hx, hb, -⟩ := id E
  unfold w_J1_charAt_3b067 at hw
  refine lv_iload_n hx hb dJ1_charAt_3b067_0 rfl (lv_at hl 1 rfl) ?_
  refine lv_aload_n hx hb dJ1_charAt_3b067_1 rfl (lv_at hl 0 rfl) ?_
  refine g_strL hi0 E hS dJ1_charAt_3b067_2 ?_
  refine g_cSv (As := [.int x1, .int (nI (LNs.getD i0 0))]) (rest := []) E hl.1 (c_J0_checkIndex_df160 l D cy ad ha hw _) ok_J0_checkIndex_df160 mw_726 ⟨(Nat.le_of_ble_eq_true rfl), (Nat.le_of_ble_eq_true rfl)⟩ ⟨rfl, rfl⟩ rfl rfl (Nat.le_of_ble_eq_true rfl) ⟨Nat.zero_le _, Nat.zero_le _⟩ hP hS dJ1_charAt_3b067_3 (fun s1 hw H locs hP hS => ?_)
  refine lv_aload_n hx hb dJ1_charAt_3b067_6 rfl (lv_at hl 0 rfl) ?_
  refine lv_iload_n hx hb dJ1_charAt_3b067_7 rfl (lv_at hl 1 rfl) ?_
  obtain ⟨h2, hw⟩ := hw
  refine g_strB hi0 E hS h2 dJ1_charAt_3b067_8 ?_
  refine lv_sipush (v := 255) hx hb dJ1_charAt_3b067_9 (by decide) ?_
  refine lv_iand hx hb dJ1_charAt_3b067_12 ?_
  refine lv_i2c (v := ((((BYs.getD i0 []).getD x1.toNatClampNeg 0) &&& 255).toUInt32 % 65536).toInt32) hx hb dJ1_charAt_3b067_13 rfl ?_
  exact g_nret E (pk_nc _) hw hP hS dJ1_charAt_3b067_14
theorem c_J1_charAt_3b067 (l : Launch) (D : va_G) (cy : Nat → ClassId) (ad : Nat → Nat → Nat) (ha : Apart regsC ad) {post : Int32 → St → Prop} {σ : St} {i0 : Nat} {x1 : Int32} (hi0 : i0 < 14) (hw : w_J1_charAt_3b067 post σ i0 x1) (sz : Nat) : MetI l yJ1_charAt_3b067 cJ1_charAt_3b067 2 .char rm_J1_charAt_3b067 [.ref (ad 91 i0), .int x1] D cy (cellC cy ad) regsC ad σ sz (fun r u => (narrow .char (.int r) = .int r) ∧ post r u) :=
  Met_inI ok_J1_charAt_3b067.2.2.2.2 (Nat.le_of_ble_eq_true rfl) (fun p e s m below meth c ls E hP hl => B_J1_charAt_3b067_0 E ha hi0 hw hP va_S.rf hl)
-- java/lang/String.charAt(I)C
theorem dJ0_charAt_5068e_0 : decode cJ0_charAt_5068e 0 = .ok (.aload_n 0, 1) := by decide +kernel
theorem dJ0_charAt_5068e_1 : decode cJ0_charAt_5068e 1 = .ok (.invokevirtual 492, 3) := by decide +kernel
theorem dJ0_charAt_5068e_4 : decode cJ0_charAt_5068e 4 = .ok (.ifCond .eq 12, 3) := by decide +kernel
theorem dJ0_charAt_5068e_7 : decode cJ0_charAt_5068e 7 = .ok (.aload_n 0, 1) := by decide +kernel
theorem dJ0_charAt_5068e_8 : decode cJ0_charAt_5068e 8 = .ok (.getfield 9, 3) := by decide +kernel
theorem dJ0_charAt_5068e_11 : decode cJ0_charAt_5068e 11 = .ok (.iload_n 1, 1) := by decide +kernel
theorem dJ0_charAt_5068e_12 : decode cJ0_charAt_5068e 12 = .ok (.invokestatic 495, 3) := by decide +kernel
theorem dJ0_charAt_5068e_15 : decode cJ0_charAt_5068e 15 = .ok (.ireturn, 1) := by decide +kernel
theorem dJ0_charAt_5068e_16 : decode cJ0_charAt_5068e 16 = .ok (.aload_n 0, 1) := by decide +kernel
theorem dJ0_charAt_5068e_17 : decode cJ0_charAt_5068e 17 = .ok (.getfield 9, 3) := by decide +kernel
theorem dJ0_charAt_5068e_20 : decode cJ0_charAt_5068e 20 = .ok (.iload_n 1, 1) := by decide +kernel
theorem dJ0_charAt_5068e_21 : decode cJ0_charAt_5068e 21 = .ok (.invokestatic 498, 3) := by decide +kernel
theorem dJ0_charAt_5068e_24 : decode cJ0_charAt_5068e 24 = .ok (.ireturn, 1) := by decide +kernel
theorem ok_J0_charAt_5068e : okV yJ0_charAt_5068e cJ0_charAt_5068e 2 (some .char) 1 := ⟨mw_716, mw_717, mw_88, mw_718, by decide +kernel, by decide +kernel⟩
abbrev rm_J0_charAt_5068e : Room := { frames := 3, cells := 0, slots := 0, locals := 64 }
def w_J0_charAt_5068e (post : Int32 → St → Prop) (σ : St) (i0 : Nat) (x1 : Int32) : Prop := w_J0_isLatin1_aae02 (fun r1 s1 => ((r1 = 0 → (False)) ∧ (¬ r1 = 0 → (w_J1_charAt_3b067 (fun r3 s3 => post r3 s3) s1 i0 x1)))) σ i0
theorem B_J0_charAt_5068e_0 (E : EnvW p s m args meth c D cy regsC ad "java/lang/String" cJ0_charAt_5068e 2 (some .char)) (ha : Apart regsC ad) {post : Int32 → St → Prop} {σ : St} {i0 : Nat} {x1 : Int32} (hi0 : i0 < 14) (hw : w_J0_charAt_5068e post σ i0 x1) {H : Heap} {locs : List Loc} {ls : Array Slot} (hP : va_P D CLS (wC cy ad σ) H) (hS : va_S (AC ad s.heap.size) s.heap H locs) (hl : lv_has ls 2 [(0, .ref (ad 90 i0)), (1, .int x1)]) : W p l e rm_J0_charAt_5068e s m args below meth c H locs 0 0 (MQ below (QI D cy (cellC cy ad) regsC ad s.heap.size (fun r u => (narrow .char (.int r) = .int r) ∧ post r u)) args s 0 0 (AC ad s.heap.size)) (F0 m 0 ls []) := by
  obtain ⟨hx, hb, -⟩ := id E
  unfold w_J0_charAt_5068e at hw
  refine lv_aload_n hx hb dJ0_charAt_5068e_0 rfl (lv_at hl 0 rfl) ?_
  refine g_cTi (As := []) (rest := []) hi0 rfl E hl.1 (c_J0_isLatin1_aae02 l D cy ad ha hi0 hw _) ok_J0_isLatin1_aae02 mw_719 ⟨(Nat.le_of_ble_eq_true rfl), (Nat.le_of_ble_eq_true rfl)⟩ ⟨rfl, rfl⟩ rfl rfl (Nat.le_of_ble_eq_true rfl) ⟨Nat.zero_le _, Nat.zero_le _⟩ hP hS dJ0_charAt_5068e_1 (fun r1 s1 hw H locs hP hS => ?_)
  obtain ⟨z1, hw⟩ := hw
  refine lv_if_eq (tgt := 16) hx hb dJ0_charAt_5068e_4 (by decide) (fun c2 => ?_) (fun c2 => ?_)
  · replace hw := hw.1 c2
    refine lv_aload_n hx hb dJ0_charAt_5068e_16 rfl (lv_at hl 0 rfl) ?_
    refine g_strV hi0 E hS mw_1438 dJ0_charAt_5068e_17 ?_
    refine lv_iload_n hx hb dJ0_charAt_5068e_20 rfl (lv_at hl 1 rfl) ?_
    exact hw.elim
  · replace hw := hw.2 c2
    refine lv_aload_n hx hb dJ0_charAt_5068e_7 rfl (lv_at hl 0 rfl) ?_
    refine g_strV hi0 E hS mw_1438 dJ0_charAt_5068e_8 ?_
    refine lv_iload_n hx hb dJ0_charAt_5068e_11 rfl (lv_at hl 1 rfl) ?_
    refine g_cSi (As := [.ref (ad 91 i0), .int x1]) (rest := []) E hl.1 (c_J1_charAt_3b067 l D cy ad ha hi0 hw _) ok_J1_charAt_3b067 mw_723 ⟨(Nat.le_of_ble_eq_true rfl), (Nat.le_of_ble_eq_true rfl)⟩ ⟨rfl, rfl⟩ rfl rfl (Nat.le_of_ble_eq_true rfl) ⟨Nat.zero_le _, Nat.zero_le _⟩ hP hS dJ0_charAt_5068e_12 (fun r3 s3 hw H locs hP hS => ?_)
    obtain ⟨z3, hw⟩ := hw
    exact g_nret E z3 hw hP hS dJ0_charAt_5068e_15
theorem c_J0_charAt_5068e (l : Launch) (D : va_G) (cy : Nat → ClassId) (ad : Nat → Nat → Nat) (ha : Apart regsC ad) {post : Int32 → St → Prop} {σ : St} {i0 : Nat} {x1 : Int32} (hi0 : i0 < 14) (hw : w_J0_charAt_5068e post σ i0 x1) (sz : Nat) : MetI l yJ0_charAt_5068e cJ0_charAt_5068e 2 .char rm_J0_charAt_5068e [.ref (ad 90 i0), .int x1] D cy (cellC cy ad) regsC ad σ sz (fun r u => (narrow .char (.int r) = .int r) ∧ post r u) :=
  Met_inI ok_J0_charAt_5068e.2.2.2.2.2 (Nat.le_of_ble_eq_true rfl) (fun p e s m below meth c ls E hP hl => B_J0_charAt_5068e_0 E ha hi0 hw hP va_S.rf hl)
-- RoofWar$Reader.isWord(Ljava/lang/String;)Z
theorem dX5_isWord_0 : decode cX5_isWord 0 = .ok (.aload_n 0, 1) := by decide +kernel
theorem dX5_isWord_1 : decode cX5_isWord 1 = .ok (.getfield 24, 3) := by decide +kernel
theorem dX5_isWord_4 : decode cX5_isWord 4 = .ok (.iconst 1, 1) := by decide +kernel
theorem dX5_isWord_5 : decode cX5_isWord 5 = .ok (.if_icmp .ne 19, 3) := by decide +kernel
theorem dX5_isWord_8 : decode cX5_isWord 8 = .ok (.aload_n 0, 1) := by decide +kernel
theorem dX5_isWord_9 : decode cX5_isWord 9 = .ok (.getfield 28, 3) := by decide +kernel
theorem dX5_isWord_12 : decode cX5_isWord 12 = .ok (.aload_n 0, 1) := by decide +kernel
theorem dX5_isWord_13 : decode cX5_isWord 13 = .ok (.getfield 48, 3) := by decide +kernel
theorem dX5_isWord_16 : decode cX5_isWord 16 = .ok (.isub, 1) := by decide +kernel
theorem dX5_isWord_17 : decode cX5_isWord 17 = .ok (.aload_n 1, 1) := by decide +kernel
theorem dX5_isWord_18 : decode cX5_isWord 18 = .ok (.invokevirtual 86, 3) := by decide +kernel
theorem dX5_isWord_21 : decode cX5_isWord 21 = .ok (.if_icmp .eq 5, 3) := by decide +kernel
theorem dX5_isWord_24 : decode cX5_isWord 24 = .ok (.iconst 0, 1) := by decide +kernel
theorem dX5_isWord_25 : decode cX5_isWord 25 = .ok (.ireturn, 1) := by decide +kernel
theorem dX5_isWord_26 : decode cX5_isWord 26 = .ok (.iconst 0, 1) := by decide +kernel
theorem dX5_isWord_27 : decode cX5_isWord 27 = .ok (.istore_n 2, 1) := by decide +kernel
theorem dX5_isWord_28 : decode cX5_isWord 28 = .ok (.iload_n 2, 1) := by decide +kernel
theorem dX5_isWord_29 : decode cX5_isWord 29 = .ok (.aload_n 1, 1) := by decide +kernel
theorem dX5_isWord_30 : decode cX5_isWord 30 = .ok (.invokevirtual 86, 3) := by decide +kernel
theorem dX5_isWord_33 : decode cX5_isWord 33 = .ok (.if_icmp .ge 33, 3) := by decide +kernel
theorem dX5_isWord_36 : decode cX5_isWord 36 = .ok (.aload_n 0, 1) := by decide +kernel
theorem dX5_isWord_37 : decode cX5_isWord 37 = .ok (.getfield 9, 3) := by decide +kernel
theorem dX5_isWord_40 : decode cX5_isWord 40 = .ok (.getfield 56, 3) := by decide +kernel
theorem dX5_isWord_43 : decode cX5_isWord 43 = .ok (.aload_n 0, 1) := by decide +kernel
theorem dX5_isWord_44 : decode cX5_isWord 44 = .ok (.getfield 48, 3) := by decide +kernel
theorem dX5_isWord_47 : decode cX5_isWord 47 = .ok (.iload_n 2, 1) := by decide +kernel
theorem dX5_isWord_48 : decode cX5_isWord 48 = .ok (.iadd, 1) := by decide +kernel
theorem dX5_isWord_49 : decode cX5_isWord 49 = .ok (.iaload, 1) := by decide +kernel
theorem dX5_isWord_50 : decode cX5_isWord 50 = .ok (.aload_n 1, 1) := by decide +kernel
theorem dX5_isWord_51 : decode cX5_isWord 51 = .ok (.iload_n 2, 1) := by decide +kernel
theorem dX5_isWord_52 : decode cX5_isWord 52 = .ok (.invokevirtual 91, 3) := by decide +kernel
theorem dX5_isWord_55 : decode cX5_isWord 55 = .ok (.if_icmp .eq 5, 3) := by decide +kernel
theorem dX5_isWord_58 : decode cX5_isWord 58 = .ok (.iconst 0, 1) := by decide +kernel
theorem dX5_isWord_59 : decode cX5_isWord 59 = .ok (.ireturn, 1) := by decide +kernel
theorem dX5_isWord_60 : decode cX5_isWord 60 = .ok (.iinc 2 1, 3) := by decide +kernel
theorem dX5_isWord_63 : decode cX5_isWord 63 = .ok (.goto (-35), 3) := by decide +kernel
theorem dX5_isWord_66 : decode cX5_isWord 66 = .ok (.iconst 1, 1) := by decide +kernel
theorem dX5_isWord_67 : decode cX5_isWord 67 = .ok (.ireturn, 1) := by decide +kernel
theorem ok_X5_isWord : okV yX5_isWord cX5_isWord 3 (some .boolean) 1 := ⟨mw_704, mw_11, mw_80, mw_705, by decide +kernel, by decide +kernel⟩
abbrev rm_X5_isWord : Room := { frames := 4, cells := 0, slots := 0, locals := 85 }
def b_X5_isWord_28 (K28 : St → Nat → Int32 → Prop) (post : Int32 → St → Prop) (σ : St) (i1 : Nat) (x2 : Int32) : Prop := w_J0_length_8abf5 (fun r1 s1 => ((r1 ≤ x2 → (post 1 s1)) ∧ (¬ r1 ≤ x2 → (vp_in ((s1 21 0 1) + x2) 96 ∧ (w_J0_charAt_5068e (fun r4 s4 => (((s1 20 0 ((s1 21 0 1) + x2).toNatClampNeg) = r4 → (∀ v6 : Int32, v6 = x2 + 1 → (K28 s4 i1 v6))) ∧ (¬ (s1 20 0 ((s1 21 0 1) + x2).toNatClampNeg) = r4 → (post 0 s4)))) s1 i1 x2))))) σ i1
noncomputable def l_X5_isWord_28 (post : Int32 → St → Prop) : Nat → St → Nat → Int32 → Prop := fun n => Nat.rec (motive := fun _ => St → Nat → Int32 → Prop) (fun _ _ _ => False) (fun _ ih => b_X5_isWord_28 ih post) n
theorem L_X5_isWord_28 (E : EnvW p s m args meth c D cy regsC ad "RoofWar$Reader" cX5_isWord 3 (some .boolean)) (ha : Apart regsC ad) {post : Int32 → St → Prop} : ∀ (n : Nat), ∀ (σ : St) (i1 : Nat) (x2 : Int32), i1 < 14 → l_X5_isWord_28 post n σ i1 x2 → ∀ (H : Heap) (locs : List Loc) (ls : Array Slot), va_P D CLS (wC cy ad σ) H → va_S (AC ad s.heap.size) s.heap H locs → lv_has ls 3 [(0, .ref (ad 21 0)), (1, .ref (ad 90 i1)), (2, .int x2)] → W p l e rm_X5_isWord s m args below meth c H locs 0 0 (MQ below (QI D cy (cellC cy ad) regsC ad s.heap.size (fun r u => (r = 0 ∨ r = 1) ∧ post r u)) args s 0 0 (AC ad s.heap.size)) (F0 m 28 ls []) := by
  obtain ⟨hx, hb, -⟩ := id E
  intro n
  induction n with
  | zero => intro σ i1 x2 hi1 hw; exact hw.elim
  | succ n hk28 =>
    intro σ i1 x2 hi1 hw H locs ls hP hS hl
    replace hw : b_X5_isWord_28 (l_X5_isWord_28 post n) post σ i1 x2 := hw
    unfold b_X5_isWord_28 at hw
    refine lv_iload_n hx hb dX5_isWord_28 rfl (lv_at hl 2 rfl) ?_
    refine lv_aload_n hx hb dX5_isWord_29 rfl (lv_at hl 1 rfl) ?_
    refine g_cTi (As := []) (rest := [.int x2]) hi1 rfl E hl.1 (c_J0_length_8abf5 l D cy ad ha hi1 hw _) ok_J0_length_8abf5 mw_706 ⟨(Nat.le_of_ble_eq_true rfl), (Nat.le_of_ble_eq_true rfl)⟩ ⟨rfl, rfl⟩ rfl rfl (Nat.le_of_ble_eq_true rfl) ⟨Nat.zero_le _, Nat.zero_le _⟩ hP hS dX5_isWord_30 (fun r1 s1 hw H locs hP hS => ?_)
    refine lv_icmp_ge (tgt := 66) hx hb dX5_isWord_33 (by decide) (fun c2 => ?_) (fun c2 => ?_)
    · replace hw := hw.1 c2
      refine lv_iconst (v := 1) hx hb dX5_isWord_66 (by decide) ?_
      exact g_zret E (Or.inr rfl) hw hP hS dX5_isWord_67
    · replace hw := hw.2 c2
      refine lv_aload_n hx hb dX5_isWord_36 rfl (lv_at hl 0 rfl) ?_
      refine fX5_0 E hP mw_260 dX5_isWord_37 ?_
      refine fX8_0 E hP mw_245 dX5_isWord_40 ?_
      refine lv_aload_n hx hb dX5_isWord_43 rfl (lv_at hl 0 rfl) ?_
      refine fX5_3 E hP mw_263 dX5_isWord_44 ?_
      refine lv_iload_n hx hb dX5_isWord_47 rfl (lv_at hl 2 rfl) ?_
      refine lv_iadd hx hb dX5_isWord_48 ?_
      obtain ⟨h3, hw⟩ := hw
      refine aC20 E hP h3 dX5_isWord_49 ?_
      refine lv_aload_n hx hb dX5_isWord_50 rfl (lv_at hl 1 rfl) ?_
      refine lv_iload_n hx hb dX5_isWord_51 rfl (lv_at hl 2 rfl) ?_
      refine g_cTi (As := [.int x2]) (rest := [.int (s1 20 0 ((s1 21 0 1) + x2).toNatClampNeg)]) hi1 rfl E hl.1 (c_J0_charAt_5068e l D cy ad ha hi1 hw _) ok_J0_charAt_5068e mw_715 ⟨(Nat.le_of_ble_eq_true rfl), (Nat.le_of_ble_eq_true rfl)⟩ ⟨rfl, rfl⟩ rfl rfl (Nat.le_of_ble_eq_true rfl) ⟨Nat.zero_le _, Nat.zero_le _⟩ hP hS dX5_isWord_52 (fun r4 s4 hw H locs hP hS => ?_)
      obtain ⟨z4, hw⟩ := hw
      refine lv_icmp_eq (tgt := 60) hx hb dX5_isWord_55 (by decide) (fun c5 => ?_) (fun c5 => ?_)
      · replace hw := hw.1 c5
        obtain ⟨v6, ev6⟩ : ∃ y : Int32, y = x2 + 1 := ⟨_, rfl⟩
        replace hw := hw v6 ev6
        refine lv_iinc (v := v6) (lv' := [(2, .int v6), (0, .ref (ad 21 0)), (1, .ref (ad 90 i1))]) hx hb dX5_isWord_60 hl (k := 2) rfl (by rw [ev6]; rfl) (by decide) rfl (fun ls hl => ?_)
        refine lv_goto (tgt := 28) hx hb dX5_isWord_63 (by decide) ?_
        exact hk28 s4 i1 v6 hi1 hw _ _ _ hP hS (lv_sub hl [1, 2, 0] rfl)
      · replace hw := hw.2 c5
        refine lv_iconst (v := 0) hx hb dX5_isWord_58 (by decide) ?_
        exact g_zret E (Or.inl rfl) hw hP hS dX5_isWord_59
def w_X5_isWord (post : Int32 → St → Prop) (σ : St) (i1 : Nat) : Prop := ((¬ (σ 21 0 0) = 1 → (post 0 σ)) ∧ ((σ 21 0 0) = 1 → (w_J0_length_8abf5 (fun r2 s2 => ((((σ 21 0 2) - (σ 21 0 1)) = r2 → (∃ n4 : Nat, l_X5_isWord_28 post n4 s2 i1 (0 : Int32))) ∧ (¬ ((σ 21 0 2) - (σ 21 0 1)) = r2 → (post 0 s2)))) σ i1)))
theorem B_X5_isWord_0 (E : EnvW p s m args meth c D cy regsC ad "RoofWar$Reader" cX5_isWord 3 (some .boolean)) (ha : Apart regsC ad) {post : Int32 → St → Prop} {σ : St} {i1 : Nat} (hi1 : i1 < 14) (hw : w_X5_isWord post σ i1) {H : Heap} {locs : List Loc} {ls : Array Slot} (hP : va_P D CLS (wC cy ad σ) H) (hS : va_S (AC ad s.heap.size) s.heap H locs) (hl : lv_has ls 3 [(0, .ref (ad 21 0)), (1, .ref (ad 90 i1))]) : W p l e rm_X5_isWord s m args below meth c H locs 0 0 (MQ below (QI D cy (cellC cy ad) regsC ad s.heap.size (fun r u => (r = 0 ∨ r = 1) ∧ post r u)) args s 0 0 (AC ad s.heap.size)) (F0 m 0 ls []) := by
  obtain ⟨hx, hb, -⟩ := id E
  unfold w_X5_isWord at hw
  refine lv_aload_n hx hb dX5_isWord_0 rfl (lv_at hl 0 rfl) ?_
  refine fX5_2 E hP mw_262 dX5_isWord_1 ?_
  refine lv_iconst (v := 1) hx hb dX5_isWord_4 (by decide) ?_
  refine lv_icmp_ne (tgt := 24) hx hb dX5_isWord_5 (by decide) (fun c1 => ?_) (fun c1 => ?_)
  · replace hw := hw.1 c1
    refine lv_iconst (v := 0) hx hb dX5_isWord_24 (by decide) ?_
    exact g_zret E (Or.inl rfl) hw hP hS dX5_isWord_25
  · replace hw := hw.2 c1
    refine lv_aload_n hx hb dX5_isWord_8 rfl (lv_at hl 0 rfl) ?_
    refine fX5_4 E hP mw_264 dX5_isWord_9 ?_
    refine lv_aload_n hx hb dX5_isWord_12 rfl (lv_at hl 0 rfl) ?_
    refine fX5_3 E hP mw_263 dX5_isWord_13 ?_
    refine lv_isub hx hb dX5_isWord_16 ?_
    refine lv_aload_n hx hb dX5_isWord_17 rfl (lv_at hl 1 rfl) ?_
    refine g_cTi (As := []) (rest := [.int ((σ 21 0 2) - (σ 21 0 1))]) hi1 rfl E hl.1 (c_J0_length_8abf5 l D cy ad ha hi1 hw _) ok_J0_length_8abf5 mw_706 ⟨(Nat.le_of_ble_eq_true rfl), (Nat.le_of_ble_eq_true rfl)⟩ ⟨rfl, rfl⟩ rfl rfl (Nat.le_of_ble_eq_true rfl) ⟨Nat.zero_le _, Nat.zero_le _⟩ hP hS dX5_isWord_18 (fun r2 s2 hw H locs hP hS => ?_)
    refine lv_icmp_eq (tgt := 26) hx hb dX5_isWord_21 (by decide) (fun c3 => ?_) (fun c3 => ?_)
    · replace hw := hw.1 c3
      refine lv_iconst (v := 0) hx hb dX5_isWord_26 (by decide) ?_
      refine lv_istore_n (lv' := [(2, .int 0), (0, .ref (ad 21 0)), (1, .ref (ad 90 i1))]) hx hb dX5_isWord_27 rfl hl (by decide) rfl (fun ls hl => ?_)
      obtain ⟨n4, hw⟩ := hw
      exact L_X5_isWord_28 E ha n4 s2 i1 (0 : Int32) hi1 hw _ _ _ hP hS (lv_sub hl [1, 2, 0] rfl)
    · replace hw := hw.2 c3
      refine lv_iconst (v := 0) hx hb dX5_isWord_24 (by decide) ?_
      exact g_zret E (Or.inl rfl) hw hP hS dX5_isWord_25
theorem c_X5_isWord (l : Launch) (D : va_G) (cy : Nat → ClassId) (ad : Nat → Nat → Nat) (ha : Apart regsC ad) {post : Int32 → St → Prop} {σ : St} {i1 : Nat} (hi1 : i1 < 14) (hw : w_X5_isWord post σ i1) (sz : Nat) : MetI l yX5_isWord cX5_isWord 3 .boolean rm_X5_isWord [.ref (ad 21 0), .ref (ad 90 i1)] D cy (cellC cy ad) regsC ad σ sz (fun r u => (r = 0 ∨ r = 1) ∧ post r u) :=
  Met_inI ok_X5_isWord.2.2.2.2.2 (Nat.le_of_ble_eq_true rfl) (fun p e s m below meth c ls E hP hl => B_X5_isWord_0 E ha hi1 hw hP va_S.rf hl)
-- java/lang/StringLatin1.canEncode(I)Z
theorem dJ1_canEncode_9a6ad_0 : decode cJ1_canEncode_9a6ad 0 = .ok (.iload_n 0, 1) := by decide +kernel
theorem dJ1_canEncode_9a6ad_1 : decode cJ1_canEncode_9a6ad 1 = .ok (.ifCond .lt 14, 3) := by decide +kernel
theorem dJ1_canEncode_9a6ad_4 : decode cJ1_canEncode_9a6ad 4 = .ok (.iload_n 0, 1) := by decide +kernel
theorem dJ1_canEncode_9a6ad_5 : decode cJ1_canEncode_9a6ad 5 = .ok (.sipush 255, 3) := by decide +kernel
theorem dJ1_canEncode_9a6ad_8 : decode cJ1_canEncode_9a6ad 8 = .ok (.if_icmp .gt 7, 3) := by decide +kernel
theorem dJ1_canEncode_9a6ad_11 : decode cJ1_canEncode_9a6ad 11 = .ok (.iconst 1, 1) := by decide +kernel
theorem dJ1_canEncode_9a6ad_12 : decode cJ1_canEncode_9a6ad 12 = .ok (.goto 4, 3) := by decide +kernel
theorem dJ1_canEncode_9a6ad_15 : decode cJ1_canEncode_9a6ad 15 = .ok (.iconst 0, 1) := by decide +kernel
theorem dJ1_canEncode_9a6ad_16 : decode cJ1_canEncode_9a6ad 16 = .ok (.ireturn, 1) := by decide +kernel
theorem ok_J1_canEncode_9a6ad : okS yJ1_canEncode_9a6ad cJ1_canEncode_9a6ad 1 (some .boolean) 1 := ⟨mw_787, mw_89, mw_788, by decide +kernel, by decide +kernel⟩
abbrev rm_J1_canEncode_9a6ad : Room := { frames := 0, cells := 0, slots := 0, locals := 0 }
def w_J1_canEncode_9a6ad (post : Int32 → St → Prop) (σ : St) (x0 : Int32) : Prop := ((x0 < 0 → (post 0 σ)) ∧ (¬ x0 < 0 → (((255 < x0 → (post 0 σ)) ∧ (¬ 255 < x0 → (post 1 σ))))))
theorem B_J1_canEncode_9a6ad_0 (E : EnvW p s m args meth c D cy regsC ad "java/lang/StringLatin1" cJ1_canEncode_9a6ad 1 (some .boolean)) (ha : Apart regsC ad) {post : Int32 → St → Prop} {σ : St} {x0 : Int32} (hw : w_J1_canEncode_9a6ad post σ x0) {H : Heap} {locs : List Loc} {ls : Array Slot} (hP : va_P D CLS (wC cy ad σ) H) (hS : va_S (AC ad s.heap.size) s.heap H locs) (hl : lv_has ls 1 [(0, .int x0)]) : W p l e rm_J1_canEncode_9a6ad s m args below meth c H locs 0 0 (MQ below (QI D cy (cellC cy ad) regsC ad s.heap.size (fun r u => (r = 0 ∨ r = 1) ∧ post r u)) args s 0 0 (AC ad s.heap.size)) (F0 m 0 ls []) := by
  obtain ⟨hx, hb, -⟩ := id E
  unfold w_J1_canEncode_9a6ad at hw
  refine lv_iload_n hx hb dJ1_canEncode_9a6ad_0 rfl (lv_at hl 0 rfl) ?_
  refine lv_if_lt (tgt := 15) hx hb dJ1_canEncode_9a6ad_1 (by decide) (fun c1 => ?_) (fun c1 => ?_)
  · replace hw := hw.1 c1
    refine lv_iconst (v := 0) hx hb dJ1_canEncode_9a6ad_15 (by decide) ?_
    exact g_zret E (Or.inl rfl) hw hP hS dJ1_canEncode_9a6ad_16
  · replace hw := hw.2 c1
    refine lv_iload_n hx hb dJ1_canEncode_9a6ad_4 rfl (lv_at hl 0 rfl) ?_
    refine lv_sipush (v := 255) hx hb dJ1_canEncode_9a6ad_5 (by decide) ?_
    refine lv_icmp_gt (tgt := 15) hx hb dJ1_canEncode_9a6ad_8 (by decide) (fun c2 => ?_) (fun c2 => ?_)
    · replace hw := hw.1 c2
      refine lv_iconst (v := 0) hx hb dJ1_canEncode_9a6ad_15 (by decide) ?_
      exact g_zret E (Or.inl rfl) hw hP hS dJ1_canEncode_9a6ad_16
    · replace hw := hw.2 c2
      refine lv_iconst (v := 1) hx hb dJ1_canEncode_9a6ad_11 (by decide) ?_
      refine lv_goto (tgt := 16) hx hb dJ1_canEncode_9a6ad_12 (by decide) ?_
      exact g_zret E (Or.inr rfl) hw hP hS dJ1_canEncode_9a6ad_16
theorem c_J1_canEncode_9a6ad (l : Launch) (D : va_G) (cy : Nat → ClassId) (ad : Nat → Nat → Nat) (ha : Apart regsC ad) {post : Int32 → St → Prop} {σ : St} {x0 : Int32} (hw : w_J1_canEncode_9a6ad post σ x0) (sz : Nat) : MetI l yJ1_canEncode_9a6ad cJ1_canEncode_9a6ad 1 .boolean rm_J1_canEncode_9a6ad [.int x0] D cy (cellC cy ad) regsC ad σ sz (fun r u => (r = 0 ∨ r = 1) ∧ post r u) :=
  Met_inI ok_J1_canEncode_9a6ad.2.2.2.2 (Nat.le_of_ble_eq_true rfl) (fun p e s m below meth c ls E hP hl => B_J1_canEncode_9a6ad_0 E ha hw hP va_S.rf hl)
-- java/lang/StringLatin1.indexOfChar([BIII)I
theorem dJ1_indexOfChar_4cfef_0 : decode cJ1_indexOfChar_4cfef 0 = .ok (.iload_n 1, 1) := by decide +kernel
theorem dJ1_indexOfChar_4cfef_1 : decode cJ1_indexOfChar_4cfef 1 = .ok (.i2b, 1) := by decide +kernel
theorem dJ1_indexOfChar_4cfef_2 : decode cJ1_indexOfChar_4cfef 2 = .ok (.istore 4, 2) := by decide +kernel
theorem dJ1_indexOfChar_4cfef_4 : decode cJ1_indexOfChar_4cfef 4 = .ok (.iload_n 2, 1) := by decide +kernel
theorem dJ1_indexOfChar_4cfef_5 : decode cJ1_indexOfChar_4cfef 5 = .ok (.istore 5, 2) := by decide +kernel
theorem dJ1_indexOfChar_4cfef_7 : decode cJ1_indexOfChar_4cfef 7 = .ok (.iload 5, 2) := by decide +kernel
theorem dJ1_indexOfChar_4cfef_9 : decode cJ1_indexOfChar_4cfef 9 = .ok (.iload_n 3, 1) := by decide +kernel
theorem dJ1_indexOfChar_4cfef_10 : decode cJ1_indexOfChar_4cfef 10 = .ok (.if_icmp .ge 21, 3) := by decide +kernel
theorem dJ1_indexOfChar_4cfef_13 : decode cJ1_indexOfChar_4cfef 13 = .ok (.aload_n 0, 1) := by decide +kernel
theorem dJ1_indexOfChar_4cfef_14 : decode cJ1_indexOfChar_4cfef 14 = .ok (.iload 5, 2) := by decide +kernel
theorem dJ1_indexOfChar_4cfef_16 : decode cJ1_indexOfChar_4cfef 16 = .ok (.baload, 1) := by decide +kernel
theorem dJ1_indexOfChar_4cfef_17 : decode cJ1_indexOfChar_4cfef 17 = .ok (.iload 4, 2) := by decide +kernel
theorem dJ1_indexOfChar_4cfef_19 : decode cJ1_indexOfChar_4cfef 19 = .ok (.if_icmp .ne 6, 3) := by decide +kernel
theorem dJ1_indexOfChar_4cfef_22 : decode cJ1_indexOfChar_4cfef 22 = .ok (.iload 5, 2) := by decide +kernel
theorem dJ1_indexOfChar_4cfef_24 : decode cJ1_indexOfChar_4cfef 24 = .ok (.ireturn, 1) := by decide +kernel
theorem dJ1_indexOfChar_4cfef_25 : decode cJ1_indexOfChar_4cfef 25 = .ok (.iinc 5 1, 3) := by decide +kernel
theorem dJ1_indexOfChar_4cfef_28 : decode cJ1_indexOfChar_4cfef 28 = .ok (.goto (-21), 3) := by decide +kernel
theorem dJ1_indexOfChar_4cfef_31 : decode cJ1_indexOfChar_4cfef 31 = .ok (.iconst (-1), 1) := by decide +kernel
theorem dJ1_indexOfChar_4cfef_32 : decode cJ1_indexOfChar_4cfef 32 = .ok (.ireturn, 1) := by decide +kernel
theorem ok_J1_indexOfChar_4cfef : okS yJ1_indexOfChar_4cfef cJ1_indexOfChar_4cfef 6 (some .int) 4 := ⟨mw_792, mw_89, mw_793, by decide +kernel, by decide +kernel⟩
abbrev rm_J1_indexOfChar_4cfef : Room := { frames := 0, cells := 0, slots := 0, locals := 0 }
def b_J1_indexOfChar_4cfef_7 (K7 : St → Nat → Int32 → Int32 → Int32 → Prop) (post : Int32 → St → Prop) (σ : St) (i0 : Nat) (x3 : Int32) (x4 : Int32) (x5 : Int32) : Prop := ((x3 ≤ x5 → (post ((-1)) σ)) ∧ (¬ x3 ≤ x5 → (vp_in x5 (LNs.getD i0 0) ∧ (((¬ ((BYs.getD i0 []).getD x5.toNatClampNeg 0) = x4 → (∀ v4 : Int32, v4 = x5 + 1 → (K7 σ i0 x3 x4 v4))) ∧ (((BYs.getD i0 []).getD x5.toNatClampNeg 0) = x4 → (post x5 σ)))))))
noncomputable def l_J1_indexOfChar_4cfef_7 (post : Int32 → St → Prop) : Nat → St → Nat → Int32 → Int32 → Int32 → Prop := fun n => Nat.rec (motive := fun _ => St → Nat → Int32 → Int32 → Int32 → Prop) (fun _ _ _ _ _ => False) (fun _ ih => b_J1_indexOfChar_4cfef_7 ih post) n
theorem L_J1_indexOfChar_4cfef_7 (E : EnvW p s m args meth c D cy regsC ad "java/lang/StringLatin1" cJ1_indexOfChar_4cfef 6 (some .int)) (ha : Apart regsC ad) {post : Int32 → St → Prop} : ∀ (n : Nat), ∀ (σ : St) (i0 : Nat) (x3 : Int32) (x4 : Int32) (x5 : Int32), i0 < 14 → l_J1_indexOfChar_4cfef_7 post n σ i0 x3 x4 x5 → ∀ (H : Heap) (locs : List Loc) (ls : Array Slot), va_P D CLS (wC cy ad σ) H → va_S (AC ad s.heap.size) s.heap H locs → lv_has ls 6 [(0, .ref (ad 91 i0)), (3, .int x3), (4, .int x4), (5, .int x5)] → W p l e rm_J1_indexOfChar_4cfef s m args below meth c H locs 0 0 (MQ below (QI D cy (cellC cy ad) regsC ad s.heap.size post) args s 0 0 (AC ad s.heap.size)) (F0 m 7 ls []) := by
  obtain ⟨hx, hb, -⟩ := id E
  intro n
  induction n with
  | zero => intro σ i0 x3 x4 x5 hi0 hw; exact hw.elim
  | succ n hk7 =>
    intro σ i0 x3 x4 x5 hi0 hw H locs ls hP hS hl
    replace hw : b_J1_indexOfChar_4cfef_7 (l_J1_indexOfChar_4cfef_7 post n) post σ i0 x3 x4 x5 := hw
    unfold b_J1_indexOfChar_4cfef_7 at hw
    refine lv_iload hx hb dJ1_indexOfChar_4cfef_7 (lv_at hl 3 rfl) ?_
    refine lv_iload_n hx hb dJ1_indexOfChar_4cfef_9 rfl (lv_at hl 1 rfl) ?_
    refine lv_icmp_ge (tgt := 31) hx hb dJ1_indexOfChar_4cfef_10 (by decide) (fun c1 => ?_) (fun c1 => ?_)
    · replace hw := hw.1 c1
      refine lv_iconst (v := -1) hx hb dJ1_indexOfChar_4cfef_31 (by decide) ?_
      exact g_iret E hw hP hS dJ1_indexOfChar_4cfef_32
    · replace hw := hw.2 c1
      refine lv_aload_n hx hb dJ1_indexOfChar_4cfef_13 rfl (lv_at hl 0 rfl) ?_
      refine lv_iload hx hb dJ1_indexOfChar_4cfef_14 (lv_at hl 3 rfl) ?_
      obtain ⟨h2, hw⟩ := hw
      refine g_strB hi0 E hS h2 dJ1_indexOfChar_4cfef_16 ?_
      refine lv_iload hx hb dJ1_indexOfChar_4cfef_17 (lv_at hl 2 rfl) ?_
      refine lv_icmp_ne (tgt := 25) hx hb dJ1_indexOfChar_4cfef_19 (by decide) (fun c3 => ?_) (fun c3 => ?_)
      · replace hw := hw.1 c3
        obtain ⟨v4, ev4⟩ : ∃ y : Int32, y = x5 + 1 := ⟨_, rfl⟩
        replace hw := hw v4 ev4
        refine lv_iinc (v := v4) (lv' := [(5, .int v4), (0, .ref (ad 91 i0)), (3, .int x3), (4, .int x4)]) hx hb dJ1_indexOfChar_4cfef_25 hl (k := 3) rfl (by rw [ev4]; rfl) (by decide) rfl (fun ls hl => ?_)
        refine lv_goto (tgt := 7) hx hb dJ1_indexOfChar_4cfef_28 (by decide) ?_
        exact hk7 σ i0 x3 x4 v4 hi0 hw _ _ _ hP hS (lv_sub hl [1, 2, 3, 0] rfl)
      · replace hw := hw.2 c3
        refine lv_iload hx hb dJ1_indexOfChar_4cfef_22 (lv_at hl 3 rfl) ?_
        exact g_iret E hw hP hS dJ1_indexOfChar_4cfef_24
def w_J1_indexOfChar_4cfef (post : Int32 → St → Prop) (σ : St) (i0 : Nat) (x1 : Int32) (x2 : Int32) (x3 : Int32) : Prop := ∀ v1 : Int32, v1 = x1.toInt8.toInt32 → (∃ n2 : Nat, l_J1_indexOfChar_4cfef_7 post n2 σ i0 x3 v1 x2)
theorem B_J1_indexOfChar_4cfef_0 (E : EnvW p s m args meth c D cy regsC ad "java/lang/StringLatin1" cJ1_indexOfChar_4cfef 6 (some .int)) (ha : Apart regsC ad) {post : Int32 → St → Prop} {σ : St} {i0 : Nat} {x1 : Int32} {x2 : Int32} {x3 : Int32} (hi0 : i0 < 14) (hw : w_J1_indexOfChar_4cfef post σ i0 x1 x2 x3) {H : Heap} {locs : List Loc} {ls : Array Slot} (hP : va_P D CLS (wC cy ad σ) H) (hS : va_S (AC ad s.heap.size) s.heap H locs) (hl : lv_has ls 6 [(0, .ref (ad 91 i0)), (1, .int x1), (2, .int x2), (3, .int x3)]) : W p l e rm_J1_indexOfChar_4cfef s m args below meth c H locs 0 0 (MQ below (QI D cy (cellC cy ad) regsC ad s.heap.size post) args s 0 0 (AC ad s.heap.size)) (F0 m 0 ls []) := by
  obtain ⟨hx, hb, -⟩ := id E
  unfold w_J1_indexOfChar_4cfef at hw
  refine lv_iload_n hx hb dJ1_indexOfChar_4cfef_0 rfl (lv_at hl 1 rfl) ?_
  refine lv_i2b (v := x1.toInt8.toInt32) hx hb dJ1_indexOfChar_4cfef_1 rfl ?_
  refine lv_topi (fun v1 ev1 => ?_)
  replace hw := hw v1 ev1
  refine lv_istore (lv' := [(4, .int v1), (0, .ref (ad 91 i0)), (1, .int x1), (2, .int x2), (3, .int x3)]) hx hb dJ1_indexOfChar_4cfef_2 hl (by decide) rfl (fun ls hl => ?_)
  refine lv_iload_n hx hb dJ1_indexOfChar_4cfef_4 rfl (lv_at hl 3 rfl) ?_
  refine lv_istore (lv' := [(5, .int x2), (4, .int v1), (0, .ref (ad 91 i0)), (1, .int x1), (2, .int x2), (3, .int x3)]) hx hb dJ1_indexOfChar_4cfef_5 hl (by decide) rfl (fun ls hl => ?_)
  obtain ⟨n2, hw⟩ := hw
  exact L_J1_indexOfChar_4cfef_7 E ha n2 σ i0 x3 v1 x2 hi0 hw _ _ _ hP hS (lv_sub hl [2, 5, 1, 0] rfl)
theorem c_J1_indexOfChar_4cfef (l : Launch) (D : va_G) (cy : Nat → ClassId) (ad : Nat → Nat → Nat) (ha : Apart regsC ad) {post : Int32 → St → Prop} {σ : St} {i0 : Nat} {x1 : Int32} {x2 : Int32} {x3 : Int32} (hi0 : i0 < 14) (hw : w_J1_indexOfChar_4cfef post σ i0 x1 x2 x3) (sz : Nat) : MetI l yJ1_indexOfChar_4cfef cJ1_indexOfChar_4cfef 6 .int rm_J1_indexOfChar_4cfef [.ref (ad 91 i0), .int x1, .int x2, .int x3] D cy (cellC cy ad) regsC ad σ sz post :=
  Met_inI ok_J1_indexOfChar_4cfef.2.2.2.2 (Nat.le_of_ble_eq_true rfl) (fun p e s m below meth c ls E hP hl => B_J1_indexOfChar_4cfef_0 E ha hi0 hw hP va_S.rf hl)
-- java/lang/StringLatin1.indexOf([BIII)I
theorem dJ1_indexOf_4cfef_0 : decode cJ1_indexOf_4cfef 0 = .ok (.iload_n 1, 1) := by decide +kernel
theorem dJ1_indexOf_4cfef_1 : decode cJ1_indexOf_4cfef 1 = .ok (.invokestatic 88, 3) := by decide +kernel
theorem dJ1_indexOf_4cfef_4 : decode cJ1_indexOf_4cfef 4 = .ok (.ifCond .ne 5, 3) := by decide +kernel
theorem dJ1_indexOf_4cfef_7 : decode cJ1_indexOf_4cfef 7 = .ok (.iconst (-1), 1) := by decide +kernel
theorem dJ1_indexOf_4cfef_8 : decode cJ1_indexOf_4cfef 8 = .ok (.ireturn, 1) := by decide +kernel
theorem dJ1_indexOf_4cfef_9 : decode cJ1_indexOf_4cfef 9 = .ok (.iload_n 2, 1) := by decide +kernel
theorem dJ1_indexOf_4cfef_10 : decode cJ1_indexOf_4cfef 10 = .ok (.iconst 0, 1) := by decide +kernel
theorem dJ1_indexOf_4cfef_11 : decode cJ1_indexOf_4cfef 11 = .ok (.invokestatic 92, 3) := by decide +kernel
theorem dJ1_indexOf_4cfef_14 : decode cJ1_indexOf_4cfef 14 = .ok (.istore_n 2, 1) := by decide +kernel
theorem dJ1_indexOf_4cfef_15 : decode cJ1_indexOf_4cfef 15 = .ok (.iload_n 3, 1) := by decide +kernel
theorem dJ1_indexOf_4cfef_16 : decode cJ1_indexOf_4cfef 16 = .ok (.aload_n 0, 1) := by decide +kernel
theorem dJ1_indexOf_4cfef_17 : decode cJ1_indexOf_4cfef 17 = .ok (.arraylength, 1) := by decide +kernel
theorem dJ1_indexOf_4cfef_18 : decode cJ1_indexOf_4cfef 18 = .ok (.invokestatic 38, 3) := by decide +kernel
theorem dJ1_indexOf_4cfef_21 : decode cJ1_indexOf_4cfef 21 = .ok (.istore_n 3, 1) := by decide +kernel
theorem dJ1_indexOf_4cfef_22 : decode cJ1_indexOf_4cfef 22 = .ok (.iload_n 2, 1) := by decide +kernel
theorem dJ1_indexOf_4cfef_23 : decode cJ1_indexOf_4cfef 23 = .ok (.iload_n 3, 1) := by decide +kernel
theorem dJ1_indexOf_4cfef_24 : decode cJ1_indexOf_4cfef 24 = .ok (.if_icmp .lt 5, 3) := by decide +kernel
theorem dJ1_indexOf_4cfef_27 : decode cJ1_indexOf_4cfef 27 = .ok (.iconst (-1), 1) := by decide +kernel
theorem dJ1_indexOf_4cfef_28 : decode cJ1_indexOf_4cfef 28 = .ok (.ireturn, 1) := by decide +kernel
theorem dJ1_indexOf_4cfef_29 : decode cJ1_indexOf_4cfef 29 = .ok (.aload_n 0, 1) := by decide +kernel
theorem dJ1_indexOf_4cfef_30 : decode cJ1_indexOf_4cfef 30 = .ok (.iload_n 1, 1) := by decide +kernel
theorem dJ1_indexOf_4cfef_31 : decode cJ1_indexOf_4cfef 31 = .ok (.iload_n 2, 1) := by decide +kernel
theorem dJ1_indexOf_4cfef_32 : decode cJ1_indexOf_4cfef 32 = .ok (.iload_n 3, 1) := by decide +kernel
theorem dJ1_indexOf_4cfef_33 : decode cJ1_indexOf_4cfef 33 = .ok (.invokestatic 95, 3) := by decide +kernel
theorem dJ1_indexOf_4cfef_36 : decode cJ1_indexOf_4cfef 36 = .ok (.ireturn, 1) := by decide +kernel
theorem ok_J1_indexOf_4cfef : okS yJ1_indexOf_4cfef cJ1_indexOf_4cfef 4 (some .int) 4 := ⟨mw_784, mw_89, mw_785, by decide +kernel, by decide +kernel⟩
abbrev rm_J1_indexOf_4cfef : Room := { frames := 1, cells := 0, slots := 0, locals := 25 }
def w_J1_indexOf_4cfef (post : Int32 → St → Prop) (σ : St) (i0 : Nat) (x1 : Int32) (x2 : Int32) (x3 : Int32) : Prop := w_J1_canEncode_9a6ad (fun r1 s1 => ((¬ r1 = 0 → (∀ v3 : Int32, v3 = (if x2 < 0 then 0 else x2) → (∀ v4 : Int32, v4 = (if (nI (LNs.getD i0 0)) < x3 then (nI (LNs.getD i0 0)) else x3) → (((v3 < v4 → (w_J1_indexOfChar_4cfef (fun r6 s6 => post r6 s6) s1 i0 x1 v3 v4)) ∧ (¬ v3 < v4 → (post ((-1)) s1))))))) ∧ (r1 = 0 → (post ((-1)) s1)))) σ x1
theorem B_J1_indexOf_4cfef_0 (E : EnvW p s m args meth c D cy regsC ad "java/lang/StringLatin1" cJ1_indexOf_4cfef 4 (some .int)) (ha : Apart regsC ad) {post : Int32 → St → Prop} {σ : St} {i0 : Nat} {x1 : Int32} {x2 : Int32} {x3 : Int32} (hi0 : i0 < 14) (hw : w_J1_indexOf_4cfef post σ i0 x1 x2 x3) {H : Heap} {locs : List Loc} {ls : Array Slot} (hP : va_P D CLS (wC cy ad σ) H) (hS : va_S (AC ad s.heap.size) s.heap H locs) (hl : lv_has ls 4 [(0, .ref (ad 91 i0)), (1, .int x1), (2, .int x2), (3, .int x3)]) : W p l e rm_J1_indexOf_4cfef s m args below meth c H locs 0 0 (MQ below (QI D cy (cellC cy ad) regsC ad s.heap.size post) args s 0 0 (AC ad s.heap.size)) (F0 m 0 ls []) := by
  obtain ⟨hx, hb, -⟩ := id E
  unfold w_J1_indexOf_4cfef at hw
  refine lv_iload_n hx hb dJ1_indexOf_4cfef_0 rfl (lv_at hl 1 rfl) ?_
  refine g_cSi (As := [.int x1]) (rest := []) E hl.1 (c_J1_canEncode_9a6ad l D cy ad ha hw _) ok_J1_canEncode_9a6ad mw_786 ⟨(Nat.le_of_ble_eq_true rfl), (Nat.le_of_ble_eq_true rfl)⟩ ⟨rfl, rfl⟩ rfl rfl (Nat.le_of_ble_eq_true rfl) ⟨Nat.zero_le _, Nat.zero_le _⟩ hP hS dJ1_indexOf_4cfef_1 (fun r1 s1 hw H locs hP hS => ?_)
  obtain ⟨z1, hw⟩ := hw
  refine lv_if_ne (tgt := 9) hx hb dJ1_indexOf_4cfef_4 (by decide) (fun c2 => ?_) (fun c2 => ?_)
  · replace hw := hw.1 c2
    refine lv_iload_n hx hb dJ1_indexOf_4cfef_9 rfl (lv_at hl 2 rfl) ?_
    refine lv_iconst (v := 0) hx hb dJ1_indexOf_4cfef_10 (by decide) ?_
    refine g_max E hl.1 mw_789 mw_538 mw_85 mw_539 ⟨(Nat.le_of_ble_eq_true rfl), (Nat.le_of_ble_eq_true rfl)⟩ ⟨Nat.zero_le _, Nat.zero_le _⟩ dJ1_indexOf_4cfef_11 ?_
    refine lv_topi (fun v3 ev3 => ?_)
    replace hw := hw v3 ev3
    refine lv_istore_n (lv' := [(2, .int v3), (0, .ref (ad 91 i0)), (1, .int x1), (3, .int x3)]) hx hb dJ1_indexOf_4cfef_14 rfl hl (by decide) rfl (fun ls hl => ?_)
    refine lv_iload_n hx hb dJ1_indexOf_4cfef_15 rfl (lv_at hl 3 rfl) ?_
    refine lv_aload_n hx hb dJ1_indexOf_4cfef_16 rfl (lv_at hl 1 rfl) ?_
    refine g_strL hi0 E hS dJ1_indexOf_4cfef_17 ?_
    refine g_min E hl.1 mw_790 mw_444 mw_85 mw_445 ⟨(Nat.le_of_ble_eq_true rfl), (Nat.le_of_ble_eq_true rfl)⟩ ⟨Nat.zero_le _, Nat.zero_le _⟩ dJ1_indexOf_4cfef_18 ?_
    refine lv_topi (fun v4 ev4 => ?_)
    replace hw := hw v4 ev4
    refine lv_istore_n (lv' := [(3, .int v4), (2, .int v3), (0, .ref (ad 91 i0)), (1, .int x1)]) hx hb dJ1_indexOf_4cfef_21 rfl hl (by decide) rfl (fun ls hl => ?_)
    refine lv_iload_n hx hb dJ1_indexOf_4cfef_22 rfl (lv_at hl 1 rfl) ?_
    refine lv_iload_n hx hb dJ1_indexOf_4cfef_23 rfl (lv_at hl 0 rfl) ?_
    refine lv_icmp_lt (tgt := 29) hx hb dJ1_indexOf_4cfef_24 (by decide) (fun c5 => ?_) (fun c5 => ?_)
    · replace hw := hw.1 c5
      refine lv_aload_n hx hb dJ1_indexOf_4cfef_29 rfl (lv_at hl 2 rfl) ?_
      refine lv_iload_n hx hb dJ1_indexOf_4cfef_30 rfl (lv_at hl 3 rfl) ?_
      refine lv_iload_n hx hb dJ1_indexOf_4cfef_31 rfl (lv_at hl 1 rfl) ?_
      refine lv_iload_n hx hb dJ1_indexOf_4cfef_32 rfl (lv_at hl 0 rfl) ?_
      refine g_cSi (As := [.ref (ad 91 i0), .int x1, .int v3, .int v4]) (rest := []) E hl.1 (c_J1_indexOfChar_4cfef l D cy ad ha hi0 hw _) ok_J1_indexOfChar_4cfef mw_791 ⟨(Nat.le_of_ble_eq_true rfl), (Nat.le_of_ble_eq_true rfl)⟩ ⟨rfl, rfl⟩ rfl rfl (Nat.le_of_ble_eq_true rfl) ⟨Nat.zero_le _, Nat.zero_le _⟩ hP hS dJ1_indexOf_4cfef_33 (fun r6 s6 hw H locs hP hS => ?_)
      exact g_iret E hw hP hS dJ1_indexOf_4cfef_36
    · replace hw := hw.2 c5
      refine lv_iconst (v := -1) hx hb dJ1_indexOf_4cfef_27 (by decide) ?_
      exact g_iret E hw hP hS dJ1_indexOf_4cfef_28
  · replace hw := hw.2 c2
    refine lv_iconst (v := -1) hx hb dJ1_indexOf_4cfef_7 (by decide) ?_
    exact g_iret E hw hP hS dJ1_indexOf_4cfef_8
theorem c_J1_indexOf_4cfef (l : Launch) (D : va_G) (cy : Nat → ClassId) (ad : Nat → Nat → Nat) (ha : Apart regsC ad) {post : Int32 → St → Prop} {σ : St} {i0 : Nat} {x1 : Int32} {x2 : Int32} {x3 : Int32} (hi0 : i0 < 14) (hw : w_J1_indexOf_4cfef post σ i0 x1 x2 x3) (sz : Nat) : MetI l yJ1_indexOf_4cfef cJ1_indexOf_4cfef 4 .int rm_J1_indexOf_4cfef [.ref (ad 91 i0), .int x1, .int x2, .int x3] D cy (cellC cy ad) regsC ad σ sz post :=
  Met_inI ok_J1_indexOf_4cfef.2.2.2.2 (Nat.le_of_ble_eq_true rfl) (fun p e s m below meth c ls E hP hl => B_J1_indexOf_4cfef_0 E ha hi0 hw hP va_S.rf hl)
-- java/lang/String.indexOf(II)I
theorem dJ0_indexOf_7cf53_0 : decode cJ0_indexOf_7cf53 0 = .ok (.aload_n 0, 1) := by decide +kernel
theorem dJ0_indexOf_7cf53_1 : decode cJ0_indexOf_7cf53 1 = .ok (.invokevirtual 492, 3) := by decide +kernel
theorem dJ0_indexOf_7cf53_4 : decode cJ0_indexOf_7cf53 4 = .ok (.ifCond .eq 19, 3) := by decide +kernel
theorem dJ0_indexOf_7cf53_7 : decode cJ0_indexOf_7cf53 7 = .ok (.aload_n 0, 1) := by decide +kernel
theorem dJ0_indexOf_7cf53_8 : decode cJ0_indexOf_7cf53 8 = .ok (.getfield 9, 3) := by decide +kernel
theorem dJ0_indexOf_7cf53_11 : decode cJ0_indexOf_7cf53 11 = .ok (.iload_n 1, 1) := by decide +kernel
theorem dJ0_indexOf_7cf53_12 : decode cJ0_indexOf_7cf53 12 = .ok (.iload_n 2, 1) := by decide +kernel
theorem dJ0_indexOf_7cf53_13 : decode cJ0_indexOf_7cf53 13 = .ok (.aload_n 0, 1) := by decide +kernel
theorem dJ0_indexOf_7cf53_14 : decode cJ0_indexOf_7cf53 14 = .ok (.invokevirtual 505, 3) := by decide +kernel
theorem dJ0_indexOf_7cf53_17 : decode cJ0_indexOf_7cf53 17 = .ok (.invokestatic 637, 3) := by decide +kernel
theorem dJ0_indexOf_7cf53_20 : decode cJ0_indexOf_7cf53 20 = .ok (.goto 16, 3) := by decide +kernel
theorem dJ0_indexOf_7cf53_23 : decode cJ0_indexOf_7cf53 23 = .ok (.aload_n 0, 1) := by decide +kernel
theorem dJ0_indexOf_7cf53_24 : decode cJ0_indexOf_7cf53 24 = .ok (.getfield 9, 3) := by decide +kernel
theorem dJ0_indexOf_7cf53_27 : decode cJ0_indexOf_7cf53 27 = .ok (.iload_n 1, 1) := by decide +kernel
theorem dJ0_indexOf_7cf53_28 : decode cJ0_indexOf_7cf53 28 = .ok (.iload_n 2, 1) := by decide +kernel
theorem dJ0_indexOf_7cf53_29 : decode cJ0_indexOf_7cf53 29 = .ok (.aload_n 0, 1) := by decide +kernel
theorem dJ0_indexOf_7cf53_30 : decode cJ0_indexOf_7cf53 30 = .ok (.invokevirtual 505, 3) := by decide +kernel
theorem dJ0_indexOf_7cf53_33 : decode cJ0_indexOf_7cf53 33 = .ok (.invokestatic 640, 3) := by decide +kernel
theorem dJ0_indexOf_7cf53_36 : decode cJ0_indexOf_7cf53 36 = .ok (.ireturn, 1) := by decide +kernel
theorem ok_J0_indexOf_7cf53 : okV yJ0_indexOf_7cf53 cJ0_indexOf_7cf53 3 (some .int) 2 := ⟨mw_779, mw_780, mw_88, mw_781, by decide +kernel, by decide +kernel⟩
abbrev rm_J0_indexOf_7cf53 : Room := { frames := 2, cells := 0, slots := 0, locals := 48 }
def w_J0_indexOf_7cf53 (post : Int32 → St → Prop) (σ : St) (i0 : Nat) (x1 : Int32) (x2 : Int32) : Prop := w_J0_isLatin1_aae02 (fun r1 s1 => ((r1 = 0 → (w_J0_length_8abf5 (fun r3 s3 => False) s1 i0)) ∧ (¬ r1 = 0 → (w_J0_length_8abf5 (fun r4 s4 => w_J1_indexOf_4cfef (fun r5 s5 => post r5 s5) s4 i0 x1 x2 r4) s1 i0)))) σ i0
theorem B_J0_indexOf_7cf53_0 (E : EnvW p s m args meth c D cy regsC ad "java/lang/String" cJ0_indexOf_7cf53 3 (some .int)) (ha : Apart regsC ad) {post : Int32 → St → Prop} {σ : St} {i0 : Nat} {x1 : Int32} {x2 : Int32} (hi0 : i0 < 14) (hw : w_J0_indexOf_7cf53 post σ i0 x1 x2) {H : Heap} {locs : List Loc} {ls : Array Slot} (hP : va_P D CLS (wC cy ad σ) H) (hS : va_S (AC ad s.heap.size) s.heap H locs) (hl : lv_has ls 3 [(0, .ref (ad 90 i0)), (1, .int x1), (2, .int x2)]) : W p l e rm_J0_indexOf_7cf53 s m args below meth c H locs 0 0 (MQ below (QI D cy (cellC cy ad) regsC ad s.heap.size post) args s 0 0 (AC ad s.heap.size)) (F0 m 0 ls []) := by
  obtain ⟨hx, hb, -⟩ := id E
  unfold w_J0_indexOf_7cf53 at hw
  refine lv_aload_n hx hb dJ0_indexOf_7cf53_0 rfl (lv_at hl 0 rfl) ?_
  refine g_cTi (As := []) (rest := []) hi0 rfl E hl.1 (c_J0_isLatin1_aae02 l D cy ad ha hi0 hw _) ok_J0_isLatin1_aae02 mw_719 ⟨(Nat.le_of_ble_eq_true rfl), (Nat.le_of_ble_eq_true rfl)⟩ ⟨rfl, rfl⟩ rfl rfl (Nat.le_of_ble_eq_true rfl) ⟨Nat.zero_le _, Nat.zero_le _⟩ hP hS dJ0_indexOf_7cf53_1 (fun r1 s1 hw H locs hP hS => ?_)
  obtain ⟨z1, hw⟩ := hw
  refine lv_if_eq (tgt := 23) hx hb dJ0_indexOf_7cf53_4 (by decide) (fun c2 => ?_) (fun c2 => ?_)
  · replace hw := hw.1 c2
    refine lv_aload_n hx hb dJ0_indexOf_7cf53_23 rfl (lv_at hl 0 rfl) ?_
    refine g_strV hi0 E hS mw_1438 dJ0_indexOf_7cf53_24 ?_
    refine lv_iload_n hx hb dJ0_indexOf_7cf53_27 rfl (lv_at hl 1 rfl) ?_
    refine lv_iload_n hx hb dJ0_indexOf_7cf53_28 rfl (lv_at hl 2 rfl) ?_
    refine lv_aload_n hx hb dJ0_indexOf_7cf53_29 rfl (lv_at hl 0 rfl) ?_
    refine g_cTi (As := []) (rest := [.int x2, .int x1, .ref (ad 91 i0)]) hi0 rfl E hl.1 (c_J0_length_8abf5 l D cy ad ha hi0 hw _) ok_J0_length_8abf5 mw_782 ⟨(Nat.le_of_ble_eq_true rfl), (Nat.le_of_ble_eq_true rfl)⟩ ⟨rfl, rfl⟩ rfl rfl (Nat.le_of_ble_eq_true rfl) ⟨Nat.zero_le _, Nat.zero_le _⟩ hP hS dJ0_indexOf_7cf53_30 (fun r3 s3 hw H locs hP hS => ?_)
    exact hw.elim
  · replace hw := hw.2 c2
    refine lv_aload_n hx hb dJ0_indexOf_7cf53_7 rfl (lv_at hl 0 rfl) ?_
    refine g_strV hi0 E hS mw_1438 dJ0_indexOf_7cf53_8 ?_
    refine lv_iload_n hx hb dJ0_indexOf_7cf53_11 rfl (lv_at hl 1 rfl) ?_
    refine lv_iload_n hx hb dJ0_indexOf_7cf53_12 rfl (lv_at hl 2 rfl) ?_
    refine lv_aload_n hx hb dJ0_indexOf_7cf53_13 rfl (lv_at hl 0 rfl) ?_
    refine g_cTi (As := []) (rest := [.int x2, .int x1, .ref (ad 91 i0)]) hi0 rfl E hl.1 (c_J0_length_8abf5 l D cy ad ha hi0 hw _) ok_J0_length_8abf5 mw_782 ⟨(Nat.le_of_ble_eq_true rfl), (Nat.le_of_ble_eq_true rfl)⟩ ⟨rfl, rfl⟩ rfl rfl (Nat.le_of_ble_eq_true rfl) ⟨Nat.zero_le _, Nat.zero_le _⟩ hP hS dJ0_indexOf_7cf53_14 (fun r4 s4 hw H locs hP hS => ?_)
    refine g_cSi (As := [.ref (ad 91 i0), .int x1, .int x2, .int r4]) (rest := []) E hl.1 (c_J1_indexOf_4cfef l D cy ad ha hi0 hw _) ok_J1_indexOf_4cfef mw_783 ⟨(Nat.le_of_ble_eq_true rfl), (Nat.le_of_ble_eq_true rfl)⟩ ⟨rfl, rfl⟩ rfl rfl (Nat.le_of_ble_eq_true rfl) ⟨Nat.zero_le _, Nat.zero_le _⟩ hP hS dJ0_indexOf_7cf53_17 (fun r5 s5 hw H locs hP hS => ?_)
    refine lv_goto (tgt := 36) hx hb dJ0_indexOf_7cf53_20 (by decide) ?_
    exact g_iret E hw hP hS dJ0_indexOf_7cf53_36
theorem c_J0_indexOf_7cf53 (l : Launch) (D : va_G) (cy : Nat → ClassId) (ad : Nat → Nat → Nat) (ha : Apart regsC ad) {post : Int32 → St → Prop} {σ : St} {i0 : Nat} {x1 : Int32} {x2 : Int32} (hi0 : i0 < 14) (hw : w_J0_indexOf_7cf53 post σ i0 x1 x2) (sz : Nat) : MetI l yJ0_indexOf_7cf53 cJ0_indexOf_7cf53 3 .int rm_J0_indexOf_7cf53 [.ref (ad 90 i0), .int x1, .int x2] D cy (cellC cy ad) regsC ad σ sz post :=
  Met_inI ok_J0_indexOf_7cf53.2.2.2.2.2 (Nat.le_of_ble_eq_true rfl) (fun p e s m below meth c ls E hP hl => B_J0_indexOf_7cf53_0 E ha hi0 hw hP va_S.rf hl)
-- java/lang/String.indexOf(I)I
theorem dJ0_indexOf_0f7a4_0 : decode cJ0_indexOf_0f7a4 0 = .ok (.aload_n 0, 1) := by decide +kernel
theorem dJ0_indexOf_0f7a4_1 : decode cJ0_indexOf_0f7a4 1 = .ok (.iload_n 1, 1) := by decide +kernel
theorem dJ0_indexOf_0f7a4_2 : decode cJ0_indexOf_0f7a4 2 = .ok (.iconst 0, 1) := by decide +kernel
theorem dJ0_indexOf_0f7a4_3 : decode cJ0_indexOf_0f7a4 3 = .ok (.invokevirtual 633, 3) := by decide +kernel
theorem dJ0_indexOf_0f7a4_6 : decode cJ0_indexOf_0f7a4 6 = .ok (.ireturn, 1) := by decide +kernel
theorem ok_J0_indexOf_0f7a4 : okV yJ0_indexOf_0f7a4 cJ0_indexOf_0f7a4 2 (some .int) 1 := ⟨mw_775, mw_776, mw_88, mw_777, by decide +kernel, by decide +kernel⟩
abbrev rm_J0_indexOf_0f7a4 : Room := { frames := 3, cells := 0, slots := 0, locals := 70 }
def w_J0_indexOf_0f7a4 (post : Int32 → St → Prop) (σ : St) (i0 : Nat) (x1 : Int32) : Prop := w_J0_indexOf_7cf53 (fun r1 s1 => post r1 s1) σ i0 x1 (0 : Int32)
theorem B_J0_indexOf_0f7a4_0 (E : EnvW p s m args meth c D cy regsC ad "java/lang/String" cJ0_indexOf_0f7a4 2 (some .int)) (ha : Apart regsC ad) {post : Int32 → St → Prop} {σ : St} {i0 : Nat} {x1 : Int32} (hi0 : i0 < 14) (hw : w_J0_indexOf_0f7a4 post σ i0 x1) {H : Heap} {locs : List Loc} {ls : Array Slot} (hP : va_P D CLS (wC cy ad σ) H) (hS : va_S (AC ad s.heap.size) s.heap H locs) (hl : lv_has ls 2 [(0, .ref (ad 90 i0)), (1, .int x1)]) : W p l e rm_J0_indexOf_0f7a4 s m args below meth c H locs 0 0 (MQ below (QI D cy (cellC cy ad) regsC ad s.heap.size post) args s 0 0 (AC ad s.heap.size)) (F0 m 0 ls []) := by
  obtain ⟨hx, hb, -⟩ := id E
  unfold w_J0_indexOf_0f7a4 at hw
  refine lv_aload_n hx hb dJ0_indexOf_0f7a4_0 rfl (lv_at hl 0 rfl) ?_
  refine lv_iload_n hx hb dJ0_indexOf_0f7a4_1 rfl (lv_at hl 1 rfl) ?_
  refine lv_iconst (v := 0) hx hb dJ0_indexOf_0f7a4_2 (by decide) ?_
  refine g_cTi (As := [.int x1, .int 0]) (rest := []) hi0 rfl E hl.1 (c_J0_indexOf_7cf53 l D cy ad ha hi0 hw _) ok_J0_indexOf_7cf53 mw_778 ⟨(Nat.le_of_ble_eq_true rfl), (Nat.le_of_ble_eq_true rfl)⟩ ⟨rfl, rfl⟩ rfl rfl (Nat.le_of_ble_eq_true rfl) ⟨Nat.zero_le _, Nat.zero_le _⟩ hP hS dJ0_indexOf_0f7a4_3 (fun r1 s1 hw H locs hP hS => ?_)
  exact g_iret E hw hP hS dJ0_indexOf_0f7a4_6
theorem c_J0_indexOf_0f7a4 (l : Launch) (D : va_G) (cy : Nat → ClassId) (ad : Nat → Nat → Nat) (ha : Apart regsC ad) {post : Int32 → St → Prop} {σ : St} {i0 : Nat} {x1 : Int32} (hi0 : i0 < 14) (hw : w_J0_indexOf_0f7a4 post σ i0 x1) (sz : Nat) : MetI l yJ0_indexOf_0f7a4 cJ0_indexOf_0f7a4 2 .int rm_J0_indexOf_0f7a4 [.ref (ad 90 i0), .int x1] D cy (cellC cy ad) regsC ad σ sz post :=
  Met_inI ok_J0_indexOf_0f7a4.2.2.2.2.2 (Nat.le_of_ble_eq_true rfl) (fun p e s m below meth c ls E hP hl => B_J0_indexOf_0f7a4_0 E ha hi0 hw hP va_S.rf hl)
-- RoofWar$Reader.isSign(Ljava/lang/String;)Z
theorem dX5_isSign_0 : decode cX5_isSign 0 = .ok (.aload_n 0, 1) := by decide +kernel
theorem dX5_isSign_1 : decode cX5_isSign 1 = .ok (.getfield 24, 3) := by decide +kernel
theorem dX5_isSign_4 : decode cX5_isSign 4 = .ok (.iconst 3, 1) := by decide +kernel
theorem dX5_isSign_5 : decode cX5_isSign 5 = .ok (.if_icmp .ne 27, 3) := by decide +kernel
theorem dX5_isSign_8 : decode cX5_isSign 8 = .ok (.aload_n 1, 1) := by decide +kernel
theorem dX5_isSign_9 : decode cX5_isSign 9 = .ok (.aload_n 0, 1) := by decide +kernel
theorem dX5_isSign_10 : decode cX5_isSign 10 = .ok (.getfield 9, 3) := by decide +kernel
theorem dX5_isSign_13 : decode cX5_isSign 13 = .ok (.getfield 56, 3) := by decide +kernel
theorem dX5_isSign_16 : decode cX5_isSign 16 = .ok (.aload_n 0, 1) := by decide +kernel
theorem dX5_isSign_17 : decode cX5_isSign 17 = .ok (.getfield 48, 3) := by decide +kernel
theorem dX5_isSign_20 : decode cX5_isSign 20 = .ok (.iaload, 1) := by decide +kernel
theorem dX5_isSign_21 : decode cX5_isSign 21 = .ok (.i2c, 1) := by decide +kernel
theorem dX5_isSign_22 : decode cX5_isSign 22 = .ok (.invokevirtual 95, 3) := by decide +kernel
theorem dX5_isSign_25 : decode cX5_isSign 25 = .ok (.ifCond .lt 7, 3) := by decide +kernel
theorem dX5_isSign_28 : decode cX5_isSign 28 = .ok (.iconst 1, 1) := by decide +kernel
theorem dX5_isSign_29 : decode cX5_isSign 29 = .ok (.goto 4, 3) := by decide +kernel
theorem dX5_isSign_32 : decode cX5_isSign 32 = .ok (.iconst 0, 1) := by decide +kernel
theorem dX5_isSign_33 : decode cX5_isSign 33 = .ok (.ireturn, 1) := by decide +kernel
theorem ok_X5_isSign : okV yX5_isSign cX5_isSign 2 (some .boolean) 1 := ⟨mw_830, mw_18, mw_80, mw_831, by decide +kernel, by decide +kernel⟩
abbrev rm_X5_isSign : Room := { frames := 4, cells := 0, slots := 0, locals := 91 }
def w_X5_isSign (post : Int32 → St → Prop) (σ : St) (i1 : Nat) : Prop := ((¬ (σ 21 0 0) = 3 → (post 0 σ)) ∧ ((σ 21 0 0) = 3 → (vp_in (σ 21 0 1) 96 ∧ (w_J0_indexOf_0f7a4 (fun r3 s3 => ((r3 < 0 → (post 0 s3)) ∧ (¬ r3 < 0 → (post 1 s3)))) σ i1 (((σ 20 0 (σ 21 0 1).toNatClampNeg).toUInt32 % 65536).toInt32)))))
theorem B_X5_isSign_0 (E : EnvW p s m args meth c D cy regsC ad "RoofWar$Reader" cX5_isSign 2 (some .boolean)) (ha : Apart regsC ad) {post : Int32 → St → Prop} {σ : St} {i1 : Nat} (hi1 : i1 < 14) (hw : w_X5_isSign post σ i1) {H : Heap} {locs : List Loc} {ls : Array Slot} (hP : va_P D CLS (wC cy ad σ) H) (hS : va_S (AC ad s.heap.size) s.heap H locs) (hl : lv_has ls 2 [(0, .ref (ad 21 0)), (1, .ref (ad 90 i1))]) : W p l e rm_X5_isSign s m args below meth c H locs 0 0 (MQ below (QI D cy (cellC cy ad) regsC ad s.heap.size (fun r u => (r = 0 ∨ r = 1) ∧ post r u)) args s 0 0 (AC ad s.heap.size)) (F0 m 0 ls []) := by
  obtain ⟨hx, hb, -⟩ := id E
  unfold w_X5_isSign at hw
  refine lv_aload_n hx hb dX5_isSign_0 rfl (lv_at hl 0 rfl) ?_
  refine fX5_2 E hP mw_262 dX5_isSign_1 ?_
  refine lv_iconst (v := 3) hx hb dX5_isSign_4 (by decide) ?_
  refine lv_icmp_ne (tgt := 32) hx hb dX5_isSign_5 (by decide) (fun c1 => ?_) (fun c1 => ?_)
  · replace hw := hw.1 c1
    refine lv_iconst (v := 0) hx hb dX5_isSign_32 (by decide) ?_
    exact g_zret E (Or.inl rfl) hw hP hS dX5_isSign_33
  · replace hw := hw.2 c1
    refine lv_aload_n hx hb dX5_isSign_8 rfl (lv_at hl 1 rfl) ?_
    refine lv_aload_n hx hb dX5_isSign_9 rfl (lv_at hl 0 rfl) ?_
    refine fX5_0 E hP mw_260 dX5_isSign_10 ?_
    refine fX8_0 E hP mw_245 dX5_isSign_13 ?_
    refine lv_aload_n hx hb dX5_isSign_16 rfl (lv_at hl 0 rfl) ?_
    refine fX5_3 E hP mw_263 dX5_isSign_17 ?_
    obtain ⟨h2, hw⟩ := hw
    refine aC20 E hP h2 dX5_isSign_20 ?_
    refine lv_i2c (v := ((σ 20 0 (σ 21 0 1).toNatClampNeg).toUInt32 % 65536).toInt32) hx hb dX5_isSign_21 rfl ?_
    refine g_cTi (As := [.int (((σ 20 0 (σ 21 0 1).toNatClampNeg).toUInt32 % 65536).toInt32)]) (rest := []) hi1 rfl E hl.1 (c_J0_indexOf_0f7a4 l D cy ad ha hi1 hw _) ok_J0_indexOf_0f7a4 mw_774 ⟨(Nat.le_of_ble_eq_true rfl), (Nat.le_of_ble_eq_true rfl)⟩ ⟨rfl, rfl⟩ rfl rfl (Nat.le_of_ble_eq_true rfl) ⟨Nat.zero_le _, Nat.zero_le _⟩ hP hS dX5_isSign_22 (fun r3 s3 hw H locs hP hS => ?_)
    refine lv_if_lt (tgt := 32) hx hb dX5_isSign_25 (by decide) (fun c4 => ?_) (fun c4 => ?_)
    · replace hw := hw.1 c4
      refine lv_iconst (v := 0) hx hb dX5_isSign_32 (by decide) ?_
      exact g_zret E (Or.inl rfl) hw hP hS dX5_isSign_33
    · replace hw := hw.2 c4
      refine lv_iconst (v := 1) hx hb dX5_isSign_28 (by decide) ?_
      refine lv_goto (tgt := 33) hx hb dX5_isSign_29 (by decide) ?_
      exact g_zret E (Or.inr rfl) hw hP hS dX5_isSign_33
theorem c_X5_isSign (l : Launch) (D : va_G) (cy : Nat → ClassId) (ad : Nat → Nat → Nat) (ha : Apart regsC ad) {post : Int32 → St → Prop} {σ : St} {i1 : Nat} (hi1 : i1 < 14) (hw : w_X5_isSign post σ i1) (sz : Nat) : MetI l yX5_isSign cX5_isSign 2 .boolean rm_X5_isSign [.ref (ad 21 0), .ref (ad 90 i1)] D cy (cellC cy ad) regsC ad σ sz (fun r u => (r = 0 ∨ r = 1) ∧ post r u) :=
  Met_inI ok_X5_isSign.2.2.2.2.2 (Nat.le_of_ble_eq_true rfl) (fun p e s m below meth c ls E hP hl => B_X5_isSign_0 E ha hi1 hw hP va_S.rf hl)
-- RoofWar$Reader.readKey()Z
theorem dX5_readKey_0 : decode cX5_readKey 0 = .ok (.iconst 0, 1) := by decide +kernel
theorem dX5_readKey_1 : decode cX5_readKey 1 = .ok (.istore_n 1, 1) := by decide +kernel
theorem dX5_readKey_2 : decode cX5_readKey 2 = .ok (.iload_n 1, 1) := by decide +kernel
theorem dX5_readKey_3 : decode cX5_readKey 3 = .ok (.iconst 3, 1) := by decide +kernel
theorem dX5_readKey_4 : decode cX5_readKey 4 = .ok (.if_icmp .ge 34, 3) := by decide +kernel
theorem dX5_readKey_7 : decode cX5_readKey 7 = .ok (.aload_n 0, 1) := by decide +kernel
theorem dX5_readKey_8 : decode cX5_readKey 8 = .ok (.iload_n 1, 1) := by decide +kernel
theorem dX5_readKey_9 : decode cX5_readKey 9 = .ok (.invokestatic 98, 3) := by decide +kernel
theorem dX5_readKey_12 : decode cX5_readKey 12 = .ok (.invokevirtual 102, 3) := by decide +kernel
theorem dX5_readKey_15 : decode cX5_readKey 15 = .ok (.ifCond .eq 17, 3) := by decide +kernel
theorem dX5_readKey_18 : decode cX5_readKey 18 = .ok (.aload_n 0, 1) := by decide +kernel
theorem dX5_readKey_19 : decode cX5_readKey 19 = .ok (.getfield 15, 3) := by decide +kernel
theorem dX5_readKey_22 : decode cX5_readKey 22 = .ok (.iload_n 1, 1) := by decide +kernel
theorem dX5_readKey_23 : decode cX5_readKey 23 = .ok (.putfield 106, 3) := by decide +kernel
theorem dX5_readKey_26 : decode cX5_readKey 26 = .ok (.aload_n 0, 1) := by decide +kernel
theorem dX5_readKey_27 : decode cX5_readKey 27 = .ok (.invokevirtual 37, 3) := by decide +kernel
theorem dX5_readKey_30 : decode cX5_readKey 30 = .ok (.iconst 1, 1) := by decide +kernel
theorem dX5_readKey_31 : decode cX5_readKey 31 = .ok (.ireturn, 1) := by decide +kernel
theorem dX5_readKey_32 : decode cX5_readKey 32 = .ok (.iinc 1 1, 3) := by decide +kernel
theorem dX5_readKey_35 : decode cX5_readKey 35 = .ok (.goto (-33), 3) := by decide +kernel
theorem dX5_readKey_38 : decode cX5_readKey 38 = .ok (.iconst 0, 1) := by decide +kernel
theorem dX5_readKey_39 : decode cX5_readKey 39 = .ok (.ireturn, 1) := by decide +kernel
theorem ok_X5_readKey : okV yX5_readKey cX5_readKey 2 (some .boolean) 0 := ⟨mw_698, mw_10, mw_80, mw_699, by decide +kernel, by decide +kernel⟩
abbrev rm_X5_readKey : Room := { frames := 5, cells := 0, slots := 0, locals := 107 }
def b_X5_readKey_2 (K2 : St → Int32 → Prop) (post : Int32 → St → Prop) (σ : St) (x1 : Int32) : Prop := ((3 ≤ x1 → (post 0 σ)) ∧ (¬ 3 ≤ x1 → (w_X5_keyWord (fun r2 s2 => w_X5_isWord (fun r3 s3 => ((r3 = 0 → (∀ v5 : Int32, v5 = x1 + 1 → (K2 s3 v5))) ∧ (¬ r3 = 0 → (vp_in (s3 21 0 5) 15 ∧ (∀ s7 : St, s7 = wr s3 17 ((s3 21 0 5).toNatClampNeg) 0 x1 → (w_X5_step (fun s8 => post 1 s8) s7)))))) s2 r2) σ x1)))
noncomputable def l_X5_readKey_2 (post : Int32 → St → Prop) : Nat → St → Int32 → Prop := fun n => Nat.rec (motive := fun _ => St → Int32 → Prop) (fun _ _ => False) (fun _ ih => b_X5_readKey_2 ih post) n
theorem L_X5_readKey_2 (E : EnvW p s m args meth c D cy regsC ad "RoofWar$Reader" cX5_readKey 2 (some .boolean)) (ha : Apart regsC ad) {post : Int32 → St → Prop} : ∀ (n : Nat), ∀ (σ : St) (x1 : Int32), l_X5_readKey_2 post n σ x1 → ∀ (H : Heap) (locs : List Loc) (ls : Array Slot), va_P D CLS (wC cy ad σ) H → va_S (AC ad s.heap.size) s.heap H locs → lv_has ls 2 [(0, .ref (ad 21 0)), (1, .int x1)] → W p l e rm_X5_readKey s m args below meth c H locs 0 0 (MQ below (QI D cy (cellC cy ad) regsC ad s.heap.size (fun r u => (r = 0 ∨ r = 1) ∧ post r u)) args s 0 0 (AC ad s.heap.size)) (F0 m 2 ls []) := by
  obtain ⟨hx, hb, -⟩ := id E
  intro n
  induction n with
  | zero => intro σ x1 hw; exact hw.elim
  | succ n hk2 =>
    intro σ x1 hw H locs ls hP hS hl
    replace hw : b_X5_readKey_2 (l_X5_readKey_2 post n) post σ x1 := hw
    unfold b_X5_readKey_2 at hw
    refine lv_iload_n hx hb dX5_readKey_2 rfl (lv_at hl 1 rfl) ?_
    refine lv_iconst (v := 3) hx hb dX5_readKey_3 (by decide) ?_
    refine lv_icmp_ge (tgt := 38) hx hb dX5_readKey_4 (by decide) (fun c1 => ?_) (fun c1 => ?_)
    · replace hw := hw.1 c1
      refine lv_iconst (v := 0) hx hb dX5_readKey_38 (by decide) ?_
      exact g_zret E (Or.inl rfl) hw hP hS dX5_readKey_39
    · replace hw := hw.2 c1
      refine lv_aload_n hx hb dX5_readKey_7 rfl (lv_at hl 0 rfl) ?_
      refine lv_iload_n hx hb dX5_readKey_8 rfl (lv_at hl 1 rfl) ?_
      refine g_cSr (As := [.int x1]) (rest := [.ref (ad 21 0)]) E hl.1 (c_X5_keyWord l D cy ad ha hw _) ok_X5_keyWord mw_700 ⟨(Nat.le_of_ble_eq_true rfl), (Nat.le_of_ble_eq_true rfl)⟩ ⟨rfl, rfl⟩ rfl rfl (Nat.le_of_ble_eq_true rfl) ⟨Nat.zero_le _, Nat.zero_le _⟩ hP hS dX5_readKey_9 (fun r2 s2 hw H locs hP hS => ?_)
      obtain ⟨b2, hw⟩ := hw
      refine g_cVi (As := [.ref (ad 90 r2)]) (rest := []) E hl.1 (c_X5_isWord l D cy ad ha b2 hw _) ok_X5_isWord mw_703 ⟨(Nat.le_of_ble_eq_true rfl), (Nat.le_of_ble_eq_true rfl)⟩ ⟨rfl, rfl⟩ rC21 rfl rfl rfl rfl rfl (Nat.le_of_ble_eq_true rfl) ⟨Nat.zero_le _, Nat.zero_le _⟩ hP hS dX5_readKey_12 (fun r3 s3 hw H locs hP hS => ?_)
      obtain ⟨z3, hw⟩ := hw
      refine lv_if_eq (tgt := 32) hx hb dX5_readKey_15 (by decide) (fun c4 => ?_) (fun c4 => ?_)
      · replace hw := hw.1 c4
        obtain ⟨v5, ev5⟩ : ∃ y : Int32, y = x1 + 1 := ⟨_, rfl⟩
        replace hw := hw v5 ev5
        refine lv_iinc (v := v5) (lv' := [(1, .int v5), (0, .ref (ad 21 0))]) hx hb dX5_readKey_32 hl (k := 1) rfl (by rw [ev5]; rfl) (by decide) rfl (fun ls hl => ?_)
        refine lv_goto (tgt := 2) hx hb dX5_readKey_35 (by decide) ?_
        exact hk2 s3 v5 hw _ _ _ hP hS (lv_sub hl [1, 0] rfl)
      · replace hw := hw.2 c4
        refine lv_aload_n hx hb dX5_readKey_18 rfl (lv_at hl 0 rfl) ?_
        obtain ⟨h6, hw⟩ := hw
        refine fX5_1 E hP mw_261 h6 dX5_readKey_19 ?_
        refine lv_iload_n hx hb dX5_readKey_22 rfl (lv_at hl 1 rfl) ?_
        refine uX3_0 ((vp_lt h6)) E ha mw_113 dX5_readKey_23 hP hS (fun s7 es7 H locs hP hS => ?_)
        replace hw := hw s7 es7
        refine lv_aload_n hx hb dX5_readKey_26 rfl (lv_at hl 0 rfl) ?_
        refine g_cVv (As := []) (rest := []) E hl.1 (c_X5_step l D cy ad ha hw _) ok_X5_step mw_691 ⟨(Nat.le_of_ble_eq_true rfl), (Nat.le_of_ble_eq_true rfl)⟩ ⟨rfl, rfl⟩ rC21 rfl rfl rfl rfl rfl (Nat.le_of_ble_eq_true rfl) ⟨Nat.zero_le _, Nat.zero_le _⟩ hP hS dX5_readKey_27 (fun s8 hw H locs hP hS => ?_)
        refine lv_iconst (v := 1) hx hb dX5_readKey_30 (by decide) ?_
        exact g_zret E (Or.inr rfl) hw hP hS dX5_readKey_31
def w_X5_readKey (post : Int32 → St → Prop) (σ : St) : Prop := ∃ n1 : Nat, l_X5_readKey_2 post n1 σ (0 : Int32)
theorem B_X5_readKey_0 (E : EnvW p s m args meth c D cy regsC ad "RoofWar$Reader" cX5_readKey 2 (some .boolean)) (ha : Apart regsC ad) {post : Int32 → St → Prop} {σ : St} (hw : w_X5_readKey post σ) {H : Heap} {locs : List Loc} {ls : Array Slot} (hP : va_P D CLS (wC cy ad σ) H) (hS : va_S (AC ad s.heap.size) s.heap H locs) (hl : lv_has ls 2 [(0, .ref (ad 21 0))]) : W p l e rm_X5_readKey s m args below meth c H locs 0 0 (MQ below (QI D cy (cellC cy ad) regsC ad s.heap.size (fun r u => (r = 0 ∨ r = 1) ∧ post r u)) args s 0 0 (AC ad s.heap.size)) (F0 m 0 ls []) := by
  obtain ⟨hx, hb, -⟩ := id E
  unfold w_X5_readKey at hw
  refine lv_iconst (v := 0) hx hb dX5_readKey_0 (by decide) ?_
  refine lv_istore_n (lv' := [(1, .int 0), (0, .ref (ad 21 0))]) hx hb dX5_readKey_1 rfl hl (by decide) rfl (fun ls hl => ?_)
  obtain ⟨n1, hw⟩ := hw
  exact L_X5_readKey_2 E ha n1 σ (0 : Int32) hw _ _ _ hP hS (lv_sub hl [1, 0] rfl)
theorem c_X5_readKey (l : Launch) (D : va_G) (cy : Nat → ClassId) (ad : Nat → Nat → Nat) (ha : Apart regsC ad) {post : Int32 → St → Prop} {σ : St} (hw : w_X5_readKey post σ) (sz : Nat) : MetI l yX5_readKey cX5_readKey 2 .boolean rm_X5_readKey [.ref (ad 21 0)] D cy (cellC cy ad) regsC ad σ sz (fun r u => (r = 0 ∨ r = 1) ∧ post r u) :=
  Met_inI ok_X5_readKey.2.2.2.2.2 (Nat.le_of_ble_eq_true rfl) (fun p e s m below meth c ls E hP hl => B_X5_readKey_0 E ha hw hP va_S.rf hl)
-- RoofWar$Reader.number()I
theorem dX5_number_0 : decode cX5_number 0 = .ok (.iconst 0, 1) := by decide +kernel
theorem dX5_number_1 : decode cX5_number 1 = .ok (.istore_n 1, 1) := by decide +kernel
theorem dX5_number_2 : decode cX5_number 2 = .ok (.aload_n 0, 1) := by decide +kernel
theorem dX5_number_3 : decode cX5_number 3 = .ok (.getfield 48, 3) := by decide +kernel
theorem dX5_number_6 : decode cX5_number 6 = .ok (.istore_n 2, 1) := by decide +kernel
theorem dX5_number_7 : decode cX5_number 7 = .ok (.iload_n 2, 1) := by decide +kernel
theorem dX5_number_8 : decode cX5_number 8 = .ok (.aload_n 0, 1) := by decide +kernel
theorem dX5_number_9 : decode cX5_number 9 = .ok (.getfield 28, 3) := by decide +kernel
theorem dX5_number_12 : decode cX5_number 12 = .ok (.if_icmp .ge 27, 3) := by decide +kernel
theorem dX5_number_15 : decode cX5_number 15 = .ok (.bipush 10, 2) := by decide +kernel
theorem dX5_number_17 : decode cX5_number 17 = .ok (.iload_n 1, 1) := by decide +kernel
theorem dX5_number_18 : decode cX5_number 18 = .ok (.imul, 1) := by decide +kernel
theorem dX5_number_19 : decode cX5_number 19 = .ok (.aload_n 0, 1) := by decide +kernel
theorem dX5_number_20 : decode cX5_number 20 = .ok (.getfield 9, 3) := by decide +kernel
theorem dX5_number_23 : decode cX5_number 23 = .ok (.getfield 56, 3) := by decide +kernel
theorem dX5_number_26 : decode cX5_number 26 = .ok (.iload_n 2, 1) := by decide +kernel
theorem dX5_number_27 : decode cX5_number 27 = .ok (.iaload, 1) := by decide +kernel
theorem dX5_number_28 : decode cX5_number 28 = .ok (.iadd, 1) := by decide +kernel
theorem dX5_number_29 : decode cX5_number 29 = .ok (.bipush 48, 2) := by decide +kernel
theorem dX5_number_31 : decode cX5_number 31 = .ok (.isub, 1) := by decide +kernel
theorem dX5_number_32 : decode cX5_number 32 = .ok (.istore_n 1, 1) := by decide +kernel
theorem dX5_number_33 : decode cX5_number 33 = .ok (.iinc 2 1, 3) := by decide +kernel
theorem dX5_number_36 : decode cX5_number 36 = .ok (.goto (-29), 3) := by decide +kernel
theorem dX5_number_39 : decode cX5_number 39 = .ok (.iload_n 1, 1) := by decide +kernel
theorem dX5_number_40 : decode cX5_number 40 = .ok (.ireturn, 1) := by decide +kernel
theorem ok_X5_number : okV yX5_number cX5_number 3 (some .int) 0 := ⟨mw_759, mw_15, mw_80, mw_760, by decide +kernel, by decide +kernel⟩
abbrev rm_X5_number : Room := { frames := 0, cells := 0, slots := 0, locals := 0 }
def b_X5_number_7 (K7 : St → Int32 → Int32 → Prop) (post : Int32 → St → Prop) (σ : St) (x1 : Int32) (x2 : Int32) : Prop := (((σ 21 0 2) ≤ x2 → (post x1 σ)) ∧ (¬ (σ 21 0 2) ≤ x2 → (vp_in x2 96 ∧ (∀ v3 : Int32, v3 = ((10 * x1) + (σ 20 0 x2.toNatClampNeg)) - 48 → (∀ v4 : Int32, v4 = x2 + 1 → (K7 σ v3 v4))))))
noncomputable def l_X5_number_7 (post : Int32 → St → Prop) : Nat → St → Int32 → Int32 → Prop := fun n => Nat.rec (motive := fun _ => St → Int32 → Int32 → Prop) (fun _ _ _ => False) (fun _ ih => b_X5_number_7 ih post) n
theorem L_X5_number_7 (E : EnvW p s m args meth c D cy regsC ad "RoofWar$Reader" cX5_number 3 (some .int)) (ha : Apart regsC ad) {post : Int32 → St → Prop} : ∀ (n : Nat), ∀ (σ : St) (x1 : Int32) (x2 : Int32), l_X5_number_7 post n σ x1 x2 → ∀ (H : Heap) (locs : List Loc) (ls : Array Slot), va_P D CLS (wC cy ad σ) H → va_S (AC ad s.heap.size) s.heap H locs → lv_has ls 3 [(0, .ref (ad 21 0)), (1, .int x1), (2, .int x2)] → W p l e rm_X5_number s m args below meth c H locs 0 0 (MQ below (QI D cy (cellC cy ad) regsC ad s.heap.size post) args s 0 0 (AC ad s.heap.size)) (F0 m 7 ls []) := by
  obtain ⟨hx, hb, -⟩ := id E
  intro n
  induction n with
  | zero => intro σ x1 x2 hw; exact hw.elim
  | succ n hk7 =>
    intro σ x1 x2 hw H locs ls hP hS hl
    replace hw : b_X5_number_7 (l_X5_number_7 post n) post σ x1 x2 := hw
    unfold b_X5_number_7 at hw
    refine lv_iload_n hx hb dX5_number_7 rfl (lv_at hl 2 rfl) ?_
    refine lv_aload_n hx hb dX5_number_8 rfl (lv_at hl 0 rfl) ?_
    refine fX5_4 E hP mw_264 dX5_number_9 ?_
    refine lv_icmp_ge (tgt := 39) hx hb dX5_number_12 (by decide) (fun c1 => ?_) (fun c1 => ?_)
    · replace hw := hw.1 c1
      refine lv_iload_n hx hb dX5_number_39 rfl (lv_at hl 1 rfl) ?_
      exact g_iret E hw hP hS dX5_number_40
    · replace hw := hw.2 c1
      refine lv_bipush (v := 10) hx hb dX5_number_15 (by decide) ?_
      refine lv_iload_n hx hb dX5_number_17 rfl (lv_at hl 1 rfl) ?_
      refine lv_imul hx hb dX5_number_18 ?_
      refine lv_aload_n hx hb dX5_number_19 rfl (lv_at hl 0 rfl) ?_
      refine fX5_0 E hP mw_260 dX5_number_20 ?_
      refine fX8_0 E hP mw_245 dX5_number_23 ?_
      refine lv_iload_n hx hb dX5_number_26 rfl (lv_at hl 2 rfl) ?_
      obtain ⟨h2, hw⟩ := hw
      refine aC20 E hP h2 dX5_number_27 ?_
      refine lv_iadd hx hb dX5_number_28 ?_
      refine lv_bipush (v := 48) hx hb dX5_number_29 (by decide) ?_
      refine lv_isub hx hb dX5_number_31 ?_
      refine lv_topi (fun v3 ev3 => ?_)
      replace hw := hw v3 ev3
      refine lv_istore_n (lv' := [(1, .int v3), (0, .ref (ad 21 0)), (2, .int x2)]) hx hb dX5_number_32 rfl hl (by decide) rfl (fun ls hl => ?_)
      obtain ⟨v4, ev4⟩ : ∃ y : Int32, y = x2 + 1 := ⟨_, rfl⟩
      replace hw := hw v4 ev4
      refine lv_iinc (v := v4) (lv' := [(2, .int v4), (1, .int v3), (0, .ref (ad 21 0))]) hx hb dX5_number_33 hl (k := 2) rfl (by rw [ev4]; rfl) (by decide) rfl (fun ls hl => ?_)
      refine lv_goto (tgt := 7) hx hb dX5_number_36 (by decide) ?_
      exact hk7 σ v3 v4 hw _ _ _ hP hS (lv_sub hl [2, 1, 0] rfl)
def w_X5_number (post : Int32 → St → Prop) (σ : St) : Prop := ∀ v1 : Int32, v1 = σ 21 0 1 → (∃ n2 : Nat, l_X5_number_7 post n2 σ (0 : Int32) v1)
theorem B_X5_number_0 (E : EnvW p s m args meth c D cy regsC ad "RoofWar$Reader" cX5_number 3 (some .int)) (ha : Apart regsC ad) {post : Int32 → St → Prop} {σ : St} (hw : w_X5_number post σ) {H : Heap} {locs : List Loc} {ls : Array Slot} (hP : va_P D CLS (wC cy ad σ) H) (hS : va_S (AC ad s.heap.size) s.heap H locs) (hl : lv_has ls 3 [(0, .ref (ad 21 0))]) : W p l e rm_X5_number s m args below meth c H locs 0 0 (MQ below (QI D cy (cellC cy ad) regsC ad s.heap.size post) args s 0 0 (AC ad s.heap.size)) (F0 m 0 ls []) := by
  obtain ⟨hx, hb, -⟩ := id E
  unfold w_X5_number at hw
  refine lv_iconst (v := 0) hx hb dX5_number_0 (by decide) ?_
  refine lv_istore_n (lv' := [(1, .int 0), (0, .ref (ad 21 0))]) hx hb dX5_number_1 rfl hl (by decide) rfl (fun ls hl => ?_)
  refine lv_aload_n hx hb dX5_number_2 rfl (lv_at hl 1 rfl) ?_
  refine fX5_3 E hP mw_263 dX5_number_3 ?_
  refine lv_topi (fun v1 ev1 => ?_)
  replace hw := hw v1 ev1
  refine lv_istore_n (lv' := [(2, .int v1), (1, .int 0), (0, .ref (ad 21 0))]) hx hb dX5_number_6 rfl hl (by decide) rfl (fun ls hl => ?_)
  obtain ⟨n2, hw⟩ := hw
  exact L_X5_number_7 E ha n2 σ (0 : Int32) v1 hw _ _ _ hP hS (lv_sub hl [2, 1, 0] rfl)
theorem c_X5_number (l : Launch) (D : va_G) (cy : Nat → ClassId) (ad : Nat → Nat → Nat) (ha : Apart regsC ad) {post : Int32 → St → Prop} {σ : St} (hw : w_X5_number post σ) (sz : Nat) : MetI l yX5_number cX5_number 3 .int rm_X5_number [.ref (ad 21 0)] D cy (cellC cy ad) regsC ad σ sz post :=
  Met_inI ok_X5_number.2.2.2.2.2 (Nat.le_of_ble_eq_true rfl) (fun p e s m below meth c ls E hP hl => B_X5_number_0 E ha hw hP va_S.rf hl)
-- RoofWar$Reader.readName()Z
theorem dX5_readName_0 : decode cX5_readName 0 = .ok (.aload_n 0, 1) := by decide +kernel
theorem dX5_readName_1 : decode cX5_readName 1 = .ok (.getfield 15, 3) := by decide +kernel
theorem dX5_readName_4 : decode cX5_readName 4 = .ok (.getfield 106, 3) := by decide +kernel
theorem dX5_readName_7 : decode cX5_readName 7 = .ok (.invokestatic 144, 3) := by decide +kernel
theorem dX5_readName_10 : decode cX5_readName 10 = .ok (.aload_n 0, 1) := by decide +kernel
theorem dX5_readName_11 : decode cX5_readName 11 = .ok (.getfield 9, 3) := by decide +kernel
theorem dX5_readName_14 : decode cX5_readName 14 = .ok (.getfield 56, 3) := by decide +kernel
theorem dX5_readName_17 : decode cX5_readName 17 = .ok (.aload_n 0, 1) := by decide +kernel
theorem dX5_readName_18 : decode cX5_readName 18 = .ok (.getfield 48, 3) := by decide +kernel
theorem dX5_readName_21 : decode cX5_readName 21 = .ok (.iaload, 1) := by decide +kernel
theorem dX5_readName_22 : decode cX5_readName 22 = .ok (.i2c, 1) := by decide +kernel
theorem dX5_readName_23 : decode cX5_readName 23 = .ok (.invokevirtual 95, 3) := by decide +kernel
theorem dX5_readName_26 : decode cX5_readName 26 = .ok (.istore_n 1, 1) := by decide +kernel
theorem dX5_readName_27 : decode cX5_readName 27 = .ok (.aload_n 0, 1) := by decide +kernel
theorem dX5_readName_28 : decode cX5_readName 28 = .ok (.getfield 28, 3) := by decide +kernel
theorem dX5_readName_31 : decode cX5_readName 31 = .ok (.aload_n 0, 1) := by decide +kernel
theorem dX5_readName_32 : decode cX5_readName 32 = .ok (.getfield 48, 3) := by decide +kernel
theorem dX5_readName_35 : decode cX5_readName 35 = .ok (.isub, 1) := by decide +kernel
theorem dX5_readName_36 : decode cX5_readName 36 = .ok (.iconst 1, 1) := by decide +kernel
theorem dX5_readName_37 : decode cX5_readName 37 = .ok (.if_icmp .ne 7, 3) := by decide +kernel
theorem dX5_readName_40 : decode cX5_readName 40 = .ok (.iload_n 1, 1) := by decide +kernel
theorem dX5_readName_41 : decode cX5_readName 41 = .ok (.ifCond .ge 5, 3) := by decide +kernel
theorem dX5_readName_44 : decode cX5_readName 44 = .ok (.iconst 0, 1) := by decide +kernel
theorem dX5_readName_45 : decode cX5_readName 45 = .ok (.ireturn, 1) := by decide +kernel
theorem dX5_readName_46 : decode cX5_readName 46 = .ok (.aload_n 0, 1) := by decide +kernel
theorem dX5_readName_47 : decode cX5_readName 47 = .ok (.getfield 15, 3) := by decide +kernel
theorem dX5_readName_50 : decode cX5_readName 50 = .ok (.iconst (-1), 1) := by decide +kernel
theorem dX5_readName_51 : decode cX5_readName 51 = .ok (.iload_n 1, 1) := by decide +kernel
theorem dX5_readName_52 : decode cX5_readName 52 = .ok (.isub, 1) := by decide +kernel
theorem dX5_readName_53 : decode cX5_readName 53 = .ok (.invokevirtual 128, 3) := by decide +kernel
theorem dX5_readName_56 : decode cX5_readName 56 = .ok (.aload_n 0, 1) := by decide +kernel
theorem dX5_readName_57 : decode cX5_readName 57 = .ok (.invokevirtual 37, 3) := by decide +kernel
theorem dX5_readName_60 : decode cX5_readName 60 = .ok (.iconst 1, 1) := by decide +kernel
theorem dX5_readName_61 : decode cX5_readName 61 = .ok (.ireturn, 1) := by decide +kernel
theorem ok_X5_readName : okV yX5_readName cX5_readName 2 (some .boolean) 0 := ⟨mw_769, mw_17, mw_80, mw_770, by decide +kernel, by decide +kernel⟩
abbrev rm_X5_readName : Room := { frames := 4, cells := 0, slots := 0, locals := 91 }
def w_X5_readName (post : Int32 → St → Prop) (σ : St) : Prop := vp_in (σ 21 0 5) 15 ∧ (w_X5_names (fun r2 s2 => vp_in (s2 21 0 1) 96 ∧ (w_J0_indexOf_0f7a4 (fun r4 s4 => ((¬ ((s4 21 0 2) - (s4 21 0 1)) = 1 → (post 0 s4)) ∧ (((s4 21 0 2) - (s4 21 0 1)) = 1 → (((0 ≤ r4 → (vp_in (s4 21 0 5) 15 ∧ (w_X3_addLeaf (fun s8 => w_X5_step (fun s9 => post 1 s9) s8) s4 ((s4 21 0 5).toNatClampNeg) (((-1)) - r4)))) ∧ (¬ 0 ≤ r4 → (post 0 s4))))))) s2 r2 (((s2 20 0 (s2 21 0 1).toNatClampNeg).toUInt32 % 65536).toInt32))) σ (σ 17 ((σ 21 0 5).toNatClampNeg) 0))
theorem B_X5_readName_0 (E : EnvW p s m args meth c D cy regsC ad "RoofWar$Reader" cX5_readName 2 (some .boolean)) (ha : Apart regsC ad) {post : Int32 → St → Prop} {σ : St} (hw : w_X5_readName post σ) {H : Heap} {locs : List Loc} {ls : Array Slot} (hP : va_P D CLS (wC cy ad σ) H) (hS : va_S (AC ad s.heap.size) s.heap H locs) (hl : lv_has ls 2 [(0, .ref (ad 21 0))]) : W p l e rm_X5_readName s m args below meth c H locs 0 0 (MQ below (QI D cy (cellC cy ad) regsC ad s.heap.size (fun r u => (r = 0 ∨ r = 1) ∧ post r u)) args s 0 0 (AC ad s.heap.size)) (F0 m 0 ls []) := by
  obtain ⟨hx, hb, -⟩ := id E
  unfold w_X5_readName at hw
  refine lv_aload_n hx hb dX5_readName_0 rfl (lv_at hl 0 rfl) ?_
  obtain ⟨h1, hw⟩ := hw
  refine fX5_1 E hP mw_261 h1 dX5_readName_1 ?_
  refine fX3_0 ((vp_lt h1)) E hP mw_113 dX5_readName_4 ?_
  refine g_cSr (As := [.int (σ 17 ((σ 21 0 5).toNatClampNeg) 0)]) (rest := []) E hl.1 (c_X5_names l D cy ad ha hw _) ok_X5_names mw_771 ⟨(Nat.le_of_ble_eq_true rfl), (Nat.le_of_ble_eq_true rfl)⟩ ⟨rfl, rfl⟩ rfl rfl (Nat.le_of_ble_eq_true rfl) ⟨Nat.zero_le _, Nat.zero_le _⟩ hP hS dX5_readName_7 (fun r2 s2 hw H locs hP hS => ?_)
  obtain ⟨b2, hw⟩ := hw
  refine lv_aload_n hx hb dX5_readName_10 rfl (lv_at hl 0 rfl) ?_
  refine fX5_0 E hP mw_260 dX5_readName_11 ?_
  refine fX8_0 E hP mw_245 dX5_readName_14 ?_
  refine lv_aload_n hx hb dX5_readName_17 rfl (lv_at hl 0 rfl) ?_
  refine fX5_3 E hP mw_263 dX5_readName_18 ?_
  obtain ⟨h3, hw⟩ := hw
  refine aC20 E hP h3 dX5_readName_21 ?_
  refine lv_i2c (v := ((s2 20 0 (s2 21 0 1).toNatClampNeg).toUInt32 % 65536).toInt32) hx hb dX5_readName_22 rfl ?_
  refine g_cTi (As := [.int (((s2 20 0 (s2 21 0 1).toNatClampNeg).toUInt32 % 65536).toInt32)]) (rest := []) b2 rfl E hl.1 (c_J0_indexOf_0f7a4 l D cy ad ha b2 hw _) ok_J0_indexOf_0f7a4 mw_774 ⟨(Nat.le_of_ble_eq_true rfl), (Nat.le_of_ble_eq_true rfl)⟩ ⟨rfl, rfl⟩ rfl rfl (Nat.le_of_ble_eq_true rfl) ⟨Nat.zero_le _, Nat.zero_le _⟩ hP hS dX5_readName_23 (fun r4 s4 hw H locs hP hS => ?_)
  refine lv_istore_n (lv' := [(1, .int r4), (0, .ref (ad 21 0))]) hx hb dX5_readName_26 rfl hl (by decide) rfl (fun ls hl => ?_)
  refine lv_aload_n hx hb dX5_readName_27 rfl (lv_at hl 1 rfl) ?_
  refine fX5_4 E hP mw_264 dX5_readName_28 ?_
  refine lv_aload_n hx hb dX5_readName_31 rfl (lv_at hl 1 rfl) ?_
  refine fX5_3 E hP mw_263 dX5_readName_32 ?_
  refine lv_isub hx hb dX5_readName_35 ?_
  refine lv_iconst (v := 1) hx hb dX5_readName_36 (by decide) ?_
  refine lv_icmp_ne (tgt := 44) hx hb dX5_readName_37 (by decide) (fun c5 => ?_) (fun c5 => ?_)
  · replace hw := hw.1 c5
    refine lv_iconst (v := 0) hx hb dX5_readName_44 (by decide) ?_
    exact g_zret E (Or.inl rfl) hw hP hS dX5_readName_45
  · replace hw := hw.2 c5
    refine lv_iload_n hx hb dX5_readName_40 rfl (lv_at hl 0 rfl) ?_
    refine lv_if_ge (tgt := 46) hx hb dX5_readName_41 (by decide) (fun c6 => ?_) (fun c6 => ?_)
    · replace hw := hw.1 c6
      refine lv_aload_n hx hb dX5_readName_46 rfl (lv_at hl 1 rfl) ?_
      obtain ⟨h7, hw⟩ := hw
      refine fX5_1 E hP mw_261 h7 dX5_readName_47 ?_
      refine lv_iconst (v := -1) hx hb dX5_readName_50 (by decide) ?_
      refine lv_iload_n hx hb dX5_readName_51 rfl (lv_at hl 0 rfl) ?_
      refine lv_isub hx hb dX5_readName_52 ?_
      refine g_cVv (As := [.int (((-1)) - r4)]) (rest := []) E hl.1 (c_X3_addLeaf l D cy ad ha ((vp_lt h7)) hw _) ok_X3_addLeaf mw_761 ⟨(Nat.le_of_ble_eq_true rfl), (Nat.le_of_ble_eq_true rfl)⟩ ⟨rfl, rfl⟩ (rC17 (vp_lt h7)) rfl rfl rfl rfl rfl (Nat.le_of_ble_eq_true rfl) ⟨Nat.zero_le _, Nat.zero_le _⟩ hP hS dX5_readName_53 (fun s8 hw H locs hP hS => ?_)
      refine lv_aload_n hx hb dX5_readName_56 rfl (lv_at hl 1 rfl) ?_
      refine g_cVv (As := []) (rest := []) E hl.1 (c_X5_step l D cy ad ha hw _) ok_X5_step mw_691 ⟨(Nat.le_of_ble_eq_true rfl), (Nat.le_of_ble_eq_true rfl)⟩ ⟨rfl, rfl⟩ rC21 rfl rfl rfl rfl rfl (Nat.le_of_ble_eq_true rfl) ⟨Nat.zero_le _, Nat.zero_le _⟩ hP hS dX5_readName_57 (fun s9 hw H locs hP hS => ?_)
      refine lv_iconst (v := 1) hx hb dX5_readName_60 (by decide) ?_
      exact g_zret E (Or.inr rfl) hw hP hS dX5_readName_61
    · replace hw := hw.2 c6
      refine lv_iconst (v := 0) hx hb dX5_readName_44 (by decide) ?_
      exact g_zret E (Or.inl rfl) hw hP hS dX5_readName_45
theorem c_X5_readName (l : Launch) (D : va_G) (cy : Nat → ClassId) (ad : Nat → Nat → Nat) (ha : Apart regsC ad) {post : Int32 → St → Prop} {σ : St} (hw : w_X5_readName post σ) (sz : Nat) : MetI l yX5_readName cX5_readName 2 .boolean rm_X5_readName [.ref (ad 21 0)] D cy (cellC cy ad) regsC ad σ sz (fun r u => (r = 0 ∨ r = 1) ∧ post r u) :=
  Met_inI ok_X5_readName.2.2.2.2.2 (Nat.le_of_ble_eq_true rfl) (fun p e s m below meth c ls E hP hl => B_X5_readName_0 E ha hw hP va_S.rf hl)
abbrev rmG_rd (n : Nat) : Room := { frames := 40 + n, cells := 0, slots := 0, locals := 2000 + 60 * n }
theorem ok_X5_readLevel : okV yX5_readLevel cX5_readLevel 5 (some .boolean) 1 := ⟨mw_750, mw_12, mw_80, mw_751, by decide +kernel, by decide +kernel⟩
theorem ok_X5_readPiece : okV yX5_readPiece cX5_readPiece 1 (some .boolean) 0 := ⟨mw_756, mw_14, mw_80, mw_757, by decide +kernel, by decide +kernel⟩
theorem ok_X5_readNot : okV yX5_readNot cX5_readNot 1 (some .boolean) 0 := ⟨mw_833, mw_19, mw_80, mw_834, by decide +kernel, by decide +kernel⟩
theorem ok_X5_readBracket : okV yX5_readBracket cX5_readBracket 1 (some .boolean) 0 := ⟨mw_840, mw_20, mw_80, mw_841, by decide +kernel, by decide +kernel⟩
theorem ok_X5_readBelow : okV yX5_readBelow cX5_readBelow 2 (some .boolean) 1 := ⟨mw_753, mw_13, mw_80, mw_754, by decide +kernel, by decide +kernel⟩
-- RoofWar$Reader.readLevel(I)Z
theorem dX5_readLevel_0 : decode cX5_readLevel 0 = .ok (.aload_n 0, 1) := by decide +kernel
theorem dX5_readLevel_1 : decode cX5_readLevel 1 = .ok (.iload_n 1, 1) := by decide +kernel
theorem dX5_readLevel_2 : decode cX5_readLevel 2 = .ok (.invokevirtual 109, 3) := by decide +kernel
theorem dX5_readLevel_5 : decode cX5_readLevel 5 = .ok (.ifCond .ne 5, 3) := by decide +kernel
theorem dX5_readLevel_8 : decode cX5_readLevel 8 = .ok (.iconst 0, 1) := by decide +kernel
theorem dX5_readLevel_9 : decode cX5_readLevel 9 = .ok (.ireturn, 1) := by decide +kernel
theorem dX5_readLevel_10 : decode cX5_readLevel 10 = .ok (.iload_n 1, 1) := by decide +kernel
theorem dX5_readLevel_11 : decode cX5_readLevel 11 = .ok (.iconst 2, 1) := by decide +kernel
theorem dX5_readLevel_12 : decode cX5_readLevel 12 = .ok (.if_icmp .ne 7, 3) := by decide +kernel
theorem dX5_readLevel_15 : decode cX5_readLevel 15 = .ok (.iconst 1, 1) := by decide +kernel
theorem dX5_readLevel_16 : decode cX5_readLevel 16 = .ok (.goto 5, 3) := by decide +kernel
theorem dX5_readLevel_19 : decode cX5_readLevel 19 = .ok (.bipush 96, 2) := by decide +kernel
theorem dX5_readLevel_21 : decode cX5_readLevel 21 = .ok (.istore_n 2, 1) := by decide +kernel
theorem dX5_readLevel_22 : decode cX5_readLevel 22 = .ok (.iconst 0, 1) := by decide +kernel
theorem dX5_readLevel_23 : decode cX5_readLevel 23 = .ok (.istore_n 3, 1) := by decide +kernel
theorem dX5_readLevel_24 : decode cX5_readLevel 24 = .ok (.iload_n 3, 1) := by decide +kernel
theorem dX5_readLevel_25 : decode cX5_readLevel 25 = .ok (.iload_n 2, 1) := by decide +kernel
theorem dX5_readLevel_26 : decode cX5_readLevel 26 = .ok (.if_icmp .ge 57, 3) := by decide +kernel
theorem dX5_readLevel_29 : decode cX5_readLevel 29 = .ok (.aload_n 0, 1) := by decide +kernel
theorem dX5_readLevel_30 : decode cX5_readLevel 30 = .ok (.iload_n 1, 1) := by decide +kernel
theorem dX5_readLevel_31 : decode cX5_readLevel 31 = .ok (.invokestatic 112, 3) := by decide +kernel
theorem dX5_readLevel_34 : decode cX5_readLevel 34 = .ok (.invokevirtual 115, 3) := by decide +kernel
theorem dX5_readLevel_37 : decode cX5_readLevel 37 = .ok (.ifCond .eq 46, 3) := by decide +kernel
theorem dX5_readLevel_40 : decode cX5_readLevel 40 = .ok (.aload_n 0, 1) := by decide +kernel
theorem dX5_readLevel_41 : decode cX5_readLevel 41 = .ok (.getfield 9, 3) := by decide +kernel
theorem dX5_readLevel_44 : decode cX5_readLevel 44 = .ok (.getfield 56, 3) := by decide +kernel
theorem dX5_readLevel_47 : decode cX5_readLevel 47 = .ok (.aload_n 0, 1) := by decide +kernel
theorem dX5_readLevel_48 : decode cX5_readLevel 48 = .ok (.getfield 48, 3) := by decide +kernel
theorem dX5_readLevel_51 : decode cX5_readLevel 51 = .ok (.iaload, 1) := by decide +kernel
theorem dX5_readLevel_52 : decode cX5_readLevel 52 = .ok (.istore 4, 2) := by decide +kernel
theorem dX5_readLevel_54 : decode cX5_readLevel 54 = .ok (.aload_n 0, 1) := by decide +kernel
theorem dX5_readLevel_55 : decode cX5_readLevel 55 = .ok (.invokevirtual 37, 3) := by decide +kernel
theorem dX5_readLevel_58 : decode cX5_readLevel 58 = .ok (.aload_n 0, 1) := by decide +kernel
theorem dX5_readLevel_59 : decode cX5_readLevel 59 = .ok (.iload_n 1, 1) := by decide +kernel
theorem dX5_readLevel_60 : decode cX5_readLevel 60 = .ok (.invokevirtual 109, 3) := by decide +kernel
theorem dX5_readLevel_63 : decode cX5_readLevel 63 = .ok (.ifCond .ne 5, 3) := by decide +kernel
theorem dX5_readLevel_66 : decode cX5_readLevel 66 = .ok (.iconst 0, 1) := by decide +kernel
theorem dX5_readLevel_67 : decode cX5_readLevel 67 = .ok (.ireturn, 1) := by decide +kernel
theorem dX5_readLevel_68 : decode cX5_readLevel 68 = .ok (.aload_n 0, 1) := by decide +kernel
theorem dX5_readLevel_69 : decode cX5_readLevel 69 = .ok (.getfield 15, 3) := by decide +kernel
theorem dX5_readLevel_72 : decode cX5_readLevel 72 = .ok (.iload 4, 2) := by decide +kernel
theorem dX5_readLevel_74 : decode cX5_readLevel 74 = .ok (.invokevirtual 118, 3) := by decide +kernel
theorem dX5_readLevel_77 : decode cX5_readLevel 77 = .ok (.iinc 3 1, 3) := by decide +kernel
theorem dX5_readLevel_80 : decode cX5_readLevel 80 = .ok (.goto (-56), 3) := by decide +kernel
theorem dX5_readLevel_83 : decode cX5_readLevel 83 = .ok (.iconst 1, 1) := by decide +kernel
theorem dX5_readLevel_84 : decode cX5_readLevel 84 = .ok (.ireturn, 1) := by decide +kernel
def b_X5_readLevel_24 (R0 : (Int32 → St → Prop) → St → Int32 → Prop) (R1 : (Int32 → St → Prop) → St → Prop) (R2 : (Int32 → St → Prop) → St → Prop) (R3 : (Int32 → St → Prop) → St → Prop) (R4 : (Int32 → St → Prop) → St → Int32 → Prop) (K24 : St → Int32 → Int32 → Int32 → Prop) (post : Int32 → St → Prop) (σ : St) (x1 : Int32) (x2 : Int32) (x3 : Int32) : Prop := ((x2 ≤ x3 → (post 1 σ)) ∧ (¬ x2 ≤ x3 → (w_X5_signs (fun r2 s2 => w_X5_isSign (fun r3 s3 => ((r3 = 0 → (post 1 s3)) ∧ (¬ r3 = 0 → (vp_in (s3 21 0 1) 96 ∧ (∀ v6 : Int32, v6 = s3 20 0 (s3 21 0 1).toNatClampNeg → (w_X5_step (fun s7 => R4 (fun r8 s8 => ((¬ r8 = 0 → (vp_in (s8 21 0 5) 15 ∧ (w_X3_addOperation (fun s11 => ∀ v12 : Int32, v12 = x3 + 1 → (K24 s11 x1 x2 v12)) s8 ((s8 21 0 5).toNatClampNeg) v6))) ∧ (r8 = 0 → (post 0 s8)))) s7 x1) s3)))))) s2 r2) σ x1)))
noncomputable def l_X5_readLevel_24 (R0 : (Int32 → St → Prop) → St → Int32 → Prop) (R1 : (Int32 → St → Prop) → St → Prop) (R2 : (Int32 → St → Prop) → St → Prop) (R3 : (Int32 → St → Prop) → St → Prop) (R4 : (Int32 → St → Prop) → St → Int32 → Prop) (post : Int32 → St → Prop) : Nat → St → Int32 → Int32 → Int32 → Prop := fun n => Nat.rec (motive := fun _ => St → Int32 → Int32 → Int32 → Prop) (fun _ _ _ _ => False) (fun _ ih => b_X5_readLevel_24 R0 R1 R2 R3 R4 ih post) n
theorem L_X5_readLevel_24 (E : EnvW p s m args meth c D cy regsC ad "RoofWar$Reader" cX5_readLevel 5 (some .boolean)) (ha : Apart regsC ad) {post : Int32 → St → Prop} {gn : Nat} {R0 : (Int32 → St → Prop) → St → Int32 → Prop} {R1 : (Int32 → St → Prop) → St → Prop} {R2 : (Int32 → St → Prop) → St → Prop} {R3 : (Int32 → St → Prop) → St → Prop} {R4 : (Int32 → St → Prop) → St → Int32 → Prop} (hR0 : ∀ (post : Int32 → St → Prop) (σ : St) (x1 : Int32), R0 post σ x1 → ∀ sz : Nat, MetI l yX5_readLevel cX5_readLevel 5 .boolean (rmG_rd gn) [.ref (ad 21 0), .int x1] D cy (cellC cy ad) regsC ad σ sz (fun r u => (r = 0 ∨ r = 1) ∧ post r u)) (hR1 : ∀ (post : Int32 → St → Prop) (σ : St), R1 post σ → ∀ sz : Nat, MetI l yX5_readPiece cX5_readPiece 1 .boolean (rmG_rd gn) [.ref (ad 21 0)] D cy (cellC cy ad) regsC ad σ sz (fun r u => (r = 0 ∨ r = 1) ∧ post r u)) (hR2 : ∀ (post : Int32 → St → Prop) (σ : St), R2 post σ → ∀ sz : Nat, MetI l yX5_readNot cX5_readNot 1 .boolean (rmG_rd gn) [.ref (ad 21 0)] D cy (cellC cy ad) regsC ad σ sz (fun r u => (r = 0 ∨ r = 1) ∧ post r u)) (hR3 : ∀ (post : Int32 → St → Prop) (σ : St), R3 post σ → ∀ sz : Nat, MetI l yX5_readBracket cX5_readBracket 1 .boolean (rmG_rd gn) [.ref (ad 21 0)] D cy (cellC cy ad) regsC ad σ sz (fun r u => (r = 0 ∨ r = 1) ∧ post r u)) (hR4 : ∀ (post : Int32 → St → Prop) (σ : St) (x1 : Int32), R4 post σ x1 → ∀ sz : Nat, MetI l yX5_readBelow cX5_readBelow 2 .boolean (rmG_rd gn) [.ref (ad 21 0), .int x1] D cy (cellC cy ad) regsC ad σ sz (fun r u => (r = 0 ∨ r = 1) ∧ post r u)) : ∀ (n : Nat), ∀ (σ : St) (x1 : Int32) (x2 : Int32) (x3 : Int32), l_X5_readLevel_24 R0 R1 R2 R3 R4 post n σ x1 x2 x3 → ∀ (H : Heap) (locs : List Loc) (ls : Array Slot), va_P D CLS (wC cy ad σ) H → va_S (AC ad s.heap.size) s.heap H locs → lv_has ls 5 [(0, .ref (ad 21 0)), (1, .int x1), (2, .int x2), (3, .int x3)] → W p l e (rmG_rd (gn + 1)) s m args below meth c H locs 0 0 (MQ below (QI D cy (cellC cy ad) regsC ad s.heap.size (fun r u => (r = 0 ∨ r = 1) ∧ post r u)) args s 0 0 (AC ad s.heap.size)) (F0 m 24 ls []) := by
  obtain ⟨hx, hb, -⟩ := id E
  intro n
  induction n with
  | zero => intro σ x1 x2 x3 hw; exact hw.elim
  | succ n hk24 =>
    intro σ x1 x2 x3 hw H locs ls hP hS hl
    replace hw : b_X5_readLevel_24 R0 R1 R2 R3 R4 (l_X5_readLevel_24 R0 R1 R2 R3 R4 post n) post σ x1 x2 x3 := hw
    unfold b_X5_readLevel_24 at hw
    refine lv_iload_n hx hb dX5_readLevel_24 rfl (lv_at hl 3 rfl) ?_
    refine lv_iload_n hx hb dX5_readLevel_25 rfl (lv_at hl 2 rfl) ?_
    refine lv_icmp_ge (tgt := 83) hx hb dX5_readLevel_26 (by decide) (fun c1 => ?_) (fun c1 => ?_)
    · replace hw := hw.1 c1
      refine lv_iconst (v := 1) hx hb dX5_readLevel_83 (by decide) ?_
      exact g_zret E (Or.inr rfl) hw hP hS dX5_readLevel_84
    · replace hw := hw.2 c1
      refine lv_aload_n hx hb dX5_readLevel_29 rfl (lv_at hl 0 rfl) ?_
      refine lv_iload_n hx hb dX5_readLevel_30 rfl (lv_at hl 1 rfl) ?_
      refine g_cSr (As := [.int x1]) (rest := [.ref (ad 21 0)]) E hl.1 (c_X5_signs l D cy ad ha hw _) ok_X5_signs mw_842 ⟨(by show 0 + 1 ≤ 40 + (gn + 1); omega), (by show 8 + (1 + 11) + 0 ≤ 2000 + 60 * (gn + 1); omega)⟩ ⟨rfl, rfl⟩ rfl rfl (Nat.le_of_ble_eq_true rfl) ⟨Nat.zero_le _, Nat.zero_le _⟩ hP hS dX5_readLevel_31 (fun r2 s2 hw H locs hP hS => ?_)
      obtain ⟨b2, hw⟩ := hw
      refine g_cVi (As := [.ref (ad 90 r2)]) (rest := []) E hl.1 (c_X5_isSign l D cy ad ha b2 hw _) ok_X5_isSign mw_829 ⟨(by show 4 + 1 ≤ 40 + (gn + 1); omega), (by show 8 + (2 + 11) + 91 ≤ 2000 + 60 * (gn + 1); omega)⟩ ⟨rfl, rfl⟩ rC21 rfl rfl rfl rfl rfl (Nat.le_of_ble_eq_true rfl) ⟨Nat.zero_le _, Nat.zero_le _⟩ hP hS dX5_readLevel_34 (fun r3 s3 hw H locs hP hS => ?_)
      obtain ⟨z3, hw⟩ := hw
      refine lv_if_eq (tgt := 83) hx hb dX5_readLevel_37 (by decide) (fun c4 => ?_) (fun c4 => ?_)
      · replace hw := hw.1 c4
        refine lv_iconst (v := 1) hx hb dX5_readLevel_83 (by decide) ?_
        exact g_zret E (Or.inr rfl) hw hP hS dX5_readLevel_84
      · replace hw := hw.2 c4
        refine lv_aload_n hx hb dX5_readLevel_40 rfl (lv_at hl 0 rfl) ?_
        refine fX5_0 E hP mw_260 dX5_readLevel_41 ?_
        refine fX8_0 E hP mw_245 dX5_readLevel_44 ?_
        refine lv_aload_n hx hb dX5_readLevel_47 rfl (lv_at hl 0 rfl) ?_
        refine fX5_3 E hP mw_263 dX5_readLevel_48 ?_
        obtain ⟨h5, hw⟩ := hw
        refine aC20 E hP h5 dX5_readLevel_51 ?_
        refine lv_topi (fun v6 ev6 => ?_)
        replace hw := hw v6 ev6
        refine lv_istore (lv' := [(4, .int v6), (0, .ref (ad 21 0)), (1, .int x1), (2, .int x2), (3, .int x3)]) hx hb dX5_readLevel_52 hl (by decide) rfl (fun ls hl => ?_)
        refine lv_aload_n hx hb dX5_readLevel_54 rfl (lv_at hl 1 rfl) ?_
        refine g_cVv (As := []) (rest := []) E hl.1 (c_X5_step l D cy ad ha hw _) ok_X5_step mw_691 ⟨(by show 1 + 1 ≤ 40 + (gn + 1); omega), (by show 8 + (3 + 11) + 20 ≤ 2000 + 60 * (gn + 1); omega)⟩ ⟨rfl, rfl⟩ rC21 rfl rfl rfl rfl rfl (Nat.le_of_ble_eq_true rfl) ⟨Nat.zero_le _, Nat.zero_le _⟩ hP hS dX5_readLevel_55 (fun s7 hw H locs hP hS => ?_)
        refine lv_aload_n hx hb dX5_readLevel_58 rfl (lv_at hl 1 rfl) ?_
        refine lv_iload_n hx hb dX5_readLevel_59 rfl (lv_at hl 2 rfl) ?_
        refine g_cVi (As := [.int x1]) (rest := []) E hl.1 (hR4 _ _ _ hw _) ok_X5_readBelow mw_752 ⟨(by show 40 + gn + 1 ≤ 40 + (gn + 1); omega), (by show 8 + (2 + 11) + (2000 + 60 * gn) ≤ 2000 + 60 * (gn + 1); omega)⟩ ⟨rfl, rfl⟩ rC21 rfl rfl rfl rfl rfl (Nat.le_of_ble_eq_true rfl) ⟨Nat.zero_le _, Nat.zero_le _⟩ hP hS dX5_readLevel_60 (fun r8 s8 hw H locs hP hS => ?_)
        obtain ⟨z8, hw⟩ := hw
        refine lv_if_ne (tgt := 68) hx hb dX5_readLevel_63 (by decide) (fun c9 => ?_) (fun c9 => ?_)
        · replace hw := hw.1 c9
          refine lv_aload_n hx hb dX5_readLevel_68 rfl (lv_at hl 1 rfl) ?_
          obtain ⟨h10, hw⟩ := hw
          refine fX5_1 E hP mw_261 h10 dX5_readLevel_69 ?_
          refine lv_iload hx hb dX5_readLevel_72 (lv_at hl 0 rfl) ?_
          refine g_cVv (As := [.int v6]) (rest := []) E hl.1 (c_X3_addOperation l D cy ad ha ((vp_lt h10)) hw _) ok_X3_addOperation mw_835 ⟨(by show 1 + 1 ≤ 40 + (gn + 1); omega), (by show 8 + (2 + 11) + 21 ≤ 2000 + 60 * (gn + 1); omega)⟩ ⟨rfl, rfl⟩ (rC17 (vp_lt h10)) rfl rfl rfl rfl rfl (Nat.le_of_ble_eq_true rfl) ⟨Nat.zero_le _, Nat.zero_le _⟩ hP hS dX5_readLevel_74 (fun s11 hw H locs hP hS => ?_)
          obtain ⟨v12, ev12⟩ : ∃ y : Int32, y = x3 + 1 := ⟨_, rfl⟩
          replace hw := hw v12 ev12
          refine lv_iinc (v := v12) (lv' := [(3, .int v12), (4, .int v6), (0, .ref (ad 21 0)), (1, .int x1), (2, .int x2)]) hx hb dX5_readLevel_77 hl (k := 4) rfl (by rw [ev12]; rfl) (by decide) rfl (fun ls hl => ?_)
          refine lv_goto (tgt := 24) hx hb dX5_readLevel_80 (by decide) ?_
          exact hk24 s11 x1 x2 v12 hw _ _ _ hP hS (lv_sub hl [2, 3, 4, 0] rfl)
        · replace hw := hw.2 c9
          refine lv_iconst (v := 0) hx hb dX5_readLevel_66 (by decide) ?_
          exact g_zret E (Or.inl rfl) hw hP hS dX5_readLevel_67
def wb_X5_readLevel (R0 : (Int32 → St → Prop) → St → Int32 → Prop) (R1 : (Int32 → St → Prop) → St → Prop) (R2 : (Int32 → St → Prop) → St → Prop) (R3 : (Int32 → St → Prop) → St → Prop) (R4 : (Int32 → St → Prop) → St → Int32 → Prop) (post : Int32 → St → Prop) (σ : St) (x1 : Int32) : Prop := R4 (fun r1 s1 => ((¬ r1 = 0 → (((¬ x1 = 2 → (∃ n4 : Nat, l_X5_readLevel_24 R0 R1 R2 R3 R4 post n4 s1 x1 (96 : Int32) (0 : Int32))) ∧ (x1 = 2 → (∃ n5 : Nat, l_X5_readLevel_24 R0 R1 R2 R3 R4 post n5 s1 x1 (1 : Int32) (0 : Int32)))))) ∧ (r1 = 0 → (post 0 s1)))) σ x1
theorem B_X5_readLevel_0 (E : EnvW p s m args meth c D cy regsC ad "RoofWar$Reader" cX5_readLevel 5 (some .boolean)) (ha : Apart regsC ad) {post : Int32 → St → Prop} {gn : Nat} {R0 : (Int32 → St → Prop) → St → Int32 → Prop} {R1 : (Int32 → St → Prop) → St → Prop} {R2 : (Int32 → St → Prop) → St → Prop} {R3 : (Int32 → St → Prop) → St → Prop} {R4 : (Int32 → St → Prop) → St → Int32 → Prop} (hR0 : ∀ (post : Int32 → St → Prop) (σ : St) (x1 : Int32), R0 post σ x1 → ∀ sz : Nat, MetI l yX5_readLevel cX5_readLevel 5 .boolean (rmG_rd gn) [.ref (ad 21 0), .int x1] D cy (cellC cy ad) regsC ad σ sz (fun r u => (r = 0 ∨ r = 1) ∧ post r u)) (hR1 : ∀ (post : Int32 → St → Prop) (σ : St), R1 post σ → ∀ sz : Nat, MetI l yX5_readPiece cX5_readPiece 1 .boolean (rmG_rd gn) [.ref (ad 21 0)] D cy (cellC cy ad) regsC ad σ sz (fun r u => (r = 0 ∨ r = 1) ∧ post r u)) (hR2 : ∀ (post : Int32 → St → Prop) (σ : St), R2 post σ → ∀ sz : Nat, MetI l yX5_readNot cX5_readNot 1 .boolean (rmG_rd gn) [.ref (ad 21 0)] D cy (cellC cy ad) regsC ad σ sz (fun r u => (r = 0 ∨ r = 1) ∧ post r u)) (hR3 : ∀ (post : Int32 → St → Prop) (σ : St), R3 post σ → ∀ sz : Nat, MetI l yX5_readBracket cX5_readBracket 1 .boolean (rmG_rd gn) [.ref (ad 21 0)] D cy (cellC cy ad) regsC ad σ sz (fun r u => (r = 0 ∨ r = 1) ∧ post r u)) (hR4 : ∀ (post : Int32 → St → Prop) (σ : St) (x1 : Int32), R4 post σ x1 → ∀ sz : Nat, MetI l yX5_readBelow cX5_readBelow 2 .boolean (rmG_rd gn) [.ref (ad 21 0), .int x1] D cy (cellC cy ad) regsC ad σ sz (fun r u => (r = 0 ∨ r = 1) ∧ post r u)) {σ : St} {x1 : Int32} (hw : wb_X5_readLevel R0 R1 R2 R3 R4 post σ x1) {H : Heap} {locs : List Loc} {ls : Array Slot} (hP : va_P D CLS (wC cy ad σ) H) (hS : va_S (AC ad s.heap.size) s.heap H locs) (hl : lv_has ls 5 [(0, .ref (ad 21 0)), (1, .int x1)]) : W p l e (rmG_rd (gn + 1)) s m args below meth c H locs 0 0 (MQ below (QI D cy (cellC cy ad) regsC ad s.heap.size (fun r u => (r = 0 ∨ r = 1) ∧ post r u)) args s 0 0 (AC ad s.heap.size)) (F0 m 0 ls []) := by
  obtain ⟨hx, hb, -⟩ := id E
  unfold wb_X5_readLevel at hw
  refine lv_aload_n hx hb dX5_readLevel_0 rfl (lv_at hl 0 rfl) ?_
  refine lv_iload_n hx hb dX5_readLevel_1 rfl (lv_at hl 1 rfl) ?_
  refine g_cVi (As := [.int x1]) (rest := []) E hl.1 (hR4 _ _ _ hw _) ok_X5_readBelow mw_752 ⟨(by show 40 + gn + 1 ≤ 40 + (gn + 1); omega), (by show 8 + (2 + 11) + (2000 + 60 * gn) ≤ 2000 + 60 * (gn + 1); omega)⟩ ⟨rfl, rfl⟩ rC21 rfl rfl rfl rfl rfl (Nat.le_of_ble_eq_true rfl) ⟨Nat.zero_le _, Nat.zero_le _⟩ hP hS dX5_readLevel_2 (fun r1 s1 hw H locs hP hS => ?_)
  obtain ⟨z1, hw⟩ := hw
  refine lv_if_ne (tgt := 10) hx hb dX5_readLevel_5 (by decide) (fun c2 => ?_) (fun c2 => ?_)
  · replace hw := hw.1 c2
    refine lv_iload_n hx hb dX5_readLevel_10 rfl (lv_at hl 1 rfl) ?_
    refine lv_iconst (v := 2) hx hb dX5_readLevel_11 (by decide) ?_
    refine lv_icmp_ne (tgt := 19) hx hb dX5_readLevel_12 (by decide) (fun c3 => ?_) (fun c3 => ?_)
    · replace hw := hw.1 c3
      refine lv_bipush (v := 96) hx hb dX5_readLevel_19 (by decide) ?_
      refine lv_istore_n (lv' := [(2, .int 96), (0, .ref (ad 21 0)), (1, .int x1)]) hx hb dX5_readLevel_21 rfl hl (by decide) rfl (fun ls hl => ?_)
      refine lv_iconst (v := 0) hx hb dX5_readLevel_22 (by decide) ?_
      refine lv_istore_n (lv' := [(3, .int 0), (2, .int 96), (0, .ref (ad 21 0)), (1, .int x1)]) hx hb dX5_readLevel_23 rfl hl (by decide) rfl (fun ls hl => ?_)
      obtain ⟨n4, hw⟩ := hw
      exact L_X5_readLevel_24 E ha hR0 hR1 hR2 hR3 hR4 n4 s1 x1 (96 : Int32) (0 : Int32) hw _ _ _ hP hS (lv_sub hl [2, 3, 1, 0] rfl)
    · replace hw := hw.2 c3
      refine lv_iconst (v := 1) hx hb dX5_readLevel_15 (by decide) ?_
      refine lv_goto (tgt := 21) hx hb dX5_readLevel_16 (by decide) ?_
      refine lv_istore_n (lv' := [(2, .int 1), (0, .ref (ad 21 0)), (1, .int x1)]) hx hb dX5_readLevel_21 rfl hl (by decide) rfl (fun ls hl => ?_)
      refine lv_iconst (v := 0) hx hb dX5_readLevel_22 (by decide) ?_
      refine lv_istore_n (lv' := [(3, .int 0), (2, .int 1), (0, .ref (ad 21 0)), (1, .int x1)]) hx hb dX5_readLevel_23 rfl hl (by decide) rfl (fun ls hl => ?_)
      obtain ⟨n5, hw⟩ := hw
      exact L_X5_readLevel_24 E ha hR0 hR1 hR2 hR3 hR4 n5 s1 x1 (1 : Int32) (0 : Int32) hw _ _ _ hP hS (lv_sub hl [2, 3, 1, 0] rfl)
  · replace hw := hw.2 c2
    refine lv_iconst (v := 0) hx hb dX5_readLevel_8 (by decide) ?_
    exact g_zret E (Or.inl rfl) hw hP hS dX5_readLevel_9
-- RoofWar$Reader.readPiece()Z
theorem dX5_readPiece_0 : decode cX5_readPiece 0 = .ok (.aload_n 0, 1) := by decide +kernel
theorem dX5_readPiece_1 : decode cX5_readPiece 1 = .ok (.getfield 24, 3) := by decide +kernel
theorem dX5_readPiece_4 : decode cX5_readPiece 4 = .ok (.iconst 2, 1) := by decide +kernel
theorem dX5_readPiece_5 : decode cX5_readPiece 5 = .ok (.if_icmp .ne 20, 3) := by decide +kernel
theorem dX5_readPiece_8 : decode cX5_readPiece 8 = .ok (.aload_n 0, 1) := by decide +kernel
theorem dX5_readPiece_9 : decode cX5_readPiece 9 = .ok (.getfield 15, 3) := by decide +kernel
theorem dX5_readPiece_12 : decode cX5_readPiece 12 = .ok (.aload_n 0, 1) := by decide +kernel
theorem dX5_readPiece_13 : decode cX5_readPiece 13 = .ok (.invokevirtual 125, 3) := by decide +kernel
theorem dX5_readPiece_16 : decode cX5_readPiece 16 = .ok (.invokevirtual 128, 3) := by decide +kernel
theorem dX5_readPiece_19 : decode cX5_readPiece 19 = .ok (.aload_n 0, 1) := by decide +kernel
theorem dX5_readPiece_20 : decode cX5_readPiece 20 = .ok (.invokevirtual 37, 3) := by decide +kernel
theorem dX5_readPiece_23 : decode cX5_readPiece 23 = .ok (.iconst 1, 1) := by decide +kernel
theorem dX5_readPiece_24 : decode cX5_readPiece 24 = .ok (.ireturn, 1) := by decide +kernel
theorem dX5_readPiece_25 : decode cX5_readPiece 25 = .ok (.aload_n 0, 1) := by decide +kernel
theorem dX5_readPiece_26 : decode cX5_readPiece 26 = .ok (.getfield 24, 3) := by decide +kernel
theorem dX5_readPiece_29 : decode cX5_readPiece 29 = .ok (.iconst 1, 1) := by decide +kernel
theorem dX5_readPiece_30 : decode cX5_readPiece 30 = .ok (.if_icmp .ne 8, 3) := by decide +kernel
theorem dX5_readPiece_33 : decode cX5_readPiece 33 = .ok (.aload_n 0, 1) := by decide +kernel
theorem dX5_readPiece_34 : decode cX5_readPiece 34 = .ok (.invokevirtual 131, 3) := by decide +kernel
theorem dX5_readPiece_37 : decode cX5_readPiece 37 = .ok (.ireturn, 1) := by decide +kernel
theorem dX5_readPiece_38 : decode cX5_readPiece 38 = .ok (.aload_n 0, 1) := by decide +kernel
theorem dX5_readPiece_39 : decode cX5_readPiece 39 = .ok (.ldc 134, 2) := by decide +kernel
theorem dX5_readPiece_41 : decode cX5_readPiece 41 = .ok (.invokevirtual 115, 3) := by decide +kernel
theorem dX5_readPiece_44 : decode cX5_readPiece 44 = .ok (.ifCond .eq 8, 3) := by decide +kernel
theorem dX5_readPiece_47 : decode cX5_readPiece 47 = .ok (.aload_n 0, 1) := by decide +kernel
theorem dX5_readPiece_48 : decode cX5_readPiece 48 = .ok (.invokevirtual 136, 3) := by decide +kernel
theorem dX5_readPiece_51 : decode cX5_readPiece 51 = .ok (.ireturn, 1) := by decide +kernel
theorem dX5_readPiece_52 : decode cX5_readPiece 52 = .ok (.aload_n 0, 1) := by decide +kernel
theorem dX5_readPiece_53 : decode cX5_readPiece 53 = .ok (.ldc 139, 2) := by decide +kernel
theorem dX5_readPiece_55 : decode cX5_readPiece 55 = .ok (.invokevirtual 115, 3) := by decide +kernel
theorem dX5_readPiece_58 : decode cX5_readPiece 58 = .ok (.ifCond .eq 14, 3) := by decide +kernel
theorem dX5_readPiece_61 : decode cX5_readPiece 61 = .ok (.aload_n 0, 1) := by decide +kernel
theorem dX5_readPiece_62 : decode cX5_readPiece 62 = .ok (.invokevirtual 141, 3) := by decide +kernel
theorem dX5_readPiece_65 : decode cX5_readPiece 65 = .ok (.ifCond .eq 7, 3) := by decide +kernel
theorem dX5_readPiece_68 : decode cX5_readPiece 68 = .ok (.iconst 1, 1) := by decide +kernel
theorem dX5_readPiece_69 : decode cX5_readPiece 69 = .ok (.goto 4, 3) := by decide +kernel
theorem dX5_readPiece_72 : decode cX5_readPiece 72 = .ok (.iconst 0, 1) := by decide +kernel
theorem dX5_readPiece_73 : decode cX5_readPiece 73 = .ok (.ireturn, 1) := by decide +kernel
def wb_X5_readPiece (R0 : (Int32 → St → Prop) → St → Int32 → Prop) (R1 : (Int32 → St → Prop) → St → Prop) (R2 : (Int32 → St → Prop) → St → Prop) (R3 : (Int32 → St → Prop) → St → Prop) (R4 : (Int32 → St → Prop) → St → Int32 → Prop) (post : Int32 → St → Prop) (σ : St) : Prop := ((¬ (σ 21 0 0) = 2 → (((¬ (σ 21 0 0) = 1 → (w_X5_isSign (fun r3 s3 => ((r3 = 0 → (w_X5_isSign (fun r5 s5 => ((r5 = 0 → (post 0 s5)) ∧ (¬ r5 = 0 → (R3 (fun r7 s7 => ((r7 = 0 → (post 0 s7)) ∧ (¬ r7 = 0 → (post 1 s7)))) s5)))) s3 7)) ∧ (¬ r3 = 0 → (R2 (fun r9 s9 => post r9 s9) s3)))) σ 6)) ∧ ((σ 21 0 0) = 1 → (w_X5_readName (fun r10 s10 => post r10 s10) σ))))) ∧ ((σ 21 0 0) = 2 → (vp_in (σ 21 0 5) 15 ∧ (w_X5_number (fun r12 s12 => w_X3_addLeaf (fun s13 => w_X5_step (fun s14 => post 1 s14) s13) s12 ((σ 21 0 5).toNatClampNeg) r12) σ))))
theorem B_X5_readPiece_0 (E : EnvW p s m args meth c D cy regsC ad "RoofWar$Reader" cX5_readPiece 1 (some .boolean)) (ha : Apart regsC ad) {post : Int32 → St → Prop} {gn : Nat} {R0 : (Int32 → St → Prop) → St → Int32 → Prop} {R1 : (Int32 → St → Prop) → St → Prop} {R2 : (Int32 → St → Prop) → St → Prop} {R3 : (Int32 → St → Prop) → St → Prop} {R4 : (Int32 → St → Prop) → St → Int32 → Prop} (hR0 : ∀ (post : Int32 → St → Prop) (σ : St) (x1 : Int32), R0 post σ x1 → ∀ sz : Nat, MetI l yX5_readLevel cX5_readLevel 5 .boolean (rmG_rd gn) [.ref (ad 21 0), .int x1] D cy (cellC cy ad) regsC ad σ sz (fun r u => (r = 0 ∨ r = 1) ∧ post r u)) (hR1 : ∀ (post : Int32 → St → Prop) (σ : St), R1 post σ → ∀ sz : Nat, MetI l yX5_readPiece cX5_readPiece 1 .boolean (rmG_rd gn) [.ref (ad 21 0)] D cy (cellC cy ad) regsC ad σ sz (fun r u => (r = 0 ∨ r = 1) ∧ post r u)) (hR2 : ∀ (post : Int32 → St → Prop) (σ : St), R2 post σ → ∀ sz : Nat, MetI l yX5_readNot cX5_readNot 1 .boolean (rmG_rd gn) [.ref (ad 21 0)] D cy (cellC cy ad) regsC ad σ sz (fun r u => (r = 0 ∨ r = 1) ∧ post r u)) (hR3 : ∀ (post : Int32 → St → Prop) (σ : St), R3 post σ → ∀ sz : Nat, MetI l yX5_readBracket cX5_readBracket 1 .boolean (rmG_rd gn) [.ref (ad 21 0)] D cy (cellC cy ad) regsC ad σ sz (fun r u => (r = 0 ∨ r = 1) ∧ post r u)) (hR4 : ∀ (post : Int32 → St → Prop) (σ : St) (x1 : Int32), R4 post σ x1 → ∀ sz : Nat, MetI l yX5_readBelow cX5_readBelow 2 .boolean (rmG_rd gn) [.ref (ad 21 0), .int x1] D cy (cellC cy ad) regsC ad σ sz (fun r u => (r = 0 ∨ r = 1) ∧ post r u)) {σ : St} (hw : wb_X5_readPiece R0 R1 R2 R3 R4 post σ) {H : Heap} {locs : List Loc} {ls : Array Slot} (hP : va_P D CLS (wC cy ad σ) H) (hS : va_S (AC ad s.heap.size) s.heap H locs) (hl : lv_has ls 1 [(0, .ref (ad 21 0))]) : W p l e (rmG_rd (gn + 1)) s m args below meth c H locs 0 0 (MQ below (QI D cy (cellC cy ad) regsC ad s.heap.size (fun r u => (r = 0 ∨ r = 1) ∧ post r u)) args s 0 0 (AC ad s.heap.size)) (F0 m 0 ls []) := by
  obtain ⟨hx, hb, -⟩ := id E
  unfold wb_X5_readPiece at hw
  refine lv_aload_n hx hb dX5_readPiece_0 rfl (lv_at hl 0 rfl) ?_
  refine fX5_2 E hP mw_262 dX5_readPiece_1 ?_
  refine lv_iconst (v := 2) hx hb dX5_readPiece_4 (by decide) ?_
  refine lv_icmp_ne (tgt := 25) hx hb dX5_readPiece_5 (by decide) (fun c1 => ?_) (fun c1 => ?_)
  · replace hw := hw.1 c1
    refine lv_aload_n hx hb dX5_readPiece_25 rfl (lv_at hl 0 rfl) ?_
    refine fX5_2 E hP mw_262 dX5_readPiece_26 ?_
    refine lv_iconst (v := 1) hx hb dX5_readPiece_29 (by decide) ?_
    refine lv_icmp_ne (tgt := 38) hx hb dX5_readPiece_30 (by decide) (fun c2 => ?_) (fun c2 => ?_)
    · replace hw := hw.1 c2
      refine lv_aload_n hx hb dX5_readPiece_38 rfl (lv_at hl 0 rfl) ?_
      refine g_ldcS (i := 6) (by decide) rfl E dX5_readPiece_39 ?_
      refine g_cVi (As := [.ref (ad 90 6)]) (rest := []) E hl.1 (c_X5_isSign l D cy ad ha ((by decide : 6 < 14)) hw _) ok_X5_isSign mw_829 ⟨(by show 4 + 1 ≤ 40 + (gn + 1); omega), (by show 8 + (2 + 11) + 91 ≤ 2000 + 60 * (gn + 1); omega)⟩ ⟨rfl, rfl⟩ rC21 rfl rfl rfl rfl rfl (Nat.le_of_ble_eq_true rfl) ⟨Nat.zero_le _, Nat.zero_le _⟩ hP hS dX5_readPiece_41 (fun r3 s3 hw H locs hP hS => ?_)
      obtain ⟨z3, hw⟩ := hw
      refine lv_if_eq (tgt := 52) hx hb dX5_readPiece_44 (by decide) (fun c4 => ?_) (fun c4 => ?_)
      · replace hw := hw.1 c4
        refine lv_aload_n hx hb dX5_readPiece_52 rfl (lv_at hl 0 rfl) ?_
        refine g_ldcS (i := 7) (by decide) rfl E dX5_readPiece_53 ?_
        refine g_cVi (As := [.ref (ad 90 7)]) (rest := []) E hl.1 (c_X5_isSign l D cy ad ha ((by decide : 7 < 14)) hw _) ok_X5_isSign mw_829 ⟨(by show 4 + 1 ≤ 40 + (gn + 1); omega), (by show 8 + (2 + 11) + 91 ≤ 2000 + 60 * (gn + 1); omega)⟩ ⟨rfl, rfl⟩ rC21 rfl rfl rfl rfl rfl (Nat.le_of_ble_eq_true rfl) ⟨Nat.zero_le _, Nat.zero_le _⟩ hP hS dX5_readPiece_55 (fun r5 s5 hw H locs hP hS => ?_)
        obtain ⟨z5, hw⟩ := hw
        refine lv_if_eq (tgt := 72) hx hb dX5_readPiece_58 (by decide) (fun c6 => ?_) (fun c6 => ?_)
        · replace hw := hw.1 c6
          refine lv_iconst (v := 0) hx hb dX5_readPiece_72 (by decide) ?_
          exact g_zret E (Or.inl rfl) hw hP hS dX5_readPiece_73
        · replace hw := hw.2 c6
          refine lv_aload_n hx hb dX5_readPiece_61 rfl (lv_at hl 0 rfl) ?_
          refine g_cVi (As := []) (rest := []) E hl.1 (hR3 _ _ hw _) ok_X5_readBracket mw_839 ⟨(by show 40 + gn + 1 ≤ 40 + (gn + 1); omega), (by show 8 + (1 + 11) + (2000 + 60 * gn) ≤ 2000 + 60 * (gn + 1); omega)⟩ ⟨rfl, rfl⟩ rC21 rfl rfl rfl rfl rfl (Nat.le_of_ble_eq_true rfl) ⟨Nat.zero_le _, Nat.zero_le _⟩ hP hS dX5_readPiece_62 (fun r7 s7 hw H locs hP hS => ?_)
          obtain ⟨z7, hw⟩ := hw
          refine lv_if_eq (tgt := 72) hx hb dX5_readPiece_65 (by decide) (fun c8 => ?_) (fun c8 => ?_)
          · replace hw := hw.1 c8
            refine lv_iconst (v := 0) hx hb dX5_readPiece_72 (by decide) ?_
            exact g_zret E (Or.inl rfl) hw hP hS dX5_readPiece_73
          · replace hw := hw.2 c8
            refine lv_iconst (v := 1) hx hb dX5_readPiece_68 (by decide) ?_
            refine lv_goto (tgt := 73) hx hb dX5_readPiece_69 (by decide) ?_
            exact g_zret E (Or.inr rfl) hw hP hS dX5_readPiece_73
      · replace hw := hw.2 c4
        refine lv_aload_n hx hb dX5_readPiece_47 rfl (lv_at hl 0 rfl) ?_
        refine g_cVi (As := []) (rest := []) E hl.1 (hR2 _ _ hw _) ok_X5_readNot mw_832 ⟨(by show 40 + gn + 1 ≤ 40 + (gn + 1); omega), (by show 8 + (1 + 11) + (2000 + 60 * gn) ≤ 2000 + 60 * (gn + 1); omega)⟩ ⟨rfl, rfl⟩ rC21 rfl rfl rfl rfl rfl (Nat.le_of_ble_eq_true rfl) ⟨Nat.zero_le _, Nat.zero_le _⟩ hP hS dX5_readPiece_48 (fun r9 s9 hw H locs hP hS => ?_)
        obtain ⟨z9, hw⟩ := hw
        exact g_zret E z9 hw hP hS dX5_readPiece_51
    · replace hw := hw.2 c2
      refine lv_aload_n hx hb dX5_readPiece_33 rfl (lv_at hl 0 rfl) ?_
      refine g_cVi (As := []) (rest := []) E hl.1 (c_X5_readName l D cy ad ha hw _) ok_X5_readName mw_768 ⟨(by show 4 + 1 ≤ 40 + (gn + 1); omega), (by show 8 + (2 + 11) + 91 ≤ 2000 + 60 * (gn + 1); omega)⟩ ⟨rfl, rfl⟩ rC21 rfl rfl rfl rfl rfl (Nat.le_of_ble_eq_true rfl) ⟨Nat.zero_le _, Nat.zero_le _⟩ hP hS dX5_readPiece_34 (fun r10 s10 hw H locs hP hS => ?_)
      obtain ⟨z10, hw⟩ := hw
      exact g_zret E z10 hw hP hS dX5_readPiece_37
  · replace hw := hw.2 c1
    refine lv_aload_n hx hb dX5_readPiece_8 rfl (lv_at hl 0 rfl) ?_
    obtain ⟨h11, hw⟩ := hw
    refine fX5_1 E hP mw_261 h11 dX5_readPiece_9 ?_
    refine lv_aload_n hx hb dX5_readPiece_12 rfl (lv_at hl 0 rfl) ?_
    refine g_cVi (As := []) (rest := [.ref (ad 17 ((σ 21 0 5).toNatClampNeg))]) E hl.1 (c_X5_number l D cy ad ha hw _) ok_X5_number mw_758 ⟨(by show 0 + 1 ≤ 40 + (gn + 1); omega), (by show 8 + (3 + 11) + 0 ≤ 2000 + 60 * (gn + 1); omega)⟩ ⟨rfl, rfl⟩ rC21 rfl rfl rfl rfl rfl (Nat.le_of_ble_eq_true rfl) ⟨Nat.zero_le _, Nat.zero_le _⟩ hP hS dX5_readPiece_13 (fun r12 s12 hw H locs hP hS => ?_)
    refine g_cVv (As := [.int r12]) (rest := []) E hl.1 (c_X3_addLeaf l D cy ad ha ((vp_lt h11)) hw _) ok_X3_addLeaf mw_761 ⟨(by show 1 + 1 ≤ 40 + (gn + 1); omega), (by show 8 + (2 + 11) + 21 ≤ 2000 + 60 * (gn + 1); omega)⟩ ⟨rfl, rfl⟩ (rC17 (vp_lt h11)) rfl rfl rfl rfl rfl (Nat.le_of_ble_eq_true rfl) ⟨Nat.zero_le _, Nat.zero_le _⟩ hP hS dX5_readPiece_16 (fun s13 hw H locs hP hS => ?_)
    refine lv_aload_n hx hb dX5_readPiece_19 rfl (lv_at hl 0 rfl) ?_
    refine g_cVv (As := []) (rest := []) E hl.1 (c_X5_step l D cy ad ha hw _) ok_X5_step mw_691 ⟨(by show 1 + 1 ≤ 40 + (gn + 1); omega), (by show 8 + (3 + 11) + 20 ≤ 2000 + 60 * (gn + 1); omega)⟩ ⟨rfl, rfl⟩ rC21 rfl rfl rfl rfl rfl (Nat.le_of_ble_eq_true rfl) ⟨Nat.zero_le _, Nat.zero_le _⟩ hP hS dX5_readPiece_20 (fun s14 hw H locs hP hS => ?_)
    refine lv_iconst (v := 1) hx hb dX5_readPiece_23 (by decide) ?_
    exact g_zret E (Or.inr rfl) hw hP hS dX5_readPiece_24
-- RoofWar$Reader.readNot()Z
theorem dX5_readNot_0 : decode cX5_readNot 0 = .ok (.aload_n 0, 1) := by decide +kernel
theorem dX5_readNot_1 : decode cX5_readNot 1 = .ok (.getfield 34, 3) := by decide +kernel
theorem dX5_readNot_4 : decode cX5_readNot 4 = .ok (.bipush 8, 2) := by decide +kernel
theorem dX5_readNot_6 : decode cX5_readNot 6 = .ok (.if_icmp .lt 5, 3) := by decide +kernel
theorem dX5_readNot_9 : decode cX5_readNot 9 = .ok (.iconst 0, 1) := by decide +kernel
theorem dX5_readNot_10 : decode cX5_readNot 10 = .ok (.ireturn, 1) := by decide +kernel
theorem dX5_readNot_11 : decode cX5_readNot 11 = .ok (.aload_n 0, 1) := by decide +kernel
theorem dX5_readNot_12 : decode cX5_readNot 12 = .ok (.dup, 1) := by decide +kernel
theorem dX5_readNot_13 : decode cX5_readNot 13 = .ok (.getfield 34, 3) := by decide +kernel
theorem dX5_readNot_16 : decode cX5_readNot 16 = .ok (.iconst 1, 1) := by decide +kernel
theorem dX5_readNot_17 : decode cX5_readNot 17 = .ok (.iadd, 1) := by decide +kernel
theorem dX5_readNot_18 : decode cX5_readNot 18 = .ok (.putfield 34, 3) := by decide +kernel
theorem dX5_readNot_21 : decode cX5_readNot 21 = .ok (.aload_n 0, 1) := by decide +kernel
theorem dX5_readNot_22 : decode cX5_readNot 22 = .ok (.invokevirtual 37, 3) := by decide +kernel
theorem dX5_readNot_25 : decode cX5_readNot 25 = .ok (.aload_n 0, 1) := by decide +kernel
theorem dX5_readNot_26 : decode cX5_readNot 26 = .ok (.invokevirtual 122, 3) := by decide +kernel
theorem dX5_readNot_29 : decode cX5_readNot 29 = .ok (.ifCond .ne 5, 3) := by decide +kernel
theorem dX5_readNot_32 : decode cX5_readNot 32 = .ok (.iconst 0, 1) := by decide +kernel
theorem dX5_readNot_33 : decode cX5_readNot 33 = .ok (.ireturn, 1) := by decide +kernel
theorem dX5_readNot_34 : decode cX5_readNot 34 = .ok (.aload_n 0, 1) := by decide +kernel
theorem dX5_readNot_35 : decode cX5_readNot 35 = .ok (.dup, 1) := by decide +kernel
theorem dX5_readNot_36 : decode cX5_readNot 36 = .ok (.getfield 34, 3) := by decide +kernel
theorem dX5_readNot_39 : decode cX5_readNot 39 = .ok (.iconst 1, 1) := by decide +kernel
theorem dX5_readNot_40 : decode cX5_readNot 40 = .ok (.isub, 1) := by decide +kernel
theorem dX5_readNot_41 : decode cX5_readNot 41 = .ok (.putfield 34, 3) := by decide +kernel
theorem dX5_readNot_44 : decode cX5_readNot 44 = .ok (.aload_n 0, 1) := by decide +kernel
theorem dX5_readNot_45 : decode cX5_readNot 45 = .ok (.getfield 15, 3) := by decide +kernel
theorem dX5_readNot_48 : decode cX5_readNot 48 = .ok (.bipush 33, 2) := by decide +kernel
theorem dX5_readNot_50 : decode cX5_readNot 50 = .ok (.invokevirtual 118, 3) := by decide +kernel
theorem dX5_readNot_53 : decode cX5_readNot 53 = .ok (.iconst 1, 1) := by decide +kernel
theorem dX5_readNot_54 : decode cX5_readNot 54 = .ok (.ireturn, 1) := by decide +kernel
def wb_X5_readNot (R0 : (Int32 → St → Prop) → St → Int32 → Prop) (R1 : (Int32 → St → Prop) → St → Prop) (R2 : (Int32 → St → Prop) → St → Prop) (R3 : (Int32 → St → Prop) → St → Prop) (R4 : (Int32 → St → Prop) → St → Int32 → Prop) (post : Int32 → St → Prop) (σ : St) : Prop := (((σ 21 0 4) < 8 → (∀ s2 : St, s2 = wr σ 21 0 4 ((σ 21 0 4) + 1) → (w_X5_step (fun s3 => R1 (fun r4 s4 => ((¬ r4 = 0 → (∀ s6 : St, s6 = wr s4 21 0 4 ((s4 21 0 4) - 1) → (vp_in (s6 21 0 5) 15 ∧ (w_X3_addOperation (fun s8 => post 1 s8) s6 ((s6 21 0 5).toNatClampNeg) (33 : Int32))))) ∧ (r4 = 0 → (post 0 s4)))) s3) s2))) ∧ (¬ (σ 21 0 4) < 8 → (post 0 σ)))
theorem B_X5_readNot_0 (E : EnvW p s m args meth c D cy regsC ad "RoofWar$Reader" cX5_readNot 1 (some .boolean)) (ha : Apart regsC ad) {post : Int32 → St → Prop} {gn : Nat} {R0 : (Int32 → St → Prop) → St → Int32 → Prop} {R1 : (Int32 → St → Prop) → St → Prop} {R2 : (Int32 → St → Prop) → St → Prop} {R3 : (Int32 → St → Prop) → St → Prop} {R4 : (Int32 → St → Prop) → St → Int32 → Prop} (hR0 : ∀ (post : Int32 → St → Prop) (σ : St) (x1 : Int32), R0 post σ x1 → ∀ sz : Nat, MetI l yX5_readLevel cX5_readLevel 5 .boolean (rmG_rd gn) [.ref (ad 21 0), .int x1] D cy (cellC cy ad) regsC ad σ sz (fun r u => (r = 0 ∨ r = 1) ∧ post r u)) (hR1 : ∀ (post : Int32 → St → Prop) (σ : St), R1 post σ → ∀ sz : Nat, MetI l yX5_readPiece cX5_readPiece 1 .boolean (rmG_rd gn) [.ref (ad 21 0)] D cy (cellC cy ad) regsC ad σ sz (fun r u => (r = 0 ∨ r = 1) ∧ post r u)) (hR2 : ∀ (post : Int32 → St → Prop) (σ : St), R2 post σ → ∀ sz : Nat, MetI l yX5_readNot cX5_readNot 1 .boolean (rmG_rd gn) [.ref (ad 21 0)] D cy (cellC cy ad) regsC ad σ sz (fun r u => (r = 0 ∨ r = 1) ∧ post r u)) (hR3 : ∀ (post : Int32 → St → Prop) (σ : St), R3 post σ → ∀ sz : Nat, MetI l yX5_readBracket cX5_readBracket 1 .boolean (rmG_rd gn) [.ref (ad 21 0)] D cy (cellC cy ad) regsC ad σ sz (fun r u => (r = 0 ∨ r = 1) ∧ post r u)) (hR4 : ∀ (post : Int32 → St → Prop) (σ : St) (x1 : Int32), R4 post σ x1 → ∀ sz : Nat, MetI l yX5_readBelow cX5_readBelow 2 .boolean (rmG_rd gn) [.ref (ad 21 0), .int x1] D cy (cellC cy ad) regsC ad σ sz (fun r u => (r = 0 ∨ r = 1) ∧ post r u)) {σ : St} (hw : wb_X5_readNot R0 R1 R2 R3 R4 post σ) {H : Heap} {locs : List Loc} {ls : Array Slot} (hP : va_P D CLS (wC cy ad σ) H) (hS : va_S (AC ad s.heap.size) s.heap H locs) (hl : lv_has ls 1 [(0, .ref (ad 21 0))]) : W p l e (rmG_rd (gn + 1)) s m args below meth c H locs 0 0 (MQ below (QI D cy (cellC cy ad) regsC ad s.heap.size (fun r u => (r = 0 ∨ r = 1) ∧ post r u)) args s 0 0 (AC ad s.heap.size)) (F0 m 0 ls []) := by
  obtain ⟨hx, hb, -⟩ := id E
  unfold wb_X5_readNot at hw
  refine lv_aload_n hx hb dX5_readNot_0 rfl (lv_at hl 0 rfl) ?_
  refine fX5_6 E hP mw_266 dX5_readNot_1 ?_
  refine lv_bipush (v := 8) hx hb dX5_readNot_4 (by decide) ?_
  refine lv_icmp_lt (tgt := 11) hx hb dX5_readNot_6 (by decide) (fun c1 => ?_) (fun c1 => ?_)
  · replace hw := hw.1 c1
    refine lv_aload_n hx hb dX5_readNot_11 rfl (lv_at hl 0 rfl) ?_
    refine lv_dup hx hb dX5_readNot_12 rfl ?_
    refine fX5_6 E hP mw_266 dX5_readNot_13 ?_
    refine lv_iconst (v := 1) hx hb dX5_readNot_16 (by decide) ?_
    refine lv_iadd hx hb dX5_readNot_17 ?_
    refine uX5_6 E ha mw_266 dX5_readNot_18 hP hS (fun s2 es2 H locs hP hS => ?_)
    replace hw := hw s2 es2
    refine lv_aload_n hx hb dX5_readNot_21 rfl (lv_at hl 0 rfl) ?_
    refine g_cVv (As := []) (rest := []) E hl.1 (c_X5_step l D cy ad ha hw _) ok_X5_step mw_691 ⟨(by show 1 + 1 ≤ 40 + (gn + 1); omega), (by show 8 + (3 + 11) + 20 ≤ 2000 + 60 * (gn + 1); omega)⟩ ⟨rfl, rfl⟩ rC21 rfl rfl rfl rfl rfl (Nat.le_of_ble_eq_true rfl) ⟨Nat.zero_le _, Nat.zero_le _⟩ hP hS dX5_readNot_22 (fun s3 hw H locs hP hS => ?_)
    refine lv_aload_n hx hb dX5_readNot_25 rfl (lv_at hl 0 rfl) ?_
    refine g_cVi (As := []) (rest := []) E hl.1 (hR1 _ _ hw _) ok_X5_readPiece mw_755 ⟨(by show 40 + gn + 1 ≤ 40 + (gn + 1); omega), (by show 8 + (1 + 11) + (2000 + 60 * gn) ≤ 2000 + 60 * (gn + 1); omega)⟩ ⟨rfl, rfl⟩ rC21 rfl rfl rfl rfl rfl (Nat.le_of_ble_eq_true rfl) ⟨Nat.zero_le _, Nat.zero_le _⟩ hP hS dX5_readNot_26 (fun r4 s4 hw H locs hP hS => ?_)
    obtain ⟨z4, hw⟩ := hw
    refine lv_if_ne (tgt := 34) hx hb dX5_readNot_29 (by decide) (fun c5 => ?_) (fun c5 => ?_)
    · replace hw := hw.1 c5
      refine lv_aload_n hx hb dX5_readNot_34 rfl (lv_at hl 0 rfl) ?_
      refine lv_dup hx hb dX5_readNot_35 rfl ?_
      refine fX5_6 E hP mw_266 dX5_readNot_36 ?_
      refine lv_iconst (v := 1) hx hb dX5_readNot_39 (by decide) ?_
      refine lv_isub hx hb dX5_readNot_40 ?_
      refine uX5_6 E ha mw_266 dX5_readNot_41 hP hS (fun s6 es6 H locs hP hS => ?_)
      replace hw := hw s6 es6
      refine lv_aload_n hx hb dX5_readNot_44 rfl (lv_at hl 0 rfl) ?_
      obtain ⟨h7, hw⟩ := hw
      refine fX5_1 E hP mw_261 h7 dX5_readNot_45 ?_
      refine lv_bipush (v := 33) hx hb dX5_readNot_48 (by decide) ?_
      refine g_cVv (As := [.int 33]) (rest := []) E hl.1 (c_X3_addOperation l D cy ad ha ((vp_lt h7)) hw _) ok_X3_addOperation mw_835 ⟨(by show 1 + 1 ≤ 40 + (gn + 1); omega), (by show 8 + (2 + 11) + 21 ≤ 2000 + 60 * (gn + 1); omega)⟩ ⟨rfl, rfl⟩ (rC17 (vp_lt h7)) rfl rfl rfl rfl rfl (Nat.le_of_ble_eq_true rfl) ⟨Nat.zero_le _, Nat.zero_le _⟩ hP hS dX5_readNot_50 (fun s8 hw H locs hP hS => ?_)
      refine lv_iconst (v := 1) hx hb dX5_readNot_53 (by decide) ?_
      exact g_zret E (Or.inr rfl) hw hP hS dX5_readNot_54
    · replace hw := hw.2 c5
      refine lv_iconst (v := 0) hx hb dX5_readNot_32 (by decide) ?_
      exact g_zret E (Or.inl rfl) hw hP hS dX5_readNot_33
  · replace hw := hw.2 c1
    refine lv_iconst (v := 0) hx hb dX5_readNot_9 (by decide) ?_
    exact g_zret E (Or.inl rfl) hw hP hS dX5_readNot_10
-- RoofWar$Reader.readBracket()Z
theorem dX5_readBracket_0 : decode cX5_readBracket 0 = .ok (.aload_n 0, 1) := by decide +kernel
theorem dX5_readBracket_1 : decode cX5_readBracket 1 = .ok (.getfield 31, 3) := by decide +kernel
theorem dX5_readBracket_4 : decode cX5_readBracket 4 = .ok (.bipush 8, 2) := by decide +kernel
theorem dX5_readBracket_6 : decode cX5_readBracket 6 = .ok (.if_icmp .lt 5, 3) := by decide +kernel
theorem dX5_readBracket_9 : decode cX5_readBracket 9 = .ok (.iconst 0, 1) := by decide +kernel
theorem dX5_readBracket_10 : decode cX5_readBracket 10 = .ok (.ireturn, 1) := by decide +kernel
theorem dX5_readBracket_11 : decode cX5_readBracket 11 = .ok (.aload_n 0, 1) := by decide +kernel
theorem dX5_readBracket_12 : decode cX5_readBracket 12 = .ok (.dup, 1) := by decide +kernel
theorem dX5_readBracket_13 : decode cX5_readBracket 13 = .ok (.getfield 31, 3) := by decide +kernel
theorem dX5_readBracket_16 : decode cX5_readBracket 16 = .ok (.iconst 1, 1) := by decide +kernel
theorem dX5_readBracket_17 : decode cX5_readBracket 17 = .ok (.iadd, 1) := by decide +kernel
theorem dX5_readBracket_18 : decode cX5_readBracket 18 = .ok (.putfield 31, 3) := by decide +kernel
theorem dX5_readBracket_21 : decode cX5_readBracket 21 = .ok (.aload_n 0, 1) := by decide +kernel
theorem dX5_readBracket_22 : decode cX5_readBracket 22 = .ok (.invokevirtual 37, 3) := by decide +kernel
theorem dX5_readBracket_25 : decode cX5_readBracket 25 = .ok (.aload_n 0, 1) := by decide +kernel
theorem dX5_readBracket_26 : decode cX5_readBracket 26 = .ok (.iconst 0, 1) := by decide +kernel
theorem dX5_readBracket_27 : decode cX5_readBracket 27 = .ok (.invokevirtual 44, 3) := by decide +kernel
theorem dX5_readBracket_30 : decode cX5_readBracket 30 = .ok (.ifCond .eq 12, 3) := by decide +kernel
theorem dX5_readBracket_33 : decode cX5_readBracket 33 = .ok (.aload_n 0, 1) := by decide +kernel
theorem dX5_readBracket_34 : decode cX5_readBracket 34 = .ok (.ldc 147, 2) := by decide +kernel
theorem dX5_readBracket_36 : decode cX5_readBracket 36 = .ok (.invokevirtual 115, 3) := by decide +kernel
theorem dX5_readBracket_39 : decode cX5_readBracket 39 = .ok (.ifCond .ne 5, 3) := by decide +kernel
theorem dX5_readBracket_42 : decode cX5_readBracket 42 = .ok (.iconst 0, 1) := by decide +kernel
theorem dX5_readBracket_43 : decode cX5_readBracket 43 = .ok (.ireturn, 1) := by decide +kernel
theorem dX5_readBracket_44 : decode cX5_readBracket 44 = .ok (.aload_n 0, 1) := by decide +kernel
theorem dX5_readBracket_45 : decode cX5_readBracket 45 = .ok (.dup, 1) := by decide +kernel
theorem dX5_readBracket_46 : decode cX5_readBracket 46 = .ok (.getfield 31, 3) := by decide +kernel
theorem dX5_readBracket_49 : decode cX5_readBracket 49 = .ok (.iconst 1, 1) := by decide +kernel
theorem dX5_readBracket_50 : decode cX5_readBracket 50 = .ok (.isub, 1) := by decide +kernel
theorem dX5_readBracket_51 : decode cX5_readBracket 51 = .ok (.putfield 31, 3) := by decide +kernel
theorem dX5_readBracket_54 : decode cX5_readBracket 54 = .ok (.aload_n 0, 1) := by decide +kernel
theorem dX5_readBracket_55 : decode cX5_readBracket 55 = .ok (.invokevirtual 37, 3) := by decide +kernel
theorem dX5_readBracket_58 : decode cX5_readBracket 58 = .ok (.iconst 1, 1) := by decide +kernel
theorem dX5_readBracket_59 : decode cX5_readBracket 59 = .ok (.ireturn, 1) := by decide +kernel
def wb_X5_readBracket (R0 : (Int32 → St → Prop) → St → Int32 → Prop) (R1 : (Int32 → St → Prop) → St → Prop) (R2 : (Int32 → St → Prop) → St → Prop) (R3 : (Int32 → St → Prop) → St → Prop) (R4 : (Int32 → St → Prop) → St → Int32 → Prop) (post : Int32 → St → Prop) (σ : St) : Prop := (((σ 21 0 3) < 8 → (∀ s2 : St, s2 = wr σ 21 0 3 ((σ 21 0 3) + 1) → (w_X5_step (fun s3 => R0 (fun r4 s4 => ((r4 = 0 → (post 0 s4)) ∧ (¬ r4 = 0 → (w_X5_isSign (fun r6 s6 => ((¬ r6 = 0 → (∀ s8 : St, s8 = wr s6 21 0 3 ((s6 21 0 3) - 1) → (w_X5_step (fun s9 => post 1 s9) s8))) ∧ (r6 = 0 → (post 0 s6)))) s4 8)))) s3 (0 : Int32)) s2))) ∧ (¬ (σ 21 0 3) < 8 → (post 0 σ)))
theorem B_X5_readBracket_0 (E : EnvW p s m args meth c D cy regsC ad "RoofWar$Reader" cX5_readBracket 1 (some .boolean)) (ha : Apart regsC ad) {post : Int32 → St → Prop} {gn : Nat} {R0 : (Int32 → St → Prop) → St → Int32 → Prop} {R1 : (Int32 → St → Prop) → St → Prop} {R2 : (Int32 → St → Prop) → St → Prop} {R3 : (Int32 → St → Prop) → St → Prop} {R4 : (Int32 → St → Prop) → St → Int32 → Prop} (hR0 : ∀ (post : Int32 → St → Prop) (σ : St) (x1 : Int32), R0 post σ x1 → ∀ sz : Nat, MetI l yX5_readLevel cX5_readLevel 5 .boolean (rmG_rd gn) [.ref (ad 21 0), .int x1] D cy (cellC cy ad) regsC ad σ sz (fun r u => (r = 0 ∨ r = 1) ∧ post r u)) (hR1 : ∀ (post : Int32 → St → Prop) (σ : St), R1 post σ → ∀ sz : Nat, MetI l yX5_readPiece cX5_readPiece 1 .boolean (rmG_rd gn) [.ref (ad 21 0)] D cy (cellC cy ad) regsC ad σ sz (fun r u => (r = 0 ∨ r = 1) ∧ post r u)) (hR2 : ∀ (post : Int32 → St → Prop) (σ : St), R2 post σ → ∀ sz : Nat, MetI l yX5_readNot cX5_readNot 1 .boolean (rmG_rd gn) [.ref (ad 21 0)] D cy (cellC cy ad) regsC ad σ sz (fun r u => (r = 0 ∨ r = 1) ∧ post r u)) (hR3 : ∀ (post : Int32 → St → Prop) (σ : St), R3 post σ → ∀ sz : Nat, MetI l yX5_readBracket cX5_readBracket 1 .boolean (rmG_rd gn) [.ref (ad 21 0)] D cy (cellC cy ad) regsC ad σ sz (fun r u => (r = 0 ∨ r = 1) ∧ post r u)) (hR4 : ∀ (post : Int32 → St → Prop) (σ : St) (x1 : Int32), R4 post σ x1 → ∀ sz : Nat, MetI l yX5_readBelow cX5_readBelow 2 .boolean (rmG_rd gn) [.ref (ad 21 0), .int x1] D cy (cellC cy ad) regsC ad σ sz (fun r u => (r = 0 ∨ r = 1) ∧ post r u)) {σ : St} (hw : wb_X5_readBracket R0 R1 R2 R3 R4 post σ) {H : Heap} {locs : List Loc} {ls : Array Slot} (hP : va_P D CLS (wC cy ad σ) H) (hS : va_S (AC ad s.heap.size) s.heap H locs) (hl : lv_has ls 1 [(0, .ref (ad 21 0))]) : W p l e (rmG_rd (gn + 1)) s m args below meth c H locs 0 0 (MQ below (QI D cy (cellC cy ad) regsC ad s.heap.size (fun r u => (r = 0 ∨ r = 1) ∧ post r u)) args s 0 0 (AC ad s.heap.size)) (F0 m 0 ls []) := by
  obtain ⟨hx, hb, -⟩ := id E
  unfold wb_X5_readBracket at hw
  refine lv_aload_n hx hb dX5_readBracket_0 rfl (lv_at hl 0 rfl) ?_
  refine fX5_5 E hP mw_265 dX5_readBracket_1 ?_
  refine lv_bipush (v := 8) hx hb dX5_readBracket_4 (by decide) ?_
  refine lv_icmp_lt (tgt := 11) hx hb dX5_readBracket_6 (by decide) (fun c1 => ?_) (fun c1 => ?_)
  · replace hw := hw.1 c1
    refine lv_aload_n hx hb dX5_readBracket_11 rfl (lv_at hl 0 rfl) ?_
    refine lv_dup hx hb dX5_readBracket_12 rfl ?_
    refine fX5_5 E hP mw_265 dX5_readBracket_13 ?_
    refine lv_iconst (v := 1) hx hb dX5_readBracket_16 (by decide) ?_
    refine lv_iadd hx hb dX5_readBracket_17 ?_
    refine uX5_5 E ha mw_265 dX5_readBracket_18 hP hS (fun s2 es2 H locs hP hS => ?_)
    replace hw := hw s2 es2
    refine lv_aload_n hx hb dX5_readBracket_21 rfl (lv_at hl 0 rfl) ?_
    refine g_cVv (As := []) (rest := []) E hl.1 (c_X5_step l D cy ad ha hw _) ok_X5_step mw_691 ⟨(by show 1 + 1 ≤ 40 + (gn + 1); omega), (by show 8 + (3 + 11) + 20 ≤ 2000 + 60 * (gn + 1); omega)⟩ ⟨rfl, rfl⟩ rC21 rfl rfl rfl rfl rfl (Nat.le_of_ble_eq_true rfl) ⟨Nat.zero_le _, Nat.zero_le _⟩ hP hS dX5_readBracket_22 (fun s3 hw H locs hP hS => ?_)
    refine lv_aload_n hx hb dX5_readBracket_25 rfl (lv_at hl 0 rfl) ?_
    refine lv_iconst (v := 0) hx hb dX5_readBracket_26 (by decide) ?_
    refine g_cVi (As := [.int 0]) (rest := []) E hl.1 (hR0 _ _ _ hw _) ok_X5_readLevel mw_749 ⟨(by show 40 + gn + 1 ≤ 40 + (gn + 1); omega), (by show 8 + (5 + 11) + (2000 + 60 * gn) ≤ 2000 + 60 * (gn + 1); omega)⟩ ⟨rfl, rfl⟩ rC21 rfl rfl rfl rfl rfl (Nat.le_of_ble_eq_true rfl) ⟨Nat.zero_le _, Nat.zero_le _⟩ hP hS dX5_readBracket_27 (fun r4 s4 hw H locs hP hS => ?_)
    obtain ⟨z4, hw⟩ := hw
    refine lv_if_eq (tgt := 42) hx hb dX5_readBracket_30 (by decide) (fun c5 => ?_) (fun c5 => ?_)
    · replace hw := hw.1 c5
      refine lv_iconst (v := 0) hx hb dX5_readBracket_42 (by decide) ?_
      exact g_zret E (Or.inl rfl) hw hP hS dX5_readBracket_43
    · replace hw := hw.2 c5
      refine lv_aload_n hx hb dX5_readBracket_33 rfl (lv_at hl 0 rfl) ?_
      refine g_ldcS (i := 8) (by decide) rfl E dX5_readBracket_34 ?_
      refine g_cVi (As := [.ref (ad 90 8)]) (rest := []) E hl.1 (c_X5_isSign l D cy ad ha ((by decide : 8 < 14)) hw _) ok_X5_isSign mw_829 ⟨(by show 4 + 1 ≤ 40 + (gn + 1); omega), (by show 8 + (2 + 11) + 91 ≤ 2000 + 60 * (gn + 1); omega)⟩ ⟨rfl, rfl⟩ rC21 rfl rfl rfl rfl rfl (Nat.le_of_ble_eq_true rfl) ⟨Nat.zero_le _, Nat.zero_le _⟩ hP hS dX5_readBracket_36 (fun r6 s6 hw H locs hP hS => ?_)
      obtain ⟨z6, hw⟩ := hw
      refine lv_if_ne (tgt := 44) hx hb dX5_readBracket_39 (by decide) (fun c7 => ?_) (fun c7 => ?_)
      · replace hw := hw.1 c7
        refine lv_aload_n hx hb dX5_readBracket_44 rfl (lv_at hl 0 rfl) ?_
        refine lv_dup hx hb dX5_readBracket_45 rfl ?_
        refine fX5_5 E hP mw_265 dX5_readBracket_46 ?_
        refine lv_iconst (v := 1) hx hb dX5_readBracket_49 (by decide) ?_
        refine lv_isub hx hb dX5_readBracket_50 ?_
        refine uX5_5 E ha mw_265 dX5_readBracket_51 hP hS (fun s8 es8 H locs hP hS => ?_)
        replace hw := hw s8 es8
        refine lv_aload_n hx hb dX5_readBracket_54 rfl (lv_at hl 0 rfl) ?_
        refine g_cVv (As := []) (rest := []) E hl.1 (c_X5_step l D cy ad ha hw _) ok_X5_step mw_691 ⟨(by show 1 + 1 ≤ 40 + (gn + 1); omega), (by show 8 + (3 + 11) + 20 ≤ 2000 + 60 * (gn + 1); omega)⟩ ⟨rfl, rfl⟩ rC21 rfl rfl rfl rfl rfl (Nat.le_of_ble_eq_true rfl) ⟨Nat.zero_le _, Nat.zero_le _⟩ hP hS dX5_readBracket_55 (fun s9 hw H locs hP hS => ?_)
        refine lv_iconst (v := 1) hx hb dX5_readBracket_58 (by decide) ?_
        exact g_zret E (Or.inr rfl) hw hP hS dX5_readBracket_59
      · replace hw := hw.2 c7
        refine lv_iconst (v := 0) hx hb dX5_readBracket_42 (by decide) ?_
        exact g_zret E (Or.inl rfl) hw hP hS dX5_readBracket_43
  · replace hw := hw.2 c1
    refine lv_iconst (v := 0) hx hb dX5_readBracket_9 (by decide) ?_
    exact g_zret E (Or.inl rfl) hw hP hS dX5_readBracket_10
-- RoofWar$Reader.readBelow(I)Z
theorem dX5_readBelow_0 : decode cX5_readBelow 0 = .ok (.iload_n 1, 1) := by decide +kernel
theorem dX5_readBelow_1 : decode cX5_readBelow 1 = .ok (.iconst 4, 1) := by decide +kernel
theorem dX5_readBelow_2 : decode cX5_readBelow 2 = .ok (.if_icmp .lt 10, 3) := by decide +kernel
theorem dX5_readBelow_5 : decode cX5_readBelow 5 = .ok (.aload_n 0, 1) := by decide +kernel
theorem dX5_readBelow_6 : decode cX5_readBelow 6 = .ok (.invokevirtual 122, 3) := by decide +kernel
theorem dX5_readBelow_9 : decode cX5_readBelow 9 = .ok (.goto 10, 3) := by decide +kernel
theorem dX5_readBelow_12 : decode cX5_readBelow 12 = .ok (.aload_n 0, 1) := by decide +kernel
theorem dX5_readBelow_13 : decode cX5_readBelow 13 = .ok (.iload_n 1, 1) := by decide +kernel
theorem dX5_readBelow_14 : decode cX5_readBelow 14 = .ok (.iconst 1, 1) := by decide +kernel
theorem dX5_readBelow_15 : decode cX5_readBelow 15 = .ok (.iadd, 1) := by decide +kernel
theorem dX5_readBelow_16 : decode cX5_readBelow 16 = .ok (.invokevirtual 44, 3) := by decide +kernel
theorem dX5_readBelow_19 : decode cX5_readBelow 19 = .ok (.ireturn, 1) := by decide +kernel
def wb_X5_readBelow (R0 : (Int32 → St → Prop) → St → Int32 → Prop) (R1 : (Int32 → St → Prop) → St → Prop) (R2 : (Int32 → St → Prop) → St → Prop) (R3 : (Int32 → St → Prop) → St → Prop) (R4 : (Int32 → St → Prop) → St → Int32 → Prop) (post : Int32 → St → Prop) (σ : St) (x1 : Int32) : Prop := ((x1 < 4 → (R0 (fun r2 s2 => post r2 s2) σ (x1 + 1))) ∧ (¬ x1 < 4 → (R1 (fun r3 s3 => post r3 s3) σ)))
theorem B_X5_readBelow_0 (E : EnvW p s m args meth c D cy regsC ad "RoofWar$Reader" cX5_readBelow 2 (some .boolean)) (ha : Apart regsC ad) {post : Int32 → St → Prop} {gn : Nat} {R0 : (Int32 → St → Prop) → St → Int32 → Prop} {R1 : (Int32 → St → Prop) → St → Prop} {R2 : (Int32 → St → Prop) → St → Prop} {R3 : (Int32 → St → Prop) → St → Prop} {R4 : (Int32 → St → Prop) → St → Int32 → Prop} (hR0 : ∀ (post : Int32 → St → Prop) (σ : St) (x1 : Int32), R0 post σ x1 → ∀ sz : Nat, MetI l yX5_readLevel cX5_readLevel 5 .boolean (rmG_rd gn) [.ref (ad 21 0), .int x1] D cy (cellC cy ad) regsC ad σ sz (fun r u => (r = 0 ∨ r = 1) ∧ post r u)) (hR1 : ∀ (post : Int32 → St → Prop) (σ : St), R1 post σ → ∀ sz : Nat, MetI l yX5_readPiece cX5_readPiece 1 .boolean (rmG_rd gn) [.ref (ad 21 0)] D cy (cellC cy ad) regsC ad σ sz (fun r u => (r = 0 ∨ r = 1) ∧ post r u)) (hR2 : ∀ (post : Int32 → St → Prop) (σ : St), R2 post σ → ∀ sz : Nat, MetI l yX5_readNot cX5_readNot 1 .boolean (rmG_rd gn) [.ref (ad 21 0)] D cy (cellC cy ad) regsC ad σ sz (fun r u => (r = 0 ∨ r = 1) ∧ post r u)) (hR3 : ∀ (post : Int32 → St → Prop) (σ : St), R3 post σ → ∀ sz : Nat, MetI l yX5_readBracket cX5_readBracket 1 .boolean (rmG_rd gn) [.ref (ad 21 0)] D cy (cellC cy ad) regsC ad σ sz (fun r u => (r = 0 ∨ r = 1) ∧ post r u)) (hR4 : ∀ (post : Int32 → St → Prop) (σ : St) (x1 : Int32), R4 post σ x1 → ∀ sz : Nat, MetI l yX5_readBelow cX5_readBelow 2 .boolean (rmG_rd gn) [.ref (ad 21 0), .int x1] D cy (cellC cy ad) regsC ad σ sz (fun r u => (r = 0 ∨ r = 1) ∧ post r u)) {σ : St} {x1 : Int32} (hw : wb_X5_readBelow R0 R1 R2 R3 R4 post σ x1) {H : Heap} {locs : List Loc} {ls : Array Slot} (hP : va_P D CLS (wC cy ad σ) H) (hS : va_S (AC ad s.heap.size) s.heap H locs) (hl : lv_has ls 2 [(0, .ref (ad 21 0)), (1, .int x1)]) : W p l e (rmG_rd (gn + 1)) s m args below meth c H locs 0 0 (MQ below (QI D cy (cellC cy ad) regsC ad s.heap.size (fun r u => (r = 0 ∨ r = 1) ∧ post r u)) args s 0 0 (AC ad s.heap.size)) (F0 m 0 ls []) := by
  obtain ⟨hx, hb, -⟩ := id E
  unfold wb_X5_readBelow at hw
  refine lv_iload_n hx hb dX5_readBelow_0 rfl (lv_at hl 1 rfl) ?_
  refine lv_iconst (v := 4) hx hb dX5_readBelow_1 (by decide) ?_
  refine lv_icmp_lt (tgt := 12) hx hb dX5_readBelow_2 (by decide) (fun c1 => ?_) (fun c1 => ?_)
  · replace hw := hw.1 c1
    refine lv_aload_n hx hb dX5_readBelow_12 rfl (lv_at hl 0 rfl) ?_
    refine lv_iload_n hx hb dX5_readBelow_13 rfl (lv_at hl 1 rfl) ?_
    refine lv_iconst (v := 1) hx hb dX5_readBelow_14 (by decide) ?_
    refine lv_iadd hx hb dX5_readBelow_15 ?_
    refine g_cVi (As := [.int (x1 + 1)]) (rest := []) E hl.1 (hR0 _ _ _ hw _) ok_X5_readLevel mw_749 ⟨(by show 40 + gn + 1 ≤ 40 + (gn + 1); omega), (by show 8 + (5 + 11) + (2000 + 60 * gn) ≤ 2000 + 60 * (gn + 1); omega)⟩ ⟨rfl, rfl⟩ rC21 rfl rfl rfl rfl rfl (Nat.le_of_ble_eq_true rfl) ⟨Nat.zero_le _, Nat.zero_le _⟩ hP hS dX5_readBelow_16 (fun r2 s2 hw H locs hP hS => ?_)
    obtain ⟨z2, hw⟩ := hw
    exact g_zret E z2 hw hP hS dX5_readBelow_19
  · replace hw := hw.2 c1
    refine lv_aload_n hx hb dX5_readBelow_5 rfl (lv_at hl 0 rfl) ?_
    refine g_cVi (As := []) (rest := []) E hl.1 (hR1 _ _ hw _) ok_X5_readPiece mw_755 ⟨(by show 40 + gn + 1 ≤ 40 + (gn + 1); omega), (by show 8 + (1 + 11) + (2000 + 60 * gn) ≤ 2000 + 60 * (gn + 1); omega)⟩ ⟨rfl, rfl⟩ rC21 rfl rfl rfl rfl rfl (Nat.le_of_ble_eq_true rfl) ⟨Nat.zero_le _, Nat.zero_le _⟩ hP hS dX5_readBelow_6 (fun r3 s3 hw H locs hP hS => ?_)
    obtain ⟨z3, hw⟩ := hw
    refine lv_goto (tgt := 19) hx hb dX5_readBelow_9 (by decide) ?_
    exact g_zret E z3 hw hP hS dX5_readBelow_19
noncomputable def G_rd : Nat → ((Int32 → St → Prop) → St → Int32 → Prop) × ((Int32 → St → Prop) → St → Prop) × ((Int32 → St → Prop) → St → Prop) × ((Int32 → St → Prop) → St → Prop) × ((Int32 → St → Prop) → St → Int32 → Prop) := fun n => Nat.rec (motive := fun _ => ((Int32 → St → Prop) → St → Int32 → Prop) × ((Int32 → St → Prop) → St → Prop) × ((Int32 → St → Prop) → St → Prop) × ((Int32 → St → Prop) → St → Prop) × ((Int32 → St → Prop) → St → Int32 → Prop)) ((fun _ _ _ => False), (fun _ _ => False), (fun _ _ => False), (fun _ _ => False), (fun _ _ _ => False)) (fun _ ih => (wb_X5_readLevel (ih.1) (ih.2.1) (ih.2.2.1) (ih.2.2.2.1) (ih.2.2.2.2), wb_X5_readPiece (ih.1) (ih.2.1) (ih.2.2.1) (ih.2.2.2.1) (ih.2.2.2.2), wb_X5_readNot (ih.1) (ih.2.1) (ih.2.2.1) (ih.2.2.2.1) (ih.2.2.2.2), wb_X5_readBracket (ih.1) (ih.2.1) (ih.2.2.1) (ih.2.2.2.1) (ih.2.2.2.2), wb_X5_readBelow (ih.1) (ih.2.1) (ih.2.2.1) (ih.2.2.2.1) (ih.2.2.2.2))) n
theorem GM_rd (l : Launch) (D : va_G) (cy : Nat → ClassId) (ad : Nat → Nat → Nat) (ha : Apart regsC ad) : ∀ n : Nat, (∀ (post : Int32 → St → Prop) (σ : St) (x1 : Int32), (G_rd n).1 post σ x1 → ∀ sz : Nat, MetI l yX5_readLevel cX5_readLevel 5 .boolean (rmG_rd n) [.ref (ad 21 0), .int x1] D cy (cellC cy ad) regsC ad σ sz (fun r u => (r = 0 ∨ r = 1) ∧ post r u)) ∧ (∀ (post : Int32 → St → Prop) (σ : St), (G_rd n).2.1 post σ → ∀ sz : Nat, MetI l yX5_readPiece cX5_readPiece 1 .boolean (rmG_rd n) [.ref (ad 21 0)] D cy (cellC cy ad) regsC ad σ sz (fun r u => (r = 0 ∨ r = 1) ∧ post r u)) ∧ (∀ (post : Int32 → St → Prop) (σ : St), (G_rd n).2.2.1 post σ → ∀ sz : Nat, MetI l yX5_readNot cX5_readNot 1 .boolean (rmG_rd n) [.ref (ad 21 0)] D cy (cellC cy ad) regsC ad σ sz (fun r u => (r = 0 ∨ r = 1) ∧ post r u)) ∧ (∀ (post : Int32 → St → Prop) (σ : St), (G_rd n).2.2.2.1 post σ → ∀ sz : Nat, MetI l yX5_readBracket cX5_readBracket 1 .boolean (rmG_rd n) [.ref (ad 21 0)] D cy (cellC cy ad) regsC ad σ sz (fun r u => (r = 0 ∨ r = 1) ∧ post r u)) ∧ (∀ (post : Int32 → St → Prop) (σ : St) (x1 : Int32), (G_rd n).2.2.2.2 post σ x1 → ∀ sz : Nat, MetI l yX5_readBelow cX5_readBelow 2 .boolean (rmG_rd n) [.ref (ad 21 0), .int x1] D cy (cellC cy ad) regsC ad σ sz (fun r u => (r = 0 ∨ r = 1) ∧ post r u)) := by
  intro n
  induction n with
  | zero => exact ⟨(fun _ _ _ hw => False.elim hw), (fun _ _ hw => False.elim hw), (fun _ _ hw => False.elim hw), (fun _ _ hw => False.elim hw), (fun _ _ _ hw => False.elim hw)⟩
  | succ n ih =>
    obtain ⟨ih0, ih1, ih2, ih3, ih4⟩ := ih
    exact ⟨(fun post σ x1 hw sz => Met_inI ok_X5_readLevel.2.2.2.2.2 (Nat.le_of_ble_eq_true rfl) (fun p e s m below meth c ls E hP hl => B_X5_readLevel_0 E ha ih0 ih1 ih2 ih3 ih4 hw hP va_S.rf hl)), (fun post σ hw sz => Met_inI ok_X5_readPiece.2.2.2.2.2 (Nat.le_of_ble_eq_true rfl) (fun p e s m below meth c ls E hP hl => B_X5_readPiece_0 E ha ih0 ih1 ih2 ih3 ih4 hw hP va_S.rf hl)), (fun post σ hw sz => Met_inI ok_X5_readNot.2.2.2.2.2 (Nat.le_of_ble_eq_true rfl) (fun p e s m below meth c ls E hP hl => B_X5_readNot_0 E ha ih0 ih1 ih2 ih3 ih4 hw hP va_S.rf hl)), (fun post σ hw sz => Met_inI ok_X5_readBracket.2.2.2.2.2 (Nat.le_of_ble_eq_true rfl) (fun p e s m below meth c ls E hP hl => B_X5_readBracket_0 E ha ih0 ih1 ih2 ih3 ih4 hw hP va_S.rf hl)), (fun post σ x1 hw sz => Met_inI ok_X5_readBelow.2.2.2.2.2 (Nat.le_of_ble_eq_true rfl) (fun p e s m below meth c ls E hP hl => B_X5_readBelow_0 E ha ih0 ih1 ih2 ih3 ih4 hw hP va_S.rf hl))⟩
def w_X5_readLevel (post : Int32 → St → Prop) (σ : St) (x1 : Int32) : Prop := (G_rd 150).1 post σ x1
abbrev rm_X5_readLevel : Room := rmG_rd 150
theorem c_X5_readLevel (l : Launch) (D : va_G) (cy : Nat → ClassId) (ad : Nat → Nat → Nat) (ha : Apart regsC ad) {post : Int32 → St → Prop} {σ : St} {x1 : Int32} (hw : w_X5_readLevel post σ x1) (sz : Nat) : MetI l yX5_readLevel cX5_readLevel 5 .boolean rm_X5_readLevel [.ref (ad 21 0), .int x1] D cy (cellC cy ad) regsC ad σ sz (fun r u => (r = 0 ∨ r = 1) ∧ post r u) := (GM_rd l D cy ad ha 150).1 post σ x1 hw sz
def w_X5_readPiece (post : Int32 → St → Prop) (σ : St) : Prop := (G_rd 150).2.1 post σ
abbrev rm_X5_readPiece : Room := rmG_rd 150
theorem c_X5_readPiece (l : Launch) (D : va_G) (cy : Nat → ClassId) (ad : Nat → Nat → Nat) (ha : Apart regsC ad) {post : Int32 → St → Prop} {σ : St} (hw : w_X5_readPiece post σ) (sz : Nat) : MetI l yX5_readPiece cX5_readPiece 1 .boolean rm_X5_readPiece [.ref (ad 21 0)] D cy (cellC cy ad) regsC ad σ sz (fun r u => (r = 0 ∨ r = 1) ∧ post r u) := (GM_rd l D cy ad ha 150).2.1 post σ hw sz
def w_X5_readNot (post : Int32 → St → Prop) (σ : St) : Prop := (G_rd 150).2.2.1 post σ
abbrev rm_X5_readNot : Room := rmG_rd 150
theorem c_X5_readNot (l : Launch) (D : va_G) (cy : Nat → ClassId) (ad : Nat → Nat → Nat) (ha : Apart regsC ad) {post : Int32 → St → Prop} {σ : St} (hw : w_X5_readNot post σ) (sz : Nat) : MetI l yX5_readNot cX5_readNot 1 .boolean rm_X5_readNot [.ref (ad 21 0)] D cy (cellC cy ad) regsC ad σ sz (fun r u => (r = 0 ∨ r = 1) ∧ post r u) := (GM_rd l D cy ad ha 150).2.2.1 post σ hw sz
def w_X5_readBracket (post : Int32 → St → Prop) (σ : St) : Prop := (G_rd 150).2.2.2.1 post σ
abbrev rm_X5_readBracket : Room := rmG_rd 150
theorem c_X5_readBracket (l : Launch) (D : va_G) (cy : Nat → ClassId) (ad : Nat → Nat → Nat) (ha : Apart regsC ad) {post : Int32 → St → Prop} {σ : St} (hw : w_X5_readBracket post σ) (sz : Nat) : MetI l yX5_readBracket cX5_readBracket 1 .boolean rm_X5_readBracket [.ref (ad 21 0)] D cy (cellC cy ad) regsC ad σ sz (fun r u => (r = 0 ∨ r = 1) ∧ post r u) := (GM_rd l D cy ad ha 150).2.2.2.1 post σ hw sz
def w_X5_readBelow (post : Int32 → St → Prop) (σ : St) (x1 : Int32) : Prop := (G_rd 150).2.2.2.2 post σ x1
abbrev rm_X5_readBelow : Room := rmG_rd 150
theorem c_X5_readBelow (l : Launch) (D : va_G) (cy : Nat → ClassId) (ad : Nat → Nat → Nat) (ha : Apart regsC ad) {post : Int32 → St → Prop} {σ : St} {x1 : Int32} (hw : w_X5_readBelow post σ x1) (sz : Nat) : MetI l yX5_readBelow cX5_readBelow 2 .boolean rm_X5_readBelow [.ref (ad 21 0), .int x1] D cy (cellC cy ad) regsC ad σ sz (fun r u => (r = 0 ∨ r = 1) ∧ post r u) := (GM_rd l D cy ad ha 150).2.2.2.2 post σ x1 hw sz
-- RoofWar$Reader.faultIn(LRoofWar$Law;)I
theorem dX5_faultIn_0 : decode cX5_faultIn 0 = .ok (.aload_n 0, 1) := by decide +kernel
theorem dX5_faultIn_1 : decode cX5_faultIn 1 = .ok (.aload_n 1, 1) := by decide +kernel
theorem dX5_faultIn_2 : decode cX5_faultIn 2 = .ok (.putfield 15, 3) := by decide +kernel
theorem dX5_faultIn_5 : decode cX5_faultIn 5 = .ok (.aload_n 0, 1) := by decide +kernel
theorem dX5_faultIn_6 : decode cX5_faultIn 6 = .ok (.getfield 15, 3) := by decide +kernel
theorem dX5_faultIn_9 : decode cX5_faultIn 9 = .ok (.invokevirtual 19, 3) := by decide +kernel
theorem dX5_faultIn_12 : decode cX5_faultIn 12 = .ok (.aload_n 0, 1) := by decide +kernel
theorem dX5_faultIn_13 : decode cX5_faultIn 13 = .ok (.iconst 3, 1) := by decide +kernel
theorem dX5_faultIn_14 : decode cX5_faultIn 14 = .ok (.putfield 24, 3) := by decide +kernel
theorem dX5_faultIn_17 : decode cX5_faultIn 17 = .ok (.aload_n 0, 1) := by decide +kernel
theorem dX5_faultIn_18 : decode cX5_faultIn 18 = .ok (.iconst 0, 1) := by decide +kernel
theorem dX5_faultIn_19 : decode cX5_faultIn 19 = .ok (.putfield 28, 3) := by decide +kernel
theorem dX5_faultIn_22 : decode cX5_faultIn 22 = .ok (.aload_n 0, 1) := by decide +kernel
theorem dX5_faultIn_23 : decode cX5_faultIn 23 = .ok (.iconst 0, 1) := by decide +kernel
theorem dX5_faultIn_24 : decode cX5_faultIn 24 = .ok (.putfield 31, 3) := by decide +kernel
theorem dX5_faultIn_27 : decode cX5_faultIn 27 = .ok (.aload_n 0, 1) := by decide +kernel
theorem dX5_faultIn_28 : decode cX5_faultIn 28 = .ok (.iconst 0, 1) := by decide +kernel
theorem dX5_faultIn_29 : decode cX5_faultIn 29 = .ok (.putfield 34, 3) := by decide +kernel
theorem dX5_faultIn_32 : decode cX5_faultIn 32 = .ok (.aload_n 0, 1) := by decide +kernel
theorem dX5_faultIn_33 : decode cX5_faultIn 33 = .ok (.invokevirtual 37, 3) := by decide +kernel
theorem dX5_faultIn_36 : decode cX5_faultIn 36 = .ok (.aload_n 0, 1) := by decide +kernel
theorem dX5_faultIn_37 : decode cX5_faultIn 37 = .ok (.invokevirtual 40, 3) := by decide +kernel
theorem dX5_faultIn_40 : decode cX5_faultIn 40 = .ok (.ifCond .eq 22, 3) := by decide +kernel
theorem dX5_faultIn_43 : decode cX5_faultIn 43 = .ok (.aload_n 0, 1) := by decide +kernel
theorem dX5_faultIn_44 : decode cX5_faultIn 44 = .ok (.iconst 0, 1) := by decide +kernel
theorem dX5_faultIn_45 : decode cX5_faultIn 45 = .ok (.invokevirtual 44, 3) := by decide +kernel
theorem dX5_faultIn_48 : decode cX5_faultIn 48 = .ok (.ifCond .eq 14, 3) := by decide +kernel
theorem dX5_faultIn_51 : decode cX5_faultIn 51 = .ok (.aload_n 0, 1) := by decide +kernel
theorem dX5_faultIn_52 : decode cX5_faultIn 52 = .ok (.getfield 24, 3) := by decide +kernel
theorem dX5_faultIn_55 : decode cX5_faultIn 55 = .ok (.ifCond .ne 7, 3) := by decide +kernel
theorem dX5_faultIn_58 : decode cX5_faultIn 58 = .ok (.iconst (-1), 1) := by decide +kernel
theorem dX5_faultIn_59 : decode cX5_faultIn 59 = .ok (.goto 7, 3) := by decide +kernel
theorem dX5_faultIn_62 : decode cX5_faultIn 62 = .ok (.aload_n 0, 1) := by decide +kernel
theorem dX5_faultIn_63 : decode cX5_faultIn 63 = .ok (.getfield 48, 3) := by decide +kernel
theorem dX5_faultIn_66 : decode cX5_faultIn 66 = .ok (.ireturn, 1) := by decide +kernel
theorem ok_X5_faultIn : okV yX5_faultIn cX5_faultIn 2 (some .int) 1 := ⟨mw_684, mw_685, mw_80, mw_686, by decide +kernel, by decide +kernel⟩
abbrev rm_X5_faultIn : Room := { frames := 191, cells := 0, slots := 0, locals := 11024 }
def w_X5_faultIn (post : Int32 → St → Prop) (σ : St) (i1 : Nat) : Prop := ∀ s1 : St, s1 = wr σ 21 0 5 (nI i1) → (vp_in (s1 21 0 5) 15 ∧ (w_X3_clear (fun s3 => ∀ s4 : St, s4 = wr s3 21 0 0 3 → (∀ s5 : St, s5 = wr s4 21 0 2 0 → (∀ s6 : St, s6 = wr s5 21 0 3 0 → (∀ s7 : St, s7 = wr s6 21 0 4 0 → (w_X5_step (fun s8 => w_X5_readKey (fun r9 s9 => ((r9 = 0 → (post (s9 21 0 1) s9)) ∧ (¬ r9 = 0 → (w_X5_readLevel (fun r11 s11 => ((r11 = 0 → (post (s11 21 0 1) s11)) ∧ (¬ r11 = 0 → (((¬ (s11 21 0 0) = 0 → (post (s11 21 0 1) s11)) ∧ ((s11 21 0 0) = 0 → (post ((-1)) s11))))))) s9 (0 : Int32))))) s8) s7))))) s1 ((s1 21 0 5).toNatClampNeg)))
theorem B_X5_faultIn_0 (E : EnvW p s m args meth c D cy regsC ad "RoofWar$Reader" cX5_faultIn 2 (some .int)) (ha : Apart regsC ad) {post : Int32 → St → Prop} {σ : St} {i1 : Nat} (hi1 : i1 < 15) (hw : w_X5_faultIn post σ i1) {H : Heap} {locs : List Loc} {ls : Array Slot} (hP : va_P D CLS (wC cy ad σ) H) (hS : va_S (AC ad s.heap.size) s.heap H locs) (hl : lv_has ls 2 [(0, .ref (ad 21 0)), (1, .ref (ad 17 i1))]) : W p l e rm_X5_faultIn s m args below meth c H locs 0 0 (MQ below (QI D cy (cellC cy ad) regsC ad s.heap.size post) args s 0 0 (AC ad s.heap.size)) (F0 m 0 ls []) := by
  obtain ⟨hx, hb, -⟩ := id E
  unfold w_X5_faultIn at hw
  refine lv_aload_n hx hb dX5_faultIn_0 rfl (lv_at hl 0 rfl) ?_
  refine lv_aload_n hx hb dX5_faultIn_1 rfl (lv_at hl 1 rfl) ?_
  refine uX5_1 hi1 E ha mw_261 dX5_faultIn_2 hP hS (fun s1 es1 H locs hP hS => ?_)
  replace hw := hw s1 es1
  refine lv_aload_n hx hb dX5_faultIn_5 rfl (lv_at hl 0 rfl) ?_
  obtain ⟨h2, hw⟩ := hw
  refine fX5_1 E hP mw_261 h2 dX5_faultIn_6 ?_
  refine g_cVv (As := []) (rest := []) E hl.1 (c_X3_clear l D cy ad ha ((vp_lt h2)) hw _) ok_X3_clear mw_687 ⟨(Nat.le_of_ble_eq_true rfl), (Nat.le_of_ble_eq_true rfl)⟩ ⟨rfl, rfl⟩ (rC17 (vp_lt h2)) rfl rfl rfl rfl rfl (Nat.le_of_ble_eq_true rfl) ⟨Nat.zero_le _, Nat.zero_le _⟩ hP hS dX5_faultIn_9 (fun s3 hw H locs hP hS => ?_)
  refine lv_aload_n hx hb dX5_faultIn_12 rfl (lv_at hl 0 rfl) ?_
  refine lv_iconst (v := 3) hx hb dX5_faultIn_13 (by decide) ?_
  refine uX5_2 E ha mw_262 dX5_faultIn_14 hP hS (fun s4 es4 H locs hP hS => ?_)
  replace hw := hw s4 es4
  refine lv_aload_n hx hb dX5_faultIn_17 rfl (lv_at hl 0 rfl) ?_
  refine lv_iconst (v := 0) hx hb dX5_faultIn_18 (by decide) ?_
  refine uX5_4 E ha mw_264 dX5_faultIn_19 hP hS (fun s5 es5 H locs hP hS => ?_)
  replace hw := hw s5 es5
  refine lv_aload_n hx hb dX5_faultIn_22 rfl (lv_at hl 0 rfl) ?_
  refine lv_iconst (v := 0) hx hb dX5_faultIn_23 (by decide) ?_
  refine uX5_5 E ha mw_265 dX5_faultIn_24 hP hS (fun s6 es6 H locs hP hS => ?_)
  replace hw := hw s6 es6
  refine lv_aload_n hx hb dX5_faultIn_27 rfl (lv_at hl 0 rfl) ?_
  refine lv_iconst (v := 0) hx hb dX5_faultIn_28 (by decide) ?_
  refine uX5_6 E ha mw_266 dX5_faultIn_29 hP hS (fun s7 es7 H locs hP hS => ?_)
  replace hw := hw s7 es7
  refine lv_aload_n hx hb dX5_faultIn_32 rfl (lv_at hl 0 rfl) ?_
  refine g_cVv (As := []) (rest := []) E hl.1 (c_X5_step l D cy ad ha hw _) ok_X5_step mw_691 ⟨(Nat.le_of_ble_eq_true rfl), (Nat.le_of_ble_eq_true rfl)⟩ ⟨rfl, rfl⟩ rC21 rfl rfl rfl rfl rfl (Nat.le_of_ble_eq_true rfl) ⟨Nat.zero_le _, Nat.zero_le _⟩ hP hS dX5_faultIn_33 (fun s8 hw H locs hP hS => ?_)
  refine lv_aload_n hx hb dX5_faultIn_36 rfl (lv_at hl 0 rfl) ?_
  refine g_cVi (As := []) (rest := []) E hl.1 (c_X5_readKey l D cy ad ha hw _) ok_X5_readKey mw_697 ⟨(Nat.le_of_ble_eq_true rfl), (Nat.le_of_ble_eq_true rfl)⟩ ⟨rfl, rfl⟩ rC21 rfl rfl rfl rfl rfl (Nat.le_of_ble_eq_true rfl) ⟨Nat.zero_le _, Nat.zero_le _⟩ hP hS dX5_faultIn_37 (fun r9 s9 hw H locs hP hS => ?_)
  obtain ⟨z9, hw⟩ := hw
  refine lv_if_eq (tgt := 62) hx hb dX5_faultIn_40 (by decide) (fun c10 => ?_) (fun c10 => ?_)
  · replace hw := hw.1 c10
    refine lv_aload_n hx hb dX5_faultIn_62 rfl (lv_at hl 0 rfl) ?_
    refine fX5_3 E hP mw_263 dX5_faultIn_63 ?_
    exact g_iret E hw hP hS dX5_faultIn_66
  · replace hw := hw.2 c10
    refine lv_aload_n hx hb dX5_faultIn_43 rfl (lv_at hl 0 rfl) ?_
    refine lv_iconst (v := 0) hx hb dX5_faultIn_44 (by decide) ?_
    refine g_cVi (As := [.int 0]) (rest := []) E hl.1 (c_X5_readLevel l D cy ad ha hw _) ok_X5_readLevel mw_749 ⟨(Nat.le_of_ble_eq_true rfl), (Nat.le_of_ble_eq_true rfl)⟩ ⟨rfl, rfl⟩ rC21 rfl rfl rfl rfl rfl (Nat.le_of_ble_eq_true rfl) ⟨Nat.zero_le _, Nat.zero_le _⟩ hP hS dX5_faultIn_45 (fun r11 s11 hw H locs hP hS => ?_)
    obtain ⟨z11, hw⟩ := hw
    refine lv_if_eq (tgt := 62) hx hb dX5_faultIn_48 (by decide) (fun c12 => ?_) (fun c12 => ?_)
    · replace hw := hw.1 c12
      refine lv_aload_n hx hb dX5_faultIn_62 rfl (lv_at hl 0 rfl) ?_
      refine fX5_3 E hP mw_263 dX5_faultIn_63 ?_
      exact g_iret E hw hP hS dX5_faultIn_66
    · replace hw := hw.2 c12
      refine lv_aload_n hx hb dX5_faultIn_51 rfl (lv_at hl 0 rfl) ?_
      refine fX5_2 E hP mw_262 dX5_faultIn_52 ?_
      refine lv_if_ne (tgt := 62) hx hb dX5_faultIn_55 (by decide) (fun c13 => ?_) (fun c13 => ?_)
      · replace hw := hw.1 c13
        refine lv_aload_n hx hb dX5_faultIn_62 rfl (lv_at hl 0 rfl) ?_
        refine fX5_3 E hP mw_263 dX5_faultIn_63 ?_
        exact g_iret E hw hP hS dX5_faultIn_66
      · replace hw := hw.2 c13
        refine lv_iconst (v := -1) hx hb dX5_faultIn_58 (by decide) ?_
        refine lv_goto (tgt := 66) hx hb dX5_faultIn_59 (by decide) ?_
        exact g_iret E hw hP hS dX5_faultIn_66
theorem c_X5_faultIn (l : Launch) (D : va_G) (cy : Nat → ClassId) (ad : Nat → Nat → Nat) (ha : Apart regsC ad) {post : Int32 → St → Prop} {σ : St} {i1 : Nat} (hi1 : i1 < 15) (hw : w_X5_faultIn post σ i1) (sz : Nat) : MetI l yX5_faultIn cX5_faultIn 2 .int rm_X5_faultIn [.ref (ad 21 0), .ref (ad 17 i1)] D cy (cellC cy ad) regsC ad σ sz post :=
  Met_inI ok_X5_faultIn.2.2.2.2.2 (Nat.le_of_ble_eq_true rfl) (fun p e s m below meth c ls E hP hl => B_X5_faultIn_0 E ha hi1 hw hP va_S.rf hl)
-- RoofWar.text()I
theorem dX9_text_0 : decode cX9_text 0 = .ok (.aload_n 0, 1) := by decide +kernel
theorem dX9_text_1 : decode cX9_text 1 = .ok (.getfield 10, 3) := by decide +kernel
theorem dX9_text_4 : decode cX9_text 4 = .ok (.getfield 267, 3) := by decide +kernel
theorem dX9_text_7 : decode cX9_text 7 = .ok (.aload_n 0, 1) := by decide +kernel
theorem dX9_text_8 : decode cX9_text 8 = .ok (.getfield 21, 3) := by decide +kernel
theorem dX9_text_11 : decode cX9_text 11 = .ok (.getfield 250, 3) := by decide +kernel
theorem dX9_text_14 : decode cX9_text 14 = .ok (.aaload, 1) := by decide +kernel
theorem dX9_text_15 : decode cX9_text 15 = .ok (.astore_n 1, 1) := by decide +kernel
theorem dX9_text_16 : decode cX9_text 16 = .ok (.aload_n 0, 1) := by decide +kernel
theorem dX9_text_17 : decode cX9_text 17 = .ok (.getfield 54, 3) := by decide +kernel
theorem dX9_text_20 : decode cX9_text 20 = .ok (.aload_n 1, 1) := by decide +kernel
theorem dX9_text_21 : decode cX9_text 21 = .ok (.invokevirtual 271, 3) := by decide +kernel
theorem dX9_text_24 : decode cX9_text 24 = .ok (.istore_n 2, 1) := by decide +kernel
theorem dX9_text_25 : decode cX9_text 25 = .ok (.aload_n 0, 1) := by decide +kernel
theorem dX9_text_26 : decode cX9_text 26 = .ok (.getfield 45, 3) := by decide +kernel
theorem dX9_text_29 : decode cX9_text 29 = .ok (.iconst 0, 1) := by decide +kernel
theorem dX9_text_30 : decode cX9_text 30 = .ok (.putfield 261, 3) := by decide +kernel
theorem dX9_text_33 : decode cX9_text 33 = .ok (.iload_n 2, 1) := by decide +kernel
theorem dX9_text_34 : decode cX9_text 34 = .ok (.iconst (-1), 1) := by decide +kernel
theorem dX9_text_35 : decode cX9_text 35 = .ok (.if_icmp .eq 8, 3) := by decide +kernel
theorem dX9_text_38 : decode cX9_text 38 = .ok (.bipush (-100), 2) := by decide +kernel
theorem dX9_text_40 : decode cX9_text 40 = .ok (.iload_n 2, 1) := by decide +kernel
theorem dX9_text_41 : decode cX9_text 41 = .ok (.isub, 1) := by decide +kernel
theorem dX9_text_42 : decode cX9_text 42 = .ok (.ireturn, 1) := by decide +kernel
theorem dX9_text_43 : decode cX9_text 43 = .ok (.aload_n 0, 1) := by decide +kernel
theorem dX9_text_44 : decode cX9_text 44 = .ok (.getfield 21, 3) := by decide +kernel
theorem dX9_text_47 : decode cX9_text 47 = .ok (.getfield 250, 3) := by decide +kernel
theorem dX9_text_50 : decode cX9_text 50 = .ok (.bipush 14, 2) := by decide +kernel
theorem dX9_text_52 : decode cX9_text 52 = .ok (.if_icmp .lt 6, 3) := by decide +kernel
theorem dX9_text_55 : decode cX9_text 55 = .ok (.ldc 103, 2) := by decide +kernel
theorem dX9_text_57 : decode cX9_text 57 = .ok (.ireturn, 1) := by decide +kernel
theorem dX9_text_58 : decode cX9_text 58 = .ok (.aload_n 0, 1) := by decide +kernel
theorem dX9_text_59 : decode cX9_text 59 = .ok (.getfield 21, 3) := by decide +kernel
theorem dX9_text_62 : decode cX9_text 62 = .ok (.dup, 1) := by decide +kernel
theorem dX9_text_63 : decode cX9_text 63 = .ok (.getfield 250, 3) := by decide +kernel
theorem dX9_text_66 : decode cX9_text 66 = .ok (.iconst 1, 1) := by decide +kernel
theorem dX9_text_67 : decode cX9_text 67 = .ok (.iadd, 1) := by decide +kernel
theorem dX9_text_68 : decode cX9_text 68 = .ok (.putfield 250, 3) := by decide +kernel
theorem dX9_text_71 : decode cX9_text 71 = .ok (.aload_n 0, 1) := by decide +kernel
theorem dX9_text_72 : decode cX9_text 72 = .ok (.getfield 21, 3) := by decide +kernel
theorem dX9_text_75 : decode cX9_text 75 = .ok (.getfield 250, 3) := by decide +kernel
theorem dX9_text_78 : decode cX9_text 78 = .ok (.iconst 1, 1) := by decide +kernel
theorem dX9_text_79 : decode cX9_text 79 = .ok (.isub, 1) := by decide +kernel
theorem dX9_text_80 : decode cX9_text 80 = .ok (.ireturn, 1) := by decide +kernel
theorem ok_X9_text : okV yX9_text cX9_text 3 (some .int) 0 := ⟨mw_680, mw_681, mw_74, mw_682, by decide +kernel, by decide +kernel⟩
abbrev rm_X9_text : Room := { frames := 192, cells := 0, slots := 0, locals := 11045 }
def w_X9_text (post : Int32 → St → Prop) (σ : St) : Prop := vp_in (σ 5 0 7) 15 ∧ (w_X5_faultIn (fun r2 s2 => ∀ s3 : St, s3 = wr s2 19 0 0 0 → (((r2 = ((-1)) → ((((s3 5 0 7) < 14 → (∀ s6 : St, s6 = wr s3 5 0 7 ((s3 5 0 7) + 1) → (post ((s6 5 0 7) - 1) s6))) ∧ (¬ (s3 5 0 7) < 14 → (post ((-1000000003)) s3))))) ∧ (¬ r2 = ((-1)) → (post (((-100)) - r2) s3))))) σ ((σ 5 0 7).toNatClampNeg))
theorem B_X9_text_0 (E : EnvW p s m args meth c D cy regsC ad "RoofWar" cX9_text 3 (some .int)) (ha : Apart regsC ad) {post : Int32 → St → Prop} {σ : St} (hw : w_X9_text post σ) {H : Heap} {locs : List Loc} {ls : Array Slot} (hP : va_P D CLS (wC cy ad σ) H) (hS : va_S (AC ad s.heap.size) s.heap H locs) (hl : lv_has ls 3 [(0, .ref (ad 0 0))]) : W p l e rm_X9_text s m args below meth c H locs 0 0 (MQ below (QI D cy (cellC cy ad) regsC ad s.heap.size post) args s 0 0 (AC ad s.heap.size)) (F0 m 0 ls []) := by
  obtain ⟨hx, hb, -⟩ := id E
  unfold w_X9_text at hw
  refine lv_aload_n hx hb dX9_text_0 rfl (lv_at hl 0 rfl) ?_
  refine fX9_0 E hP mw_323 dX9_text_1 ?_
  refine fX4_0 E hP mw_132 dX9_text_4 ?_
  refine lv_aload_n hx hb dX9_text_7 rfl (lv_at hl 0 rfl) ?_
  refine fX9_1 E hP mw_324 dX9_text_8 ?_
  refine fX1_16 ((by decide : 0 < 3)) E hP mw_184 dX9_text_11 ?_
  obtain ⟨h1, hw⟩ := hw
  refine aC15 E hP h1 dX9_text_14 ?_
  refine lv_astore_n (lv' := [(1, .ref (ad 17 ((σ 5 0 7).toNatClampNeg))), (0, .ref (ad 0 0))]) hx hb dX9_text_15 rfl hl (by decide) rfl (fun ls hl => ?_)
  refine lv_aload_n hx hb dX9_text_16 rfl (lv_at hl 1 rfl) ?_
  refine fX9_7 E hP mw_330 dX9_text_17 ?_
  refine lv_aload_n hx hb dX9_text_20 rfl (lv_at hl 0 rfl) ?_
  refine g_cVi (As := [.ref (ad 17 ((σ 5 0 7).toNatClampNeg))]) (rest := []) E hl.1 (c_X5_faultIn l D cy ad ha ((vp_lt h1)) hw _) ok_X5_faultIn mw_683 ⟨(Nat.le_of_ble_eq_true rfl), (Nat.le_of_ble_eq_true rfl)⟩ ⟨rfl, rfl⟩ rC21 rfl rfl rfl rfl rfl (Nat.le_of_ble_eq_true rfl) ⟨Nat.zero_le _, Nat.zero_le _⟩ hP hS dX9_text_21 (fun r2 s2 hw H locs hP hS => ?_)
  refine lv_istore_n (lv' := [(2, .int r2), (1, .ref (ad 17 ((σ 5 0 7).toNatClampNeg))), (0, .ref (ad 0 0))]) hx hb dX9_text_24 rfl hl (by decide) rfl (fun ls hl => ?_)
  refine lv_aload_n hx hb dX9_text_25 rfl (lv_at hl 2 rfl) ?_
  refine fX9_6 E hP mw_329 dX9_text_26 ?_
  refine lv_iconst (v := 0) hx hb dX9_text_29 (by decide) ?_
  refine uX8_1 E ha mw_248 dX9_text_30 hP hS (fun s3 es3 H locs hP hS => ?_)
  replace hw := hw s3 es3
  refine lv_iload_n hx hb dX9_text_33 rfl (lv_at hl 0 rfl) ?_
  refine lv_iconst (v := -1) hx hb dX9_text_34 (by decide) ?_
  refine lv_icmp_eq (tgt := 43) hx hb dX9_text_35 (by decide) (fun c4 => ?_) (fun c4 => ?_)
  · replace hw := hw.1 c4
    refine lv_aload_n hx hb dX9_text_43 rfl (lv_at hl 2 rfl) ?_
    refine fX9_1 E hP mw_324 dX9_text_44 ?_
    refine fX1_16 ((by decide : 0 < 3)) E hP mw_184 dX9_text_47 ?_
    refine lv_bipush (v := 14) hx hb dX9_text_50 (by decide) ?_
    refine lv_icmp_lt (tgt := 58) hx hb dX9_text_52 (by decide) (fun c5 => ?_) (fun c5 => ?_)
    · replace hw := hw.1 c5
      refine lv_aload_n hx hb dX9_text_58 rfl (lv_at hl 2 rfl) ?_
      refine fX9_1 E hP mw_324 dX9_text_59 ?_
      refine lv_dup hx hb dX9_text_62 rfl ?_
      refine fX1_16 ((by decide : 0 < 3)) E hP mw_184 dX9_text_63 ?_
      refine lv_iconst (v := 1) hx hb dX9_text_66 (by decide) ?_
      refine lv_iadd hx hb dX9_text_67 ?_
      refine uX1_16 ((by decide : 0 < 3)) E ha mw_184 dX9_text_68 hP hS (fun s6 es6 H locs hP hS => ?_)
      replace hw := hw s6 es6
      refine lv_aload_n hx hb dX9_text_71 rfl (lv_at hl 2 rfl) ?_
      refine fX9_1 E hP mw_324 dX9_text_72 ?_
      refine fX1_16 ((by decide : 0 < 3)) E hP mw_184 dX9_text_75 ?_
      refine lv_iconst (v := 1) hx hb dX9_text_78 (by decide) ?_
      refine lv_isub hx hb dX9_text_79 ?_
      exact g_iret E hw hP hS dX9_text_80
    · replace hw := hw.2 c5
      refine g_ldc (v := -1000000003) E mw_379 dX9_text_55 ?_
      exact g_iret E hw hP hS dX9_text_57
  · replace hw := hw.2 c4
    refine lv_bipush (v := -100) hx hb dX9_text_38 (by decide) ?_
    refine lv_iload_n hx hb dX9_text_40 rfl (lv_at hl 0 rfl) ?_
    refine lv_isub hx hb dX9_text_41 ?_
    exact g_iret E hw hP hS dX9_text_42
theorem c_X9_text (l : Launch) (D : va_G) (cy : Nat → ClassId) (ad : Nat → Nat → Nat) (ha : Apart regsC ad) {post : Int32 → St → Prop} {σ : St} (hw : w_X9_text post σ) (sz : Nat) : MetI l yX9_text cX9_text 3 .int rm_X9_text [.ref (ad 0 0)] D cy (cellC cy ad) regsC ad σ sz post :=
  Met_inI ok_X9_text.2.2.2.2.2 (Nat.le_of_ble_eq_true rfl) (fun p e s m below meth c ls E hP hl => B_X9_text_0 E ha hw hP va_S.rf hl)
end WalkT1
