section WalkM2
variable {p : Program} {l : Launch} {e : Env} {s : State} {m : MethodId} {args : Array Value} {below : List Frame} {meth : Method} {c : Code} {D : va_G} {cy : Nat → ClassId} {ad : Nat → Nat → Nat}
-- RoofWarModel.hill(I)I
theorem dX10_hill_0 : decode cX10_hill 0 = .ok (.iload_n 1, 1) := by decide +kernel
theorem dX10_hill_1 : decode cX10_hill 1 = .ok (.i2l, 1) := by decide +kernel
theorem dX10_hill_2 : decode cX10_hill 2 = .ok (.lconst 0, 1) := by decide +kernel
theorem dX10_hill_3 : decode cX10_hill 3 = .ok (.ldc2_w 86, 3) := by decide +kernel
theorem dX10_hill_6 : decode cX10_hill 6 = .ok (.invokestatic 71, 3) := by decide +kernel
theorem dX10_hill_9 : decode cX10_hill 9 = .ok (.ifCond .eq 11, 3) := by decide +kernel
theorem dX10_hill_12 : decode cX10_hill 12 = .ok (.aload_n 0, 1) := by decide +kernel
theorem dX10_hill_13 : decode cX10_hill 13 = .ok (.iload_n 1, 1) := by decide +kernel
theorem dX10_hill_14 : decode cX10_hill 14 = .ok (.invokevirtual 203, 3) := by decide +kernel
theorem dX10_hill_17 : decode cX10_hill 17 = .ok (.goto 5, 3) := by decide +kernel
theorem dX10_hill_20 : decode cX10_hill 20 = .ok (.ldc 96, 2) := by decide +kernel
theorem dX10_hill_22 : decode cX10_hill 22 = .ok (.ireturn, 1) := by decide +kernel
theorem ok_X10_hill : okV yX10_hill cX10_hill 2 (some .int) 1 := ⟨mw_1212, mw_1213, mw_83, mw_1214, by decide +kernel, by decide +kernel⟩
abbrev rm_X10_hill : Room := { frames := 5, cells := 0, slots := 0, locals := 110 }
def w_X10_hill (post : Int32 → St → Prop) (σ : St) (x1 : Int32) : Prop := w_X10_isIn (fun r1 s1 => ((r1 = 0 → (post ((-1000000001)) s1)) ∧ (¬ r1 = 0 → (w_X10_hillOf (fun r3 s3 => post r3 s3) s1 x1)))) σ x1.toInt64 ((0 : Int64)) ((5 : Int64))
theorem B_X10_hill_0 (E : EnvW p s m args meth c D cy regsM ad "RoofWarModel" cX10_hill 2 (some .int)) (ha : Apart regsM ad) {post : Int32 → St → Prop} {σ : St} {x1 : Int32} (hw : w_X10_hill post σ x1) {H : Heap} {locs : List Loc} {ls : Array Slot} (hP : va_P D CLS (wM cy ad σ) H) (hS : va_S (AM ad s.heap.size) s.heap H locs) (hl : lv_has ls 2 [(0, .ref (ad 0 0)), (1, .int x1)]) : W p l e rm_X10_hill s m args below meth c H locs 0 0 (MQ below (QI D cy (cellM cy ad) regsM ad s.heap.size post) args s 0 0 (AM ad s.heap.size)) (F0 m 0 ls []) := by
  obtain ⟨hx, hb, -⟩ := id E
  unfold w_X10_hill at hw
  refine lv_iload_n hx hb dX10_hill_0 rfl (lv_at hl 1 rfl) ?_
  refine lv_i2l (v := x1.toInt64) hx hb dX10_hill_1 rfl ?_
  refine lv_lconst (v := 0) hx hb dX10_hill_2 (by decide) ?_
  refine g_ldc2 (v := 5) E mw_1053 dX10_hill_3 ?_
  refine g_cSi (As := [.long x1.toInt64, .long ((0 : Int64)), .long ((5 : Int64))]) (rest := []) E hl.1 (c_X10_isIn l D cy ad ha hw _) ok_X10_isIn mw_1054 ⟨(Nat.le_of_ble_eq_true rfl), (Nat.le_of_ble_eq_true rfl)⟩ ⟨rfl, rfl⟩ rfl rfl (Nat.le_of_ble_eq_true rfl) ⟨Nat.zero_le _, Nat.zero_le _⟩ hP hS dX10_hill_6 (fun r1 s1 hw H locs hP hS => ?_)
  obtain ⟨z1, hw⟩ := hw
  refine lv_if_eq (tgt := 20) hx hb dX10_hill_9 (by decide) (fun c2 => ?_) (fun c2 => ?_)
  · replace hw := hw.1 c2
    refine g_ldc (v := -1000000001) E mw_1063 dX10_hill_20 ?_
    exact g_iret E hw hP hS dX10_hill_22
  · replace hw := hw.2 c2
    refine lv_aload_n hx hb dX10_hill_12 rfl (lv_at hl 0 rfl) ?_
    refine lv_iload_n hx hb dX10_hill_13 rfl (lv_at hl 1 rfl) ?_
    refine g_cVi (As := [.int x1]) (rest := []) E hl.1 (c_X10_hillOf l D cy ad ha hw _) ok_X10_hillOf mw_1215 ⟨(Nat.le_of_ble_eq_true rfl), (Nat.le_of_ble_eq_true rfl)⟩ ⟨rfl, rfl⟩ rM0 rfl rfl rfl rfl rfl (Nat.le_of_ble_eq_true rfl) ⟨Nat.zero_le _, Nat.zero_le _⟩ hP hS dX10_hill_14 (fun r3 s3 hw H locs hP hS => ?_)
    refine lv_goto (tgt := 22) hx hb dX10_hill_17 (by decide) ?_
    exact g_iret E hw hP hS dX10_hill_22
theorem c_X10_hill (l : Launch) (D : va_G) (cy : Nat → ClassId) (ad : Nat → Nat → Nat) (ha : Apart regsM ad) {post : Int32 → St → Prop} {σ : St} {x1 : Int32} (hw : w_X10_hill post σ x1) (sz : Nat) : MetI l yX10_hill cX10_hill 2 .int rm_X10_hill [.ref (ad 0 0), .int x1] D cy (cellM cy ad) regsM ad σ sz post :=
  Met_inI ok_X10_hill.2.2.2.2.2 (Nat.le_of_ble_eq_true rfl) (fun p e s m below meth c ls E hP hl => B_X10_hill_0 E ha hw hP va_S.rf hl)
-- RoofWarModel.loot(II)I
theorem dX10_loot_0 : decode cX10_loot 0 = .ok (.iload_n 1, 1) := by decide +kernel
theorem dX10_loot_1 : decode cX10_loot 1 = .ok (.invokestatic 206, 3) := by decide +kernel
theorem dX10_loot_4 : decode cX10_loot 4 = .ok (.ifCond .eq 13, 3) := by decide +kernel
theorem dX10_loot_7 : decode cX10_loot 7 = .ok (.iload_n 2, 1) := by decide +kernel
theorem dX10_loot_8 : decode cX10_loot 8 = .ok (.i2l, 1) := by decide +kernel
theorem dX10_loot_9 : decode cX10_loot 9 = .ok (.lconst 0, 1) := by decide +kernel
theorem dX10_loot_10 : decode cX10_loot 10 = .ok (.lconst 1, 1) := by decide +kernel
theorem dX10_loot_11 : decode cX10_loot 11 = .ok (.invokestatic 71, 3) := by decide +kernel
theorem dX10_loot_14 : decode cX10_loot 14 = .ok (.ifCond .ne 6, 3) := by decide +kernel
theorem dX10_loot_17 : decode cX10_loot 17 = .ok (.ldc 96, 2) := by decide +kernel
theorem dX10_loot_19 : decode cX10_loot 19 = .ok (.ireturn, 1) := by decide +kernel
theorem dX10_loot_20 : decode cX10_loot 20 = .ok (.iload_n 2, 1) := by decide +kernel
theorem dX10_loot_21 : decode cX10_loot 21 = .ok (.ifCond .ne 11, 3) := by decide +kernel
theorem dX10_loot_24 : decode cX10_loot 24 = .ok (.aload_n 0, 1) := by decide +kernel
theorem dX10_loot_25 : decode cX10_loot 25 = .ok (.iload_n 1, 1) := by decide +kernel
theorem dX10_loot_26 : decode cX10_loot 26 = .ok (.invokevirtual 171, 3) := by decide +kernel
theorem dX10_loot_29 : decode cX10_loot 29 = .ok (.goto 11, 3) := by decide +kernel
theorem dX10_loot_32 : decode cX10_loot 32 = .ok (.aload_n 0, 1) := by decide +kernel
theorem dX10_loot_33 : decode cX10_loot 33 = .ok (.iload_n 1, 1) := by decide +kernel
theorem dX10_loot_34 : decode cX10_loot 34 = .ok (.invokevirtual 174, 3) := by decide +kernel
theorem dX10_loot_37 : decode cX10_loot 37 = .ok (.invokestatic 142, 3) := by decide +kernel
theorem dX10_loot_40 : decode cX10_loot 40 = .ok (.ireturn, 1) := by decide +kernel
theorem ok_X10_loot : okV yX10_loot cX10_loot 3 (some .int) 2 := ⟨mw_1225, mw_1226, mw_83, mw_1227, by decide +kernel, by decide +kernel⟩
abbrev rm_X10_loot : Room := { frames := 4, cells := 0, slots := 0, locals := 89 }
def w_X10_loot (post : Int32 → St → Prop) (σ : St) (x1 : Int32) (x2 : Int32) : Prop := w_X10_isTown (fun r1 s1 => ((r1 = 0 → (post ((-1000000001)) s1)) ∧ (¬ r1 = 0 → (w_X10_isIn (fun r3 s3 => ((¬ r3 = 0 → (((¬ x2 = 0 → (w_X10_homeOf (fun r6 s6 => w_X10_orNone (fun r7 s7 => post r7 s7) s6 r6) s3 x1)) ∧ (x2 = 0 → (w_X10_lootOf (fun r8 s8 => post r8 s8) s3 x1))))) ∧ (r3 = 0 → (post ((-1000000001)) s3)))) s1 x2.toInt64 ((0 : Int64)) ((1 : Int64)))))) σ x1
theorem B_X10_loot_0 (E : EnvW p s m args meth c D cy regsM ad "RoofWarModel" cX10_loot 3 (some .int)) (ha : Apart regsM ad) {post : Int32 → St → Prop} {σ : St} {x1 : Int32} {x2 : Int32} (hw : w_X10_loot post σ x1 x2) {H : Heap} {locs : List Loc} {ls : Array Slot} (hP : va_P D CLS (wM cy ad σ) H) (hS : va_S (AM ad s.heap.size) s.heap H locs) (hl : lv_has ls 3 [(0, .ref (ad 0 0)), (1, .int x1), (2, .int x2)]) : W p l e rm_X10_loot s m args below meth c H locs 0 0 (MQ below (QI D cy (cellM cy ad) regsM ad s.heap.size post) args s 0 0 (AM ad s.heap.size)) (F0 m 0 ls []) := by
  obtain ⟨hx, hb, -⟩ := id E
  unfold w_X10_loot at hw
  refine lv_iload_n hx hb dX10_loot_0 rfl (lv_at hl 1 rfl) ?_
  refine g_cSi (As := [.int x1]) (rest := []) E hl.1 (c_X10_isTown l D cy ad ha hw _) ok_X10_isTown mw_1228 ⟨(Nat.le_of_ble_eq_true rfl), (Nat.le_of_ble_eq_true rfl)⟩ ⟨rfl, rfl⟩ rfl rfl (Nat.le_of_ble_eq_true rfl) ⟨Nat.zero_le _, Nat.zero_le _⟩ hP hS dX10_loot_1 (fun r1 s1 hw H locs hP hS => ?_)
  obtain ⟨z1, hw⟩ := hw
  refine lv_if_eq (tgt := 17) hx hb dX10_loot_4 (by decide) (fun c2 => ?_) (fun c2 => ?_)
  · replace hw := hw.1 c2
    refine g_ldc (v := -1000000001) E mw_1063 dX10_loot_17 ?_
    exact g_iret E hw hP hS dX10_loot_19
  · replace hw := hw.2 c2
    refine lv_iload_n hx hb dX10_loot_7 rfl (lv_at hl 2 rfl) ?_
    refine lv_i2l (v := x2.toInt64) hx hb dX10_loot_8 rfl ?_
    refine lv_lconst (v := 0) hx hb dX10_loot_9 (by decide) ?_
    refine lv_lconst (v := 1) hx hb dX10_loot_10 (by decide) ?_
    refine g_cSi (As := [.long x2.toInt64, .long ((0 : Int64)), .long ((1 : Int64))]) (rest := []) E hl.1 (c_X10_isIn l D cy ad ha hw _) ok_X10_isIn mw_1054 ⟨(Nat.le_of_ble_eq_true rfl), (Nat.le_of_ble_eq_true rfl)⟩ ⟨rfl, rfl⟩ rfl rfl (Nat.le_of_ble_eq_true rfl) ⟨Nat.zero_le _, Nat.zero_le _⟩ hP hS dX10_loot_11 (fun r3 s3 hw H locs hP hS => ?_)
    obtain ⟨z3, hw⟩ := hw
    refine lv_if_ne (tgt := 20) hx hb dX10_loot_14 (by decide) (fun c4 => ?_) (fun c4 => ?_)
    · replace hw := hw.1 c4
      refine lv_iload_n hx hb dX10_loot_20 rfl (lv_at hl 2 rfl) ?_
      refine lv_if_ne (tgt := 32) hx hb dX10_loot_21 (by decide) (fun c5 => ?_) (fun c5 => ?_)
      · replace hw := hw.1 c5
        refine lv_aload_n hx hb dX10_loot_32 rfl (lv_at hl 0 rfl) ?_
        refine lv_iload_n hx hb dX10_loot_33 rfl (lv_at hl 1 rfl) ?_
        refine g_cVi (As := [.int x1]) (rest := []) E hl.1 (c_X10_homeOf l D cy ad ha hw _) ok_X10_homeOf mw_1181 ⟨(Nat.le_of_ble_eq_true rfl), (Nat.le_of_ble_eq_true rfl)⟩ ⟨rfl, rfl⟩ rM0 rfl rfl rfl rfl rfl (Nat.le_of_ble_eq_true rfl) ⟨Nat.zero_le _, Nat.zero_le _⟩ hP hS dX10_loot_34 (fun r6 s6 hw H locs hP hS => ?_)
        refine g_cSi (As := [.int r6]) (rest := []) E hl.1 (c_X10_orNone l D cy ad ha hw _) ok_X10_orNone mw_1127 ⟨(Nat.le_of_ble_eq_true rfl), (Nat.le_of_ble_eq_true rfl)⟩ ⟨rfl, rfl⟩ rfl rfl (Nat.le_of_ble_eq_true rfl) ⟨Nat.zero_le _, Nat.zero_le _⟩ hP hS dX10_loot_37 (fun r7 s7 hw H locs hP hS => ?_)
        exact g_iret E hw hP hS dX10_loot_40
      · replace hw := hw.2 c5
        refine lv_aload_n hx hb dX10_loot_24 rfl (lv_at hl 0 rfl) ?_
        refine lv_iload_n hx hb dX10_loot_25 rfl (lv_at hl 1 rfl) ?_
        refine g_cVi (As := [.int x1]) (rest := []) E hl.1 (c_X10_lootOf l D cy ad ha hw _) ok_X10_lootOf mw_1172 ⟨(Nat.le_of_ble_eq_true rfl), (Nat.le_of_ble_eq_true rfl)⟩ ⟨rfl, rfl⟩ rM0 rfl rfl rfl rfl rfl (Nat.le_of_ble_eq_true rfl) ⟨Nat.zero_le _, Nat.zero_le _⟩ hP hS dX10_loot_26 (fun r8 s8 hw H locs hP hS => ?_)
        refine lv_goto (tgt := 40) hx hb dX10_loot_29 (by decide) ?_
        exact g_iret E hw hP hS dX10_loot_40
    · replace hw := hw.2 c4
      refine g_ldc (v := -1000000001) E mw_1063 dX10_loot_17 ?_
      exact g_iret E hw hP hS dX10_loot_19
theorem c_X10_loot (l : Launch) (D : va_G) (cy : Nat → ClassId) (ad : Nat → Nat → Nat) (ha : Apart regsM ad) {post : Int32 → St → Prop} {σ : St} {x1 : Int32} {x2 : Int32} (hw : w_X10_loot post σ x1 x2) (sz : Nat) : MetI l yX10_loot cX10_loot 3 .int rm_X10_loot [.ref (ad 0 0), .int x1, .int x2] D cy (cellM cy ad) regsM ad σ sz post :=
  Met_inI ok_X10_loot.2.2.2.2.2 (Nat.le_of_ble_eq_true rfl) (fun p e s m below meth c ls E hP hl => B_X10_loot_0 E ha hw hP va_S.rf hl)
-- RoofWarModel.steals(I)I
theorem dX10_steals_0 : decode cX10_steals 0 = .ok (.aload_n 0, 1) := by decide +kernel
theorem dX10_steals_1 : decode cX10_steals 1 = .ok (.iload_n 1, 1) := by decide +kernel
theorem dX10_steals_2 : decode cX10_steals 2 = .ok (.invokevirtual 107, 3) := by decide +kernel
theorem dX10_steals_5 : decode cX10_steals 5 = .ok (.ifCond .ne 6, 3) := by decide +kernel
theorem dX10_steals_8 : decode cX10_steals 8 = .ok (.ldc 96, 2) := by decide +kernel
theorem dX10_steals_10 : decode cX10_steals 10 = .ok (.ireturn, 1) := by decide +kernel
theorem dX10_steals_11 : decode cX10_steals 11 = .ok (.iconst 1, 1) := by decide +kernel
theorem dX10_steals_12 : decode cX10_steals 12 = .ok (.aload_n 0, 1) := by decide +kernel
theorem dX10_steals_13 : decode cX10_steals 13 = .ok (.iload_n 1, 1) := by decide +kernel
theorem dX10_steals_14 : decode cX10_steals 14 = .ok (.invokevirtual 153, 3) := by decide +kernel
theorem dX10_steals_17 : decode cX10_steals 17 = .ok (.isub, 1) := by decide +kernel
theorem dX10_steals_18 : decode cX10_steals 18 = .ok (.istore_n 2, 1) := by decide +kernel
theorem dX10_steals_19 : decode cX10_steals 19 = .ok (.aload_n 0, 1) := by decide +kernel
theorem dX10_steals_20 : decode cX10_steals 20 = .ok (.iload_n 2, 1) := by decide +kernel
theorem dX10_steals_21 : decode cX10_steals 21 = .ok (.invokevirtual 174, 3) := by decide +kernel
theorem dX10_steals_24 : decode cX10_steals 24 = .ok (.istore_n 3, 1) := by decide +kernel
theorem dX10_steals_25 : decode cX10_steals 25 = .ok (.iload_n 3, 1) := by decide +kernel
theorem dX10_steals_26 : decode cX10_steals 26 = .ok (.ifCond .lt 12, 3) := by decide +kernel
theorem dX10_steals_29 : decode cX10_steals 29 = .ok (.aload_n 0, 1) := by decide +kernel
theorem dX10_steals_30 : decode cX10_steals 30 = .ok (.iload_n 2, 1) := by decide +kernel
theorem dX10_steals_31 : decode cX10_steals 31 = .ok (.iload_n 1, 1) := by decide +kernel
theorem dX10_steals_32 : decode cX10_steals 32 = .ok (.invokevirtual 156, 3) := by decide +kernel
theorem dX10_steals_35 : decode cX10_steals 35 = .ok (.ifCond .ne 6, 3) := by decide +kernel
theorem dX10_steals_38 : decode cX10_steals 38 = .ok (.ldc 101, 2) := by decide +kernel
theorem dX10_steals_40 : decode cX10_steals 40 = .ok (.ireturn, 1) := by decide +kernel
theorem dX10_steals_41 : decode cX10_steals 41 = .ok (.aload_n 0, 1) := by decide +kernel
theorem dX10_steals_42 : decode cX10_steals 42 = .ok (.iload_n 1, 1) := by decide +kernel
theorem dX10_steals_43 : decode cX10_steals 43 = .ok (.iload_n 3, 1) := by decide +kernel
theorem dX10_steals_44 : decode cX10_steals 44 = .ok (.invokevirtual 180, 3) := by decide +kernel
theorem dX10_steals_47 : decode cX10_steals 47 = .ok (.iload_n 3, 1) := by decide +kernel
theorem dX10_steals_48 : decode cX10_steals 48 = .ok (.ireturn, 1) := by decide +kernel
theorem ok_X10_steals : okV yX10_steals cX10_steals 4 (some .int) 1 := ⟨mw_1232, mw_1233, mw_83, mw_1234, by decide +kernel, by decide +kernel⟩
abbrev rm_X10_steals : Room := { frames := 4, cells := 0, slots := 0, locals := 92 }
def w_X10_steals (post : Int32 → St → Prop) (σ : St) (x1 : Int32) : Prop := w_X10_isRoof (fun r1 s1 => ((¬ r1 = 0 → (w_X10_townOf (fun r3 s3 => ∀ v4 : Int32, v4 = 1 - r3 → (w_X10_homeOf (fun r5 s5 => ((r5 < 0 → (post ((-1000000002)) s5)) ∧ (¬ r5 < 0 → (w_X10_mayCarry (fun r7 s7 => ((¬ r7 = 0 → (w_X10_isCarried (fun s9 => post r5 s9) s7 x1 r5)) ∧ (r7 = 0 → (post ((-1000000002)) s7)))) s5 v4 x1)))) s3 v4)) s1 x1)) ∧ (r1 = 0 → (post ((-1000000001)) s1)))) σ x1
theorem B_X10_steals_0 (E : EnvW p s m args meth c D cy regsM ad "RoofWarModel" cX10_steals 4 (some .int)) (ha : Apart regsM ad) {post : Int32 → St → Prop} {σ : St} {x1 : Int32} (hw : w_X10_steals post σ x1) {H : Heap} {locs : List Loc} {ls : Array Slot} (hP : va_P D CLS (wM cy ad σ) H) (hS : va_S (AM ad s.heap.size) s.heap H locs) (hl : lv_has ls 4 [(0, .ref (ad 0 0)), (1, .int x1)]) : W p l e rm_X10_steals s m args below meth c H locs 0 0 (MQ below (QI D cy (cellM cy ad) regsM ad s.heap.size post) args s 0 0 (AM ad s.heap.size)) (F0 m 0 ls []) := by
  obtain ⟨hx, hb, -⟩ := id E
  unfold w_X10_steals at hw
  refine lv_aload_n hx hb dX10_steals_0 rfl (lv_at hl 0 rfl) ?_
  refine lv_iload_n hx hb dX10_steals_1 rfl (lv_at hl 1 rfl) ?_
  refine g_cVi (As := [.int x1]) (rest := []) E hl.1 (c_X10_isRoof l D cy ad ha hw _) ok_X10_isRoof mw_1082 ⟨(Nat.le_of_ble_eq_true rfl), (Nat.le_of_ble_eq_true rfl)⟩ ⟨rfl, rfl⟩ rM0 rfl rfl rfl rfl rfl (Nat.le_of_ble_eq_true rfl) ⟨Nat.zero_le _, Nat.zero_le _⟩ hP hS dX10_steals_2 (fun r1 s1 hw H locs hP hS => ?_)
  obtain ⟨z1, hw⟩ := hw
  refine lv_if_ne (tgt := 11) hx hb dX10_steals_5 (by decide) (fun c2 => ?_) (fun c2 => ?_)
  · replace hw := hw.1 c2
    refine lv_iconst (v := 1) hx hb dX10_steals_11 (by decide) ?_
    refine lv_aload_n hx hb dX10_steals_12 rfl (lv_at hl 0 rfl) ?_
    refine lv_iload_n hx hb dX10_steals_13 rfl (lv_at hl 1 rfl) ?_
    refine g_cVi (As := [.int x1]) (rest := [.int 1]) E hl.1 (c_X10_townOf l D cy ad ha hw _) ok_X10_townOf mw_1178 ⟨(Nat.le_of_ble_eq_true rfl), (Nat.le_of_ble_eq_true rfl)⟩ ⟨rfl, rfl⟩ rM0 rfl rfl rfl rfl rfl (Nat.le_of_ble_eq_true rfl) ⟨Nat.zero_le _, Nat.zero_le _⟩ hP hS dX10_steals_14 (fun r3 s3 hw H locs hP hS => ?_)
    refine lv_isub hx hb dX10_steals_17 ?_
    refine lv_topi (fun v4 ev4 => ?_)
    replace hw := hw v4 ev4
    refine lv_istore_n (lv' := [(2, .int v4), (0, .ref (ad 0 0)), (1, .int x1)]) hx hb dX10_steals_18 rfl hl (by decide) rfl (fun ls hl => ?_)
    refine lv_aload_n hx hb dX10_steals_19 rfl (lv_at hl 1 rfl) ?_
    refine lv_iload_n hx hb dX10_steals_20 rfl (lv_at hl 0 rfl) ?_
    refine g_cVi (As := [.int v4]) (rest := []) E hl.1 (c_X10_homeOf l D cy ad ha hw _) ok_X10_homeOf mw_1181 ⟨(Nat.le_of_ble_eq_true rfl), (Nat.le_of_ble_eq_true rfl)⟩ ⟨rfl, rfl⟩ rM0 rfl rfl rfl rfl rfl (Nat.le_of_ble_eq_true rfl) ⟨Nat.zero_le _, Nat.zero_le _⟩ hP hS dX10_steals_21 (fun r5 s5 hw H locs hP hS => ?_)
    refine lv_istore_n (lv' := [(3, .int r5), (2, .int v4), (0, .ref (ad 0 0)), (1, .int x1)]) hx hb dX10_steals_24 rfl hl (by decide) rfl (fun ls hl => ?_)
    refine lv_iload_n hx hb dX10_steals_25 rfl (lv_at hl 0 rfl) ?_
    refine lv_if_lt (tgt := 38) hx hb dX10_steals_26 (by decide) (fun c6 => ?_) (fun c6 => ?_)
    · replace hw := hw.1 c6
      refine g_ldc (v := -1000000002) E mw_1070 dX10_steals_38 ?_
      exact g_iret E hw hP hS dX10_steals_40
    · replace hw := hw.2 c6
      refine lv_aload_n hx hb dX10_steals_29 rfl (lv_at hl 2 rfl) ?_
      refine lv_iload_n hx hb dX10_steals_30 rfl (lv_at hl 1 rfl) ?_
      refine lv_iload_n hx hb dX10_steals_31 rfl (lv_at hl 3 rfl) ?_
      refine g_cVi (As := [.int v4, .int x1]) (rest := []) E hl.1 (c_X10_mayCarry l D cy ad ha hw _) ok_X10_mayCarry mw_1175 ⟨(Nat.le_of_ble_eq_true rfl), (Nat.le_of_ble_eq_true rfl)⟩ ⟨rfl, rfl⟩ rM0 rfl rfl rfl rfl rfl (Nat.le_of_ble_eq_true rfl) ⟨Nat.zero_le _, Nat.zero_le _⟩ hP hS dX10_steals_32 (fun r7 s7 hw H locs hP hS => ?_)
      obtain ⟨z7, hw⟩ := hw
      refine lv_if_ne (tgt := 41) hx hb dX10_steals_35 (by decide) (fun c8 => ?_) (fun c8 => ?_)
      · replace hw := hw.1 c8
        refine lv_aload_n hx hb dX10_steals_41 rfl (lv_at hl 2 rfl) ?_
        refine lv_iload_n hx hb dX10_steals_42 rfl (lv_at hl 3 rfl) ?_
        refine lv_iload_n hx hb dX10_steals_43 rfl (lv_at hl 0 rfl) ?_
        refine g_cVv (As := [.int x1, .int r5]) (rest := []) E hl.1 (c_X10_isCarried l D cy ad ha hw _) ok_X10_isCarried mw_1187 ⟨(Nat.le_of_ble_eq_true rfl), (Nat.le_of_ble_eq_true rfl)⟩ ⟨rfl, rfl⟩ rM0 rfl rfl rfl rfl rfl (Nat.le_of_ble_eq_true rfl) ⟨Nat.zero_le _, Nat.zero_le _⟩ hP hS dX10_steals_44 (fun s9 hw H locs hP hS => ?_)
        refine lv_iload_n hx hb dX10_steals_47 rfl (lv_at hl 0 rfl) ?_
        exact g_iret E hw hP hS dX10_steals_48
      · replace hw := hw.2 c8
        refine g_ldc (v := -1000000002) E mw_1070 dX10_steals_38 ?_
        exact g_iret E hw hP hS dX10_steals_40
  · replace hw := hw.2 c2
    refine g_ldc (v := -1000000001) E mw_1063 dX10_steals_8 ?_
    exact g_iret E hw hP hS dX10_steals_10
theorem c_X10_steals (l : Launch) (D : va_G) (cy : Nat → ClassId) (ad : Nat → Nat → Nat) (ha : Apart regsM ad) {post : Int32 → St → Prop} {σ : St} {x1 : Int32} (hw : w_X10_steals post σ x1) (sz : Nat) : MetI l yX10_steals cX10_steals 4 .int rm_X10_steals [.ref (ad 0 0), .int x1] D cy (cellM cy ad) regsM ad σ sz post :=
  Met_inI ok_X10_steals.2.2.2.2.2 (Nat.le_of_ble_eq_true rfl) (fun p e s m below meth c ls E hP hl => B_X10_steals_0 E ha hw hP va_S.rf hl)
-- RoofWarModel.prizeOf(III)I
theorem dX10_prizeOf_0 : decode cX10_prizeOf 0 = .ok (.aload_n 0, 1) := by decide +kernel
theorem dX10_prizeOf_1 : decode cX10_prizeOf 1 = .ok (.iload_n 1, 1) := by decide +kernel
theorem dX10_prizeOf_2 : decode cX10_prizeOf 2 = .ok (.iconst 3, 1) := by decide +kernel
theorem dX10_prizeOf_3 : decode cX10_prizeOf 3 = .ok (.invokevirtual 78, 3) := by decide +kernel
theorem dX10_prizeOf_6 : decode cX10_prizeOf 6 = .ok (.istore 4, 2) := by decide +kernel
theorem dX10_prizeOf_8 : decode cX10_prizeOf 8 = .ok (.aload_n 0, 1) := by decide +kernel
theorem dX10_prizeOf_9 : decode cX10_prizeOf 9 = .ok (.iload_n 1, 1) := by decide +kernel
theorem dX10_prizeOf_10 : decode cX10_prizeOf 10 = .ok (.iconst 3, 1) := by decide +kernel
theorem dX10_prizeOf_11 : decode cX10_prizeOf 11 = .ok (.iload_n 3, 1) := by decide +kernel
theorem dX10_prizeOf_12 : decode cX10_prizeOf 12 = .ok (.invokevirtual 82, 3) := by decide +kernel
theorem dX10_prizeOf_15 : decode cX10_prizeOf 15 = .ok (.aload_n 0, 1) := by decide +kernel
theorem dX10_prizeOf_16 : decode cX10_prizeOf 16 = .ok (.iload_n 2, 1) := by decide +kernel
theorem dX10_prizeOf_17 : decode cX10_prizeOf 17 = .ok (.invokevirtual 197, 3) := by decide +kernel
theorem dX10_prizeOf_20 : decode cX10_prizeOf 20 = .ok (.aload_n 0, 1) := by decide +kernel
theorem dX10_prizeOf_21 : decode cX10_prizeOf 21 = .ok (.iconst 1, 1) := by decide +kernel
theorem dX10_prizeOf_22 : decode cX10_prizeOf 22 = .ok (.iload_n 2, 1) := by decide +kernel
theorem dX10_prizeOf_23 : decode cX10_prizeOf 23 = .ok (.isub, 1) := by decide +kernel
theorem dX10_prizeOf_24 : decode cX10_prizeOf 24 = .ok (.invokevirtual 197, 3) := by decide +kernel
theorem dX10_prizeOf_27 : decode cX10_prizeOf 27 = .ok (.isub, 1) := by decide +kernel
theorem dX10_prizeOf_28 : decode cX10_prizeOf 28 = .ok (.istore 5, 2) := by decide +kernel
theorem dX10_prizeOf_30 : decode cX10_prizeOf 30 = .ok (.aload_n 0, 1) := by decide +kernel
theorem dX10_prizeOf_31 : decode cX10_prizeOf 31 = .ok (.iload_n 1, 1) := by decide +kernel
theorem dX10_prizeOf_32 : decode cX10_prizeOf 32 = .ok (.iconst 3, 1) := by decide +kernel
theorem dX10_prizeOf_33 : decode cX10_prizeOf 33 = .ok (.iload 4, 2) := by decide +kernel
theorem dX10_prizeOf_35 : decode cX10_prizeOf 35 = .ok (.invokevirtual 82, 3) := by decide +kernel
theorem dX10_prizeOf_38 : decode cX10_prizeOf 38 = .ok (.iload 5, 2) := by decide +kernel
theorem dX10_prizeOf_40 : decode cX10_prizeOf 40 = .ok (.ireturn, 1) := by decide +kernel
theorem ok_X10_prizeOf : okV yX10_prizeOf cX10_prizeOf 6 (some .int) 3 := ⟨mw_1248, mw_52, mw_83, mw_1249, by decide +kernel, by decide +kernel⟩
abbrev rm_X10_prizeOf : Room := { frames := 4, cells := 0, slots := 0, locals := 89 }
def w_X10_prizeOf (post : Int32 → St → Prop) (σ : St) (x1 : Int32) (x2 : Int32) (x3 : Int32) : Prop := w_X10_of (fun r1 s1 => w_X10_sets (fun s2 => w_X10_dryOf (fun r3 s3 => w_X10_dryOf (fun r4 s4 => ∀ v5 : Int32, v5 = r3 - r4 → (w_X10_sets (fun s6 => post v5 s6) s4 x1 (3 : Int32) r1)) s3 (1 - x2)) s2 x2) s1 x1 (3 : Int32) x3) σ x1 (3 : Int32)
theorem B_X10_prizeOf_0 (E : EnvW p s m args meth c D cy regsM ad "RoofWarModel" cX10_prizeOf 6 (some .int)) (ha : Apart regsM ad) {post : Int32 → St → Prop} {σ : St} {x1 : Int32} {x2 : Int32} {x3 : Int32} (hw : w_X10_prizeOf post σ x1 x2 x3) {H : Heap} {locs : List Loc} {ls : Array Slot} (hP : va_P D CLS (wM cy ad σ) H) (hS : va_S (AM ad s.heap.size) s.heap H locs) (hl : lv_has ls 6 [(0, .ref (ad 0 0)), (1, .int x1), (2, .int x2), (3, .int x3)]) : W p l e rm_X10_prizeOf s m args below meth c H locs 0 0 (MQ below (QI D cy (cellM cy ad) regsM ad s.heap.size post) args s 0 0 (AM ad s.heap.size)) (F0 m 0 ls []) := by
  obtain ⟨hx, hb, -⟩ := id E
  unfold w_X10_prizeOf at hw
  refine lv_aload_n hx hb dX10_prizeOf_0 rfl (lv_at hl 0 rfl) ?_
  refine lv_iload_n hx hb dX10_prizeOf_1 rfl (lv_at hl 1 rfl) ?_
  refine lv_iconst (v := 3) hx hb dX10_prizeOf_2 (by decide) ?_
  refine g_cVi (As := [.int x1, .int 3]) (rest := []) E hl.1 (c_X10_of l D cy ad ha hw _) ok_X10_of mw_1067 ⟨(Nat.le_of_ble_eq_true rfl), (Nat.le_of_ble_eq_true rfl)⟩ ⟨rfl, rfl⟩ rM0 rfl rfl rfl rfl rfl (Nat.le_of_ble_eq_true rfl) ⟨Nat.zero_le _, Nat.zero_le _⟩ hP hS dX10_prizeOf_3 (fun r1 s1 hw H locs hP hS => ?_)
  refine lv_istore (lv' := [(4, .int r1), (0, .ref (ad 0 0)), (1, .int x1), (2, .int x2), (3, .int x3)]) hx hb dX10_prizeOf_6 hl (by decide) rfl (fun ls hl => ?_)
  refine lv_aload_n hx hb dX10_prizeOf_8 rfl (lv_at hl 1 rfl) ?_
  refine lv_iload_n hx hb dX10_prizeOf_9 rfl (lv_at hl 2 rfl) ?_
  refine lv_iconst (v := 3) hx hb dX10_prizeOf_10 (by decide) ?_
  refine lv_iload_n hx hb dX10_prizeOf_11 rfl (lv_at hl 4 rfl) ?_
  refine g_cVv (As := [.int x1, .int 3, .int x3]) (rest := []) E hl.1 (c_X10_sets l D cy ad ha hw _) ok_X10_sets mw_1075 ⟨(Nat.le_of_ble_eq_true rfl), (Nat.le_of_ble_eq_true rfl)⟩ ⟨rfl, rfl⟩ rM0 rfl rfl rfl rfl rfl (Nat.le_of_ble_eq_true rfl) ⟨Nat.zero_le _, Nat.zero_le _⟩ hP hS dX10_prizeOf_12 (fun s2 hw H locs hP hS => ?_)
  refine lv_aload_n hx hb dX10_prizeOf_15 rfl (lv_at hl 1 rfl) ?_
  refine lv_iload_n hx hb dX10_prizeOf_16 rfl (lv_at hl 3 rfl) ?_
  refine g_cVi (As := [.int x2]) (rest := []) E hl.1 (c_X10_dryOf l D cy ad ha hw _) ok_X10_dryOf mw_1218 ⟨(Nat.le_of_ble_eq_true rfl), (Nat.le_of_ble_eq_true rfl)⟩ ⟨rfl, rfl⟩ rM0 rfl rfl rfl rfl rfl (Nat.le_of_ble_eq_true rfl) ⟨Nat.zero_le _, Nat.zero_le _⟩ hP hS dX10_prizeOf_17 (fun r3 s3 hw H locs hP hS => ?_)
  refine lv_aload_n hx hb dX10_prizeOf_20 rfl (lv_at hl 1 rfl) ?_
  refine lv_iconst (v := 1) hx hb dX10_prizeOf_21 (by decide) ?_
  refine lv_iload_n hx hb dX10_prizeOf_22 rfl (lv_at hl 3 rfl) ?_
  refine lv_isub hx hb dX10_prizeOf_23 ?_
  refine g_cVi (As := [.int (1 - x2)]) (rest := [.int r3]) E hl.1 (c_X10_dryOf l D cy ad ha hw _) ok_X10_dryOf mw_1218 ⟨(Nat.le_of_ble_eq_true rfl), (Nat.le_of_ble_eq_true rfl)⟩ ⟨rfl, rfl⟩ rM0 rfl rfl rfl rfl rfl (Nat.le_of_ble_eq_true rfl) ⟨Nat.zero_le _, Nat.zero_le _⟩ hP hS dX10_prizeOf_24 (fun r4 s4 hw H locs hP hS => ?_)
  refine lv_isub hx hb dX10_prizeOf_27 ?_
  refine lv_topi (fun v5 ev5 => ?_)
  replace hw := hw v5 ev5
  refine lv_istore (lv' := [(5, .int v5), (4, .int r1), (0, .ref (ad 0 0)), (1, .int x1), (2, .int x2), (3, .int x3)]) hx hb dX10_prizeOf_28 hl (by decide) rfl (fun ls hl => ?_)
  refine lv_aload_n hx hb dX10_prizeOf_30 rfl (lv_at hl 2 rfl) ?_
  refine lv_iload_n hx hb dX10_prizeOf_31 rfl (lv_at hl 3 rfl) ?_
  refine lv_iconst (v := 3) hx hb dX10_prizeOf_32 (by decide) ?_
  refine lv_iload hx hb dX10_prizeOf_33 (lv_at hl 1 rfl) ?_
  refine g_cVv (As := [.int x1, .int 3, .int r1]) (rest := []) E hl.1 (c_X10_sets l D cy ad ha hw _) ok_X10_sets mw_1075 ⟨(Nat.le_of_ble_eq_true rfl), (Nat.le_of_ble_eq_true rfl)⟩ ⟨rfl, rfl⟩ rM0 rfl rfl rfl rfl rfl (Nat.le_of_ble_eq_true rfl) ⟨Nat.zero_le _, Nat.zero_le _⟩ hP hS dX10_prizeOf_35 (fun s6 hw H locs hP hS => ?_)
  refine lv_iload hx hb dX10_prizeOf_38 (lv_at hl 0 rfl) ?_
  exact g_iret E hw hP hS dX10_prizeOf_40
theorem c_X10_prizeOf (l : Launch) (D : va_G) (cy : Nat → ClassId) (ad : Nat → Nat → Nat) (ha : Apart regsM ad) {post : Int32 → St → Prop} {σ : St} {x1 : Int32} {x2 : Int32} {x3 : Int32} (hw : w_X10_prizeOf post σ x1 x2 x3) (sz : Nat) : MetI l yX10_prizeOf cX10_prizeOf 6 .int rm_X10_prizeOf [.ref (ad 0 0), .int x1, .int x2, .int x3] D cy (cellM cy ad) regsM ad σ sz post :=
  Met_inI ok_X10_prizeOf.2.2.2.2.2 (Nat.le_of_ble_eq_true rfl) (fun p e s m below meth c ls E hP hl => B_X10_prizeOf_0 E ha hw hP va_S.rf hl)
-- RoofWarModel.prize(II)I
theorem dX10_prize_0 : decode cX10_prize 0 = .ok (.iload_n 1, 1) := by decide +kernel
theorem dX10_prize_1 : decode cX10_prize 1 = .ok (.invokestatic 206, 3) := by decide +kernel
theorem dX10_prize_4 : decode cX10_prize 4 = .ok (.ifCond .eq 13, 3) := by decide +kernel
theorem dX10_prize_7 : decode cX10_prize 7 = .ok (.iload_n 2, 1) := by decide +kernel
theorem dX10_prize_8 : decode cX10_prize 8 = .ok (.i2l, 1) := by decide +kernel
theorem dX10_prize_9 : decode cX10_prize 9 = .ok (.lconst 0, 1) := by decide +kernel
theorem dX10_prize_10 : decode cX10_prize 10 = .ok (.lconst 1, 1) := by decide +kernel
theorem dX10_prize_11 : decode cX10_prize 11 = .ok (.invokestatic 71, 3) := by decide +kernel
theorem dX10_prize_14 : decode cX10_prize 14 = .ok (.ifCond .ne 6, 3) := by decide +kernel
theorem dX10_prize_17 : decode cX10_prize 17 = .ok (.ldc 96, 2) := by decide +kernel
theorem dX10_prize_19 : decode cX10_prize 19 = .ok (.ireturn, 1) := by decide +kernel
theorem dX10_prize_20 : decode cX10_prize 20 = .ok (.aload_n 0, 1) := by decide +kernel
theorem dX10_prize_21 : decode cX10_prize 21 = .ok (.iload_n 1, 1) := by decide +kernel
theorem dX10_prize_22 : decode cX10_prize 22 = .ok (.invokevirtual 171, 3) := by decide +kernel
theorem dX10_prize_25 : decode cX10_prize 25 = .ok (.istore_n 3, 1) := by decide +kernel
theorem dX10_prize_26 : decode cX10_prize 26 = .ok (.aload_n 0, 1) := by decide +kernel
theorem dX10_prize_27 : decode cX10_prize 27 = .ok (.iload_n 1, 1) := by decide +kernel
theorem dX10_prize_28 : decode cX10_prize 28 = .ok (.invokevirtual 174, 3) := by decide +kernel
theorem dX10_prize_31 : decode cX10_prize 31 = .ok (.istore 4, 2) := by decide +kernel
theorem dX10_prize_33 : decode cX10_prize 33 = .ok (.iload 4, 2) := by decide +kernel
theorem dX10_prize_35 : decode cX10_prize 35 = .ok (.ifCond .lt 7, 3) := by decide +kernel
theorem dX10_prize_38 : decode cX10_prize 38 = .ok (.iload_n 3, 1) := by decide +kernel
theorem dX10_prize_39 : decode cX10_prize 39 = .ok (.ifCond .ne 6, 3) := by decide +kernel
theorem dX10_prize_42 : decode cX10_prize 42 = .ok (.ldc 70, 2) := by decide +kernel
theorem dX10_prize_44 : decode cX10_prize 44 = .ok (.ireturn, 1) := by decide +kernel
theorem dX10_prize_45 : decode cX10_prize 45 = .ok (.iconst (-1), 1) := by decide +kernel
theorem dX10_prize_46 : decode cX10_prize 46 = .ok (.istore 5, 2) := by decide +kernel
theorem dX10_prize_48 : decode cX10_prize 48 = .ok (.iconst 0, 1) := by decide +kernel
theorem dX10_prize_49 : decode cX10_prize 49 = .ok (.istore 6, 2) := by decide +kernel
theorem dX10_prize_51 : decode cX10_prize 51 = .ok (.iconst 0, 1) := by decide +kernel
theorem dX10_prize_52 : decode cX10_prize 52 = .ok (.istore 7, 2) := by decide +kernel
theorem dX10_prize_54 : decode cX10_prize 54 = .ok (.iload 7, 2) := by decide +kernel
theorem dX10_prize_56 : decode cX10_prize 56 = .ok (.aload_n 0, 1) := by decide +kernel
theorem dX10_prize_57 : decode cX10_prize 57 = .ok (.getfield 7, 3) := by decide +kernel
theorem dX10_prize_60 : decode cX10_prize 60 = .ok (.iconst 0, 1) := by decide +kernel
theorem dX10_prize_61 : decode cX10_prize 61 = .ok (.iaload, 1) := by decide +kernel
theorem dX10_prize_62 : decode cX10_prize 62 = .ok (.if_icmp .ge 64, 3) := by decide +kernel
theorem dX10_prize_65 : decode cX10_prize 65 = .ok (.iload_n 3, 1) := by decide +kernel
theorem dX10_prize_66 : decode cX10_prize 66 = .ok (.iload 7, 2) := by decide +kernel
theorem dX10_prize_68 : decode cX10_prize 68 = .ok (.ishr, 1) := by decide +kernel
theorem dX10_prize_69 : decode cX10_prize 69 = .ok (.iconst 1, 1) := by decide +kernel
theorem dX10_prize_70 : decode cX10_prize 70 = .ok (.iand, 1) := by decide +kernel
theorem dX10_prize_71 : decode cX10_prize 71 = .ok (.iconst 1, 1) := by decide +kernel
theorem dX10_prize_72 : decode cX10_prize 72 = .ok (.if_icmp .ne 15, 3) := by decide +kernel
theorem dX10_prize_75 : decode cX10_prize 75 = .ok (.aload_n 0, 1) := by decide +kernel
theorem dX10_prize_76 : decode cX10_prize 76 = .ok (.iload 7, 2) := by decide +kernel
theorem dX10_prize_78 : decode cX10_prize 78 = .ok (.iload_n 1, 1) := by decide +kernel
theorem dX10_prize_79 : decode cX10_prize 79 = .ok (.iload 4, 2) := by decide +kernel
theorem dX10_prize_81 : decode cX10_prize 81 = .ok (.invokevirtual 218, 3) := by decide +kernel
theorem dX10_prize_84 : decode cX10_prize 84 = .ok (.goto 4, 3) := by decide +kernel
theorem dX10_prize_87 : decode cX10_prize 87 = .ok (.iconst 0, 1) := by decide +kernel
theorem dX10_prize_88 : decode cX10_prize 88 = .ok (.istore 8, 2) := by decide +kernel
theorem dX10_prize_90 : decode cX10_prize 90 = .ok (.iload_n 3, 1) := by decide +kernel
theorem dX10_prize_91 : decode cX10_prize 91 = .ok (.iload 7, 2) := by decide +kernel
theorem dX10_prize_93 : decode cX10_prize 93 = .ok (.ishr, 1) := by decide +kernel
theorem dX10_prize_94 : decode cX10_prize 94 = .ok (.iconst 1, 1) := by decide +kernel
theorem dX10_prize_95 : decode cX10_prize 95 = .ok (.iand, 1) := by decide +kernel
theorem dX10_prize_96 : decode cX10_prize 96 = .ok (.iconst 1, 1) := by decide +kernel
theorem dX10_prize_97 : decode cX10_prize 97 = .ok (.if_icmp .ne 23, 3) := by decide +kernel
theorem dX10_prize_100 : decode cX10_prize 100 = .ok (.iload 5, 2) := by decide +kernel
theorem dX10_prize_102 : decode cX10_prize 102 = .ok (.ifCond .lt 10, 3) := by decide +kernel
theorem dX10_prize_105 : decode cX10_prize 105 = .ok (.iload 8, 2) := by decide +kernel
theorem dX10_prize_107 : decode cX10_prize 107 = .ok (.iload 6, 2) := by decide +kernel
theorem dX10_prize_109 : decode cX10_prize 109 = .ok (.if_icmp .le 11, 3) := by decide +kernel
theorem dX10_prize_112 : decode cX10_prize 112 = .ok (.iload 7, 2) := by decide +kernel
theorem dX10_prize_114 : decode cX10_prize 114 = .ok (.istore 5, 2) := by decide +kernel
theorem dX10_prize_116 : decode cX10_prize 116 = .ok (.iload 8, 2) := by decide +kernel
theorem dX10_prize_118 : decode cX10_prize 118 = .ok (.istore 6, 2) := by decide +kernel
theorem dX10_prize_120 : decode cX10_prize 120 = .ok (.iinc 7 1, 3) := by decide +kernel
theorem dX10_prize_123 : decode cX10_prize 123 = .ok (.goto (-69), 3) := by decide +kernel
theorem dX10_prize_126 : decode cX10_prize 126 = .ok (.iload_n 2, 1) := by decide +kernel
theorem dX10_prize_127 : decode cX10_prize 127 = .ok (.ifCond .ne 8, 3) := by decide +kernel
theorem dX10_prize_130 : decode cX10_prize 130 = .ok (.iload 5, 2) := by decide +kernel
theorem dX10_prize_132 : decode cX10_prize 132 = .ok (.goto 5, 3) := by decide +kernel
theorem dX10_prize_135 : decode cX10_prize 135 = .ok (.iload 6, 2) := by decide +kernel
theorem dX10_prize_137 : decode cX10_prize 137 = .ok (.ireturn, 1) := by decide +kernel
theorem ok_X10_prize : okV yX10_prize cX10_prize 9 (some .int) 2 := ⟨mw_1244, mw_1245, mw_83, mw_1246, by decide +kernel, by decide +kernel⟩
abbrev rm_X10_prize : Room := { frames := 5, cells := 0, slots := 0, locals := 114 }
def b_X10_prize_88 (K54 : St → Int32 → Int32 → Int32 → Int32 → Int32 → Int32 → Int32 → Prop) (post : Int32 → St → Prop) (σ : St) (y0 : Int32) (x1 : Int32) (x2 : Int32) (x3 : Int32) (x4 : Int32) (x5 : Int32) (x6 : Int32) (x7 : Int32) : Prop := ((¬ ((x3 >>> (x7 &&& 31)) &&& 1) = 1 → (∀ v2 : Int32, v2 = x7 + 1 → (K54 σ x1 x2 x3 x4 x5 x6 v2))) ∧ (((x3 >>> (x7 &&& 31)) &&& 1) = 1 → (((x5 < 0 → (∀ v4 : Int32, v4 = x7 + 1 → (K54 σ x1 x2 x3 x4 x7 y0 v4))) ∧ (¬ x5 < 0 → (((y0 ≤ x6 → (∀ v6 : Int32, v6 = x7 + 1 → (K54 σ x1 x2 x3 x4 x5 x6 v6))) ∧ (¬ y0 ≤ x6 → (∀ v7 : Int32, v7 = x7 + 1 → (K54 σ x1 x2 x3 x4 x7 y0 v7))))))))))
theorem B_X10_prize_88 (E : EnvW p s m args meth c D cy regsM ad "RoofWarModel" cX10_prize 9 (some .int)) (ha : Apart regsM ad) {post : Int32 → St → Prop} {K54 : St → Int32 → Int32 → Int32 → Int32 → Int32 → Int32 → Int32 → Prop} (hk54 : ∀ (σ : St) (x1 : Int32) (x2 : Int32) (x3 : Int32) (x4 : Int32) (x5 : Int32) (x6 : Int32) (x7 : Int32), K54 σ x1 x2 x3 x4 x5 x6 x7 → ∀ (H : Heap) (locs : List Loc) (ls : Array Slot), va_P D CLS (wM cy ad σ) H → va_S (AM ad s.heap.size) s.heap H locs → lv_has ls 9 [(0, .ref (ad 0 0)), (1, .int x1), (2, .int x2), (3, .int x3), (4, .int x4), (5, .int x5), (6, .int x6), (7, .int x7)] → W p l e rm_X10_prize s m args below meth c H locs 0 0 (MQ below (QI D cy (cellM cy ad) regsM ad s.heap.size post) args s 0 0 (AM ad s.heap.size)) (F0 m 54 ls [])) {σ : St} {y0 : Int32} {x1 : Int32} {x2 : Int32} {x3 : Int32} {x4 : Int32} {x5 : Int32} {x6 : Int32} {x7 : Int32} (hw : b_X10_prize_88 K54 post σ y0 x1 x2 x3 x4 x5 x6 x7) {H : Heap} {locs : List Loc} {ls : Array Slot} (hP : va_P D CLS (wM cy ad σ) H) (hS : va_S (AM ad s.heap.size) s.heap H locs) (hl : lv_has ls 9 [(0, .ref (ad 0 0)), (1, .int x1), (2, .int x2), (3, .int x3), (4, .int x4), (5, .int x5), (6, .int x6), (7, .int x7)]) : W p l e rm_X10_prize s m args below meth c H locs 0 0 (MQ below (QI D cy (cellM cy ad) regsM ad s.heap.size post) args s 0 0 (AM ad s.heap.size)) (F0 m 88 ls [.int y0]) := by
  obtain ⟨hx, hb, -⟩ := id E
  unfold b_X10_prize_88 at hw
  refine lv_istore (lv' := [(8, .int y0), (0, .ref (ad 0 0)), (1, .int x1), (2, .int x2), (3, .int x3), (4, .int x4), (5, .int x5), (6, .int x6), (7, .int x7)]) hx hb dX10_prize_88 hl (by decide) rfl (fun ls hl => ?_)
  refine lv_iload_n hx hb dX10_prize_90 rfl (lv_at hl 4 rfl) ?_
  refine lv_iload hx hb dX10_prize_91 (lv_at hl 8 rfl) ?_
  refine lv_ishr hx hb dX10_prize_93 ?_
  refine lv_iconst (v := 1) hx hb dX10_prize_94 (by decide) ?_
  refine lv_iand hx hb dX10_prize_95 ?_
  refine lv_iconst (v := 1) hx hb dX10_prize_96 (by decide) ?_
  refine lv_icmp_ne (tgt := 120) hx hb dX10_prize_97 (by decide) (fun c1 => ?_) (fun c1 => ?_)
  · replace hw := hw.1 c1
    obtain ⟨v2, ev2⟩ : ∃ y : Int32, y = x7 + 1 := ⟨_, rfl⟩
    replace hw := hw v2 ev2
    refine lv_iinc (v := v2) (lv' := [(7, .int v2), (8, .int y0), (0, .ref (ad 0 0)), (1, .int x1), (2, .int x2), (3, .int x3), (4, .int x4), (5, .int x5), (6, .int x6)]) hx hb dX10_prize_120 hl (k := 8) rfl (by rw [ev2]; rfl) (by decide) rfl (fun ls hl => ?_)
    refine lv_goto (tgt := 54) hx hb dX10_prize_123 (by decide) ?_
    exact hk54 σ x1 x2 x3 x4 x5 x6 v2 hw _ _ _ hP hS (lv_sub hl [2, 3, 4, 5, 6, 7, 8, 0] rfl)
  · replace hw := hw.2 c1
    refine lv_iload hx hb dX10_prize_100 (lv_at hl 6 rfl) ?_
    refine lv_if_lt (tgt := 112) hx hb dX10_prize_102 (by decide) (fun c3 => ?_) (fun c3 => ?_)
    · replace hw := hw.1 c3
      refine lv_iload hx hb dX10_prize_112 (lv_at hl 8 rfl) ?_
      refine lv_istore (lv' := [(5, .int x7), (8, .int y0), (0, .ref (ad 0 0)), (1, .int x1), (2, .int x2), (3, .int x3), (4, .int x4), (6, .int x6), (7, .int x7)]) hx hb dX10_prize_114 hl (by decide) rfl (fun ls hl => ?_)
      refine lv_iload hx hb dX10_prize_116 (lv_at hl 1 rfl) ?_
      refine lv_istore (lv' := [(6, .int y0), (5, .int x7), (8, .int y0), (0, .ref (ad 0 0)), (1, .int x1), (2, .int x2), (3, .int x3), (4, .int x4), (7, .int x7)]) hx hb dX10_prize_118 hl (by decide) rfl (fun ls hl => ?_)
      obtain ⟨v4, ev4⟩ : ∃ y : Int32, y = x7 + 1 := ⟨_, rfl⟩
      replace hw := hw v4 ev4
      refine lv_iinc (v := v4) (lv' := [(7, .int v4), (6, .int y0), (5, .int x7), (8, .int y0), (0, .ref (ad 0 0)), (1, .int x1), (2, .int x2), (3, .int x3), (4, .int x4)]) hx hb dX10_prize_120 hl (k := 8) rfl (by rw [ev4]; rfl) (by decide) rfl (fun ls hl => ?_)
      refine lv_goto (tgt := 54) hx hb dX10_prize_123 (by decide) ?_
      exact hk54 σ x1 x2 x3 x4 x7 y0 v4 hw _ _ _ hP hS (lv_sub hl [4, 5, 6, 7, 8, 2, 1, 0] rfl)
    · replace hw := hw.2 c3
      refine lv_iload hx hb dX10_prize_105 (lv_at hl 0 rfl) ?_
      refine lv_iload hx hb dX10_prize_107 (lv_at hl 7 rfl) ?_
      refine lv_icmp_le (tgt := 120) hx hb dX10_prize_109 (by decide) (fun c5 => ?_) (fun c5 => ?_)
      · replace hw := hw.1 c5
        obtain ⟨v6, ev6⟩ : ∃ y : Int32, y = x7 + 1 := ⟨_, rfl⟩
        replace hw := hw v6 ev6
        refine lv_iinc (v := v6) (lv' := [(7, .int v6), (8, .int y0), (0, .ref (ad 0 0)), (1, .int x1), (2, .int x2), (3, .int x3), (4, .int x4), (5, .int x5), (6, .int x6)]) hx hb dX10_prize_120 hl (k := 8) rfl (by rw [ev6]; rfl) (by decide) rfl (fun ls hl => ?_)
        refine lv_goto (tgt := 54) hx hb dX10_prize_123 (by decide) ?_
        exact hk54 σ x1 x2 x3 x4 x5 x6 v6 hw _ _ _ hP hS (lv_sub hl [2, 3, 4, 5, 6, 7, 8, 0] rfl)
      · replace hw := hw.2 c5
        refine lv_iload hx hb dX10_prize_112 (lv_at hl 8 rfl) ?_
        refine lv_istore (lv' := [(5, .int x7), (8, .int y0), (0, .ref (ad 0 0)), (1, .int x1), (2, .int x2), (3, .int x3), (4, .int x4), (6, .int x6), (7, .int x7)]) hx hb dX10_prize_114 hl (by decide) rfl (fun ls hl => ?_)
        refine lv_iload hx hb dX10_prize_116 (lv_at hl 1 rfl) ?_
        refine lv_istore (lv' := [(6, .int y0), (5, .int x7), (8, .int y0), (0, .ref (ad 0 0)), (1, .int x1), (2, .int x2), (3, .int x3), (4, .int x4), (7, .int x7)]) hx hb dX10_prize_118 hl (by decide) rfl (fun ls hl => ?_)
        obtain ⟨v7, ev7⟩ : ∃ y : Int32, y = x7 + 1 := ⟨_, rfl⟩
        replace hw := hw v7 ev7
        refine lv_iinc (v := v7) (lv' := [(7, .int v7), (6, .int y0), (5, .int x7), (8, .int y0), (0, .ref (ad 0 0)), (1, .int x1), (2, .int x2), (3, .int x3), (4, .int x4)]) hx hb dX10_prize_120 hl (k := 8) rfl (by rw [ev7]; rfl) (by decide) rfl (fun ls hl => ?_)
        refine lv_goto (tgt := 54) hx hb dX10_prize_123 (by decide) ?_
        exact hk54 σ x1 x2 x3 x4 x7 y0 v7 hw _ _ _ hP hS (lv_sub hl [4, 5, 6, 7, 8, 2, 1, 0] rfl)
def b_X10_prize_54 (K54 : St → Int32 → Int32 → Int32 → Int32 → Int32 → Int32 → Int32 → Prop) (post : Int32 → St → Prop) (σ : St) (x1 : Int32) (x2 : Int32) (x3 : Int32) (x4 : Int32) (x5 : Int32) (x6 : Int32) (x7 : Int32) : Prop := vp_in (0 : Int32) 3082 ∧ ((((σ 1 0 (0 : Int32).toNatClampNeg) ≤ x7 → (((¬ x2 = 0 → (post x6 σ)) ∧ (x2 = 0 → (post x5 σ))))) ∧ (¬ (σ 1 0 (0 : Int32).toNatClampNeg) ≤ x7 → (((¬ ((x3 >>> (x7 &&& 31)) &&& 1) = 1 → (b_X10_prize_88 K54 post σ (0 : Int32) x1 x2 x3 x4 x5 x6 x7)) ∧ (((x3 >>> (x7 &&& 31)) &&& 1) = 1 → (w_X10_prizeOf (fun r5 s5 => b_X10_prize_88 K54 post s5 r5 x1 x2 x3 x4 x5 x6 x7) σ x7 x1 x4)))))))
noncomputable def l_X10_prize_54 (post : Int32 → St → Prop) : Nat → St → Int32 → Int32 → Int32 → Int32 → Int32 → Int32 → Int32 → Prop := fun n => Nat.rec (motive := fun _ => St → Int32 → Int32 → Int32 → Int32 → Int32 → Int32 → Int32 → Prop) (fun _ _ _ _ _ _ _ _ => False) (fun _ ih => b_X10_prize_54 ih post) n
theorem L_X10_prize_54 (E : EnvW p s m args meth c D cy regsM ad "RoofWarModel" cX10_prize 9 (some .int)) (ha : Apart regsM ad) {post : Int32 → St → Prop} : ∀ (n : Nat), ∀ (σ : St) (x1 : Int32) (x2 : Int32) (x3 : Int32) (x4 : Int32) (x5 : Int32) (x6 : Int32) (x7 : Int32), l_X10_prize_54 post n σ x1 x2 x3 x4 x5 x6 x7 → ∀ (H : Heap) (locs : List Loc) (ls : Array Slot), va_P D CLS (wM cy ad σ) H → va_S (AM ad s.heap.size) s.heap H locs → lv_has ls 9 [(0, .ref (ad 0 0)), (1, .int x1), (2, .int x2), (3, .int x3), (4, .int x4), (5, .int x5), (6, .int x6), (7, .int x7)] → W p l e rm_X10_prize s m args below meth c H locs 0 0 (MQ below (QI D cy (cellM cy ad) regsM ad s.heap.size post) args s 0 0 (AM ad s.heap.size)) (F0 m 54 ls []) := by
  obtain ⟨hx, hb, -⟩ := id E
  intro n
  induction n with
  | zero => intro σ x1 x2 x3 x4 x5 x6 x7 hw; exact hw.elim
  | succ n hk54 =>
    intro σ x1 x2 x3 x4 x5 x6 x7 hw H locs ls hP hS hl
    replace hw : b_X10_prize_54 (l_X10_prize_54 post n) post σ x1 x2 x3 x4 x5 x6 x7 := hw
    unfold b_X10_prize_54 at hw
    refine lv_iload hx hb dX10_prize_54 (lv_at hl 7 rfl) ?_
    refine lv_aload_n hx hb dX10_prize_56 rfl (lv_at hl 0 rfl) ?_
    refine fX10_0 E hP mw_946 dX10_prize_57 ?_
    refine lv_iconst (v := 0) hx hb dX10_prize_60 (by decide) ?_
    obtain ⟨h1, hw⟩ := hw
    refine aM1 E hP h1 dX10_prize_61 ?_
    refine lv_icmp_ge (tgt := 126) hx hb dX10_prize_62 (by decide) (fun c2 => ?_) (fun c2 => ?_)
    · replace hw := hw.1 c2
      refine lv_iload_n hx hb dX10_prize_126 rfl (lv_at hl 2 rfl) ?_
      refine lv_if_ne (tgt := 135) hx hb dX10_prize_127 (by decide) (fun c3 => ?_) (fun c3 => ?_)
      · replace hw := hw.1 c3
        refine lv_iload hx hb dX10_prize_135 (lv_at hl 6 rfl) ?_
        exact g_iret E hw hP hS dX10_prize_137
      · replace hw := hw.2 c3
        refine lv_iload hx hb dX10_prize_130 (lv_at hl 5 rfl) ?_
        refine lv_goto (tgt := 137) hx hb dX10_prize_132 (by decide) ?_
        exact g_iret E hw hP hS dX10_prize_137
    · replace hw := hw.2 c2
      refine lv_iload_n hx hb dX10_prize_65 rfl (lv_at hl 3 rfl) ?_
      refine lv_iload hx hb dX10_prize_66 (lv_at hl 7 rfl) ?_
      refine lv_ishr hx hb dX10_prize_68 ?_
      refine lv_iconst (v := 1) hx hb dX10_prize_69 (by decide) ?_
      refine lv_iand hx hb dX10_prize_70 ?_
      refine lv_iconst (v := 1) hx hb dX10_prize_71 (by decide) ?_
      refine lv_icmp_ne (tgt := 87) hx hb dX10_prize_72 (by decide) (fun c4 => ?_) (fun c4 => ?_)
      · replace hw := hw.1 c4
        refine lv_iconst (v := 0) hx hb dX10_prize_87 (by decide) ?_
        exact B_X10_prize_88 E ha hk54 hw hP hS (lv_sub hl [0, 1, 2, 3, 4, 5, 6, 7] rfl)
      · replace hw := hw.2 c4
        refine lv_aload_n hx hb dX10_prize_75 rfl (lv_at hl 0 rfl) ?_
        refine lv_iload hx hb dX10_prize_76 (lv_at hl 7 rfl) ?_
        refine lv_iload_n hx hb dX10_prize_78 rfl (lv_at hl 1 rfl) ?_
        refine lv_iload hx hb dX10_prize_79 (lv_at hl 4 rfl) ?_
        refine g_cVi (As := [.int x7, .int x1, .int x4]) (rest := []) E hl.1 (c_X10_prizeOf l D cy ad ha hw _) ok_X10_prizeOf mw_1247 ⟨(Nat.le_of_ble_eq_true rfl), (Nat.le_of_ble_eq_true rfl)⟩ ⟨rfl, rfl⟩ rM0 rfl rfl rfl rfl rfl (Nat.le_of_ble_eq_true rfl) ⟨Nat.zero_le _, Nat.zero_le _⟩ hP hS dX10_prize_81 (fun r5 s5 hw H locs hP hS => ?_)
        refine lv_goto (tgt := 88) hx hb dX10_prize_84 (by decide) ?_
        exact B_X10_prize_88 E ha hk54 hw hP hS (lv_sub hl [0, 1, 2, 3, 4, 5, 6, 7] rfl)
def w_X10_prize (post : Int32 → St → Prop) (σ : St) (x1 : Int32) (x2 : Int32) : Prop := w_X10_isTown (fun r1 s1 => ((r1 = 0 → (post ((-1000000001)) s1)) ∧ (¬ r1 = 0 → (w_X10_isIn (fun r3 s3 => ((¬ r3 = 0 → (w_X10_lootOf (fun r5 s5 => w_X10_homeOf (fun r6 s6 => ((r6 < 0 → (post ((-1000000005)) s6)) ∧ (¬ r6 < 0 → (((¬ r5 = 0 → (∃ n9 : Nat, l_X10_prize_54 post n9 s6 x1 x2 r5 r6 (-1 : Int32) (0 : Int32) (0 : Int32))) ∧ (r5 = 0 → (post ((-1000000005)) s6))))))) s5 x1) s3 x1)) ∧ (r3 = 0 → (post ((-1000000001)) s3)))) s1 x2.toInt64 ((0 : Int64)) ((1 : Int64)))))) σ x1
theorem B_X10_prize_0 (E : EnvW p s m args meth c D cy regsM ad "RoofWarModel" cX10_prize 9 (some .int)) (ha : Apart regsM ad) {post : Int32 → St → Prop} {σ : St} {x1 : Int32} {x2 : Int32} (hw : w_X10_prize post σ x1 x2) {H : Heap} {locs : List Loc} {ls : Array Slot} (hP : va_P D CLS (wM cy ad σ) H) (hS : va_S (AM ad s.heap.size) s.heap H locs) (hl : lv_has ls 9 [(0, .ref (ad 0 0)), (1, .int x1), (2, .int x2)]) : W p l e rm_X10_prize s m args below meth c H locs 0 0 (MQ below (QI D cy (cellM cy ad) regsM ad s.heap.size post) args s 0 0 (AM ad s.heap.size)) (F0 m 0 ls []) := by
  obtain ⟨hx, hb, -⟩ := id E
  unfold w_X10_prize at hw
  refine lv_iload_n hx hb dX10_prize_0 rfl (lv_at hl 1 rfl) ?_
  refine g_cSi (As := [.int x1]) (rest := []) E hl.1 (c_X10_isTown l D cy ad ha hw _) ok_X10_isTown mw_1228 ⟨(Nat.le_of_ble_eq_true rfl), (Nat.le_of_ble_eq_true rfl)⟩ ⟨rfl, rfl⟩ rfl rfl (Nat.le_of_ble_eq_true rfl) ⟨Nat.zero_le _, Nat.zero_le _⟩ hP hS dX10_prize_1 (fun r1 s1 hw H locs hP hS => ?_)
  obtain ⟨z1, hw⟩ := hw
  refine lv_if_eq (tgt := 17) hx hb dX10_prize_4 (by decide) (fun c2 => ?_) (fun c2 => ?_)
  · replace hw := hw.1 c2
    refine g_ldc (v := -1000000001) E mw_1063 dX10_prize_17 ?_
    exact g_iret E hw hP hS dX10_prize_19
  · replace hw := hw.2 c2
    refine lv_iload_n hx hb dX10_prize_7 rfl (lv_at hl 2 rfl) ?_
    refine lv_i2l (v := x2.toInt64) hx hb dX10_prize_8 rfl ?_
    refine lv_lconst (v := 0) hx hb dX10_prize_9 (by decide) ?_
    refine lv_lconst (v := 1) hx hb dX10_prize_10 (by decide) ?_
    refine g_cSi (As := [.long x2.toInt64, .long ((0 : Int64)), .long ((1 : Int64))]) (rest := []) E hl.1 (c_X10_isIn l D cy ad ha hw _) ok_X10_isIn mw_1054 ⟨(Nat.le_of_ble_eq_true rfl), (Nat.le_of_ble_eq_true rfl)⟩ ⟨rfl, rfl⟩ rfl rfl (Nat.le_of_ble_eq_true rfl) ⟨Nat.zero_le _, Nat.zero_le _⟩ hP hS dX10_prize_11 (fun r3 s3 hw H locs hP hS => ?_)
    obtain ⟨z3, hw⟩ := hw
    refine lv_if_ne (tgt := 20) hx hb dX10_prize_14 (by decide) (fun c4 => ?_) (fun c4 => ?_)
    · replace hw := hw.1 c4
      refine lv_aload_n hx hb dX10_prize_20 rfl (lv_at hl 0 rfl) ?_
      refine lv_iload_n hx hb dX10_prize_21 rfl (lv_at hl 1 rfl) ?_
      refine g_cVi (As := [.int x1]) (rest := []) E hl.1 (c_X10_lootOf l D cy ad ha hw _) ok_X10_lootOf mw_1172 ⟨(Nat.le_of_ble_eq_true rfl), (Nat.le_of_ble_eq_true rfl)⟩ ⟨rfl, rfl⟩ rM0 rfl rfl rfl rfl rfl (Nat.le_of_ble_eq_true rfl) ⟨Nat.zero_le _, Nat.zero_le _⟩ hP hS dX10_prize_22 (fun r5 s5 hw H locs hP hS => ?_)
      refine lv_istore_n (lv' := [(3, .int r5), (0, .ref (ad 0 0)), (1, .int x1), (2, .int x2)]) hx hb dX10_prize_25 rfl hl (by decide) rfl (fun ls hl => ?_)
      refine lv_aload_n hx hb dX10_prize_26 rfl (lv_at hl 1 rfl) ?_
      refine lv_iload_n hx hb dX10_prize_27 rfl (lv_at hl 2 rfl) ?_
      refine g_cVi (As := [.int x1]) (rest := []) E hl.1 (c_X10_homeOf l D cy ad ha hw _) ok_X10_homeOf mw_1181 ⟨(Nat.le_of_ble_eq_true rfl), (Nat.le_of_ble_eq_true rfl)⟩ ⟨rfl, rfl⟩ rM0 rfl rfl rfl rfl rfl (Nat.le_of_ble_eq_true rfl) ⟨Nat.zero_le _, Nat.zero_le _⟩ hP hS dX10_prize_28 (fun r6 s6 hw H locs hP hS => ?_)
      refine lv_istore (lv' := [(4, .int r6), (3, .int r5), (0, .ref (ad 0 0)), (1, .int x1), (2, .int x2)]) hx hb dX10_prize_31 hl (by decide) rfl (fun ls hl => ?_)
      refine lv_iload hx hb dX10_prize_33 (lv_at hl 0 rfl) ?_
      refine lv_if_lt (tgt := 42) hx hb dX10_prize_35 (by decide) (fun c7 => ?_) (fun c7 => ?_)
      · replace hw := hw.1 c7
        refine g_ldc (v := -1000000005) E mw_1130 dX10_prize_42 ?_
        exact g_iret E hw hP hS dX10_prize_44
      · replace hw := hw.2 c7
        refine lv_iload_n hx hb dX10_prize_38 rfl (lv_at hl 1 rfl) ?_
        refine lv_if_ne (tgt := 45) hx hb dX10_prize_39 (by decide) (fun c8 => ?_) (fun c8 => ?_)
        · replace hw := hw.1 c8
          refine lv_iconst (v := -1) hx hb dX10_prize_45 (by decide) ?_
          refine lv_istore (lv' := [(5, .int ((-1))), (4, .int r6), (3, .int r5), (0, .ref (ad 0 0)), (1, .int x1), (2, .int x2)]) hx hb dX10_prize_46 hl (by decide) rfl (fun ls hl => ?_)
          refine lv_iconst (v := 0) hx hb dX10_prize_48 (by decide) ?_
          refine lv_istore (lv' := [(6, .int 0), (5, .int ((-1))), (4, .int r6), (3, .int r5), (0, .ref (ad 0 0)), (1, .int x1), (2, .int x2)]) hx hb dX10_prize_49 hl (by decide) rfl (fun ls hl => ?_)
          refine lv_iconst (v := 0) hx hb dX10_prize_51 (by decide) ?_
          refine lv_istore (lv' := [(7, .int 0), (6, .int 0), (5, .int ((-1))), (4, .int r6), (3, .int r5), (0, .ref (ad 0 0)), (1, .int x1), (2, .int x2)]) hx hb dX10_prize_52 hl (by decide) rfl (fun ls hl => ?_)
          obtain ⟨n9, hw⟩ := hw
          exact L_X10_prize_54 E ha n9 s6 x1 x2 r5 r6 (-1 : Int32) (0 : Int32) (0 : Int32) hw _ _ _ hP hS (lv_sub hl [5, 6, 7, 4, 3, 2, 1, 0] rfl)
        · replace hw := hw.2 c8
          refine g_ldc (v := -1000000005) E mw_1130 dX10_prize_42 ?_
          exact g_iret E hw hP hS dX10_prize_44
    · replace hw := hw.2 c4
      refine g_ldc (v := -1000000001) E mw_1063 dX10_prize_17 ?_
      exact g_iret E hw hP hS dX10_prize_19
theorem c_X10_prize (l : Launch) (D : va_G) (cy : Nat → ClassId) (ad : Nat → Nat → Nat) (ha : Apart regsM ad) {post : Int32 → St → Prop} {σ : St} {x1 : Int32} {x2 : Int32} (hw : w_X10_prize post σ x1 x2) (sz : Nat) : MetI l yX10_prize cX10_prize 9 .int rm_X10_prize [.ref (ad 0 0), .int x1, .int x2] D cy (cellM cy ad) regsM ad σ sz post :=
  Met_inI ok_X10_prize.2.2.2.2.2 (Nat.le_of_ble_eq_true rfl) (fun p e s m below meth c ls E hP hl => B_X10_prize_0 E ha hw hP va_S.rf hl)
-- RoofWarModel.laysBy()V
theorem dX10_laysBy_0 : decode cX10_laysBy 0 = .ok (.iconst 0, 1) := by decide +kernel
theorem dX10_laysBy_1 : decode cX10_laysBy 1 = .ok (.istore_n 1, 1) := by decide +kernel
theorem dX10_laysBy_2 : decode cX10_laysBy 2 = .ok (.iload_n 1, 1) := by decide +kernel
theorem dX10_laysBy_3 : decode cX10_laysBy 3 = .ok (.bipush 82, 2) := by decide +kernel
theorem dX10_laysBy_5 : decode cX10_laysBy 5 = .ok (.if_icmp .ge 21, 3) := by decide +kernel
theorem dX10_laysBy_8 : decode cX10_laysBy 8 = .ok (.aload_n 0, 1) := by decide +kernel
theorem dX10_laysBy_9 : decode cX10_laysBy 9 = .ok (.getfield 49, 3) := by decide +kernel
theorem dX10_laysBy_12 : decode cX10_laysBy 12 = .ok (.iload_n 1, 1) := by decide +kernel
theorem dX10_laysBy_13 : decode cX10_laysBy 13 = .ok (.aload_n 0, 1) := by decide +kernel
theorem dX10_laysBy_14 : decode cX10_laysBy 14 = .ok (.getfield 7, 3) := by decide +kernel
theorem dX10_laysBy_17 : decode cX10_laysBy 17 = .ok (.iload_n 1, 1) := by decide +kernel
theorem dX10_laysBy_18 : decode cX10_laysBy 18 = .ok (.iaload, 1) := by decide +kernel
theorem dX10_laysBy_19 : decode cX10_laysBy 19 = .ok (.iastore, 1) := by decide +kernel
theorem dX10_laysBy_20 : decode cX10_laysBy 20 = .ok (.iinc 1 1, 3) := by decide +kernel
theorem dX10_laysBy_23 : decode cX10_laysBy 23 = .ok (.goto (-21), 3) := by decide +kernel
theorem dX10_laysBy_26 : decode cX10_laysBy 26 = .ok (.return_, 1) := by decide +kernel
theorem ok_X10_laysBy : okV yX10_laysBy cX10_laysBy 2 none 0 := ⟨mw_1255, mw_53, mw_83, mw_1256, by decide +kernel, by decide +kernel⟩
abbrev rm_X10_laysBy : Room := { frames := 0, cells := 0, slots := 0, locals := 0 }
def b_X10_laysBy_2 (K2 : St → Int32 → Prop) (post : St → Prop) (σ : St) (x1 : Int32) : Prop := ((82 ≤ x1 → (post σ)) ∧ (¬ 82 ≤ x1 → (vp_in x1 3082 ∧ (vp_in x1 82 ∧ (∀ s4 : St, s4 = wr σ 14 0 x1.toNatClampNeg (σ 1 0 x1.toNatClampNeg) → (∀ v5 : Int32, v5 = x1 + 1 → (K2 s4 v5)))))))
noncomputable def l_X10_laysBy_2 (post : St → Prop) : Nat → St → Int32 → Prop := fun n => Nat.rec (motive := fun _ => St → Int32 → Prop) (fun _ _ => False) (fun _ ih => b_X10_laysBy_2 ih post) n
theorem L_X10_laysBy_2 (E : EnvW p s m args meth c D cy regsM ad "RoofWarModel" cX10_laysBy 2 none) (ha : Apart regsM ad) {post : St → Prop} : ∀ (n : Nat), ∀ (σ : St) (x1 : Int32), l_X10_laysBy_2 post n σ x1 → ∀ (H : Heap) (locs : List Loc) (ls : Array Slot), va_P D CLS (wM cy ad σ) H → va_S (AM ad s.heap.size) s.heap H locs → lv_has ls 2 [(0, .ref (ad 0 0)), (1, .int x1)] → W p l e rm_X10_laysBy s m args below meth c H locs 0 0 (MQ below (QV D cy (cellM cy ad) regsM ad s.heap.size post) args s 0 0 (AM ad s.heap.size)) (F0 m 2 ls []) := by
  obtain ⟨hx, hb, -⟩ := id E
  intro n
  induction n with
  | zero => intro σ x1 hw; exact hw.elim
  | succ n hk2 =>
    intro σ x1 hw H locs ls hP hS hl
    replace hw : b_X10_laysBy_2 (l_X10_laysBy_2 post n) post σ x1 := hw
    unfold b_X10_laysBy_2 at hw
    refine lv_iload_n hx hb dX10_laysBy_2 rfl (lv_at hl 1 rfl) ?_
    refine lv_bipush (v := 82) hx hb dX10_laysBy_3 (by decide) ?_
    refine lv_icmp_ge (tgt := 26) hx hb dX10_laysBy_5 (by decide) (fun c1 => ?_) (fun c1 => ?_)
    · replace hw := hw.1 c1
      exact g_vret E hw hP hS dX10_laysBy_26
    · replace hw := hw.2 c1
      refine lv_aload_n hx hb dX10_laysBy_8 rfl (lv_at hl 0 rfl) ?_
      refine fX10_15 E hP mw_961 dX10_laysBy_9 ?_
      refine lv_iload_n hx hb dX10_laysBy_12 rfl (lv_at hl 1 rfl) ?_
      refine lv_aload_n hx hb dX10_laysBy_13 rfl (lv_at hl 0 rfl) ?_
      refine fX10_0 E hP mw_946 dX10_laysBy_14 ?_
      refine lv_iload_n hx hb dX10_laysBy_17 rfl (lv_at hl 1 rfl) ?_
      obtain ⟨h2, hw⟩ := hw
      refine aM1 E hP h2 dX10_laysBy_18 ?_
      obtain ⟨h3, hw⟩ := hw
      refine tM14 E ha h3 dX10_laysBy_19 hP hS (fun s4 es4 H locs hP hS => ?_)
      replace hw := hw s4 es4
      obtain ⟨v5, ev5⟩ : ∃ y : Int32, y = x1 + 1 := ⟨_, rfl⟩
      replace hw := hw v5 ev5
      refine lv_iinc (v := v5) (lv' := [(1, .int v5), (0, .ref (ad 0 0))]) hx hb dX10_laysBy_20 hl (k := 1) rfl (by rw [ev5]; rfl) (by decide) rfl (fun ls hl => ?_)
      refine lv_goto (tgt := 2) hx hb dX10_laysBy_23 (by decide) ?_
      exact hk2 s4 v5 hw _ _ _ hP hS (lv_sub hl [1, 0] rfl)
def w_X10_laysBy (post : St → Prop) (σ : St) : Prop := ∃ n1 : Nat, l_X10_laysBy_2 post n1 σ (0 : Int32)
theorem B_X10_laysBy_0 (E : EnvW p s m args meth c D cy regsM ad "RoofWarModel" cX10_laysBy 2 none) (ha : Apart regsM ad) {post : St → Prop} {σ : St} (hw : w_X10_laysBy post σ) {H : Heap} {locs : List Loc} {ls : Array Slot} (hP : va_P D CLS (wM cy ad σ) H) (hS : va_S (AM ad s.heap.size) s.heap H locs) (hl : lv_has ls 2 [(0, .ref (ad 0 0))]) : W p l e rm_X10_laysBy s m args below meth c H locs 0 0 (MQ below (QV D cy (cellM cy ad) regsM ad s.heap.size post) args s 0 0 (AM ad s.heap.size)) (F0 m 0 ls []) := by
  obtain ⟨hx, hb, -⟩ := id E
  unfold w_X10_laysBy at hw
  refine lv_iconst (v := 0) hx hb dX10_laysBy_0 (by decide) ?_
  refine lv_istore_n (lv' := [(1, .int 0), (0, .ref (ad 0 0))]) hx hb dX10_laysBy_1 rfl hl (by decide) rfl (fun ls hl => ?_)
  obtain ⟨n1, hw⟩ := hw
  exact L_X10_laysBy_2 E ha n1 σ (0 : Int32) hw _ _ _ hP hS (lv_sub hl [1, 0] rfl)
theorem c_X10_laysBy (l : Launch) (D : va_G) (cy : Nat → ClassId) (ad : Nat → Nat → Nat) (ha : Apart regsM ad) {post : St → Prop} {σ : St} (hw : w_X10_laysBy post σ) (sz : Nat) : MetV l yX10_laysBy cX10_laysBy 2 rm_X10_laysBy [.ref (ad 0 0)] D cy (cellM cy ad) regsM ad σ sz post :=
  Met_inV ok_X10_laysBy.2.2.2.2.2 (Nat.le_of_ble_eq_true rfl) (fun p e s m below meth c ls E hP hl => B_X10_laysBy_0 E ha hw hP va_S.rf hl)
-- RoofWarModel.laysBack()V
theorem dX10_laysBack_0 : decode cX10_laysBack 0 = .ok (.iconst 0, 1) := by decide +kernel
theorem dX10_laysBack_1 : decode cX10_laysBack 1 = .ok (.istore_n 1, 1) := by decide +kernel
theorem dX10_laysBack_2 : decode cX10_laysBack 2 = .ok (.iload_n 1, 1) := by decide +kernel
theorem dX10_laysBack_3 : decode cX10_laysBack 3 = .ok (.bipush 82, 2) := by decide +kernel
theorem dX10_laysBack_5 : decode cX10_laysBack 5 = .ok (.if_icmp .ge 21, 3) := by decide +kernel
theorem dX10_laysBack_8 : decode cX10_laysBack 8 = .ok (.aload_n 0, 1) := by decide +kernel
theorem dX10_laysBack_9 : decode cX10_laysBack 9 = .ok (.getfield 7, 3) := by decide +kernel
theorem dX10_laysBack_12 : decode cX10_laysBack 12 = .ok (.iload_n 1, 1) := by decide +kernel
theorem dX10_laysBack_13 : decode cX10_laysBack 13 = .ok (.aload_n 0, 1) := by decide +kernel
theorem dX10_laysBack_14 : decode cX10_laysBack 14 = .ok (.getfield 49, 3) := by decide +kernel
theorem dX10_laysBack_17 : decode cX10_laysBack 17 = .ok (.iload_n 1, 1) := by decide +kernel
theorem dX10_laysBack_18 : decode cX10_laysBack 18 = .ok (.iaload, 1) := by decide +kernel
theorem dX10_laysBack_19 : decode cX10_laysBack 19 = .ok (.iastore, 1) := by decide +kernel
theorem dX10_laysBack_20 : decode cX10_laysBack 20 = .ok (.iinc 1 1, 3) := by decide +kernel
theorem dX10_laysBack_23 : decode cX10_laysBack 23 = .ok (.goto (-21), 3) := by decide +kernel
theorem dX10_laysBack_26 : decode cX10_laysBack 26 = .ok (.return_, 1) := by decide +kernel
theorem ok_X10_laysBack : okV yX10_laysBack cX10_laysBack 2 none 0 := ⟨mw_1258, mw_54, mw_83, mw_1259, by decide +kernel, by decide +kernel⟩
abbrev rm_X10_laysBack : Room := { frames := 0, cells := 0, slots := 0, locals := 0 }
def b_X10_laysBack_2 (K2 : St → Int32 → Prop) (post : St → Prop) (σ : St) (x1 : Int32) : Prop := ((82 ≤ x1 → (post σ)) ∧ (¬ 82 ≤ x1 → (vp_in x1 82 ∧ (vp_in x1 3082 ∧ (∀ s4 : St, s4 = wr σ 1 0 x1.toNatClampNeg (σ 14 0 x1.toNatClampNeg) → (∀ v5 : Int32, v5 = x1 + 1 → (K2 s4 v5)))))))
noncomputable def l_X10_laysBack_2 (post : St → Prop) : Nat → St → Int32 → Prop := fun n => Nat.rec (motive := fun _ => St → Int32 → Prop) (fun _ _ => False) (fun _ ih => b_X10_laysBack_2 ih post) n
theorem L_X10_laysBack_2 (E : EnvW p s m args meth c D cy regsM ad "RoofWarModel" cX10_laysBack 2 none) (ha : Apart regsM ad) {post : St → Prop} : ∀ (n : Nat), ∀ (σ : St) (x1 : Int32), l_X10_laysBack_2 post n σ x1 → ∀ (H : Heap) (locs : List Loc) (ls : Array Slot), va_P D CLS (wM cy ad σ) H → va_S (AM ad s.heap.size) s.heap H locs → lv_has ls 2 [(0, .ref (ad 0 0)), (1, .int x1)] → W p l e rm_X10_laysBack s m args below meth c H locs 0 0 (MQ below (QV D cy (cellM cy ad) regsM ad s.heap.size post) args s 0 0 (AM ad s.heap.size)) (F0 m 2 ls []) := by
  obtain ⟨hx, hb, -⟩ := id E
  intro n
  induction n with
  | zero => intro σ x1 hw; exact hw.elim
  | succ n hk2 =>
    intro σ x1 hw H locs ls hP hS hl
    replace hw : b_X10_laysBack_2 (l_X10_laysBack_2 post n) post σ x1 := hw
    unfold b_X10_laysBack_2 at hw
    refine lv_iload_n hx hb dX10_laysBack_2 rfl (lv_at hl 1 rfl) ?_
    refine lv_bipush (v := 82) hx hb dX10_laysBack_3 (by decide) ?_
    refine lv_icmp_ge (tgt := 26) hx hb dX10_laysBack_5 (by decide) (fun c1 => ?_) (fun c1 => ?_)
    · replace hw := hw.1 c1
      exact g_vret E hw hP hS dX10_laysBack_26
    · replace hw := hw.2 c1
      refine lv_aload_n hx hb dX10_laysBack_8 rfl (lv_at hl 0 rfl) ?_
      refine fX10_0 E hP mw_946 dX10_laysBack_9 ?_
      refine lv_iload_n hx hb dX10_laysBack_12 rfl (lv_at hl 1 rfl) ?_
      refine lv_aload_n hx hb dX10_laysBack_13 rfl (lv_at hl 0 rfl) ?_
      refine fX10_15 E hP mw_961 dX10_laysBack_14 ?_
      refine lv_iload_n hx hb dX10_laysBack_17 rfl (lv_at hl 1 rfl) ?_
      obtain ⟨h2, hw⟩ := hw
      refine aM14 E hP h2 dX10_laysBack_18 ?_
      obtain ⟨h3, hw⟩ := hw
      refine tM1 E ha h3 dX10_laysBack_19 hP hS (fun s4 es4 H locs hP hS => ?_)
      replace hw := hw s4 es4
      obtain ⟨v5, ev5⟩ : ∃ y : Int32, y = x1 + 1 := ⟨_, rfl⟩
      replace hw := hw v5 ev5
      refine lv_iinc (v := v5) (lv' := [(1, .int v5), (0, .ref (ad 0 0))]) hx hb dX10_laysBack_20 hl (k := 1) rfl (by rw [ev5]; rfl) (by decide) rfl (fun ls hl => ?_)
      refine lv_goto (tgt := 2) hx hb dX10_laysBack_23 (by decide) ?_
      exact hk2 s4 v5 hw _ _ _ hP hS (lv_sub hl [1, 0] rfl)
def w_X10_laysBack (post : St → Prop) (σ : St) : Prop := ∃ n1 : Nat, l_X10_laysBack_2 post n1 σ (0 : Int32)
theorem B_X10_laysBack_0 (E : EnvW p s m args meth c D cy regsM ad "RoofWarModel" cX10_laysBack 2 none) (ha : Apart regsM ad) {post : St → Prop} {σ : St} (hw : w_X10_laysBack post σ) {H : Heap} {locs : List Loc} {ls : Array Slot} (hP : va_P D CLS (wM cy ad σ) H) (hS : va_S (AM ad s.heap.size) s.heap H locs) (hl : lv_has ls 2 [(0, .ref (ad 0 0))]) : W p l e rm_X10_laysBack s m args below meth c H locs 0 0 (MQ below (QV D cy (cellM cy ad) regsM ad s.heap.size post) args s 0 0 (AM ad s.heap.size)) (F0 m 0 ls []) := by
  obtain ⟨hx, hb, -⟩ := id E
  unfold w_X10_laysBack at hw
  refine lv_iconst (v := 0) hx hb dX10_laysBack_0 (by decide) ?_
  refine lv_istore_n (lv' := [(1, .int 0), (0, .ref (ad 0 0))]) hx hb dX10_laysBack_1 rfl hl (by decide) rfl (fun ls hl => ?_)
  obtain ⟨n1, hw⟩ := hw
  exact L_X10_laysBack_2 E ha n1 σ (0 : Int32) hw _ _ _ hP hS (lv_sub hl [1, 0] rfl)
theorem c_X10_laysBack (l : Launch) (D : va_G) (cy : Nat → ClassId) (ad : Nat → Nat → Nat) (ha : Apart regsM ad) {post : St → Prop} {σ : St} (hw : w_X10_laysBack post σ) (sz : Nat) : MetV l yX10_laysBack cX10_laysBack 2 rm_X10_laysBack [.ref (ad 0 0)] D cy (cellM cy ad) regsM ad σ sz post :=
  Met_inV ok_X10_laysBack.2.2.2.2.2 (Nat.le_of_ble_eq_true rfl) (fun p e s m below meth c ls E hP hl => B_X10_laysBack_0 E ha hw hP va_S.rf hl)
-- RoofWarModel.behind(II)I
theorem dX10_behind_0 : decode cX10_behind 0 = .ok (.iload_n 1, 1) := by decide +kernel
theorem dX10_behind_1 : decode cX10_behind 1 = .ok (.i2l, 1) := by decide +kernel
theorem dX10_behind_2 : decode cX10_behind 2 = .ok (.lconst 0, 1) := by decide +kernel
theorem dX10_behind_3 : decode cX10_behind 3 = .ok (.ldc2_w 145, 3) := by decide +kernel
theorem dX10_behind_6 : decode cX10_behind 6 = .ok (.invokestatic 71, 3) := by decide +kernel
theorem dX10_behind_9 : decode cX10_behind 9 = .ok (.ifCond .eq 22, 3) := by decide +kernel
theorem dX10_behind_12 : decode cX10_behind 12 = .ok (.iload_n 2, 1) := by decide +kernel
theorem dX10_behind_13 : decode cX10_behind 13 = .ok (.ifCond .lt 18, 3) := by decide +kernel
theorem dX10_behind_16 : decode cX10_behind 16 = .ok (.iload_n 2, 1) := by decide +kernel
theorem dX10_behind_17 : decode cX10_behind 17 = .ok (.iconst 4, 1) := by decide +kernel
theorem dX10_behind_18 : decode cX10_behind 18 = .ok (.if_icmp .le 16, 3) := by decide +kernel
theorem dX10_behind_21 : decode cX10_behind 21 = .ok (.aload_n 0, 1) := by decide +kernel
theorem dX10_behind_22 : decode cX10_behind 22 = .ok (.iload_n 2, 1) := by decide +kernel
theorem dX10_behind_23 : decode cX10_behind 23 = .ok (.iconst 5, 1) := by decide +kernel
theorem dX10_behind_24 : decode cX10_behind 24 = .ok (.isub, 1) := by decide +kernel
theorem dX10_behind_25 : decode cX10_behind 25 = .ok (.invokevirtual 107, 3) := by decide +kernel
theorem dX10_behind_28 : decode cX10_behind 28 = .ok (.ifCond .ne 6, 3) := by decide +kernel
theorem dX10_behind_31 : decode cX10_behind 31 = .ok (.ldc 96, 2) := by decide +kernel
theorem dX10_behind_33 : decode cX10_behind 33 = .ok (.ireturn, 1) := by decide +kernel
theorem dX10_behind_34 : decode cX10_behind 34 = .ok (.aload_n 0, 1) := by decide +kernel
theorem dX10_behind_35 : decode cX10_behind 35 = .ok (.invokevirtual 222, 3) := by decide +kernel
theorem dX10_behind_38 : decode cX10_behind 38 = .ok (.aload_n 0, 1) := by decide +kernel
theorem dX10_behind_39 : decode cX10_behind 39 = .ok (.iload_n 1, 1) := by decide +kernel
theorem dX10_behind_40 : decode cX10_behind 40 = .ok (.invokevirtual 194, 3) := by decide +kernel
theorem dX10_behind_43 : decode cX10_behind 43 = .ok (.iload_n 2, 1) := by decide +kernel
theorem dX10_behind_44 : decode cX10_behind 44 = .ok (.iconst 5, 1) := by decide +kernel
theorem dX10_behind_45 : decode cX10_behind 45 = .ok (.if_icmp .ge 11, 3) := by decide +kernel
theorem dX10_behind_48 : decode cX10_behind 48 = .ok (.aload_n 0, 1) := by decide +kernel
theorem dX10_behind_49 : decode cX10_behind 49 = .ok (.iload_n 2, 1) := by decide +kernel
theorem dX10_behind_50 : decode cX10_behind 50 = .ok (.invokevirtual 203, 3) := by decide +kernel
theorem dX10_behind_53 : decode cX10_behind 53 = .ok (.goto 11, 3) := by decide +kernel
theorem dX10_behind_56 : decode cX10_behind 56 = .ok (.aload_n 0, 1) := by decide +kernel
theorem dX10_behind_57 : decode cX10_behind 57 = .ok (.iload_n 2, 1) := by decide +kernel
theorem dX10_behind_58 : decode cX10_behind 58 = .ok (.iconst 5, 1) := by decide +kernel
theorem dX10_behind_59 : decode cX10_behind 59 = .ok (.isub, 1) := by decide +kernel
theorem dX10_behind_60 : decode cX10_behind 60 = .ok (.iconst 3, 1) := by decide +kernel
theorem dX10_behind_61 : decode cX10_behind 61 = .ok (.invokevirtual 78, 3) := by decide +kernel
theorem dX10_behind_64 : decode cX10_behind 64 = .ok (.istore_n 3, 1) := by decide +kernel
theorem dX10_behind_65 : decode cX10_behind 65 = .ok (.aload_n 0, 1) := by decide +kernel
theorem dX10_behind_66 : decode cX10_behind 66 = .ok (.invokevirtual 225, 3) := by decide +kernel
theorem dX10_behind_69 : decode cX10_behind 69 = .ok (.iload_n 3, 1) := by decide +kernel
theorem dX10_behind_70 : decode cX10_behind 70 = .ok (.ireturn, 1) := by decide +kernel
theorem ok_X10_behind : okV yX10_behind cX10_behind 4 (some .int) 2 := ⟨mw_1251, mw_1252, mw_83, mw_1253, by decide +kernel, by decide +kernel⟩
abbrev rm_X10_behind : Room := { frames := 7, cells := 0, slots := 0, locals := 160 }
def b_X10_behind_64 (post : Int32 → St → Prop) (σ : St) (y0 : Int32) : Prop := w_X10_laysBack (fun s1 => post y0 s1) σ
theorem B_X10_behind_64 (E : EnvW p s m args meth c D cy regsM ad "RoofWarModel" cX10_behind 4 (some .int)) (ha : Apart regsM ad) {post : Int32 → St → Prop} {σ : St} {y0 : Int32} (hw : b_X10_behind_64 post σ y0) {H : Heap} {locs : List Loc} {ls : Array Slot} (hP : va_P D CLS (wM cy ad σ) H) (hS : va_S (AM ad s.heap.size) s.heap H locs) (hl : lv_has ls 4 [(0, .ref (ad 0 0))]) : W p l e rm_X10_behind s m args below meth c H locs 0 0 (MQ below (QI D cy (cellM cy ad) regsM ad s.heap.size post) args s 0 0 (AM ad s.heap.size)) (F0 m 64 ls [.int y0]) := by
  obtain ⟨hx, hb, -⟩ := id E
  unfold b_X10_behind_64 at hw
  refine lv_istore_n (lv' := [(3, .int y0), (0, .ref (ad 0 0))]) hx hb dX10_behind_64 rfl hl (by decide) rfl (fun ls hl => ?_)
  refine lv_aload_n hx hb dX10_behind_65 rfl (lv_at hl 1 rfl) ?_
  refine g_cVv (As := []) (rest := []) E hl.1 (c_X10_laysBack l D cy ad ha hw _) ok_X10_laysBack mw_1257 ⟨(Nat.le_of_ble_eq_true rfl), (Nat.le_of_ble_eq_true rfl)⟩ ⟨rfl, rfl⟩ rM0 rfl rfl rfl rfl rfl (Nat.le_of_ble_eq_true rfl) ⟨Nat.zero_le _, Nat.zero_le _⟩ hP hS dX10_behind_66 (fun s1 hw H locs hP hS => ?_)
  refine lv_iload_n hx hb dX10_behind_69 rfl (lv_at hl 0 rfl) ?_
  exact g_iret E hw hP hS dX10_behind_70
def b_X10_behind_34 (post : Int32 → St → Prop) (σ : St) (x1 : Int32) (x2 : Int32) : Prop := w_X10_laysBy (fun s1 => w_X10_goesOnMany (fun s2 => ((5 ≤ x2 → (w_X10_of (fun r4 s4 => b_X10_behind_64 post s4 r4) s2 (x2 - 5) (3 : Int32))) ∧ (¬ 5 ≤ x2 → (w_X10_hillOf (fun r5 s5 => b_X10_behind_64 post s5 r5) s2 x2)))) s1 x1) σ
theorem B_X10_behind_34 (E : EnvW p s m args meth c D cy regsM ad "RoofWarModel" cX10_behind 4 (some .int)) (ha : Apart regsM ad) {post : Int32 → St → Prop} {σ : St} {x1 : Int32} {x2 : Int32} (hw : b_X10_behind_34 post σ x1 x2) {H : Heap} {locs : List Loc} {ls : Array Slot} (hP : va_P D CLS (wM cy ad σ) H) (hS : va_S (AM ad s.heap.size) s.heap H locs) (hl : lv_has ls 4 [(0, .ref (ad 0 0)), (1, .int x1), (2, .int x2)]) : W p l e rm_X10_behind s m args below meth c H locs 0 0 (MQ below (QI D cy (cellM cy ad) regsM ad s.heap.size post) args s 0 0 (AM ad s.heap.size)) (F0 m 34 ls []) := by
  obtain ⟨hx, hb, -⟩ := id E
  unfold b_X10_behind_34 at hw
  refine lv_aload_n hx hb dX10_behind_34 rfl (lv_at hl 0 rfl) ?_
  refine g_cVv (As := []) (rest := []) E hl.1 (c_X10_laysBy l D cy ad ha hw _) ok_X10_laysBy mw_1254 ⟨(Nat.le_of_ble_eq_true rfl), (Nat.le_of_ble_eq_true rfl)⟩ ⟨rfl, rfl⟩ rM0 rfl rfl rfl rfl rfl (Nat.le_of_ble_eq_true rfl) ⟨Nat.zero_le _, Nat.zero_le _⟩ hP hS dX10_behind_35 (fun s1 hw H locs hP hS => ?_)
  refine lv_aload_n hx hb dX10_behind_38 rfl (lv_at hl 0 rfl) ?_
  refine lv_iload_n hx hb dX10_behind_39 rfl (lv_at hl 1 rfl) ?_
  refine g_cVv (As := [.int x1]) (rest := []) E hl.1 (c_X10_goesOnMany l D cy ad ha hw _) ok_X10_goesOnMany mw_1163 ⟨(Nat.le_of_ble_eq_true rfl), (Nat.le_of_ble_eq_true rfl)⟩ ⟨rfl, rfl⟩ rM0 rfl rfl rfl rfl rfl (Nat.le_of_ble_eq_true rfl) ⟨Nat.zero_le _, Nat.zero_le _⟩ hP hS dX10_behind_40 (fun s2 hw H locs hP hS => ?_)
  refine lv_iload_n hx hb dX10_behind_43 rfl (lv_at hl 2 rfl) ?_
  refine lv_iconst (v := 5) hx hb dX10_behind_44 (by decide) ?_
  refine lv_icmp_ge (tgt := 56) hx hb dX10_behind_45 (by decide) (fun c3 => ?_) (fun c3 => ?_)
  · replace hw := hw.1 c3
    refine lv_aload_n hx hb dX10_behind_56 rfl (lv_at hl 0 rfl) ?_
    refine lv_iload_n hx hb dX10_behind_57 rfl (lv_at hl 2 rfl) ?_
    refine lv_iconst (v := 5) hx hb dX10_behind_58 (by decide) ?_
    refine lv_isub hx hb dX10_behind_59 ?_
    refine lv_iconst (v := 3) hx hb dX10_behind_60 (by decide) ?_
    refine g_cVi (As := [.int (x2 - 5), .int 3]) (rest := []) E hl.1 (c_X10_of l D cy ad ha hw _) ok_X10_of mw_1067 ⟨(Nat.le_of_ble_eq_true rfl), (Nat.le_of_ble_eq_true rfl)⟩ ⟨rfl, rfl⟩ rM0 rfl rfl rfl rfl rfl (Nat.le_of_ble_eq_true rfl) ⟨Nat.zero_le _, Nat.zero_le _⟩ hP hS dX10_behind_61 (fun r4 s4 hw H locs hP hS => ?_)
    exact B_X10_behind_64 E ha hw hP hS (lv_sub hl [0] rfl)
  · replace hw := hw.2 c3
    refine lv_aload_n hx hb dX10_behind_48 rfl (lv_at hl 0 rfl) ?_
    refine lv_iload_n hx hb dX10_behind_49 rfl (lv_at hl 2 rfl) ?_
    refine g_cVi (As := [.int x2]) (rest := []) E hl.1 (c_X10_hillOf l D cy ad ha hw _) ok_X10_hillOf mw_1215 ⟨(Nat.le_of_ble_eq_true rfl), (Nat.le_of_ble_eq_true rfl)⟩ ⟨rfl, rfl⟩ rM0 rfl rfl rfl rfl rfl (Nat.le_of_ble_eq_true rfl) ⟨Nat.zero_le _, Nat.zero_le _⟩ hP hS dX10_behind_50 (fun r5 s5 hw H locs hP hS => ?_)
    refine lv_goto (tgt := 64) hx hb dX10_behind_53 (by decide) ?_
    exact B_X10_behind_64 E ha hw hP hS (lv_sub hl [0] rfl)
def w_X10_behind (post : Int32 → St → Prop) (σ : St) (x1 : Int32) (x2 : Int32) : Prop := w_X10_isIn (fun r1 s1 => ((r1 = 0 → (post ((-1000000001)) s1)) ∧ (¬ r1 = 0 → (((x2 < 0 → (post ((-1000000001)) s1)) ∧ (¬ x2 < 0 → (((x2 ≤ 4 → (b_X10_behind_34 post s1 x1 x2)) ∧ (¬ x2 ≤ 4 → (w_X10_isRoof (fun r5 s5 => ((¬ r5 = 0 → (b_X10_behind_34 post s5 x1 x2)) ∧ (r5 = 0 → (post ((-1000000001)) s5)))) s1 (x2 - 5))))))))))) σ x1.toInt64 ((0 : Int64)) ((100 : Int64))
theorem B_X10_behind_0 (E : EnvW p s m args meth c D cy regsM ad "RoofWarModel" cX10_behind 4 (some .int)) (ha : Apart regsM ad) {post : Int32 → St → Prop} {σ : St} {x1 : Int32} {x2 : Int32} (hw : w_X10_behind post σ x1 x2) {H : Heap} {locs : List Loc} {ls : Array Slot} (hP : va_P D CLS (wM cy ad σ) H) (hS : va_S (AM ad s.heap.size) s.heap H locs) (hl : lv_has ls 4 [(0, .ref (ad 0 0)), (1, .int x1), (2, .int x2)]) : W p l e rm_X10_behind s m args below meth c H locs 0 0 (MQ below (QI D cy (cellM cy ad) regsM ad s.heap.size post) args s 0 0 (AM ad s.heap.size)) (F0 m 0 ls []) := by
  obtain ⟨hx, hb, -⟩ := id E
  unfold w_X10_behind at hw
  refine lv_iload_n hx hb dX10_behind_0 rfl (lv_at hl 1 rfl) ?_
  refine lv_i2l (v := x1.toInt64) hx hb dX10_behind_1 rfl ?_
  refine lv_lconst (v := 0) hx hb dX10_behind_2 (by decide) ?_
  refine g_ldc2 (v := 100) E mw_1141 dX10_behind_3 ?_
  refine g_cSi (As := [.long x1.toInt64, .long ((0 : Int64)), .long ((100 : Int64))]) (rest := []) E hl.1 (c_X10_isIn l D cy ad ha hw _) ok_X10_isIn mw_1054 ⟨(Nat.le_of_ble_eq_true rfl), (Nat.le_of_ble_eq_true rfl)⟩ ⟨rfl, rfl⟩ rfl rfl (Nat.le_of_ble_eq_true rfl) ⟨Nat.zero_le _, Nat.zero_le _⟩ hP hS dX10_behind_6 (fun r1 s1 hw H locs hP hS => ?_)
  obtain ⟨z1, hw⟩ := hw
  refine lv_if_eq (tgt := 31) hx hb dX10_behind_9 (by decide) (fun c2 => ?_) (fun c2 => ?_)
  · replace hw := hw.1 c2
    refine g_ldc (v := -1000000001) E mw_1063 dX10_behind_31 ?_
    exact g_iret E hw hP hS dX10_behind_33
  · replace hw := hw.2 c2
    refine lv_iload_n hx hb dX10_behind_12 rfl (lv_at hl 2 rfl) ?_
    refine lv_if_lt (tgt := 31) hx hb dX10_behind_13 (by decide) (fun c3 => ?_) (fun c3 => ?_)
    · replace hw := hw.1 c3
      refine g_ldc (v := -1000000001) E mw_1063 dX10_behind_31 ?_
      exact g_iret E hw hP hS dX10_behind_33
    · replace hw := hw.2 c3
      refine lv_iload_n hx hb dX10_behind_16 rfl (lv_at hl 2 rfl) ?_
      refine lv_iconst (v := 4) hx hb dX10_behind_17 (by decide) ?_
      refine lv_icmp_le (tgt := 34) hx hb dX10_behind_18 (by decide) (fun c4 => ?_) (fun c4 => ?_)
      · replace hw := hw.1 c4
        exact B_X10_behind_34 E ha hw hP hS (lv_sub hl [0, 1, 2] rfl)
      · replace hw := hw.2 c4
        refine lv_aload_n hx hb dX10_behind_21 rfl (lv_at hl 0 rfl) ?_
        refine lv_iload_n hx hb dX10_behind_22 rfl (lv_at hl 2 rfl) ?_
        refine lv_iconst (v := 5) hx hb dX10_behind_23 (by decide) ?_
        refine lv_isub hx hb dX10_behind_24 ?_
        refine g_cVi (As := [.int (x2 - 5)]) (rest := []) E hl.1 (c_X10_isRoof l D cy ad ha hw _) ok_X10_isRoof mw_1082 ⟨(Nat.le_of_ble_eq_true rfl), (Nat.le_of_ble_eq_true rfl)⟩ ⟨rfl, rfl⟩ rM0 rfl rfl rfl rfl rfl (Nat.le_of_ble_eq_true rfl) ⟨Nat.zero_le _, Nat.zero_le _⟩ hP hS dX10_behind_25 (fun r5 s5 hw H locs hP hS => ?_)
        obtain ⟨z5, hw⟩ := hw
        refine lv_if_ne (tgt := 34) hx hb dX10_behind_28 (by decide) (fun c6 => ?_) (fun c6 => ?_)
        · replace hw := hw.1 c6
          exact B_X10_behind_34 E ha hw hP hS (lv_sub hl [0, 1, 2] rfl)
        · replace hw := hw.2 c6
          refine g_ldc (v := -1000000001) E mw_1063 dX10_behind_31 ?_
          exact g_iret E hw hP hS dX10_behind_33
theorem c_X10_behind (l : Launch) (D : va_G) (cy : Nat → ClassId) (ad : Nat → Nat → Nat) (ha : Apart regsM ad) {post : Int32 → St → Prop} {σ : St} {x1 : Int32} {x2 : Int32} (hw : w_X10_behind post σ x1 x2) (sz : Nat) : MetI l yX10_behind cX10_behind 4 .int rm_X10_behind [.ref (ad 0 0), .int x1, .int x2] D cy (cellM cy ad) regsM ad σ sz post :=
  Met_inI ok_X10_behind.2.2.2.2.2 (Nat.le_of_ble_eq_true rfl) (fun p e s m below meth c ls E hP hl => B_X10_behind_0 E ha hw hP va_S.rf hl)
-- RoofWarModel.gone(I)I
theorem dX10_gone_0 : decode cX10_gone 0 = .ok (.aload_n 0, 1) := by decide +kernel
theorem dX10_gone_1 : decode cX10_gone 1 = .ok (.iload_n 1, 1) := by decide +kernel
theorem dX10_gone_2 : decode cX10_gone 2 = .ok (.invokevirtual 107, 3) := by decide +kernel
theorem dX10_gone_5 : decode cX10_gone 5 = .ok (.ifCond .ne 6, 3) := by decide +kernel
theorem dX10_gone_8 : decode cX10_gone 8 = .ok (.ldc 96, 2) := by decide +kernel
theorem dX10_gone_10 : decode cX10_gone 10 = .ok (.ireturn, 1) := by decide +kernel
theorem dX10_gone_11 : decode cX10_gone 11 = .ok (.aload_n 0, 1) := by decide +kernel
theorem dX10_gone_12 : decode cX10_gone 12 = .ok (.invokevirtual 222, 3) := by decide +kernel
theorem dX10_gone_15 : decode cX10_gone 15 = .ok (.aload_n 0, 1) := by decide +kernel
theorem dX10_gone_16 : decode cX10_gone 16 = .ok (.iload_n 1, 1) := by decide +kernel
theorem dX10_gone_17 : decode cX10_gone 17 = .ok (.invokevirtual 153, 3) := by decide +kernel
theorem dX10_gone_20 : decode cX10_gone 20 = .ok (.istore_n 2, 1) := by decide +kernel
theorem dX10_gone_21 : decode cX10_gone 21 = .ok (.iconst 0, 1) := by decide +kernel
theorem dX10_gone_22 : decode cX10_gone 22 = .ok (.istore_n 3, 1) := by decide +kernel
theorem dX10_gone_23 : decode cX10_gone 23 = .ok (.iload_n 3, 1) := by decide +kernel
theorem dX10_gone_24 : decode cX10_gone 24 = .ok (.sipush 200, 3) := by decide +kernel
theorem dX10_gone_27 : decode cX10_gone 27 = .ok (.if_icmp .ge 22, 3) := by decide +kernel
theorem dX10_gone_30 : decode cX10_gone 30 = .ok (.aload_n 0, 1) := by decide +kernel
theorem dX10_gone_31 : decode cX10_gone 31 = .ok (.iload_n 1, 1) := by decide +kernel
theorem dX10_gone_32 : decode cX10_gone 32 = .ok (.invokevirtual 153, 3) := by decide +kernel
theorem dX10_gone_35 : decode cX10_gone 35 = .ok (.iload_n 2, 1) := by decide +kernel
theorem dX10_gone_36 : decode cX10_gone 36 = .ok (.if_icmp .ne 13, 3) := by decide +kernel
theorem dX10_gone_39 : decode cX10_gone 39 = .ok (.aload_n 0, 1) := by decide +kernel
theorem dX10_gone_40 : decode cX10_gone 40 = .ok (.invokevirtual 191, 3) := by decide +kernel
theorem dX10_gone_43 : decode cX10_gone 43 = .ok (.iinc 3 1, 3) := by decide +kernel
theorem dX10_gone_46 : decode cX10_gone 46 = .ok (.goto (-23), 3) := by decide +kernel
theorem dX10_gone_49 : decode cX10_gone 49 = .ok (.aload_n 0, 1) := by decide +kernel
theorem dX10_gone_50 : decode cX10_gone 50 = .ok (.iload_n 1, 1) := by decide +kernel
theorem dX10_gone_51 : decode cX10_gone 51 = .ok (.invokevirtual 153, 3) := by decide +kernel
theorem dX10_gone_54 : decode cX10_gone 54 = .ok (.iload_n 2, 1) := by decide +kernel
theorem dX10_gone_55 : decode cX10_gone 55 = .ok (.if_icmp .eq 7, 3) := by decide +kernel
theorem dX10_gone_58 : decode cX10_gone 58 = .ok (.iconst 1, 1) := by decide +kernel
theorem dX10_gone_59 : decode cX10_gone 59 = .ok (.goto 4, 3) := by decide +kernel
theorem dX10_gone_62 : decode cX10_gone 62 = .ok (.iconst 0, 1) := by decide +kernel
theorem dX10_gone_63 : decode cX10_gone 63 = .ok (.istore 4, 2) := by decide +kernel
theorem dX10_gone_65 : decode cX10_gone 65 = .ok (.aload_n 0, 1) := by decide +kernel
theorem dX10_gone_66 : decode cX10_gone 66 = .ok (.invokevirtual 225, 3) := by decide +kernel
theorem dX10_gone_69 : decode cX10_gone 69 = .ok (.iload 4, 2) := by decide +kernel
theorem dX10_gone_71 : decode cX10_gone 71 = .ok (.ifCond .eq 7, 3) := by decide +kernel
theorem dX10_gone_74 : decode cX10_gone 74 = .ok (.iload_n 3, 1) := by decide +kernel
theorem dX10_gone_75 : decode cX10_gone 75 = .ok (.goto 5, 3) := by decide +kernel
theorem dX10_gone_78 : decode cX10_gone 78 = .ok (.ldc 70, 2) := by decide +kernel
theorem dX10_gone_80 : decode cX10_gone 80 = .ok (.ireturn, 1) := by decide +kernel
theorem ok_X10_gone : okV yX10_gone cX10_gone 5 (some .int) 1 := ⟨mw_1261, mw_1262, mw_83, mw_1263, by decide +kernel, by decide +kernel⟩
abbrev rm_X10_gone : Room := { frames := 6, cells := 0, slots := 0, locals := 138 }
def b_X10_gone_63 (post : Int32 → St → Prop) (σ : St) (y0 : Int32) (x3 : Int32) : Prop := w_X10_laysBack (fun s1 => ((y0 = 0 → (post ((-1000000005)) s1)) ∧ (¬ y0 = 0 → (post x3 s1)))) σ
theorem B_X10_gone_63 (E : EnvW p s m args meth c D cy regsM ad "RoofWarModel" cX10_gone 5 (some .int)) (ha : Apart regsM ad) {post : Int32 → St → Prop} {σ : St} {y0 : Int32} {x3 : Int32} (hw : b_X10_gone_63 post σ y0 x3) {H : Heap} {locs : List Loc} {ls : Array Slot} (hP : va_P D CLS (wM cy ad σ) H) (hS : va_S (AM ad s.heap.size) s.heap H locs) (hl : lv_has ls 5 [(0, .ref (ad 0 0)), (3, .int x3)]) : W p l e rm_X10_gone s m args below meth c H locs 0 0 (MQ below (QI D cy (cellM cy ad) regsM ad s.heap.size post) args s 0 0 (AM ad s.heap.size)) (F0 m 63 ls [.int y0]) := by
  obtain ⟨hx, hb, -⟩ := id E
  unfold b_X10_gone_63 at hw
  refine lv_istore (lv' := [(4, .int y0), (0, .ref (ad 0 0)), (3, .int x3)]) hx hb dX10_gone_63 hl (by decide) rfl (fun ls hl => ?_)
  refine lv_aload_n hx hb dX10_gone_65 rfl (lv_at hl 1 rfl) ?_
  refine g_cVv (As := []) (rest := []) E hl.1 (c_X10_laysBack l D cy ad ha hw _) ok_X10_laysBack mw_1257 ⟨(Nat.le_of_ble_eq_true rfl), (Nat.le_of_ble_eq_true rfl)⟩ ⟨rfl, rfl⟩ rM0 rfl rfl rfl rfl rfl (Nat.le_of_ble_eq_true rfl) ⟨Nat.zero_le _, Nat.zero_le _⟩ hP hS dX10_gone_66 (fun s1 hw H locs hP hS => ?_)
  refine lv_iload hx hb dX10_gone_69 (lv_at hl 0 rfl) ?_
  refine lv_if_eq (tgt := 78) hx hb dX10_gone_71 (by decide) (fun c2 => ?_) (fun c2 => ?_)
  · replace hw := hw.1 c2
    refine g_ldc (v := -1000000005) E mw_1130 dX10_gone_78 ?_
    exact g_iret E hw hP hS dX10_gone_80
  · replace hw := hw.2 c2
    refine lv_iload_n hx hb dX10_gone_74 rfl (lv_at hl 2 rfl) ?_
    refine lv_goto (tgt := 80) hx hb dX10_gone_75 (by decide) ?_
    exact g_iret E hw hP hS dX10_gone_80
def b_X10_gone_49 (post : Int32 → St → Prop) (σ : St) (x1 : Int32) (x2 : Int32) (x3 : Int32) : Prop := w_X10_townOf (fun r1 s1 => ((r1 = x2 → (b_X10_gone_63 post s1 (0 : Int32) x3)) ∧ (¬ r1 = x2 → (b_X10_gone_63 post s1 (1 : Int32) x3)))) σ x1
theorem B_X10_gone_49 (E : EnvW p s m args meth c D cy regsM ad "RoofWarModel" cX10_gone 5 (some .int)) (ha : Apart regsM ad) {post : Int32 → St → Prop} {σ : St} {x1 : Int32} {x2 : Int32} {x3 : Int32} (hw : b_X10_gone_49 post σ x1 x2 x3) {H : Heap} {locs : List Loc} {ls : Array Slot} (hP : va_P D CLS (wM cy ad σ) H) (hS : va_S (AM ad s.heap.size) s.heap H locs) (hl : lv_has ls 5 [(0, .ref (ad 0 0)), (1, .int x1), (2, .int x2), (3, .int x3)]) : W p l e rm_X10_gone s m args below meth c H locs 0 0 (MQ below (QI D cy (cellM cy ad) regsM ad s.heap.size post) args s 0 0 (AM ad s.heap.size)) (F0 m 49 ls []) := by
  obtain ⟨hx, hb, -⟩ := id E
  unfold b_X10_gone_49 at hw
  refine lv_aload_n hx hb dX10_gone_49 rfl (lv_at hl 0 rfl) ?_
  refine lv_iload_n hx hb dX10_gone_50 rfl (lv_at hl 1 rfl) ?_
  refine g_cVi (As := [.int x1]) (rest := []) E hl.1 (c_X10_townOf l D cy ad ha hw _) ok_X10_townOf mw_1178 ⟨(Nat.le_of_ble_eq_true rfl), (Nat.le_of_ble_eq_true rfl)⟩ ⟨rfl, rfl⟩ rM0 rfl rfl rfl rfl rfl (Nat.le_of_ble_eq_true rfl) ⟨Nat.zero_le _, Nat.zero_le _⟩ hP hS dX10_gone_51 (fun r1 s1 hw H locs hP hS => ?_)
  refine lv_iload_n hx hb dX10_gone_54 rfl (lv_at hl 2 rfl) ?_
  refine lv_icmp_eq (tgt := 62) hx hb dX10_gone_55 (by decide) (fun c2 => ?_) (fun c2 => ?_)
  · replace hw := hw.1 c2
    refine lv_iconst (v := 0) hx hb dX10_gone_62 (by decide) ?_
    exact B_X10_gone_63 E ha hw hP hS (lv_sub hl [0, 3] rfl)
  · replace hw := hw.2 c2
    refine lv_iconst (v := 1) hx hb dX10_gone_58 (by decide) ?_
    refine lv_goto (tgt := 63) hx hb dX10_gone_59 (by decide) ?_
    exact B_X10_gone_63 E ha hw hP hS (lv_sub hl [0, 3] rfl)
def b_X10_gone_23 (K23 : St → Int32 → Int32 → Int32 → Prop) (post : Int32 → St → Prop) (σ : St) (x1 : Int32) (x2 : Int32) (x3 : Int32) : Prop := ((200 ≤ x3 → (b_X10_gone_49 post σ x1 x2 x3)) ∧ (¬ 200 ≤ x3 → (w_X10_townOf (fun r2 s2 => ((¬ r2 = x2 → (b_X10_gone_49 post s2 x1 x2 x3)) ∧ (r2 = x2 → (w_X10_goesOn (fun s4 => ∀ v5 : Int32, v5 = x3 + 1 → (K23 s4 x1 x2 v5)) s2)))) σ x1)))
noncomputable def l_X10_gone_23 (post : Int32 → St → Prop) : Nat → St → Int32 → Int32 → Int32 → Prop := fun n => Nat.rec (motive := fun _ => St → Int32 → Int32 → Int32 → Prop) (fun _ _ _ _ => False) (fun _ ih => b_X10_gone_23 ih post) n
theorem L_X10_gone_23 (E : EnvW p s m args meth c D cy regsM ad "RoofWarModel" cX10_gone 5 (some .int)) (ha : Apart regsM ad) {post : Int32 → St → Prop} : ∀ (n : Nat), ∀ (σ : St) (x1 : Int32) (x2 : Int32) (x3 : Int32), l_X10_gone_23 post n σ x1 x2 x3 → ∀ (H : Heap) (locs : List Loc) (ls : Array Slot), va_P D CLS (wM cy ad σ) H → va_S (AM ad s.heap.size) s.heap H locs → lv_has ls 5 [(0, .ref (ad 0 0)), (1, .int x1), (2, .int x2), (3, .int x3)] → W p l e rm_X10_gone s m args below meth c H locs 0 0 (MQ below (QI D cy (cellM cy ad) regsM ad s.heap.size post) args s 0 0 (AM ad s.heap.size)) (F0 m 23 ls []) := by
  obtain ⟨hx, hb, -⟩ := id E
  intro n
  induction n with
  | zero => intro σ x1 x2 x3 hw; exact hw.elim
  | succ n hk23 =>
    intro σ x1 x2 x3 hw H locs ls hP hS hl
    replace hw : b_X10_gone_23 (l_X10_gone_23 post n) post σ x1 x2 x3 := hw
    unfold b_X10_gone_23 at hw
    refine lv_iload_n hx hb dX10_gone_23 rfl (lv_at hl 3 rfl) ?_
    refine lv_sipush (v := 200) hx hb dX10_gone_24 (by decide) ?_
    refine lv_icmp_ge (tgt := 49) hx hb dX10_gone_27 (by decide) (fun c1 => ?_) (fun c1 => ?_)
    · replace hw := hw.1 c1
      exact B_X10_gone_49 E ha hw hP hS (lv_sub hl [0, 1, 2, 3] rfl)
    · replace hw := hw.2 c1
      refine lv_aload_n hx hb dX10_gone_30 rfl (lv_at hl 0 rfl) ?_
      refine lv_iload_n hx hb dX10_gone_31 rfl (lv_at hl 1 rfl) ?_
      refine g_cVi (As := [.int x1]) (rest := []) E hl.1 (c_X10_townOf l D cy ad ha hw _) ok_X10_townOf mw_1178 ⟨(Nat.le_of_ble_eq_true rfl), (Nat.le_of_ble_eq_true rfl)⟩ ⟨rfl, rfl⟩ rM0 rfl rfl rfl rfl rfl (Nat.le_of_ble_eq_true rfl) ⟨Nat.zero_le _, Nat.zero_le _⟩ hP hS dX10_gone_32 (fun r2 s2 hw H locs hP hS => ?_)
      refine lv_iload_n hx hb dX10_gone_35 rfl (lv_at hl 2 rfl) ?_
      refine lv_icmp_ne (tgt := 49) hx hb dX10_gone_36 (by decide) (fun c3 => ?_) (fun c3 => ?_)
      · replace hw := hw.1 c3
        exact B_X10_gone_49 E ha hw hP hS (lv_sub hl [0, 1, 2, 3] rfl)
      · replace hw := hw.2 c3
        refine lv_aload_n hx hb dX10_gone_39 rfl (lv_at hl 0 rfl) ?_
        refine g_cVv (As := []) (rest := []) E hl.1 (c_X10_goesOn l D cy ad ha hw _) ok_X10_goesOn mw_1166 ⟨(Nat.le_of_ble_eq_true rfl), (Nat.le_of_ble_eq_true rfl)⟩ ⟨rfl, rfl⟩ rM0 rfl rfl rfl rfl rfl (Nat.le_of_ble_eq_true rfl) ⟨Nat.zero_le _, Nat.zero_le _⟩ hP hS dX10_gone_40 (fun s4 hw H locs hP hS => ?_)
        obtain ⟨v5, ev5⟩ : ∃ y : Int32, y = x3 + 1 := ⟨_, rfl⟩
        replace hw := hw v5 ev5
        refine lv_iinc (v := v5) (lv' := [(3, .int v5), (0, .ref (ad 0 0)), (1, .int x1), (2, .int x2)]) hx hb dX10_gone_43 hl (k := 3) rfl (by rw [ev5]; rfl) (by decide) rfl (fun ls hl => ?_)
        refine lv_goto (tgt := 23) hx hb dX10_gone_46 (by decide) ?_
        exact hk23 s4 x1 x2 v5 hw _ _ _ hP hS (lv_sub hl [1, 2, 3, 0] rfl)
def w_X10_gone (post : Int32 → St → Prop) (σ : St) (x1 : Int32) : Prop := w_X10_isRoof (fun r1 s1 => ((¬ r1 = 0 → (w_X10_laysBy (fun s3 => w_X10_townOf (fun r4 s4 => ∃ n5 : Nat, l_X10_gone_23 post n5 s4 x1 r4 (0 : Int32)) s3 x1) s1)) ∧ (r1 = 0 → (post ((-1000000001)) s1)))) σ x1
theorem B_X10_gone_0 (E : EnvW p s m args meth c D cy regsM ad "RoofWarModel" cX10_gone 5 (some .int)) (ha : Apart regsM ad) {post : Int32 → St → Prop} {σ : St} {x1 : Int32} (hw : w_X10_gone post σ x1) {H : Heap} {locs : List Loc} {ls : Array Slot} (hP : va_P D CLS (wM cy ad σ) H) (hS : va_S (AM ad s.heap.size) s.heap H locs) (hl : lv_has ls 5 [(0, .ref (ad 0 0)), (1, .int x1)]) : W p l e rm_X10_gone s m args below meth c H locs 0 0 (MQ below (QI D cy (cellM cy ad) regsM ad s.heap.size post) args s 0 0 (AM ad s.heap.size)) (F0 m 0 ls []) := by
  obtain ⟨hx, hb, -⟩ := id E
  unfold w_X10_gone at hw
  refine lv_aload_n hx hb dX10_gone_0 rfl (lv_at hl 0 rfl) ?_
  refine lv_iload_n hx hb dX10_gone_1 rfl (lv_at hl 1 rfl) ?_
  refine g_cVi (As := [.int x1]) (rest := []) E hl.1 (c_X10_isRoof l D cy ad ha hw _) ok_X10_isRoof mw_1082 ⟨(Nat.le_of_ble_eq_true rfl), (Nat.le_of_ble_eq_true rfl)⟩ ⟨rfl, rfl⟩ rM0 rfl rfl rfl rfl rfl (Nat.le_of_ble_eq_true rfl) ⟨Nat.zero_le _, Nat.zero_le _⟩ hP hS dX10_gone_2 (fun r1 s1 hw H locs hP hS => ?_)
  obtain ⟨z1, hw⟩ := hw
  refine lv_if_ne (tgt := 11) hx hb dX10_gone_5 (by decide) (fun c2 => ?_) (fun c2 => ?_)
  · replace hw := hw.1 c2
    refine lv_aload_n hx hb dX10_gone_11 rfl (lv_at hl 0 rfl) ?_
    refine g_cVv (As := []) (rest := []) E hl.1 (c_X10_laysBy l D cy ad ha hw _) ok_X10_laysBy mw_1254 ⟨(Nat.le_of_ble_eq_true rfl), (Nat.le_of_ble_eq_true rfl)⟩ ⟨rfl, rfl⟩ rM0 rfl rfl rfl rfl rfl (Nat.le_of_ble_eq_true rfl) ⟨Nat.zero_le _, Nat.zero_le _⟩ hP hS dX10_gone_12 (fun s3 hw H locs hP hS => ?_)
    refine lv_aload_n hx hb dX10_gone_15 rfl (lv_at hl 0 rfl) ?_
    refine lv_iload_n hx hb dX10_gone_16 rfl (lv_at hl 1 rfl) ?_
    refine g_cVi (As := [.int x1]) (rest := []) E hl.1 (c_X10_townOf l D cy ad ha hw _) ok_X10_townOf mw_1178 ⟨(Nat.le_of_ble_eq_true rfl), (Nat.le_of_ble_eq_true rfl)⟩ ⟨rfl, rfl⟩ rM0 rfl rfl rfl rfl rfl (Nat.le_of_ble_eq_true rfl) ⟨Nat.zero_le _, Nat.zero_le _⟩ hP hS dX10_gone_17 (fun r4 s4 hw H locs hP hS => ?_)
    refine lv_istore_n (lv' := [(2, .int r4), (0, .ref (ad 0 0)), (1, .int x1)]) hx hb dX10_gone_20 rfl hl (by decide) rfl (fun ls hl => ?_)
    refine lv_iconst (v := 0) hx hb dX10_gone_21 (by decide) ?_
    refine lv_istore_n (lv' := [(3, .int 0), (2, .int r4), (0, .ref (ad 0 0)), (1, .int x1)]) hx hb dX10_gone_22 rfl hl (by decide) rfl (fun ls hl => ?_)
    obtain ⟨n5, hw⟩ := hw
    exact L_X10_gone_23 E ha n5 s4 x1 r4 (0 : Int32) hw _ _ _ hP hS (lv_sub hl [2, 3, 1, 0] rfl)
  · replace hw := hw.2 c2
    refine g_ldc (v := -1000000001) E mw_1063 dX10_gone_8 ?_
    exact g_iret E hw hP hS dX10_gone_10
theorem c_X10_gone (l : Launch) (D : va_G) (cy : Nat → ClassId) (ad : Nat → Nat → Nat) (ha : Apart regsM ad) {post : Int32 → St → Prop} {σ : St} {x1 : Int32} (hw : w_X10_gone post σ x1) (sz : Nat) : MetI l yX10_gone cX10_gone 5 .int rm_X10_gone [.ref (ad 0 0), .int x1] D cy (cellM cy ad) regsM ad σ sz post :=
  Met_inI ok_X10_gone.2.2.2.2.2 (Nat.le_of_ble_eq_true rfl) (fun p e s m below meth c ls E hP hl => B_X10_gone_0 E ha hw hP va_S.rf hl)
-- RoofWarModel.isAsked(II)Z
theorem dX10_isAsked_0 : decode cX10_isAsked 0 = .ok (.iload_n 0, 1) := by decide +kernel
theorem dX10_isAsked_1 : decode cX10_isAsked 1 = .ok (.i2l, 1) := by decide +kernel
theorem dX10_isAsked_2 : decode cX10_isAsked 2 = .ok (.lconst 1, 1) := by decide +kernel
theorem dX10_isAsked_3 : decode cX10_isAsked 3 = .ok (.ldc2_w 228, 3) := by decide +kernel
theorem dX10_isAsked_6 : decode cX10_isAsked 6 = .ok (.invokestatic 71, 3) := by decide +kernel
theorem dX10_isAsked_9 : decode cX10_isAsked 9 = .ok (.ifCond .eq 17, 3) := by decide +kernel
theorem dX10_isAsked_12 : decode cX10_isAsked 12 = .ok (.iload_n 1, 1) := by decide +kernel
theorem dX10_isAsked_13 : decode cX10_isAsked 13 = .ok (.i2l, 1) := by decide +kernel
theorem dX10_isAsked_14 : decode cX10_isAsked 14 = .ok (.lconst 0, 1) := by decide +kernel
theorem dX10_isAsked_15 : decode cX10_isAsked 15 = .ok (.lconst 1, 1) := by decide +kernel
theorem dX10_isAsked_16 : decode cX10_isAsked 16 = .ok (.invokestatic 71, 3) := by decide +kernel
theorem dX10_isAsked_19 : decode cX10_isAsked 19 = .ok (.ifCond .eq 7, 3) := by decide +kernel
theorem dX10_isAsked_22 : decode cX10_isAsked 22 = .ok (.iconst 1, 1) := by decide +kernel
theorem dX10_isAsked_23 : decode cX10_isAsked 23 = .ok (.goto 4, 3) := by decide +kernel
theorem dX10_isAsked_26 : decode cX10_isAsked 26 = .ok (.iconst 0, 1) := by decide +kernel
theorem dX10_isAsked_27 : decode cX10_isAsked 27 = .ok (.ireturn, 1) := by decide +kernel
theorem ok_X10_isAsked : okS yX10_isAsked cX10_isAsked 2 (some .boolean) 2 := ⟨mw_1269, mw_83, mw_1270, by decide +kernel, by decide +kernel⟩
abbrev rm_X10_isAsked : Room := { frames := 1, cells := 0, slots := 0, locals := 25 }
def w_X10_isAsked (post : Int32 → St → Prop) (σ : St) (x0 : Int32) (x1 : Int32) : Prop := w_X10_isIn (fun r1 s1 => ((r1 = 0 → (post 0 s1)) ∧ (¬ r1 = 0 → (w_X10_isIn (fun r3 s3 => ((r3 = 0 → (post 0 s3)) ∧ (¬ r3 = 0 → (post 1 s3)))) s1 x1.toInt64 ((0 : Int64)) ((1 : Int64)))))) σ x0.toInt64 ((1 : Int64)) ((60 : Int64))
theorem B_X10_isAsked_0 (E : EnvW p s m args meth c D cy regsM ad "RoofWarModel" cX10_isAsked 2 (some .boolean)) (ha : Apart regsM ad) {post : Int32 → St → Prop} {σ : St} {x0 : Int32} {x1 : Int32} (hw : w_X10_isAsked post σ x0 x1) {H : Heap} {locs : List Loc} {ls : Array Slot} (hP : va_P D CLS (wM cy ad σ) H) (hS : va_S (AM ad s.heap.size) s.heap H locs) (hl : lv_has ls 2 [(0, .int x0), (1, .int x1)]) : W p l e rm_X10_isAsked s m args below meth c H locs 0 0 (MQ below (QI D cy (cellM cy ad) regsM ad s.heap.size (fun r u => (r = 0 ∨ r = 1) ∧ post r u)) args s 0 0 (AM ad s.heap.size)) (F0 m 0 ls []) := by
  obtain ⟨hx, hb, -⟩ := id E
  unfold w_X10_isAsked at hw
  refine lv_iload_n hx hb dX10_isAsked_0 rfl (lv_at hl 0 rfl) ?_
  refine lv_i2l (v := x0.toInt64) hx hb dX10_isAsked_1 rfl ?_
  refine lv_lconst (v := 1) hx hb dX10_isAsked_2 (by decide) ?_
  refine g_ldc2 (v := 60) E mw_1271 dX10_isAsked_3 ?_
  refine g_cSi (As := [.long x0.toInt64, .long ((1 : Int64)), .long ((60 : Int64))]) (rest := []) E hl.1 (c_X10_isIn l D cy ad ha hw _) ok_X10_isIn mw_1054 ⟨(Nat.le_of_ble_eq_true rfl), (Nat.le_of_ble_eq_true rfl)⟩ ⟨rfl, rfl⟩ rfl rfl (Nat.le_of_ble_eq_true rfl) ⟨Nat.zero_le _, Nat.zero_le _⟩ hP hS dX10_isAsked_6 (fun r1 s1 hw H locs hP hS => ?_)
  obtain ⟨z1, hw⟩ := hw
  refine lv_if_eq (tgt := 26) hx hb dX10_isAsked_9 (by decide) (fun c2 => ?_) (fun c2 => ?_)
  · replace hw := hw.1 c2
    refine lv_iconst (v := 0) hx hb dX10_isAsked_26 (by decide) ?_
    exact g_zret E (Or.inl rfl) hw hP hS dX10_isAsked_27
  · replace hw := hw.2 c2
    refine lv_iload_n hx hb dX10_isAsked_12 rfl (lv_at hl 1 rfl) ?_
    refine lv_i2l (v := x1.toInt64) hx hb dX10_isAsked_13 rfl ?_
    refine lv_lconst (v := 0) hx hb dX10_isAsked_14 (by decide) ?_
    refine lv_lconst (v := 1) hx hb dX10_isAsked_15 (by decide) ?_
    refine g_cSi (As := [.long x1.toInt64, .long ((0 : Int64)), .long ((1 : Int64))]) (rest := []) E hl.1 (c_X10_isIn l D cy ad ha hw _) ok_X10_isIn mw_1054 ⟨(Nat.le_of_ble_eq_true rfl), (Nat.le_of_ble_eq_true rfl)⟩ ⟨rfl, rfl⟩ rfl rfl (Nat.le_of_ble_eq_true rfl) ⟨Nat.zero_le _, Nat.zero_le _⟩ hP hS dX10_isAsked_16 (fun r3 s3 hw H locs hP hS => ?_)
    obtain ⟨z3, hw⟩ := hw
    refine lv_if_eq (tgt := 26) hx hb dX10_isAsked_19 (by decide) (fun c4 => ?_) (fun c4 => ?_)
    · replace hw := hw.1 c4
      refine lv_iconst (v := 0) hx hb dX10_isAsked_26 (by decide) ?_
      exact g_zret E (Or.inl rfl) hw hP hS dX10_isAsked_27
    · replace hw := hw.2 c4
      refine lv_iconst (v := 1) hx hb dX10_isAsked_22 (by decide) ?_
      refine lv_goto (tgt := 27) hx hb dX10_isAsked_23 (by decide) ?_
      exact g_zret E (Or.inr rfl) hw hP hS dX10_isAsked_27
theorem c_X10_isAsked (l : Launch) (D : va_G) (cy : Nat → ClassId) (ad : Nat → Nat → Nat) (ha : Apart regsM ad) {post : Int32 → St → Prop} {σ : St} {x0 : Int32} {x1 : Int32} (hw : w_X10_isAsked post σ x0 x1) (sz : Nat) : MetI l yX10_isAsked cX10_isAsked 2 .boolean rm_X10_isAsked [.int x0, .int x1] D cy (cellM cy ad) regsM ad σ sz (fun r u => (r = 0 ∨ r = 1) ∧ post r u) :=
  Met_inI ok_X10_isAsked.2.2.2.2 (Nat.le_of_ble_eq_true rfl) (fun p e s m below meth c ls E hP hl => B_X10_isAsked_0 E ha hw hP va_S.rf hl)
-- RoofWarModel.guard(III)I
theorem dX10_guard_0 : decode cX10_guard 0 = .ok (.iload_n 1, 1) := by decide +kernel
theorem dX10_guard_1 : decode cX10_guard 1 = .ok (.invokestatic 206, 3) := by decide +kernel
theorem dX10_guard_4 : decode cX10_guard 4 = .ok (.ifCond .eq 11, 3) := by decide +kernel
theorem dX10_guard_7 : decode cX10_guard 7 = .ok (.iload_n 2, 1) := by decide +kernel
theorem dX10_guard_8 : decode cX10_guard 8 = .ok (.iload_n 3, 1) := by decide +kernel
theorem dX10_guard_9 : decode cX10_guard 9 = .ok (.invokestatic 230, 3) := by decide +kernel
theorem dX10_guard_12 : decode cX10_guard 12 = .ok (.ifCond .ne 6, 3) := by decide +kernel
theorem dX10_guard_15 : decode cX10_guard 15 = .ok (.ldc 96, 2) := by decide +kernel
theorem dX10_guard_17 : decode cX10_guard 17 = .ok (.ireturn, 1) := by decide +kernel
theorem dX10_guard_18 : decode cX10_guard 18 = .ok (.aload_n 0, 1) := by decide +kernel
theorem dX10_guard_19 : decode cX10_guard 19 = .ok (.invokevirtual 222, 3) := by decide +kernel
theorem dX10_guard_22 : decode cX10_guard 22 = .ok (.iconst (-1), 1) := by decide +kernel
theorem dX10_guard_23 : decode cX10_guard 23 = .ok (.istore 4, 2) := by decide +kernel
theorem dX10_guard_25 : decode cX10_guard 25 = .ok (.iconst (-1), 1) := by decide +kernel
theorem dX10_guard_26 : decode cX10_guard 26 = .ok (.istore 5, 2) := by decide +kernel
theorem dX10_guard_28 : decode cX10_guard 28 = .ok (.bipush 6, 2) := by decide +kernel
theorem dX10_guard_30 : decode cX10_guard 30 = .ok (.iload_n 1, 1) := by decide +kernel
theorem dX10_guard_31 : decode cX10_guard 31 = .ok (.imul, 1) := by decide +kernel
theorem dX10_guard_32 : decode cX10_guard 32 = .ok (.istore 6, 2) := by decide +kernel
theorem dX10_guard_34 : decode cX10_guard 34 = .ok (.iload 6, 2) := by decide +kernel
theorem dX10_guard_36 : decode cX10_guard 36 = .ok (.bipush 6, 2) := by decide +kernel
theorem dX10_guard_38 : decode cX10_guard 38 = .ok (.iload_n 1, 1) := by decide +kernel
theorem dX10_guard_39 : decode cX10_guard 39 = .ok (.imul, 1) := by decide +kernel
theorem dX10_guard_40 : decode cX10_guard 40 = .ok (.bipush 6, 2) := by decide +kernel
theorem dX10_guard_42 : decode cX10_guard 42 = .ok (.iadd, 1) := by decide +kernel
theorem dX10_guard_43 : decode cX10_guard 43 = .ok (.if_icmp .ge 69, 3) := by decide +kernel
theorem dX10_guard_46 : decode cX10_guard 46 = .ok (.aload_n 0, 1) := by decide +kernel
theorem dX10_guard_47 : decode cX10_guard 47 = .ok (.getfield 7, 3) := by decide +kernel
theorem dX10_guard_50 : decode cX10_guard 50 = .ok (.bipush 70, 2) := by decide +kernel
theorem dX10_guard_52 : decode cX10_guard 52 = .ok (.iload 6, 2) := by decide +kernel
theorem dX10_guard_54 : decode cX10_guard 54 = .ok (.iadd, 1) := by decide +kernel
theorem dX10_guard_55 : decode cX10_guard 55 = .ok (.bipush 100, 2) := by decide +kernel
theorem dX10_guard_57 : decode cX10_guard 57 = .ok (.iastore, 1) := by decide +kernel
theorem dX10_guard_58 : decode cX10_guard 58 = .ok (.aload_n 0, 1) := by decide +kernel
theorem dX10_guard_59 : decode cX10_guard 59 = .ok (.iload_n 2, 1) := by decide +kernel
theorem dX10_guard_60 : decode cX10_guard 60 = .ok (.invokevirtual 194, 3) := by decide +kernel
theorem dX10_guard_63 : decode cX10_guard 63 = .ok (.aload_n 0, 1) := by decide +kernel
theorem dX10_guard_64 : decode cX10_guard 64 = .ok (.iload_n 1, 1) := by decide +kernel
theorem dX10_guard_65 : decode cX10_guard 65 = .ok (.invokevirtual 197, 3) := by decide +kernel
theorem dX10_guard_68 : decode cX10_guard 68 = .ok (.istore 7, 2) := by decide +kernel
theorem dX10_guard_70 : decode cX10_guard 70 = .ok (.aload_n 0, 1) := by decide +kernel
theorem dX10_guard_71 : decode cX10_guard 71 = .ok (.invokevirtual 225, 3) := by decide +kernel
theorem dX10_guard_74 : decode cX10_guard 74 = .ok (.iload 7, 2) := by decide +kernel
theorem dX10_guard_76 : decode cX10_guard 76 = .ok (.iload 5, 2) := by decide +kernel
theorem dX10_guard_78 : decode cX10_guard 78 = .ok (.if_icmp .le 8, 3) := by decide +kernel
theorem dX10_guard_81 : decode cX10_guard 81 = .ok (.iload 6, 2) := by decide +kernel
theorem dX10_guard_83 : decode cX10_guard 83 = .ok (.goto 5, 3) := by decide +kernel
theorem dX10_guard_86 : decode cX10_guard 86 = .ok (.iload 4, 2) := by decide +kernel
theorem dX10_guard_88 : decode cX10_guard 88 = .ok (.istore 4, 2) := by decide +kernel
theorem dX10_guard_90 : decode cX10_guard 90 = .ok (.iload 7, 2) := by decide +kernel
theorem dX10_guard_92 : decode cX10_guard 92 = .ok (.iload 5, 2) := by decide +kernel
theorem dX10_guard_94 : decode cX10_guard 94 = .ok (.if_icmp .le 8, 3) := by decide +kernel
theorem dX10_guard_97 : decode cX10_guard 97 = .ok (.iload 7, 2) := by decide +kernel
theorem dX10_guard_99 : decode cX10_guard 99 = .ok (.goto 5, 3) := by decide +kernel
theorem dX10_guard_102 : decode cX10_guard 102 = .ok (.iload 5, 2) := by decide +kernel
theorem dX10_guard_104 : decode cX10_guard 104 = .ok (.istore 5, 2) := by decide +kernel
theorem dX10_guard_106 : decode cX10_guard 106 = .ok (.iinc 6 1, 3) := by decide +kernel
theorem dX10_guard_109 : decode cX10_guard 109 = .ok (.goto (-75), 3) := by decide +kernel
theorem dX10_guard_112 : decode cX10_guard 112 = .ok (.iload_n 3, 1) := by decide +kernel
theorem dX10_guard_113 : decode cX10_guard 113 = .ok (.ifCond .ne 8, 3) := by decide +kernel
theorem dX10_guard_116 : decode cX10_guard 116 = .ok (.iload 4, 2) := by decide +kernel
theorem dX10_guard_118 : decode cX10_guard 118 = .ok (.goto 5, 3) := by decide +kernel
theorem dX10_guard_121 : decode cX10_guard 121 = .ok (.iload 5, 2) := by decide +kernel
theorem dX10_guard_123 : decode cX10_guard 123 = .ok (.ireturn, 1) := by decide +kernel
theorem ok_X10_guard : okV yX10_guard cX10_guard 8 (some .int) 3 := ⟨mw_1265, mw_1266, mw_83, mw_1267, by decide +kernel, by decide +kernel⟩
abbrev rm_X10_guard : Room := { frames := 7, cells := 0, slots := 0, locals := 160 }
def b_X10_guard_88 (K34 : St → Int32 → Int32 → Int32 → Int32 → Int32 → Int32 → Prop) (post : Int32 → St → Prop) (σ : St) (y0 : Int32) (x1 : Int32) (x2 : Int32) (x3 : Int32) (x5 : Int32) (x6 : Int32) (x7 : Int32) : Prop := ((x7 ≤ x5 → (∀ v2 : Int32, v2 = x6 + 1 → (K34 σ x1 x2 x3 y0 x5 v2))) ∧ (¬ x7 ≤ x5 → (∀ v3 : Int32, v3 = x6 + 1 → (K34 σ x1 x2 x3 y0 x7 v3))))
theorem B_X10_guard_88 (E : EnvW p s m args meth c D cy regsM ad "RoofWarModel" cX10_guard 8 (some .int)) (ha : Apart regsM ad) {post : Int32 → St → Prop} {K34 : St → Int32 → Int32 → Int32 → Int32 → Int32 → Int32 → Prop} (hk34 : ∀ (σ : St) (x1 : Int32) (x2 : Int32) (x3 : Int32) (x4 : Int32) (x5 : Int32) (x6 : Int32), K34 σ x1 x2 x3 x4 x5 x6 → ∀ (H : Heap) (locs : List Loc) (ls : Array Slot), va_P D CLS (wM cy ad σ) H → va_S (AM ad s.heap.size) s.heap H locs → lv_has ls 8 [(0, .ref (ad 0 0)), (1, .int x1), (2, .int x2), (3, .int x3), (4, .int x4), (5, .int x5), (6, .int x6)] → W p l e rm_X10_guard s m args below meth c H locs 0 0 (MQ below (QI D cy (cellM cy ad) regsM ad s.heap.size post) args s 0 0 (AM ad s.heap.size)) (F0 m 34 ls [])) {σ : St} {y0 : Int32} {x1 : Int32} {x2 : Int32} {x3 : Int32} {x5 : Int32} {x6 : Int32} {x7 : Int32} (hw : b_X10_guard_88 K34 post σ y0 x1 x2 x3 x5 x6 x7) {H : Heap} {locs : List Loc} {ls : Array Slot} (hP : va_P D CLS (wM cy ad σ) H) (hS : va_S (AM ad s.heap.size) s.heap H locs) (hl : lv_has ls 8 [(0, .ref (ad 0 0)), (1, .int x1), (2, .int x2), (3, .int x3), (5, .int x5), (6, .int x6), (7, .int x7)]) : W p l e rm_X10_guard s m args below meth c H locs 0 0 (MQ below (QI D cy (cellM cy ad) regsM ad s.heap.size post) args s 0 0 (AM ad s.heap.size)) (F0 m 88 ls [.int y0]) := by
  obtain ⟨hx, hb, -⟩ := id E
  unfold b_X10_guard_88 at hw
  refine lv_istore (lv' := [(4, .int y0), (0, .ref (ad 0 0)), (1, .int x1), (2, .int x2), (3, .int x3), (5, .int x5), (6, .int x6), (7, .int x7)]) hx hb dX10_guard_88 hl (by decide) rfl (fun ls hl => ?_)
  refine lv_iload hx hb dX10_guard_90 (lv_at hl 7 rfl) ?_
  refine lv_iload hx hb dX10_guard_92 (lv_at hl 5 rfl) ?_
  refine lv_icmp_le (tgt := 102) hx hb dX10_guard_94 (by decide) (fun c1 => ?_) (fun c1 => ?_)
  · replace hw := hw.1 c1
    refine lv_iload hx hb dX10_guard_102 (lv_at hl 5 rfl) ?_
    refine lv_istore (lv' := [(5, .int x5), (4, .int y0), (0, .ref (ad 0 0)), (1, .int x1), (2, .int x2), (3, .int x3), (6, .int x6), (7, .int x7)]) hx hb dX10_guard_104 hl (by decide) rfl (fun ls hl => ?_)
    obtain ⟨v2, ev2⟩ : ∃ y : Int32, y = x6 + 1 := ⟨_, rfl⟩
    replace hw := hw v2 ev2
    refine lv_iinc (v := v2) (lv' := [(6, .int v2), (5, .int x5), (4, .int y0), (0, .ref (ad 0 0)), (1, .int x1), (2, .int x2), (3, .int x3), (7, .int x7)]) hx hb dX10_guard_106 hl (k := 6) rfl (by rw [ev2]; rfl) (by decide) rfl (fun ls hl => ?_)
    refine lv_goto (tgt := 34) hx hb dX10_guard_109 (by decide) ?_
    exact hk34 σ x1 x2 x3 y0 x5 v2 hw _ _ _ hP hS (lv_sub hl [3, 4, 5, 6, 2, 1, 0] rfl)
  · replace hw := hw.2 c1
    refine lv_iload hx hb dX10_guard_97 (lv_at hl 7 rfl) ?_
    refine lv_goto (tgt := 104) hx hb dX10_guard_99 (by decide) ?_
    refine lv_istore (lv' := [(5, .int x7), (4, .int y0), (0, .ref (ad 0 0)), (1, .int x1), (2, .int x2), (3, .int x3), (6, .int x6), (7, .int x7)]) hx hb dX10_guard_104 hl (by decide) rfl (fun ls hl => ?_)
    obtain ⟨v3, ev3⟩ : ∃ y : Int32, y = x6 + 1 := ⟨_, rfl⟩
    replace hw := hw v3 ev3
    refine lv_iinc (v := v3) (lv' := [(6, .int v3), (5, .int x7), (4, .int y0), (0, .ref (ad 0 0)), (1, .int x1), (2, .int x2), (3, .int x3), (7, .int x7)]) hx hb dX10_guard_106 hl (k := 6) rfl (by rw [ev3]; rfl) (by decide) rfl (fun ls hl => ?_)
    refine lv_goto (tgt := 34) hx hb dX10_guard_109 (by decide) ?_
    exact hk34 σ x1 x2 x3 y0 x7 v3 hw _ _ _ hP hS (lv_sub hl [3, 4, 5, 6, 2, 1, 0] rfl)
def b_X10_guard_34 (K34 : St → Int32 → Int32 → Int32 → Int32 → Int32 → Int32 → Prop) (post : Int32 → St → Prop) (σ : St) (x1 : Int32) (x2 : Int32) (x3 : Int32) (x4 : Int32) (x5 : Int32) (x6 : Int32) : Prop := ((((6 * x1) + 6) ≤ x6 → (((¬ x3 = 0 → (post x5 σ)) ∧ (x3 = 0 → (post x4 σ))))) ∧ (¬ ((6 * x1) + 6) ≤ x6 → (vp_in (70 + x6) 3082 ∧ (∀ s4 : St, s4 = wr σ 1 0 (70 + x6).toNatClampNeg 100 → (w_X10_goesOnMany (fun s5 => w_X10_dryOf (fun r6 s6 => w_X10_laysBack (fun s7 => ((r6 ≤ x5 → (b_X10_guard_88 K34 post s7 x4 x1 x2 x3 x5 x6 r6)) ∧ (¬ r6 ≤ x5 → (b_X10_guard_88 K34 post s7 x6 x1 x2 x3 x5 x6 r6)))) s6) s5 x1) s4 x2)))))
noncomputable def l_X10_guard_34 (post : Int32 → St → Prop) : Nat → St → Int32 → Int32 → Int32 → Int32 → Int32 → Int32 → Prop := fun n => Nat.rec (motive := fun _ => St → Int32 → Int32 → Int32 → Int32 → Int32 → Int32 → Prop) (fun _ _ _ _ _ _ _ => False) (fun _ ih => b_X10_guard_34 ih post) n
theorem L_X10_guard_34 (E : EnvW p s m args meth c D cy regsM ad "RoofWarModel" cX10_guard 8 (some .int)) (ha : Apart regsM ad) {post : Int32 → St → Prop} : ∀ (n : Nat), ∀ (σ : St) (x1 : Int32) (x2 : Int32) (x3 : Int32) (x4 : Int32) (x5 : Int32) (x6 : Int32), l_X10_guard_34 post n σ x1 x2 x3 x4 x5 x6 → ∀ (H : Heap) (locs : List Loc) (ls : Array Slot), va_P D CLS (wM cy ad σ) H → va_S (AM ad s.heap.size) s.heap H locs → lv_has ls 8 [(0, .ref (ad 0 0)), (1, .int x1), (2, .int x2), (3, .int x3), (4, .int x4), (5, .int x5), (6, .int x6)] → W p l e rm_X10_guard s m args below meth c H locs 0 0 (MQ below (QI D cy (cellM cy ad) regsM ad s.heap.size post) args s 0 0 (AM ad s.heap.size)) (F0 m 34 ls []) := by
  obtain ⟨hx, hb, -⟩ := id E
  intro n
  induction n with
  | zero => intro σ x1 x2 x3 x4 x5 x6 hw; exact hw.elim
  | succ n hk34 =>
    intro σ x1 x2 x3 x4 x5 x6 hw H locs ls hP hS hl
    replace hw : b_X10_guard_34 (l_X10_guard_34 post n) post σ x1 x2 x3 x4 x5 x6 := hw
    unfold b_X10_guard_34 at hw
    refine lv_iload hx hb dX10_guard_34 (lv_at hl 6 rfl) ?_
    refine lv_bipush (v := 6) hx hb dX10_guard_36 (by decide) ?_
    refine lv_iload_n hx hb dX10_guard_38 rfl (lv_at hl 1 rfl) ?_
    refine lv_imul hx hb dX10_guard_39 ?_
    refine lv_bipush (v := 6) hx hb dX10_guard_40 (by decide) ?_
    refine lv_iadd hx hb dX10_guard_42 ?_
    refine lv_icmp_ge (tgt := 112) hx hb dX10_guard_43 (by decide) (fun c1 => ?_) (fun c1 => ?_)
    · replace hw := hw.1 c1
      refine lv_iload_n hx hb dX10_guard_112 rfl (lv_at hl 3 rfl) ?_
      refine lv_if_ne (tgt := 121) hx hb dX10_guard_113 (by decide) (fun c2 => ?_) (fun c2 => ?_)
      · replace hw := hw.1 c2
        refine lv_iload hx hb dX10_guard_121 (lv_at hl 5 rfl) ?_
        exact g_iret E hw hP hS dX10_guard_123
      · replace hw := hw.2 c2
        refine lv_iload hx hb dX10_guard_116 (lv_at hl 4 rfl) ?_
        refine lv_goto (tgt := 123) hx hb dX10_guard_118 (by decide) ?_
        exact g_iret E hw hP hS dX10_guard_123
    · replace hw := hw.2 c1
      refine lv_aload_n hx hb dX10_guard_46 rfl (lv_at hl 0 rfl) ?_
      refine fX10_0 E hP mw_946 dX10_guard_47 ?_
      refine lv_bipush (v := 70) hx hb dX10_guard_50 (by decide) ?_
      refine lv_iload hx hb dX10_guard_52 (lv_at hl 6 rfl) ?_
      refine lv_iadd hx hb dX10_guard_54 ?_
      refine lv_bipush (v := 100) hx hb dX10_guard_55 (by decide) ?_
      obtain ⟨h3, hw⟩ := hw
      refine tM1 E ha h3 dX10_guard_57 hP hS (fun s4 es4 H locs hP hS => ?_)
      replace hw := hw s4 es4
      refine lv_aload_n hx hb dX10_guard_58 rfl (lv_at hl 0 rfl) ?_
      refine lv_iload_n hx hb dX10_guard_59 rfl (lv_at hl 2 rfl) ?_
      refine g_cVv (As := [.int x2]) (rest := []) E hl.1 (c_X10_goesOnMany l D cy ad ha hw _) ok_X10_goesOnMany mw_1163 ⟨(Nat.le_of_ble_eq_true rfl), (Nat.le_of_ble_eq_true rfl)⟩ ⟨rfl, rfl⟩ rM0 rfl rfl rfl rfl rfl (Nat.le_of_ble_eq_true rfl) ⟨Nat.zero_le _, Nat.zero_le _⟩ hP hS dX10_guard_60 (fun s5 hw H locs hP hS => ?_)
      refine lv_aload_n hx hb dX10_guard_63 rfl (lv_at hl 0 rfl) ?_
      refine lv_iload_n hx hb dX10_guard_64 rfl (lv_at hl 1 rfl) ?_
      refine g_cVi (As := [.int x1]) (rest := []) E hl.1 (c_X10_dryOf l D cy ad ha hw _) ok_X10_dryOf mw_1218 ⟨(Nat.le_of_ble_eq_true rfl), (Nat.le_of_ble_eq_true rfl)⟩ ⟨rfl, rfl⟩ rM0 rfl rfl rfl rfl rfl (Nat.le_of_ble_eq_true rfl) ⟨Nat.zero_le _, Nat.zero_le _⟩ hP hS dX10_guard_65 (fun r6 s6 hw H locs hP hS => ?_)
      refine lv_istore (lv' := [(7, .int r6), (0, .ref (ad 0 0)), (1, .int x1), (2, .int x2), (3, .int x3), (4, .int x4), (5, .int x5), (6, .int x6)]) hx hb dX10_guard_68 hl (by decide) rfl (fun ls hl => ?_)
      refine lv_aload_n hx hb dX10_guard_70 rfl (lv_at hl 1 rfl) ?_
      refine g_cVv (As := []) (rest := []) E hl.1 (c_X10_laysBack l D cy ad ha hw _) ok_X10_laysBack mw_1257 ⟨(Nat.le_of_ble_eq_true rfl), (Nat.le_of_ble_eq_true rfl)⟩ ⟨rfl, rfl⟩ rM0 rfl rfl rfl rfl rfl (Nat.le_of_ble_eq_true rfl) ⟨Nat.zero_le _, Nat.zero_le _⟩ hP hS dX10_guard_71 (fun s7 hw H locs hP hS => ?_)
      refine lv_iload hx hb dX10_guard_74 (lv_at hl 0 rfl) ?_
      refine lv_iload hx hb dX10_guard_76 (lv_at hl 6 rfl) ?_
      refine lv_icmp_le (tgt := 86) hx hb dX10_guard_78 (by decide) (fun c8 => ?_) (fun c8 => ?_)
      · replace hw := hw.1 c8
        refine lv_iload hx hb dX10_guard_86 (lv_at hl 5 rfl) ?_
        exact B_X10_guard_88 E ha hk34 hw hP hS (lv_sub hl [1, 2, 3, 4, 6, 7, 0] rfl)
      · replace hw := hw.2 c8
        refine lv_iload hx hb dX10_guard_81 (lv_at hl 7 rfl) ?_
        refine lv_goto (tgt := 88) hx hb dX10_guard_83 (by decide) ?_
        exact B_X10_guard_88 E ha hk34 hw hP hS (lv_sub hl [1, 2, 3, 4, 6, 7, 0] rfl)
def w_X10_guard (post : Int32 → St → Prop) (σ : St) (x1 : Int32) (x2 : Int32) (x3 : Int32) : Prop := w_X10_isTown (fun r1 s1 => ((r1 = 0 → (post ((-1000000001)) s1)) ∧ (¬ r1 = 0 → (w_X10_isAsked (fun r3 s3 => ((¬ r3 = 0 → (w_X10_laysBy (fun s5 => ∀ v6 : Int32, v6 = 6 * x1 → (∃ n7 : Nat, l_X10_guard_34 post n7 s5 x1 x2 x3 (-1 : Int32) (-1 : Int32) v6)) s3)) ∧ (r3 = 0 → (post ((-1000000001)) s3)))) s1 x2 x3)))) σ x1
theorem B_X10_guard_0 (E : EnvW p s m args meth c D cy regsM ad "RoofWarModel" cX10_guard 8 (some .int)) (ha : Apart regsM ad) {post : Int32 → St → Prop} {σ : St} {x1 : Int32} {x2 : Int32} {x3 : Int32} (hw : w_X10_guard post σ x1 x2 x3) {H : Heap} {locs : List Loc} {ls : Array Slot} (hP : va_P D CLS (wM cy ad σ) H) (hS : va_S (AM ad s.heap.size) s.heap H locs) (hl : lv_has ls 8 [(0, .ref (ad 0 0)), (1, .int x1), (2, .int x2), (3, .int x3)]) : W p l e rm_X10_guard s m args below meth c H locs 0 0 (MQ below (QI D cy (cellM cy ad) regsM ad s.heap.size post) args s 0 0 (AM ad s.heap.size)) (F0 m 0 ls []) := by
  obtain ⟨hx, hb, -⟩ := id E
  unfold w_X10_guard at hw
  refine lv_iload_n hx hb dX10_guard_0 rfl (lv_at hl 1 rfl) ?_
  refine g_cSi (As := [.int x1]) (rest := []) E hl.1 (c_X10_isTown l D cy ad ha hw _) ok_X10_isTown mw_1228 ⟨(Nat.le_of_ble_eq_true rfl), (Nat.le_of_ble_eq_true rfl)⟩ ⟨rfl, rfl⟩ rfl rfl (Nat.le_of_ble_eq_true rfl) ⟨Nat.zero_le _, Nat.zero_le _⟩ hP hS dX10_guard_1 (fun r1 s1 hw H locs hP hS => ?_)
  obtain ⟨z1, hw⟩ := hw
  refine lv_if_eq (tgt := 15) hx hb dX10_guard_4 (by decide) (fun c2 => ?_) (fun c2 => ?_)
  · replace hw := hw.1 c2
    refine g_ldc (v := -1000000001) E mw_1063 dX10_guard_15 ?_
    exact g_iret E hw hP hS dX10_guard_17
  · replace hw := hw.2 c2
    refine lv_iload_n hx hb dX10_guard_7 rfl (lv_at hl 2 rfl) ?_
    refine lv_iload_n hx hb dX10_guard_8 rfl (lv_at hl 3 rfl) ?_
    refine g_cSi (As := [.int x2, .int x3]) (rest := []) E hl.1 (c_X10_isAsked l D cy ad ha hw _) ok_X10_isAsked mw_1268 ⟨(Nat.le_of_ble_eq_true rfl), (Nat.le_of_ble_eq_true rfl)⟩ ⟨rfl, rfl⟩ rfl rfl (Nat.le_of_ble_eq_true rfl) ⟨Nat.zero_le _, Nat.zero_le _⟩ hP hS dX10_guard_9 (fun r3 s3 hw H locs hP hS => ?_)
    obtain ⟨z3, hw⟩ := hw
    refine lv_if_ne (tgt := 18) hx hb dX10_guard_12 (by decide) (fun c4 => ?_) (fun c4 => ?_)
    · replace hw := hw.1 c4
      refine lv_aload_n hx hb dX10_guard_18 rfl (lv_at hl 0 rfl) ?_
      refine g_cVv (As := []) (rest := []) E hl.1 (c_X10_laysBy l D cy ad ha hw _) ok_X10_laysBy mw_1254 ⟨(Nat.le_of_ble_eq_true rfl), (Nat.le_of_ble_eq_true rfl)⟩ ⟨rfl, rfl⟩ rM0 rfl rfl rfl rfl rfl (Nat.le_of_ble_eq_true rfl) ⟨Nat.zero_le _, Nat.zero_le _⟩ hP hS dX10_guard_19 (fun s5 hw H locs hP hS => ?_)
      refine lv_iconst (v := -1) hx hb dX10_guard_22 (by decide) ?_
      refine lv_istore (lv' := [(4, .int ((-1))), (0, .ref (ad 0 0)), (1, .int x1), (2, .int x2), (3, .int x3)]) hx hb dX10_guard_23 hl (by decide) rfl (fun ls hl => ?_)
      refine lv_iconst (v := -1) hx hb dX10_guard_25 (by decide) ?_
      refine lv_istore (lv' := [(5, .int ((-1))), (4, .int ((-1))), (0, .ref (ad 0 0)), (1, .int x1), (2, .int x2), (3, .int x3)]) hx hb dX10_guard_26 hl (by decide) rfl (fun ls hl => ?_)
      refine lv_bipush (v := 6) hx hb dX10_guard_28 (by decide) ?_
      refine lv_iload_n hx hb dX10_guard_30 rfl (lv_at hl 3 rfl) ?_
      refine lv_imul hx hb dX10_guard_31 ?_
      refine lv_topi (fun v6 ev6 => ?_)
      replace hw := hw v6 ev6
      refine lv_istore (lv' := [(6, .int v6), (5, .int ((-1))), (4, .int ((-1))), (0, .ref (ad 0 0)), (1, .int x1), (2, .int x2), (3, .int x3)]) hx hb dX10_guard_32 hl (by decide) rfl (fun ls hl => ?_)
      obtain ⟨n7, hw⟩ := hw
      exact L_X10_guard_34 E ha n7 s5 x1 x2 x3 (-1 : Int32) (-1 : Int32) v6 hw _ _ _ hP hS (lv_sub hl [3, 4, 5, 6, 2, 1, 0] rfl)
    · replace hw := hw.2 c4
      refine g_ldc (v := -1000000001) E mw_1063 dX10_guard_15 ?_
      exact g_iret E hw hP hS dX10_guard_17
theorem c_X10_guard (l : Launch) (D : va_G) (cy : Nat → ClassId) (ad : Nat → Nat → Nat) (ha : Apart regsM ad) {post : Int32 → St → Prop} {σ : St} {x1 : Int32} {x2 : Int32} {x3 : Int32} (hw : w_X10_guard post σ x1 x2 x3) (sz : Nat) : MetI l yX10_guard cX10_guard 8 .int rm_X10_guard [.ref (ad 0 0), .int x1, .int x2, .int x3] D cy (cellM cy ad) regsM ad σ sz post :=
  Met_inI ok_X10_guard.2.2.2.2.2 (Nat.le_of_ble_eq_true rfl) (fun p e s m below meth c ls E hP hl => B_X10_guard_0 E ha hw hP va_S.rf hl)
-- RoofWarModel.becomes(III)I
theorem dX10_becomes_0 : decode cX10_becomes 0 = .ok (.aload_n 0, 1) := by decide +kernel
theorem dX10_becomes_1 : decode cX10_becomes 1 = .ok (.iload_n 1, 1) := by decide +kernel
theorem dX10_becomes_2 : decode cX10_becomes 2 = .ok (.invokevirtual 107, 3) := by decide +kernel
theorem dX10_becomes_5 : decode cX10_becomes 5 = .ok (.ifCond .eq 11, 3) := by decide +kernel
theorem dX10_becomes_8 : decode cX10_becomes 8 = .ok (.iload_n 2, 1) := by decide +kernel
theorem dX10_becomes_9 : decode cX10_becomes 9 = .ok (.iload_n 3, 1) := by decide +kernel
theorem dX10_becomes_10 : decode cX10_becomes 10 = .ok (.invokestatic 230, 3) := by decide +kernel
theorem dX10_becomes_13 : decode cX10_becomes 13 = .ok (.ifCond .ne 6, 3) := by decide +kernel
theorem dX10_becomes_16 : decode cX10_becomes 16 = .ok (.ldc 96, 2) := by decide +kernel
theorem dX10_becomes_18 : decode cX10_becomes 18 = .ok (.ireturn, 1) := by decide +kernel
theorem dX10_becomes_19 : decode cX10_becomes 19 = .ok (.aload_n 0, 1) := by decide +kernel
theorem dX10_becomes_20 : decode cX10_becomes 20 = .ok (.invokevirtual 222, 3) := by decide +kernel
theorem dX10_becomes_23 : decode cX10_becomes 23 = .ok (.aload_n 0, 1) := by decide +kernel
theorem dX10_becomes_24 : decode cX10_becomes 24 = .ok (.iload_n 1, 1) := by decide +kernel
theorem dX10_becomes_25 : decode cX10_becomes 25 = .ok (.invokevirtual 153, 3) := by decide +kernel
theorem dX10_becomes_28 : decode cX10_becomes 28 = .ok (.istore 4, 2) := by decide +kernel
theorem dX10_becomes_30 : decode cX10_becomes 30 = .ok (.iconst 0, 1) := by decide +kernel
theorem dX10_becomes_31 : decode cX10_becomes 31 = .ok (.istore 5, 2) := by decide +kernel
theorem dX10_becomes_33 : decode cX10_becomes 33 = .ok (.iconst (-1), 1) := by decide +kernel
theorem dX10_becomes_34 : decode cX10_becomes 34 = .ok (.istore 6, 2) := by decide +kernel
theorem dX10_becomes_36 : decode cX10_becomes 36 = .ok (.iconst 0, 1) := by decide +kernel
theorem dX10_becomes_37 : decode cX10_becomes 37 = .ok (.istore 7, 2) := by decide +kernel
theorem dX10_becomes_39 : decode cX10_becomes 39 = .ok (.iload 7, 2) := by decide +kernel
theorem dX10_becomes_41 : decode cX10_becomes 41 = .ok (.bipush 6, 2) := by decide +kernel
theorem dX10_becomes_43 : decode cX10_becomes 43 = .ok (.if_icmp .ge 66, 3) := by decide +kernel
theorem dX10_becomes_46 : decode cX10_becomes 46 = .ok (.aload_n 0, 1) := by decide +kernel
theorem dX10_becomes_47 : decode cX10_becomes 47 = .ok (.iload_n 1, 1) := by decide +kernel
theorem dX10_becomes_48 : decode cX10_becomes 48 = .ok (.iconst 0, 1) := by decide +kernel
theorem dX10_becomes_49 : decode cX10_becomes 49 = .ok (.iload 7, 2) := by decide +kernel
theorem dX10_becomes_51 : decode cX10_becomes 51 = .ok (.invokevirtual 82, 3) := by decide +kernel
theorem dX10_becomes_54 : decode cX10_becomes 54 = .ok (.aload_n 0, 1) := by decide +kernel
theorem dX10_becomes_55 : decode cX10_becomes 55 = .ok (.iload_n 2, 1) := by decide +kernel
theorem dX10_becomes_56 : decode cX10_becomes 56 = .ok (.invokevirtual 194, 3) := by decide +kernel
theorem dX10_becomes_59 : decode cX10_becomes 59 = .ok (.aload_n 0, 1) := by decide +kernel
theorem dX10_becomes_60 : decode cX10_becomes 60 = .ok (.iload 4, 2) := by decide +kernel
theorem dX10_becomes_62 : decode cX10_becomes 62 = .ok (.invokevirtual 197, 3) := by decide +kernel
theorem dX10_becomes_65 : decode cX10_becomes 65 = .ok (.istore 8, 2) := by decide +kernel
theorem dX10_becomes_67 : decode cX10_becomes 67 = .ok (.aload_n 0, 1) := by decide +kernel
theorem dX10_becomes_68 : decode cX10_becomes 68 = .ok (.invokevirtual 225, 3) := by decide +kernel
theorem dX10_becomes_71 : decode cX10_becomes 71 = .ok (.iload 8, 2) := by decide +kernel
theorem dX10_becomes_73 : decode cX10_becomes 73 = .ok (.iload 6, 2) := by decide +kernel
theorem dX10_becomes_75 : decode cX10_becomes 75 = .ok (.if_icmp .le 8, 3) := by decide +kernel
theorem dX10_becomes_78 : decode cX10_becomes 78 = .ok (.iload 7, 2) := by decide +kernel
theorem dX10_becomes_80 : decode cX10_becomes 80 = .ok (.goto 5, 3) := by decide +kernel
theorem dX10_becomes_83 : decode cX10_becomes 83 = .ok (.iload 5, 2) := by decide +kernel
theorem dX10_becomes_85 : decode cX10_becomes 85 = .ok (.istore 5, 2) := by decide +kernel
theorem dX10_becomes_87 : decode cX10_becomes 87 = .ok (.iload 8, 2) := by decide +kernel
theorem dX10_becomes_89 : decode cX10_becomes 89 = .ok (.iload 6, 2) := by decide +kernel
theorem dX10_becomes_91 : decode cX10_becomes 91 = .ok (.if_icmp .le 8, 3) := by decide +kernel
theorem dX10_becomes_94 : decode cX10_becomes 94 = .ok (.iload 8, 2) := by decide +kernel
theorem dX10_becomes_96 : decode cX10_becomes 96 = .ok (.goto 5, 3) := by decide +kernel
theorem dX10_becomes_99 : decode cX10_becomes 99 = .ok (.iload 6, 2) := by decide +kernel
theorem dX10_becomes_101 : decode cX10_becomes 101 = .ok (.istore 6, 2) := by decide +kernel
theorem dX10_becomes_103 : decode cX10_becomes 103 = .ok (.iinc 7 1, 3) := by decide +kernel
theorem dX10_becomes_106 : decode cX10_becomes 106 = .ok (.goto (-67), 3) := by decide +kernel
theorem dX10_becomes_109 : decode cX10_becomes 109 = .ok (.iload_n 3, 1) := by decide +kernel
theorem dX10_becomes_110 : decode cX10_becomes 110 = .ok (.ifCond .ne 8, 3) := by decide +kernel
theorem dX10_becomes_113 : decode cX10_becomes 113 = .ok (.iload 5, 2) := by decide +kernel
theorem dX10_becomes_115 : decode cX10_becomes 115 = .ok (.goto 5, 3) := by decide +kernel
theorem dX10_becomes_118 : decode cX10_becomes 118 = .ok (.iload 6, 2) := by decide +kernel
theorem dX10_becomes_120 : decode cX10_becomes 120 = .ok (.ireturn, 1) := by decide +kernel
theorem ok_X10_becomes : okV yX10_becomes cX10_becomes 9 (some .int) 3 := ⟨mw_1273, mw_1274, mw_83, mw_1275, by decide +kernel, by decide +kernel⟩
abbrev rm_X10_becomes : Room := { frames := 7, cells := 0, slots := 0, locals := 160 }
def b_X10_becomes_85 (K39 : St → Int32 → Int32 → Int32 → Int32 → Int32 → Int32 → Int32 → Prop) (post : Int32 → St → Prop) (σ : St) (y0 : Int32) (x1 : Int32) (x2 : Int32) (x3 : Int32) (x4 : Int32) (x6 : Int32) (x7 : Int32) (x8 : Int32) : Prop := ((x8 ≤ x6 → (∀ v2 : Int32, v2 = x7 + 1 → (K39 σ x1 x2 x3 x4 y0 x6 v2))) ∧ (¬ x8 ≤ x6 → (∀ v3 : Int32, v3 = x7 + 1 → (K39 σ x1 x2 x3 x4 y0 x8 v3))))
theorem B_X10_becomes_85 (E : EnvW p s m args meth c D cy regsM ad "RoofWarModel" cX10_becomes 9 (some .int)) (ha : Apart regsM ad) {post : Int32 → St → Prop} {K39 : St → Int32 → Int32 → Int32 → Int32 → Int32 → Int32 → Int32 → Prop} (hk39 : ∀ (σ : St) (x1 : Int32) (x2 : Int32) (x3 : Int32) (x4 : Int32) (x5 : Int32) (x6 : Int32) (x7 : Int32), K39 σ x1 x2 x3 x4 x5 x6 x7 → ∀ (H : Heap) (locs : List Loc) (ls : Array Slot), va_P D CLS (wM cy ad σ) H → va_S (AM ad s.heap.size) s.heap H locs → lv_has ls 9 [(0, .ref (ad 0 0)), (1, .int x1), (2, .int x2), (3, .int x3), (4, .int x4), (5, .int x5), (6, .int x6), (7, .int x7)] → W p l e rm_X10_becomes s m args below meth c H locs 0 0 (MQ below (QI D cy (cellM cy ad) regsM ad s.heap.size post) args s 0 0 (AM ad s.heap.size)) (F0 m 39 ls [])) {σ : St} {y0 : Int32} {x1 : Int32} {x2 : Int32} {x3 : Int32} {x4 : Int32} {x6 : Int32} {x7 : Int32} {x8 : Int32} (hw : b_X10_becomes_85 K39 post σ y0 x1 x2 x3 x4 x6 x7 x8) {H : Heap} {locs : List Loc} {ls : Array Slot} (hP : va_P D CLS (wM cy ad σ) H) (hS : va_S (AM ad s.heap.size) s.heap H locs) (hl : lv_has ls 9 [(0, .ref (ad 0 0)), (1, .int x1), (2, .int x2), (3, .int x3), (4, .int x4), (6, .int x6), (7, .int x7), (8, .int x8)]) : W p l e rm_X10_becomes s m args below meth c H locs 0 0 (MQ below (QI D cy (cellM cy ad) regsM ad s.heap.size post) args s 0 0 (AM ad s.heap.size)) (F0 m 85 ls [.int y0]) := by
  obtain ⟨hx, hb, -⟩ := id E
  unfold b_X10_becomes_85 at hw
  refine lv_istore (lv' := [(5, .int y0), (0, .ref (ad 0 0)), (1, .int x1), (2, .int x2), (3, .int x3), (4, .int x4), (6, .int x6), (7, .int x7), (8, .int x8)]) hx hb dX10_becomes_85 hl (by decide) rfl (fun ls hl => ?_)
  refine lv_iload hx hb dX10_becomes_87 (lv_at hl 8 rfl) ?_
  refine lv_iload hx hb dX10_becomes_89 (lv_at hl 6 rfl) ?_
  refine lv_icmp_le (tgt := 99) hx hb dX10_becomes_91 (by decide) (fun c1 => ?_) (fun c1 => ?_)
  · replace hw := hw.1 c1
    refine lv_iload hx hb dX10_becomes_99 (lv_at hl 6 rfl) ?_
    refine lv_istore (lv' := [(6, .int x6), (5, .int y0), (0, .ref (ad 0 0)), (1, .int x1), (2, .int x2), (3, .int x3), (4, .int x4), (7, .int x7), (8, .int x8)]) hx hb dX10_becomes_101 hl (by decide) rfl (fun ls hl => ?_)
    obtain ⟨v2, ev2⟩ : ∃ y : Int32, y = x7 + 1 := ⟨_, rfl⟩
    replace hw := hw v2 ev2
    refine lv_iinc (v := v2) (lv' := [(7, .int v2), (6, .int x6), (5, .int y0), (0, .ref (ad 0 0)), (1, .int x1), (2, .int x2), (3, .int x3), (4, .int x4), (8, .int x8)]) hx hb dX10_becomes_103 hl (k := 7) rfl (by rw [ev2]; rfl) (by decide) rfl (fun ls hl => ?_)
    refine lv_goto (tgt := 39) hx hb dX10_becomes_106 (by decide) ?_
    exact hk39 σ x1 x2 x3 x4 y0 x6 v2 hw _ _ _ hP hS (lv_sub hl [3, 4, 5, 6, 7, 2, 1, 0] rfl)
  · replace hw := hw.2 c1
    refine lv_iload hx hb dX10_becomes_94 (lv_at hl 8 rfl) ?_
    refine lv_goto (tgt := 101) hx hb dX10_becomes_96 (by decide) ?_
    refine lv_istore (lv' := [(6, .int x8), (5, .int y0), (0, .ref (ad 0 0)), (1, .int x1), (2, .int x2), (3, .int x3), (4, .int x4), (7, .int x7), (8, .int x8)]) hx hb dX10_becomes_101 hl (by decide) rfl (fun ls hl => ?_)
    obtain ⟨v3, ev3⟩ : ∃ y : Int32, y = x7 + 1 := ⟨_, rfl⟩
    replace hw := hw v3 ev3
    refine lv_iinc (v := v3) (lv' := [(7, .int v3), (6, .int x8), (5, .int y0), (0, .ref (ad 0 0)), (1, .int x1), (2, .int x2), (3, .int x3), (4, .int x4), (8, .int x8)]) hx hb dX10_becomes_103 hl (k := 7) rfl (by rw [ev3]; rfl) (by decide) rfl (fun ls hl => ?_)
    refine lv_goto (tgt := 39) hx hb dX10_becomes_106 (by decide) ?_
    exact hk39 σ x1 x2 x3 x4 y0 x8 v3 hw _ _ _ hP hS (lv_sub hl [3, 4, 5, 6, 7, 2, 1, 0] rfl)
def b_X10_becomes_39 (K39 : St → Int32 → Int32 → Int32 → Int32 → Int32 → Int32 → Int32 → Prop) (post : Int32 → St → Prop) (σ : St) (x1 : Int32) (x2 : Int32) (x3 : Int32) (x4 : Int32) (x5 : Int32) (x6 : Int32) (x7 : Int32) : Prop := ((6 ≤ x7 → (((¬ x3 = 0 → (post x6 σ)) ∧ (x3 = 0 → (post x5 σ))))) ∧ (¬ 6 ≤ x7 → (w_X10_sets (fun s3 => w_X10_goesOnMany (fun s4 => w_X10_dryOf (fun r5 s5 => w_X10_laysBack (fun s6 => ((r5 ≤ x6 → (b_X10_becomes_85 K39 post s6 x5 x1 x2 x3 x4 x6 x7 r5)) ∧ (¬ r5 ≤ x6 → (b_X10_becomes_85 K39 post s6 x7 x1 x2 x3 x4 x6 x7 r5)))) s5) s4 x4) s3 x2) σ x1 (0 : Int32) x7)))
noncomputable def l_X10_becomes_39 (post : Int32 → St → Prop) : Nat → St → Int32 → Int32 → Int32 → Int32 → Int32 → Int32 → Int32 → Prop := fun n => Nat.rec (motive := fun _ => St → Int32 → Int32 → Int32 → Int32 → Int32 → Int32 → Int32 → Prop) (fun _ _ _ _ _ _ _ _ => False) (fun _ ih => b_X10_becomes_39 ih post) n
theorem L_X10_becomes_39 (E : EnvW p s m args meth c D cy regsM ad "RoofWarModel" cX10_becomes 9 (some .int)) (ha : Apart regsM ad) {post : Int32 → St → Prop} : ∀ (n : Nat), ∀ (σ : St) (x1 : Int32) (x2 : Int32) (x3 : Int32) (x4 : Int32) (x5 : Int32) (x6 : Int32) (x7 : Int32), l_X10_becomes_39 post n σ x1 x2 x3 x4 x5 x6 x7 → ∀ (H : Heap) (locs : List Loc) (ls : Array Slot), va_P D CLS (wM cy ad σ) H → va_S (AM ad s.heap.size) s.heap H locs → lv_has ls 9 [(0, .ref (ad 0 0)), (1, .int x1), (2, .int x2), (3, .int x3), (4, .int x4), (5, .int x5), (6, .int x6), (7, .int x7)] → W p l e rm_X10_becomes s m args below meth c H locs 0 0 (MQ below (QI D cy (cellM cy ad) regsM ad s.heap.size post) args s 0 0 (AM ad s.heap.size)) (F0 m 39 ls []) := by
  obtain ⟨hx, hb, -⟩ := id E
  intro n
  induction n with
  | zero => intro σ x1 x2 x3 x4 x5 x6 x7 hw; exact hw.elim
  | succ n hk39 =>
    intro σ x1 x2 x3 x4 x5 x6 x7 hw H locs ls hP hS hl
    replace hw : b_X10_becomes_39 (l_X10_becomes_39 post n) post σ x1 x2 x3 x4 x5 x6 x7 := hw
    unfold b_X10_becomes_39 at hw
    refine lv_iload hx hb dX10_becomes_39 (lv_at hl 7 rfl) ?_
    refine lv_bipush (v := 6) hx hb dX10_becomes_41 (by decide) ?_
    refine lv_icmp_ge (tgt := 109) hx hb dX10_becomes_43 (by decide) (fun c1 => ?_) (fun c1 => ?_)
    · replace hw := hw.1 c1
      refine lv_iload_n hx hb dX10_becomes_109 rfl (lv_at hl 3 rfl) ?_
      refine lv_if_ne (tgt := 118) hx hb dX10_becomes_110 (by decide) (fun c2 => ?_) (fun c2 => ?_)
      · replace hw := hw.1 c2
        refine lv_iload hx hb dX10_becomes_118 (lv_at hl 6 rfl) ?_
        exact g_iret E hw hP hS dX10_becomes_120
      · replace hw := hw.2 c2
        refine lv_iload hx hb dX10_becomes_113 (lv_at hl 5 rfl) ?_
        refine lv_goto (tgt := 120) hx hb dX10_becomes_115 (by decide) ?_
        exact g_iret E hw hP hS dX10_becomes_120
    · replace hw := hw.2 c1
      refine lv_aload_n hx hb dX10_becomes_46 rfl (lv_at hl 0 rfl) ?_
      refine lv_iload_n hx hb dX10_becomes_47 rfl (lv_at hl 1 rfl) ?_
      refine lv_iconst (v := 0) hx hb dX10_becomes_48 (by decide) ?_
      refine lv_iload hx hb dX10_becomes_49 (lv_at hl 7 rfl) ?_
      refine g_cVv (As := [.int x1, .int 0, .int x7]) (rest := []) E hl.1 (c_X10_sets l D cy ad ha hw _) ok_X10_sets mw_1075 ⟨(Nat.le_of_ble_eq_true rfl), (Nat.le_of_ble_eq_true rfl)⟩ ⟨rfl, rfl⟩ rM0 rfl rfl rfl rfl rfl (Nat.le_of_ble_eq_true rfl) ⟨Nat.zero_le _, Nat.zero_le _⟩ hP hS dX10_becomes_51 (fun s3 hw H locs hP hS => ?_)
      refine lv_aload_n hx hb dX10_becomes_54 rfl (lv_at hl 0 rfl) ?_
      refine lv_iload_n hx hb dX10_becomes_55 rfl (lv_at hl 2 rfl) ?_
      refine g_cVv (As := [.int x2]) (rest := []) E hl.1 (c_X10_goesOnMany l D cy ad ha hw _) ok_X10_goesOnMany mw_1163 ⟨(Nat.le_of_ble_eq_true rfl), (Nat.le_of_ble_eq_true rfl)⟩ ⟨rfl, rfl⟩ rM0 rfl rfl rfl rfl rfl (Nat.le_of_ble_eq_true rfl) ⟨Nat.zero_le _, Nat.zero_le _⟩ hP hS dX10_becomes_56 (fun s4 hw H locs hP hS => ?_)
      refine lv_aload_n hx hb dX10_becomes_59 rfl (lv_at hl 0 rfl) ?_
      refine lv_iload hx hb dX10_becomes_60 (lv_at hl 4 rfl) ?_
      refine g_cVi (As := [.int x4]) (rest := []) E hl.1 (c_X10_dryOf l D cy ad ha hw _) ok_X10_dryOf mw_1218 ⟨(Nat.le_of_ble_eq_true rfl), (Nat.le_of_ble_eq_true rfl)⟩ ⟨rfl, rfl⟩ rM0 rfl rfl rfl rfl rfl (Nat.le_of_ble_eq_true rfl) ⟨Nat.zero_le _, Nat.zero_le _⟩ hP hS dX10_becomes_62 (fun r5 s5 hw H locs hP hS => ?_)
      refine lv_istore (lv' := [(8, .int r5), (0, .ref (ad 0 0)), (1, .int x1), (2, .int x2), (3, .int x3), (4, .int x4), (5, .int x5), (6, .int x6), (7, .int x7)]) hx hb dX10_becomes_65 hl (by decide) rfl (fun ls hl => ?_)
      refine lv_aload_n hx hb dX10_becomes_67 rfl (lv_at hl 1 rfl) ?_
      refine g_cVv (As := []) (rest := []) E hl.1 (c_X10_laysBack l D cy ad ha hw _) ok_X10_laysBack mw_1257 ⟨(Nat.le_of_ble_eq_true rfl), (Nat.le_of_ble_eq_true rfl)⟩ ⟨rfl, rfl⟩ rM0 rfl rfl rfl rfl rfl (Nat.le_of_ble_eq_true rfl) ⟨Nat.zero_le _, Nat.zero_le _⟩ hP hS dX10_becomes_68 (fun s6 hw H locs hP hS => ?_)
      refine lv_iload hx hb dX10_becomes_71 (lv_at hl 0 rfl) ?_
      refine lv_iload hx hb dX10_becomes_73 (lv_at hl 7 rfl) ?_
      refine lv_icmp_le (tgt := 83) hx hb dX10_becomes_75 (by decide) (fun c7 => ?_) (fun c7 => ?_)
      · replace hw := hw.1 c7
        refine lv_iload hx hb dX10_becomes_83 (lv_at hl 6 rfl) ?_
        exact B_X10_becomes_85 E ha hk39 hw hP hS (lv_sub hl [1, 2, 3, 4, 5, 7, 8, 0] rfl)
      · replace hw := hw.2 c7
        refine lv_iload hx hb dX10_becomes_78 (lv_at hl 8 rfl) ?_
        refine lv_goto (tgt := 85) hx hb dX10_becomes_80 (by decide) ?_
        exact B_X10_becomes_85 E ha hk39 hw hP hS (lv_sub hl [1, 2, 3, 4, 5, 7, 8, 0] rfl)
def w_X10_becomes (post : Int32 → St → Prop) (σ : St) (x1 : Int32) (x2 : Int32) (x3 : Int32) : Prop := w_X10_isRoof (fun r1 s1 => ((r1 = 0 → (post ((-1000000001)) s1)) ∧ (¬ r1 = 0 → (w_X10_isAsked (fun r3 s3 => ((¬ r3 = 0 → (w_X10_laysBy (fun s5 => w_X10_townOf (fun r6 s6 => ∃ n7 : Nat, l_X10_becomes_39 post n7 s6 x1 x2 x3 r6 (0 : Int32) (-1 : Int32) (0 : Int32)) s5 x1) s3)) ∧ (r3 = 0 → (post ((-1000000001)) s3)))) s1 x2 x3)))) σ x1
theorem B_X10_becomes_0 (E : EnvW p s m args meth c D cy regsM ad "RoofWarModel" cX10_becomes 9 (some .int)) (ha : Apart regsM ad) {post : Int32 → St → Prop} {σ : St} {x1 : Int32} {x2 : Int32} {x3 : Int32} (hw : w_X10_becomes post σ x1 x2 x3) {H : Heap} {locs : List Loc} {ls : Array Slot} (hP : va_P D CLS (wM cy ad σ) H) (hS : va_S (AM ad s.heap.size) s.heap H locs) (hl : lv_has ls 9 [(0, .ref (ad 0 0)), (1, .int x1), (2, .int x2), (3, .int x3)]) : W p l e rm_X10_becomes s m args below meth c H locs 0 0 (MQ below (QI D cy (cellM cy ad) regsM ad s.heap.size post) args s 0 0 (AM ad s.heap.size)) (F0 m 0 ls []) := by
  obtain ⟨hx, hb, -⟩ := id E
  unfold w_X10_becomes at hw
  refine lv_aload_n hx hb dX10_becomes_0 rfl (lv_at hl 0 rfl) ?_
  refine lv_iload_n hx hb dX10_becomes_1 rfl (lv_at hl 1 rfl) ?_
  refine g_cVi (As := [.int x1]) (rest := []) E hl.1 (c_X10_isRoof l D cy ad ha hw _) ok_X10_isRoof mw_1082 ⟨(Nat.le_of_ble_eq_true rfl), (Nat.le_of_ble_eq_true rfl)⟩ ⟨rfl, rfl⟩ rM0 rfl rfl rfl rfl rfl (Nat.le_of_ble_eq_true rfl) ⟨Nat.zero_le _, Nat.zero_le _⟩ hP hS dX10_becomes_2 (fun r1 s1 hw H locs hP hS => ?_)
  obtain ⟨z1, hw⟩ := hw
  refine lv_if_eq (tgt := 16) hx hb dX10_becomes_5 (by decide) (fun c2 => ?_) (fun c2 => ?_)
  · replace hw := hw.1 c2
    refine g_ldc (v := -1000000001) E mw_1063 dX10_becomes_16 ?_
    exact g_iret E hw hP hS dX10_becomes_18
  · replace hw := hw.2 c2
    refine lv_iload_n hx hb dX10_becomes_8 rfl (lv_at hl 2 rfl) ?_
    refine lv_iload_n hx hb dX10_becomes_9 rfl (lv_at hl 3 rfl) ?_
    refine g_cSi (As := [.int x2, .int x3]) (rest := []) E hl.1 (c_X10_isAsked l D cy ad ha hw _) ok_X10_isAsked mw_1268 ⟨(Nat.le_of_ble_eq_true rfl), (Nat.le_of_ble_eq_true rfl)⟩ ⟨rfl, rfl⟩ rfl rfl (Nat.le_of_ble_eq_true rfl) ⟨Nat.zero_le _, Nat.zero_le _⟩ hP hS dX10_becomes_10 (fun r3 s3 hw H locs hP hS => ?_)
    obtain ⟨z3, hw⟩ := hw
    refine lv_if_ne (tgt := 19) hx hb dX10_becomes_13 (by decide) (fun c4 => ?_) (fun c4 => ?_)
    · replace hw := hw.1 c4
      refine lv_aload_n hx hb dX10_becomes_19 rfl (lv_at hl 0 rfl) ?_
      refine g_cVv (As := []) (rest := []) E hl.1 (c_X10_laysBy l D cy ad ha hw _) ok_X10_laysBy mw_1254 ⟨(Nat.le_of_ble_eq_true rfl), (Nat.le_of_ble_eq_true rfl)⟩ ⟨rfl, rfl⟩ rM0 rfl rfl rfl rfl rfl (Nat.le_of_ble_eq_true rfl) ⟨Nat.zero_le _, Nat.zero_le _⟩ hP hS dX10_becomes_20 (fun s5 hw H locs hP hS => ?_)
      refine lv_aload_n hx hb dX10_becomes_23 rfl (lv_at hl 0 rfl) ?_
      refine lv_iload_n hx hb dX10_becomes_24 rfl (lv_at hl 1 rfl) ?_
      refine g_cVi (As := [.int x1]) (rest := []) E hl.1 (c_X10_townOf l D cy ad ha hw _) ok_X10_townOf mw_1178 ⟨(Nat.le_of_ble_eq_true rfl), (Nat.le_of_ble_eq_true rfl)⟩ ⟨rfl, rfl⟩ rM0 rfl rfl rfl rfl rfl (Nat.le_of_ble_eq_true rfl) ⟨Nat.zero_le _, Nat.zero_le _⟩ hP hS dX10_becomes_25 (fun r6 s6 hw H locs hP hS => ?_)
      refine lv_istore (lv' := [(4, .int r6), (0, .ref (ad 0 0)), (1, .int x1), (2, .int x2), (3, .int x3)]) hx hb dX10_becomes_28 hl (by decide) rfl (fun ls hl => ?_)
      refine lv_iconst (v := 0) hx hb dX10_becomes_30 (by decide) ?_
      refine lv_istore (lv' := [(5, .int 0), (4, .int r6), (0, .ref (ad 0 0)), (1, .int x1), (2, .int x2), (3, .int x3)]) hx hb dX10_becomes_31 hl (by decide) rfl (fun ls hl => ?_)
      refine lv_iconst (v := -1) hx hb dX10_becomes_33 (by decide) ?_
      refine lv_istore (lv' := [(6, .int ((-1))), (5, .int 0), (4, .int r6), (0, .ref (ad 0 0)), (1, .int x1), (2, .int x2), (3, .int x3)]) hx hb dX10_becomes_34 hl (by decide) rfl (fun ls hl => ?_)
      refine lv_iconst (v := 0) hx hb dX10_becomes_36 (by decide) ?_
      refine lv_istore (lv' := [(7, .int 0), (6, .int ((-1))), (5, .int 0), (4, .int r6), (0, .ref (ad 0 0)), (1, .int x1), (2, .int x2), (3, .int x3)]) hx hb dX10_becomes_37 hl (by decide) rfl (fun ls hl => ?_)
      obtain ⟨n7, hw⟩ := hw
      exact L_X10_becomes_39 E ha n7 s6 x1 x2 x3 r6 (0 : Int32) (-1 : Int32) (0 : Int32) hw _ _ _ hP hS (lv_sub hl [4, 5, 6, 7, 3, 2, 1, 0] rfl)
    · replace hw := hw.2 c4
      refine g_ldc (v := -1000000001) E mw_1063 dX10_becomes_16 ?_
      exact g_iret E hw hP hS dX10_becomes_18
theorem c_X10_becomes (l : Launch) (D : va_G) (cy : Nat → ClassId) (ad : Nat → Nat → Nat) (ha : Apart regsM ad) {post : Int32 → St → Prop} {σ : St} {x1 : Int32} {x2 : Int32} {x3 : Int32} (hw : w_X10_becomes post σ x1 x2 x3) (sz : Nat) : MetI l yX10_becomes cX10_becomes 9 .int rm_X10_becomes [.ref (ad 0 0), .int x1, .int x2, .int x3] D cy (cellM cy ad) regsM ad σ sz post :=
  Met_inI ok_X10_becomes.2.2.2.2.2 (Nat.le_of_ble_eq_true rfl) (fun p e s m below meth c ls E hP hl => B_X10_becomes_0 E ha hw hP va_S.rf hl)
-- RoofWarModel.fee()I
theorem dX10_fee_0 : decode cX10_fee 0 = .ok (.aload_n 0, 1) := by decide +kernel
theorem dX10_fee_1 : decode cX10_fee 1 = .ok (.iconst 1, 1) := by decide +kernel
theorem dX10_fee_2 : decode cX10_fee 2 = .ok (.invokevirtual 159, 3) := by decide +kernel
theorem dX10_fee_5 : decode cX10_fee 5 = .ok (.istore_n 1, 1) := by decide +kernel
theorem dX10_fee_6 : decode cX10_fee 6 = .ok (.iload_n 1, 1) := by decide +kernel
theorem dX10_fee_7 : decode cX10_fee 7 = .ok (.ifCond .ge 11, 3) := by decide +kernel
theorem dX10_fee_10 : decode cX10_fee 10 = .ok (.aload_n 0, 1) := by decide +kernel
theorem dX10_fee_11 : decode cX10_fee 11 = .ok (.getfield 7, 3) := by decide +kernel
theorem dX10_fee_14 : decode cX10_fee 14 = .ok (.bipush 6, 2) := by decide +kernel
theorem dX10_fee_16 : decode cX10_fee 16 = .ok (.iaload, 1) := by decide +kernel
theorem dX10_fee_17 : decode cX10_fee 17 = .ok (.ireturn, 1) := by decide +kernel
theorem dX10_fee_18 : decode cX10_fee 18 = .ok (.aload_n 0, 1) := by decide +kernel
theorem dX10_fee_19 : decode cX10_fee 19 = .ok (.getfield 55, 3) := by decide +kernel
theorem dX10_fee_22 : decode cX10_fee 22 = .ok (.bipush 116, 2) := by decide +kernel
theorem dX10_fee_24 : decode cX10_fee 24 = .ok (.aload_n 0, 1) := by decide +kernel
theorem dX10_fee_25 : decode cX10_fee 25 = .ok (.getfield 7, 3) := by decide +kernel
theorem dX10_fee_28 : decode cX10_fee 28 = .ok (.bipush 6, 2) := by decide +kernel
theorem dX10_fee_30 : decode cX10_fee 30 = .ok (.iaload, 1) := by decide +kernel
theorem dX10_fee_31 : decode cX10_fee 31 = .ok (.iastore, 1) := by decide +kernel
theorem dX10_fee_32 : decode cX10_fee 32 = .ok (.aload_n 0, 1) := by decide +kernel
theorem dX10_fee_33 : decode cX10_fee 33 = .ok (.getfield 55, 3) := by decide +kernel
theorem dX10_fee_36 : decode cX10_fee 36 = .ok (.bipush 119, 2) := by decide +kernel
theorem dX10_fee_38 : decode cX10_fee 38 = .ok (.aload_n 0, 1) := by decide +kernel
theorem dX10_fee_39 : decode cX10_fee 39 = .ok (.getfield 7, 3) := by decide +kernel
theorem dX10_fee_42 : decode cX10_fee 42 = .ok (.bipush 8, 2) := by decide +kernel
theorem dX10_fee_44 : decode cX10_fee 44 = .ok (.iaload, 1) := by decide +kernel
theorem dX10_fee_45 : decode cX10_fee 45 = .ok (.iastore, 1) := by decide +kernel
theorem dX10_fee_46 : decode cX10_fee 46 = .ok (.aload_n 0, 1) := by decide +kernel
theorem dX10_fee_47 : decode cX10_fee 47 = .ok (.iload_n 1, 1) := by decide +kernel
theorem dX10_fee_48 : decode cX10_fee 48 = .ok (.invokevirtual 162, 3) := by decide +kernel
theorem dX10_fee_51 : decode cX10_fee 51 = .ok (.ireturn, 1) := by decide +kernel
theorem ok_X10_fee : okV yX10_fee cX10_fee 2 (some .int) 0 := ⟨mw_1277, mw_1278, mw_83, mw_1279, by decide +kernel, by decide +kernel⟩
abbrev rm_X10_fee : Room := { frames := 2, cells := 0, slots := 0, locals := 47 }
def w_X10_fee (post : Int32 → St → Prop) (σ : St) : Prop := w_X10_counts (fun r1 s1 => ((0 ≤ r1 → (vp_in (6 : Int32) 3082 ∧ (vp_in (116 : Int32) 128 ∧ (∀ s5 : St, s5 = wr s1 16 0 (116 : Int32).toNatClampNeg (s1 1 0 (6 : Int32).toNatClampNeg) → (vp_in (8 : Int32) 3082 ∧ (vp_in (119 : Int32) 128 ∧ (∀ s8 : St, s8 = wr s5 16 0 (119 : Int32).toNatClampNeg (s5 1 0 (8 : Int32).toNatClampNeg) → (w_X10_worked (fun r9 s9 => post r9 s9) s8 r1)))))))) ∧ (¬ 0 ≤ r1 → (vp_in (6 : Int32) 3082 ∧ (post (s1 1 0 (6 : Int32).toNatClampNeg) s1))))) σ (1 : Int32)
theorem B_X10_fee_0 (E : EnvW p s m args meth c D cy regsM ad "RoofWarModel" cX10_fee 2 (some .int)) (ha : Apart regsM ad) {post : Int32 → St → Prop} {σ : St} (hw : w_X10_fee post σ) {H : Heap} {locs : List Loc} {ls : Array Slot} (hP : va_P D CLS (wM cy ad σ) H) (hS : va_S (AM ad s.heap.size) s.heap H locs) (hl : lv_has ls 2 [(0, .ref (ad 0 0))]) : W p l e rm_X10_fee s m args below meth c H locs 0 0 (MQ below (QI D cy (cellM cy ad) regsM ad s.heap.size post) args s 0 0 (AM ad s.heap.size)) (F0 m 0 ls []) := by
  obtain ⟨hx, hb, -⟩ := id E
  unfold w_X10_fee at hw
  refine lv_aload_n hx hb dX10_fee_0 rfl (lv_at hl 0 rfl) ?_
  refine lv_iconst (v := 1) hx hb dX10_fee_1 (by decide) ?_
  refine g_cVi (As := [.int 1]) (rest := []) E hl.1 (c_X10_counts l D cy ad ha hw _) ok_X10_counts mw_1193 ⟨(Nat.le_of_ble_eq_true rfl), (Nat.le_of_ble_eq_true rfl)⟩ ⟨rfl, rfl⟩ rM0 rfl rfl rfl rfl rfl (Nat.le_of_ble_eq_true rfl) ⟨Nat.zero_le _, Nat.zero_le _⟩ hP hS dX10_fee_2 (fun r1 s1 hw H locs hP hS => ?_)
  refine lv_istore_n (lv' := [(1, .int r1), (0, .ref (ad 0 0))]) hx hb dX10_fee_5 rfl hl (by decide) rfl (fun ls hl => ?_)
  refine lv_iload_n hx hb dX10_fee_6 rfl (lv_at hl 0 rfl) ?_
  refine lv_if_ge (tgt := 18) hx hb dX10_fee_7 (by decide) (fun c2 => ?_) (fun c2 => ?_)
  · replace hw := hw.1 c2
    refine lv_aload_n hx hb dX10_fee_18 rfl (lv_at hl 1 rfl) ?_
    refine fX10_28 E hP mw_974 dX10_fee_19 ?_
    refine lv_bipush (v := 116) hx hb dX10_fee_22 (by decide) ?_
    refine lv_aload_n hx hb dX10_fee_24 rfl (lv_at hl 1 rfl) ?_
    refine fX10_0 E hP mw_946 dX10_fee_25 ?_
    refine lv_bipush (v := 6) hx hb dX10_fee_28 (by decide) ?_
    obtain ⟨h3, hw⟩ := hw
    refine aM1 E hP h3 dX10_fee_30 ?_
    obtain ⟨h4, hw⟩ := hw
    refine tM16 E ha h4 dX10_fee_31 hP hS (fun s5 es5 H locs hP hS => ?_)
    replace hw := hw s5 es5
    refine lv_aload_n hx hb dX10_fee_32 rfl (lv_at hl 1 rfl) ?_
    refine fX10_28 E hP mw_974 dX10_fee_33 ?_
    refine lv_bipush (v := 119) hx hb dX10_fee_36 (by decide) ?_
    refine lv_aload_n hx hb dX10_fee_38 rfl (lv_at hl 1 rfl) ?_
    refine fX10_0 E hP mw_946 dX10_fee_39 ?_
    refine lv_bipush (v := 8) hx hb dX10_fee_42 (by decide) ?_
    obtain ⟨h6, hw⟩ := hw
    refine aM1 E hP h6 dX10_fee_44 ?_
    obtain ⟨h7, hw⟩ := hw
    refine tM16 E ha h7 dX10_fee_45 hP hS (fun s8 es8 H locs hP hS => ?_)
    replace hw := hw s8 es8
    refine lv_aload_n hx hb dX10_fee_46 rfl (lv_at hl 1 rfl) ?_
    refine lv_iload_n hx hb dX10_fee_47 rfl (lv_at hl 0 rfl) ?_
    refine g_cVi (As := [.int r1]) (rest := []) E hl.1 (c_X10_worked l D cy ad ha hw _) ok_X10_worked mw_1199 ⟨(Nat.le_of_ble_eq_true rfl), (Nat.le_of_ble_eq_true rfl)⟩ ⟨rfl, rfl⟩ rM0 rfl rfl rfl rfl rfl (Nat.le_of_ble_eq_true rfl) ⟨Nat.zero_le _, Nat.zero_le _⟩ hP hS dX10_fee_48 (fun r9 s9 hw H locs hP hS => ?_)
    exact g_iret E hw hP hS dX10_fee_51
  · replace hw := hw.2 c2
    refine lv_aload_n hx hb dX10_fee_10 rfl (lv_at hl 1 rfl) ?_
    refine fX10_0 E hP mw_946 dX10_fee_11 ?_
    refine lv_bipush (v := 6) hx hb dX10_fee_14 (by decide) ?_
    obtain ⟨h10, hw⟩ := hw
    refine aM1 E hP h10 dX10_fee_16 ?_
    exact g_iret E hw hP hS dX10_fee_17
theorem c_X10_fee (l : Launch) (D : va_G) (cy : Nat → ClassId) (ad : Nat → Nat → Nat) (ha : Apart regsM ad) {post : Int32 → St → Prop} {σ : St} (hw : w_X10_fee post σ) (sz : Nat) : MetI l yX10_fee cX10_fee 2 .int rm_X10_fee [.ref (ad 0 0)] D cy (cellM cy ad) regsM ad σ sz post :=
  Met_inI ok_X10_fee.2.2.2.2.2 (Nat.le_of_ble_eq_true rfl) (fun p e s m below meth c ls E hP hl => B_X10_fee_0 E ha hw hP va_S.rf hl)
-- RoofWarModel.fine(I)I
theorem dX10_fine_0 : decode cX10_fine 0 = .ok (.aload_n 0, 1) := by decide +kernel
theorem dX10_fine_1 : decode cX10_fine 1 = .ok (.iload_n 1, 1) := by decide +kernel
theorem dX10_fine_2 : decode cX10_fine 2 = .ok (.invokevirtual 107, 3) := by decide +kernel
theorem dX10_fine_5 : decode cX10_fine 5 = .ok (.ifCond .ne 6, 3) := by decide +kernel
theorem dX10_fine_8 : decode cX10_fine 8 = .ok (.ldc 96, 2) := by decide +kernel
theorem dX10_fine_10 : decode cX10_fine 10 = .ok (.ireturn, 1) := by decide +kernel
theorem dX10_fine_11 : decode cX10_fine 11 = .ok (.aload_n 0, 1) := by decide +kernel
theorem dX10_fine_12 : decode cX10_fine 12 = .ok (.iconst 2, 1) := by decide +kernel
theorem dX10_fine_13 : decode cX10_fine 13 = .ok (.invokevirtual 159, 3) := by decide +kernel
theorem dX10_fine_16 : decode cX10_fine 16 = .ok (.istore_n 2, 1) := by decide +kernel
theorem dX10_fine_17 : decode cX10_fine 17 = .ok (.iload_n 2, 1) := by decide +kernel
theorem dX10_fine_18 : decode cX10_fine 18 = .ok (.ifCond .ge 10, 3) := by decide +kernel
theorem dX10_fine_21 : decode cX10_fine 21 = .ok (.aload_n 0, 1) := by decide +kernel
theorem dX10_fine_22 : decode cX10_fine 22 = .ok (.iload_n 1, 1) := by decide +kernel
theorem dX10_fine_23 : decode cX10_fine 23 = .ok (.iconst 2, 1) := by decide +kernel
theorem dX10_fine_24 : decode cX10_fine 24 = .ok (.invokevirtual 78, 3) := by decide +kernel
theorem dX10_fine_27 : decode cX10_fine 27 = .ok (.ireturn, 1) := by decide +kernel
theorem dX10_fine_28 : decode cX10_fine 28 = .ok (.aload_n 0, 1) := by decide +kernel
theorem dX10_fine_29 : decode cX10_fine 29 = .ok (.getfield 55, 3) := by decide +kernel
theorem dX10_fine_32 : decode cX10_fine 32 = .ok (.bipush 115, 2) := by decide +kernel
theorem dX10_fine_34 : decode cX10_fine 34 = .ok (.aload_n 0, 1) := by decide +kernel
theorem dX10_fine_35 : decode cX10_fine 35 = .ok (.iload_n 1, 1) := by decide +kernel
theorem dX10_fine_36 : decode cX10_fine 36 = .ok (.iconst 1, 1) := by decide +kernel
theorem dX10_fine_37 : decode cX10_fine 37 = .ok (.invokevirtual 78, 3) := by decide +kernel
theorem dX10_fine_40 : decode cX10_fine 40 = .ok (.iastore, 1) := by decide +kernel
theorem dX10_fine_41 : decode cX10_fine 41 = .ok (.aload_n 0, 1) := by decide +kernel
theorem dX10_fine_42 : decode cX10_fine 42 = .ok (.getfield 55, 3) := by decide +kernel
theorem dX10_fine_45 : decode cX10_fine 45 = .ok (.bipush 108, 2) := by decide +kernel
theorem dX10_fine_47 : decode cX10_fine 47 = .ok (.aload_n 0, 1) := by decide +kernel
theorem dX10_fine_48 : decode cX10_fine 48 = .ok (.iload_n 1, 1) := by decide +kernel
theorem dX10_fine_49 : decode cX10_fine 49 = .ok (.iconst 2, 1) := by decide +kernel
theorem dX10_fine_50 : decode cX10_fine 50 = .ok (.invokevirtual 78, 3) := by decide +kernel
theorem dX10_fine_53 : decode cX10_fine 53 = .ok (.iastore, 1) := by decide +kernel
theorem dX10_fine_54 : decode cX10_fine 54 = .ok (.aload_n 0, 1) := by decide +kernel
theorem dX10_fine_55 : decode cX10_fine 55 = .ok (.iload_n 2, 1) := by decide +kernel
theorem dX10_fine_56 : decode cX10_fine 56 = .ok (.invokevirtual 162, 3) := by decide +kernel
theorem dX10_fine_59 : decode cX10_fine 59 = .ok (.ireturn, 1) := by decide +kernel
theorem ok_X10_fine : okV yX10_fine cX10_fine 3 (some .int) 1 := ⟨mw_1281, mw_1282, mw_83, mw_1283, by decide +kernel, by decide +kernel⟩
abbrev rm_X10_fine : Room := { frames := 2, cells := 0, slots := 0, locals := 47 }
def w_X10_fine (post : Int32 → St → Prop) (σ : St) (x1 : Int32) : Prop := w_X10_isRoof (fun r1 s1 => ((¬ r1 = 0 → (w_X10_counts (fun r3 s3 => ((0 ≤ r3 → (w_X10_of (fun r5 s5 => vp_in (115 : Int32) 128 ∧ (∀ s7 : St, s7 = wr s5 16 0 (115 : Int32).toNatClampNeg r5 → (w_X10_of (fun r8 s8 => vp_in (108 : Int32) 128 ∧ (∀ s10 : St, s10 = wr s8 16 0 (108 : Int32).toNatClampNeg r8 → (w_X10_worked (fun r11 s11 => post r11 s11) s10 r3))) s7 x1 (2 : Int32)))) s3 x1 (1 : Int32))) ∧ (¬ 0 ≤ r3 → (w_X10_of (fun r12 s12 => post r12 s12) s3 x1 (2 : Int32))))) s1 (2 : Int32))) ∧ (r1 = 0 → (post ((-1000000001)) s1)))) σ x1
theorem B_X10_fine_0 (E : EnvW p s m args meth c D cy regsM ad "RoofWarModel" cX10_fine 3 (some .int)) (ha : Apart regsM ad) {post : Int32 → St → Prop} {σ : St} {x1 : Int32} (hw : w_X10_fine post σ x1) {H : Heap} {locs : List Loc} {ls : Array Slot} (hP : va_P D CLS (wM cy ad σ) H) (hS : va_S (AM ad s.heap.size) s.heap H locs) (hl : lv_has ls 3 [(0, .ref (ad 0 0)), (1, .int x1)]) : W p l e rm_X10_fine s m args below meth c H locs 0 0 (MQ below (QI D cy (cellM cy ad) regsM ad s.heap.size post) args s 0 0 (AM ad s.heap.size)) (F0 m 0 ls []) := by
  obtain ⟨hx, hb, -⟩ := id E
  unfold w_X10_fine at hw
  refine lv_aload_n hx hb dX10_fine_0 rfl (lv_at hl 0 rfl) ?_
  refine lv_iload_n hx hb dX10_fine_1 rfl (lv_at hl 1 rfl) ?_
  refine g_cVi (As := [.int x1]) (rest := []) E hl.1 (c_X10_isRoof l D cy ad ha hw _) ok_X10_isRoof mw_1082 ⟨(Nat.le_of_ble_eq_true rfl), (Nat.le_of_ble_eq_true rfl)⟩ ⟨rfl, rfl⟩ rM0 rfl rfl rfl rfl rfl (Nat.le_of_ble_eq_true rfl) ⟨Nat.zero_le _, Nat.zero_le _⟩ hP hS dX10_fine_2 (fun r1 s1 hw H locs hP hS => ?_)
  obtain ⟨z1, hw⟩ := hw
  refine lv_if_ne (tgt := 11) hx hb dX10_fine_5 (by decide) (fun c2 => ?_) (fun c2 => ?_)
  · replace hw := hw.1 c2
    refine lv_aload_n hx hb dX10_fine_11 rfl (lv_at hl 0 rfl) ?_
    refine lv_iconst (v := 2) hx hb dX10_fine_12 (by decide) ?_
    refine g_cVi (As := [.int 2]) (rest := []) E hl.1 (c_X10_counts l D cy ad ha hw _) ok_X10_counts mw_1193 ⟨(Nat.le_of_ble_eq_true rfl), (Nat.le_of_ble_eq_true rfl)⟩ ⟨rfl, rfl⟩ rM0 rfl rfl rfl rfl rfl (Nat.le_of_ble_eq_true rfl) ⟨Nat.zero_le _, Nat.zero_le _⟩ hP hS dX10_fine_13 (fun r3 s3 hw H locs hP hS => ?_)
    refine lv_istore_n (lv' := [(2, .int r3), (0, .ref (ad 0 0)), (1, .int x1)]) hx hb dX10_fine_16 rfl hl (by decide) rfl (fun ls hl => ?_)
    refine lv_iload_n hx hb dX10_fine_17 rfl (lv_at hl 0 rfl) ?_
    refine lv_if_ge (tgt := 28) hx hb dX10_fine_18 (by decide) (fun c4 => ?_) (fun c4 => ?_)
    · replace hw := hw.1 c4
      refine lv_aload_n hx hb dX10_fine_28 rfl (lv_at hl 1 rfl) ?_
      refine fX10_28 E hP mw_974 dX10_fine_29 ?_
      refine lv_bipush (v := 115) hx hb dX10_fine_32 (by decide) ?_
      refine lv_aload_n hx hb dX10_fine_34 rfl (lv_at hl 1 rfl) ?_
      refine lv_iload_n hx hb dX10_fine_35 rfl (lv_at hl 2 rfl) ?_
      refine lv_iconst (v := 1) hx hb dX10_fine_36 (by decide) ?_
      refine g_cVi (As := [.int x1, .int 1]) (rest := [.int 115, .ref (ad 16 0)]) E hl.1 (c_X10_of l D cy ad ha hw _) ok_X10_of mw_1067 ⟨(Nat.le_of_ble_eq_true rfl), (Nat.le_of_ble_eq_true rfl)⟩ ⟨rfl, rfl⟩ rM0 rfl rfl rfl rfl rfl (Nat.le_of_ble_eq_true rfl) ⟨Nat.zero_le _, Nat.zero_le _⟩ hP hS dX10_fine_37 (fun r5 s5 hw H locs hP hS => ?_)
      obtain ⟨h6, hw⟩ := hw
      refine tM16 E ha h6 dX10_fine_40 hP hS (fun s7 es7 H locs hP hS => ?_)
      replace hw := hw s7 es7
      refine lv_aload_n hx hb dX10_fine_41 rfl (lv_at hl 1 rfl) ?_
      refine fX10_28 E hP mw_974 dX10_fine_42 ?_
      refine lv_bipush (v := 108) hx hb dX10_fine_45 (by decide) ?_
      refine lv_aload_n hx hb dX10_fine_47 rfl (lv_at hl 1 rfl) ?_
      refine lv_iload_n hx hb dX10_fine_48 rfl (lv_at hl 2 rfl) ?_
      refine lv_iconst (v := 2) hx hb dX10_fine_49 (by decide) ?_
      refine g_cVi (As := [.int x1, .int 2]) (rest := [.int 108, .ref (ad 16 0)]) E hl.1 (c_X10_of l D cy ad ha hw _) ok_X10_of mw_1067 ⟨(Nat.le_of_ble_eq_true rfl), (Nat.le_of_ble_eq_true rfl)⟩ ⟨rfl, rfl⟩ rM0 rfl rfl rfl rfl rfl (Nat.le_of_ble_eq_true rfl) ⟨Nat.zero_le _, Nat.zero_le _⟩ hP hS dX10_fine_50 (fun r8 s8 hw H locs hP hS => ?_)
      obtain ⟨h9, hw⟩ := hw
      refine tM16 E ha h9 dX10_fine_53 hP hS (fun s10 es10 H locs hP hS => ?_)
      replace hw := hw s10 es10
      refine lv_aload_n hx hb dX10_fine_54 rfl (lv_at hl 1 rfl) ?_
      refine lv_iload_n hx hb dX10_fine_55 rfl (lv_at hl 0 rfl) ?_
      refine g_cVi (As := [.int r3]) (rest := []) E hl.1 (c_X10_worked l D cy ad ha hw _) ok_X10_worked mw_1199 ⟨(Nat.le_of_ble_eq_true rfl), (Nat.le_of_ble_eq_true rfl)⟩ ⟨rfl, rfl⟩ rM0 rfl rfl rfl rfl rfl (Nat.le_of_ble_eq_true rfl) ⟨Nat.zero_le _, Nat.zero_le _⟩ hP hS dX10_fine_56 (fun r11 s11 hw H locs hP hS => ?_)
      exact g_iret E hw hP hS dX10_fine_59
    · replace hw := hw.2 c4
      refine lv_aload_n hx hb dX10_fine_21 rfl (lv_at hl 1 rfl) ?_
      refine lv_iload_n hx hb dX10_fine_22 rfl (lv_at hl 2 rfl) ?_
      refine lv_iconst (v := 2) hx hb dX10_fine_23 (by decide) ?_
      refine g_cVi (As := [.int x1, .int 2]) (rest := []) E hl.1 (c_X10_of l D cy ad ha hw _) ok_X10_of mw_1067 ⟨(Nat.le_of_ble_eq_true rfl), (Nat.le_of_ble_eq_true rfl)⟩ ⟨rfl, rfl⟩ rM0 rfl rfl rfl rfl rfl (Nat.le_of_ble_eq_true rfl) ⟨Nat.zero_le _, Nat.zero_le _⟩ hP hS dX10_fine_24 (fun r12 s12 hw H locs hP hS => ?_)
      exact g_iret E hw hP hS dX10_fine_27
  · replace hw := hw.2 c2
    refine g_ldc (v := -1000000001) E mw_1063 dX10_fine_8 ?_
    exact g_iret E hw hP hS dX10_fine_10
theorem c_X10_fine (l : Launch) (D : va_G) (cy : Nat → ClassId) (ad : Nat → Nat → Nat) (ha : Apart regsM ad) {post : Int32 → St → Prop} {σ : St} {x1 : Int32} (hw : w_X10_fine post σ x1) (sz : Nat) : MetI l yX10_fine cX10_fine 3 .int rm_X10_fine [.ref (ad 0 0), .int x1] D cy (cellM cy ad) regsM ad σ sz post :=
  Met_inI ok_X10_fine.2.2.2.2.2 (Nat.le_of_ble_eq_true rfl) (fun p e s m below meth c ls E hP hl => B_X10_fine_0 E ha hw hP va_S.rf hl)
-- RoofWarModel.feed(III)I
theorem dX10_feed_0 : decode cX10_feed 0 = .ok (.aload_n 0, 1) := by decide +kernel
theorem dX10_feed_1 : decode cX10_feed 1 = .ok (.getfield 233, 3) := by decide +kernel
theorem dX10_feed_4 : decode cX10_feed 4 = .ok (.bipush 12, 2) := by decide +kernel
theorem dX10_feed_6 : decode cX10_feed 6 = .ok (.iadd, 1) := by decide +kernel
theorem dX10_feed_7 : decode cX10_feed 7 = .ok (.bipush 96, 2) := by decide +kernel
theorem dX10_feed_9 : decode cX10_feed 9 = .ok (.if_icmp .le 6, 3) := by decide +kernel
theorem dX10_feed_12 : decode cX10_feed 12 = .ok (.ldc 102, 2) := by decide +kernel
theorem dX10_feed_14 : decode cX10_feed 14 = .ok (.ireturn, 1) := by decide +kernel
theorem dX10_feed_15 : decode cX10_feed 15 = .ok (.iconst 0, 1) := by decide +kernel
theorem dX10_feed_16 : decode cX10_feed 16 = .ok (.istore 4, 2) := by decide +kernel
theorem dX10_feed_18 : decode cX10_feed 18 = .ok (.iload 4, 2) := by decide +kernel
theorem dX10_feed_20 : decode cX10_feed 20 = .ok (.bipush 12, 2) := by decide +kernel
theorem dX10_feed_22 : decode cX10_feed 22 = .ok (.if_icmp .ge 69, 3) := by decide +kernel
theorem dX10_feed_25 : decode cX10_feed 25 = .ok (.iload 4, 2) := by decide +kernel
theorem dX10_feed_27 : decode cX10_feed 27 = .ok (.iconst 4, 1) := by decide +kernel
theorem dX10_feed_28 : decode cX10_feed 28 = .ok (.if_icmp .ge 7, 3) := by decide +kernel
theorem dX10_feed_31 : decode cX10_feed 31 = .ok (.iload_n 1, 1) := by decide +kernel
theorem dX10_feed_32 : decode cX10_feed 32 = .ok (.goto 15, 3) := by decide +kernel
theorem dX10_feed_35 : decode cX10_feed 35 = .ok (.iload 4, 2) := by decide +kernel
theorem dX10_feed_37 : decode cX10_feed 37 = .ok (.bipush 8, 2) := by decide +kernel
theorem dX10_feed_39 : decode cX10_feed 39 = .ok (.if_icmp .ge 7, 3) := by decide +kernel
theorem dX10_feed_42 : decode cX10_feed 42 = .ok (.iload_n 2, 1) := by decide +kernel
theorem dX10_feed_43 : decode cX10_feed 43 = .ok (.goto 4, 3) := by decide +kernel
theorem dX10_feed_46 : decode cX10_feed 46 = .ok (.iload_n 3, 1) := by decide +kernel
theorem dX10_feed_47 : decode cX10_feed 47 = .ok (.istore 5, 2) := by decide +kernel
theorem dX10_feed_49 : decode cX10_feed 49 = .ok (.aload_n 0, 1) := by decide +kernel
theorem dX10_feed_50 : decode cX10_feed 50 = .ok (.getfield 52, 3) := by decide +kernel
theorem dX10_feed_53 : decode cX10_feed 53 = .ok (.aload_n 0, 1) := by decide +kernel
theorem dX10_feed_54 : decode cX10_feed 54 = .ok (.getfield 233, 3) := by decide +kernel
theorem dX10_feed_57 : decode cX10_feed 57 = .ok (.iload 5, 2) := by decide +kernel
theorem dX10_feed_59 : decode cX10_feed 59 = .ok (.bipush 24, 2) := by decide +kernel
theorem dX10_feed_61 : decode cX10_feed 61 = .ok (.bipush 8, 2) := by decide +kernel
theorem dX10_feed_63 : decode cX10_feed 63 = .ok (.iload 4, 2) := by decide +kernel
theorem dX10_feed_65 : decode cX10_feed 65 = .ok (.iconst 4, 1) := by decide +kernel
theorem dX10_feed_66 : decode cX10_feed 66 = .ok (.irem, 1) := by decide +kernel
theorem dX10_feed_67 : decode cX10_feed 67 = .ok (.imul, 1) := by decide +kernel
theorem dX10_feed_68 : decode cX10_feed 68 = .ok (.isub, 1) := by decide +kernel
theorem dX10_feed_69 : decode cX10_feed 69 = .ok (.ishr, 1) := by decide +kernel
theorem dX10_feed_70 : decode cX10_feed 70 = .ok (.sipush 255, 3) := by decide +kernel
theorem dX10_feed_73 : decode cX10_feed 73 = .ok (.iand, 1) := by decide +kernel
theorem dX10_feed_74 : decode cX10_feed 74 = .ok (.iastore, 1) := by decide +kernel
theorem dX10_feed_75 : decode cX10_feed 75 = .ok (.aload_n 0, 1) := by decide +kernel
theorem dX10_feed_76 : decode cX10_feed 76 = .ok (.dup, 1) := by decide +kernel
theorem dX10_feed_77 : decode cX10_feed 77 = .ok (.getfield 233, 3) := by decide +kernel
theorem dX10_feed_80 : decode cX10_feed 80 = .ok (.iconst 1, 1) := by decide +kernel
theorem dX10_feed_81 : decode cX10_feed 81 = .ok (.iadd, 1) := by decide +kernel
theorem dX10_feed_82 : decode cX10_feed 82 = .ok (.putfield 233, 3) := by decide +kernel
theorem dX10_feed_85 : decode cX10_feed 85 = .ok (.iinc 4 1, 3) := by decide +kernel
theorem dX10_feed_88 : decode cX10_feed 88 = .ok (.goto (-70), 3) := by decide +kernel
theorem dX10_feed_91 : decode cX10_feed 91 = .ok (.aload_n 0, 1) := by decide +kernel
theorem dX10_feed_92 : decode cX10_feed 92 = .ok (.getfield 233, 3) := by decide +kernel
theorem dX10_feed_95 : decode cX10_feed 95 = .ok (.ireturn, 1) := by decide +kernel
theorem ok_X10_feed : okV yX10_feed cX10_feed 6 (some .int) 3 := ⟨mw_1285, mw_1286, mw_83, mw_1287, by decide +kernel, by decide +kernel⟩
abbrev rm_X10_feed : Room := { frames := 0, cells := 0, slots := 0, locals := 0 }
def b_X10_feed_47 (K18 : St → Int32 → Int32 → Int32 → Int32 → Prop) (post : Int32 → St → Prop) (σ : St) (y0 : Int32) (x1 : Int32) (x2 : Int32) (x3 : Int32) (x4 : Int32) : Prop := ¬ (4 : Int32) = 0 ∧ (∀ v2 : Int32, v2 = jrem x4 4 → (vp_in (σ 0 0 2) 96 ∧ (∀ s4 : St, s4 = wr σ 15 0 (σ 0 0 2).toNatClampNeg ((y0 >>> ((24 - (8 * v2)) &&& 31)) &&& 255) → (∀ s5 : St, s5 = wr s4 0 0 2 ((s4 0 0 2) + 1) → (∀ v6 : Int32, v6 = x4 + 1 → (K18 s5 x1 x2 x3 v6))))))
theorem B_X10_feed_47 (E : EnvW p s m args meth c D cy regsM ad "RoofWarModel" cX10_feed 6 (some .int)) (ha : Apart regsM ad) {post : Int32 → St → Prop} {K18 : St → Int32 → Int32 → Int32 → Int32 → Prop} (hk18 : ∀ (σ : St) (x1 : Int32) (x2 : Int32) (x3 : Int32) (x4 : Int32), K18 σ x1 x2 x3 x4 → ∀ (H : Heap) (locs : List Loc) (ls : Array Slot), va_P D CLS (wM cy ad σ) H → va_S (AM ad s.heap.size) s.heap H locs → lv_has ls 6 [(0, .ref (ad 0 0)), (1, .int x1), (2, .int x2), (3, .int x3), (4, .int x4)] → W p l e rm_X10_feed s m args below meth c H locs 0 0 (MQ below (QI D cy (cellM cy ad) regsM ad s.heap.size post) args s 0 0 (AM ad s.heap.size)) (F0 m 18 ls [])) {σ : St} {y0 : Int32} {x1 : Int32} {x2 : Int32} {x3 : Int32} {x4 : Int32} (hw : b_X10_feed_47 K18 post σ y0 x1 x2 x3 x4) {H : Heap} {locs : List Loc} {ls : Array Slot} (hP : va_P D CLS (wM cy ad σ) H) (hS : va_S (AM ad s.heap.size) s.heap H locs) (hl : lv_has ls 6 [(0, .ref (ad 0 0)), (1, .int x1), (2, .int x2), (3, .int x3), (4, .int x4)]) : W p l e rm_X10_feed s m args below meth c H locs 0 0 (MQ below (QI D cy (cellM cy ad) regsM ad s.heap.size post) args s 0 0 (AM ad s.heap.size)) (F0 m 47 ls [.int y0]) := by
  obtain ⟨hx, hb, -⟩ := id E
  unfold b_X10_feed_47 at hw
  refine lv_istore (lv' := [(5, .int y0), (0, .ref (ad 0 0)), (1, .int x1), (2, .int x2), (3, .int x3), (4, .int x4)]) hx hb dX10_feed_47 hl (by decide) rfl (fun ls hl => ?_)
  refine lv_aload_n hx hb dX10_feed_49 rfl (lv_at hl 1 rfl) ?_
  refine fX10_16 E hP mw_962 dX10_feed_50 ?_
  refine lv_aload_n hx hb dX10_feed_53 rfl (lv_at hl 1 rfl) ?_
  refine fX10_17 E hP mw_963 dX10_feed_54 ?_
  refine lv_iload hx hb dX10_feed_57 (lv_at hl 0 rfl) ?_
  refine lv_bipush (v := 24) hx hb dX10_feed_59 (by decide) ?_
  refine lv_bipush (v := 8) hx hb dX10_feed_61 (by decide) ?_
  refine lv_iload hx hb dX10_feed_63 (lv_at hl 5 rfl) ?_
  refine lv_iconst (v := 4) hx hb dX10_feed_65 (by decide) ?_
  obtain ⟨h1, hw⟩ := hw
  refine lv_irem hx hb dX10_feed_66 h1 ?_
  refine lv_topi (fun v2 ev2 => ?_)
  replace hw := hw v2 ev2
  refine lv_imul hx hb dX10_feed_67 ?_
  refine lv_isub hx hb dX10_feed_68 ?_
  refine lv_ishr hx hb dX10_feed_69 ?_
  refine lv_sipush (v := 255) hx hb dX10_feed_70 (by decide) ?_
  refine lv_iand hx hb dX10_feed_73 ?_
  obtain ⟨h3, hw⟩ := hw
  refine tM15 E ha h3 dX10_feed_74 hP hS (fun s4 es4 H locs hP hS => ?_)
  replace hw := hw s4 es4
  refine lv_aload_n hx hb dX10_feed_75 rfl (lv_at hl 1 rfl) ?_
  refine lv_dup hx hb dX10_feed_76 rfl ?_
  refine fX10_17 E hP mw_963 dX10_feed_77 ?_
  refine lv_iconst (v := 1) hx hb dX10_feed_80 (by decide) ?_
  refine lv_iadd hx hb dX10_feed_81 ?_
  refine uX10_17 E ha mw_963 dX10_feed_82 hP hS (fun s5 es5 H locs hP hS => ?_)
  replace hw := hw s5 es5
  obtain ⟨v6, ev6⟩ : ∃ y : Int32, y = x4 + 1 := ⟨_, rfl⟩
  replace hw := hw v6 ev6
  refine lv_iinc (v := v6) (lv' := [(4, .int v6), (5, .int y0), (0, .ref (ad 0 0)), (1, .int x1), (2, .int x2), (3, .int x3)]) hx hb dX10_feed_85 hl (k := 5) rfl (by rw [ev6]; rfl) (by decide) rfl (fun ls hl => ?_)
  refine lv_goto (tgt := 18) hx hb dX10_feed_88 (by decide) ?_
  exact hk18 s5 x1 x2 x3 v6 hw _ _ _ hP hS (lv_sub hl [2, 3, 4, 5, 0] rfl)
def b_X10_feed_18 (K18 : St → Int32 → Int32 → Int32 → Int32 → Prop) (post : Int32 → St → Prop) (σ : St) (x1 : Int32) (x2 : Int32) (x3 : Int32) (x4 : Int32) : Prop := ((12 ≤ x4 → (post (σ 0 0 2) σ)) ∧ (¬ 12 ≤ x4 → (((4 ≤ x4 → (((8 ≤ x4 → (b_X10_feed_47 K18 post σ x3 x1 x2 x3 x4)) ∧ (¬ 8 ≤ x4 → (b_X10_feed_47 K18 post σ x2 x1 x2 x3 x4))))) ∧ (¬ 4 ≤ x4 → (b_X10_feed_47 K18 post σ x1 x1 x2 x3 x4))))))
noncomputable def l_X10_feed_18 (post : Int32 → St → Prop) : Nat → St → Int32 → Int32 → Int32 → Int32 → Prop := fun n => Nat.rec (motive := fun _ => St → Int32 → Int32 → Int32 → Int32 → Prop) (fun _ _ _ _ _ => False) (fun _ ih => b_X10_feed_18 ih post) n
theorem L_X10_feed_18 (E : EnvW p s m args meth c D cy regsM ad "RoofWarModel" cX10_feed 6 (some .int)) (ha : Apart regsM ad) {post : Int32 → St → Prop} : ∀ (n : Nat), ∀ (σ : St) (x1 : Int32) (x2 : Int32) (x3 : Int32) (x4 : Int32), l_X10_feed_18 post n σ x1 x2 x3 x4 → ∀ (H : Heap) (locs : List Loc) (ls : Array Slot), va_P D CLS (wM cy ad σ) H → va_S (AM ad s.heap.size) s.heap H locs → lv_has ls 6 [(0, .ref (ad 0 0)), (1, .int x1), (2, .int x2), (3, .int x3), (4, .int x4)] → W p l e rm_X10_feed s m args below meth c H locs 0 0 (MQ below (QI D cy (cellM cy ad) regsM ad s.heap.size post) args s 0 0 (AM ad s.heap.size)) (F0 m 18 ls []) := by
  obtain ⟨hx, hb, -⟩ := id E
  intro n
  induction n with
  | zero => intro σ x1 x2 x3 x4 hw; exact hw.elim
  | succ n hk18 =>
    intro σ x1 x2 x3 x4 hw H locs ls hP hS hl
    replace hw : b_X10_feed_18 (l_X10_feed_18 post n) post σ x1 x2 x3 x4 := hw
    unfold b_X10_feed_18 at hw
    refine lv_iload hx hb dX10_feed_18 (lv_at hl 4 rfl) ?_
    refine lv_bipush (v := 12) hx hb dX10_feed_20 (by decide) ?_
    refine lv_icmp_ge (tgt := 91) hx hb dX10_feed_22 (by decide) (fun c1 => ?_) (fun c1 => ?_)
    · replace hw := hw.1 c1
      refine lv_aload_n hx hb dX10_feed_91 rfl (lv_at hl 0 rfl) ?_
      refine fX10_17 E hP mw_963 dX10_feed_92 ?_
      exact g_iret E hw hP hS dX10_feed_95
    · replace hw := hw.2 c1
      refine lv_iload hx hb dX10_feed_25 (lv_at hl 4 rfl) ?_
      refine lv_iconst (v := 4) hx hb dX10_feed_27 (by decide) ?_
      refine lv_icmp_ge (tgt := 35) hx hb dX10_feed_28 (by decide) (fun c2 => ?_) (fun c2 => ?_)
      · replace hw := hw.1 c2
        refine lv_iload hx hb dX10_feed_35 (lv_at hl 4 rfl) ?_
        refine lv_bipush (v := 8) hx hb dX10_feed_37 (by decide) ?_
        refine lv_icmp_ge (tgt := 46) hx hb dX10_feed_39 (by decide) (fun c3 => ?_) (fun c3 => ?_)
        · replace hw := hw.1 c3
          refine lv_iload_n hx hb dX10_feed_46 rfl (lv_at hl 3 rfl) ?_
          exact B_X10_feed_47 E ha hk18 hw hP hS (lv_sub hl [0, 1, 2, 3, 4] rfl)
        · replace hw := hw.2 c3
          refine lv_iload_n hx hb dX10_feed_42 rfl (lv_at hl 2 rfl) ?_
          refine lv_goto (tgt := 47) hx hb dX10_feed_43 (by decide) ?_
          exact B_X10_feed_47 E ha hk18 hw hP hS (lv_sub hl [0, 1, 2, 3, 4] rfl)
      · replace hw := hw.2 c2
        refine lv_iload_n hx hb dX10_feed_31 rfl (lv_at hl 1 rfl) ?_
        refine lv_goto (tgt := 47) hx hb dX10_feed_32 (by decide) ?_
        exact B_X10_feed_47 E ha hk18 hw hP hS (lv_sub hl [0, 1, 2, 3, 4] rfl)
def w_X10_feed (post : Int32 → St → Prop) (σ : St) (x1 : Int32) (x2 : Int32) (x3 : Int32) : Prop := ((((σ 0 0 2) + 12) ≤ 96 → (∃ n2 : Nat, l_X10_feed_18 post n2 σ x1 x2 x3 (0 : Int32))) ∧ (¬ ((σ 0 0 2) + 12) ≤ 96 → (post ((-1000000003)) σ)))
theorem B_X10_feed_0 (E : EnvW p s m args meth c D cy regsM ad "RoofWarModel" cX10_feed 6 (some .int)) (ha : Apart regsM ad) {post : Int32 → St → Prop} {σ : St} {x1 : Int32} {x2 : Int32} {x3 : Int32} (hw : w_X10_feed post σ x1 x2 x3) {H : Heap} {locs : List Loc} {ls : Array Slot} (hP : va_P D CLS (wM cy ad σ) H) (hS : va_S (AM ad s.heap.size) s.heap H locs) (hl : lv_has ls 6 [(0, .ref (ad 0 0)), (1, .int x1), (2, .int x2), (3, .int x3)]) : W p l e rm_X10_feed s m args below meth c H locs 0 0 (MQ below (QI D cy (cellM cy ad) regsM ad s.heap.size post) args s 0 0 (AM ad s.heap.size)) (F0 m 0 ls []) := by
  obtain ⟨hx, hb, -⟩ := id E
  unfold w_X10_feed at hw
  refine lv_aload_n hx hb dX10_feed_0 rfl (lv_at hl 0 rfl) ?_
  refine fX10_17 E hP mw_963 dX10_feed_1 ?_
  refine lv_bipush (v := 12) hx hb dX10_feed_4 (by decide) ?_
  refine lv_iadd hx hb dX10_feed_6 ?_
  refine lv_bipush (v := 96) hx hb dX10_feed_7 (by decide) ?_
  refine lv_icmp_le (tgt := 15) hx hb dX10_feed_9 (by decide) (fun c1 => ?_) (fun c1 => ?_)
  · replace hw := hw.1 c1
    refine lv_iconst (v := 0) hx hb dX10_feed_15 (by decide) ?_
    refine lv_istore (lv' := [(4, .int 0), (0, .ref (ad 0 0)), (1, .int x1), (2, .int x2), (3, .int x3)]) hx hb dX10_feed_16 hl (by decide) rfl (fun ls hl => ?_)
    obtain ⟨n2, hw⟩ := hw
    exact L_X10_feed_18 E ha n2 σ x1 x2 x3 (0 : Int32) hw _ _ _ hP hS (lv_sub hl [1, 2, 3, 4, 0] rfl)
  · replace hw := hw.2 c1
    refine g_ldc (v := -1000000003) E mw_1071 dX10_feed_12 ?_
    exact g_iret E hw hP hS dX10_feed_14
theorem c_X10_feed (l : Launch) (D : va_G) (cy : Nat → ClassId) (ad : Nat → Nat → Nat) (ha : Apart regsM ad) {post : Int32 → St → Prop} {σ : St} {x1 : Int32} {x2 : Int32} {x3 : Int32} (hw : w_X10_feed post σ x1 x2 x3) (sz : Nat) : MetI l yX10_feed cX10_feed 6 .int rm_X10_feed [.ref (ad 0 0), .int x1, .int x2, .int x3] D cy (cellM cy ad) regsM ad σ sz post :=
  Met_inI ok_X10_feed.2.2.2.2.2 (Nat.le_of_ble_eq_true rfl) (fun p e s m below meth c ls E hP hl => B_X10_feed_0 E ha hw hP va_S.rf hl)
-- RoofWarModel.trim(I)I
theorem dX10_trim_0 : decode cX10_trim 0 = .ok (.iload_n 1, 1) := by decide +kernel
theorem dX10_trim_1 : decode cX10_trim 1 = .ok (.i2l, 1) := by decide +kernel
theorem dX10_trim_2 : decode cX10_trim 2 = .ok (.lconst 0, 1) := by decide +kernel
theorem dX10_trim_3 : decode cX10_trim 3 = .ok (.aload_n 0, 1) := by decide +kernel
theorem dX10_trim_4 : decode cX10_trim 4 = .ok (.getfield 233, 3) := by decide +kernel
theorem dX10_trim_7 : decode cX10_trim 7 = .ok (.i2l, 1) := by decide +kernel
theorem dX10_trim_8 : decode cX10_trim 8 = .ok (.invokestatic 71, 3) := by decide +kernel
theorem dX10_trim_11 : decode cX10_trim 11 = .ok (.ifCond .ne 6, 3) := by decide +kernel
theorem dX10_trim_14 : decode cX10_trim 14 = .ok (.ldc 96, 2) := by decide +kernel
theorem dX10_trim_16 : decode cX10_trim 16 = .ok (.ireturn, 1) := by decide +kernel
theorem dX10_trim_17 : decode cX10_trim 17 = .ok (.aload_n 0, 1) := by decide +kernel
theorem dX10_trim_18 : decode cX10_trim 18 = .ok (.iload_n 1, 1) := by decide +kernel
theorem dX10_trim_19 : decode cX10_trim 19 = .ok (.putfield 233, 3) := by decide +kernel
theorem dX10_trim_22 : decode cX10_trim 22 = .ok (.iload_n 1, 1) := by decide +kernel
theorem dX10_trim_23 : decode cX10_trim 23 = .ok (.ireturn, 1) := by decide +kernel
theorem ok_X10_trim : okV yX10_trim cX10_trim 2 (some .int) 1 := ⟨mw_1289, mw_1290, mw_83, mw_1291, by decide +kernel, by decide +kernel⟩
abbrev rm_X10_trim : Room := { frames := 1, cells := 0, slots := 0, locals := 25 }
def w_X10_trim (post : Int32 → St → Prop) (σ : St) (x1 : Int32) : Prop := w_X10_isIn (fun r1 s1 => ((¬ r1 = 0 → (∀ s3 : St, s3 = wr s1 0 0 2 x1 → (post x1 s3))) ∧ (r1 = 0 → (post ((-1000000001)) s1)))) σ x1.toInt64 ((0 : Int64)) ((σ 0 0 2).toInt64)
theorem B_X10_trim_0 (E : EnvW p s m args meth c D cy regsM ad "RoofWarModel" cX10_trim 2 (some .int)) (ha : Apart regsM ad) {post : Int32 → St → Prop} {σ : St} {x1 : Int32} (hw : w_X10_trim post σ x1) {H : Heap} {locs : List Loc} {ls : Array Slot} (hP : va_P D CLS (wM cy ad σ) H) (hS : va_S (AM ad s.heap.size) s.heap H locs) (hl : lv_has ls 2 [(0, .ref (ad 0 0)), (1, .int x1)]) : W p l e rm_X10_trim s m args below meth c H locs 0 0 (MQ below (QI D cy (cellM cy ad) regsM ad s.heap.size post) args s 0 0 (AM ad s.heap.size)) (F0 m 0 ls []) := by
  obtain ⟨hx, hb, -⟩ := id E
  unfold w_X10_trim at hw
  refine lv_iload_n hx hb dX10_trim_0 rfl (lv_at hl 1 rfl) ?_
  refine lv_i2l (v := x1.toInt64) hx hb dX10_trim_1 rfl ?_
  refine lv_lconst (v := 0) hx hb dX10_trim_2 (by decide) ?_
  refine lv_aload_n hx hb dX10_trim_3 rfl (lv_at hl 0 rfl) ?_
  refine fX10_17 E hP mw_963 dX10_trim_4 ?_
  refine lv_i2l (v := (σ 0 0 2).toInt64) hx hb dX10_trim_7 rfl ?_
  refine g_cSi (As := [.long x1.toInt64, .long ((0 : Int64)), .long ((σ 0 0 2).toInt64)]) (rest := []) E hl.1 (c_X10_isIn l D cy ad ha hw _) ok_X10_isIn mw_1054 ⟨(Nat.le_of_ble_eq_true rfl), (Nat.le_of_ble_eq_true rfl)⟩ ⟨rfl, rfl⟩ rfl rfl (Nat.le_of_ble_eq_true rfl) ⟨Nat.zero_le _, Nat.zero_le _⟩ hP hS dX10_trim_8 (fun r1 s1 hw H locs hP hS => ?_)
  obtain ⟨z1, hw⟩ := hw
  refine lv_if_ne (tgt := 17) hx hb dX10_trim_11 (by decide) (fun c2 => ?_) (fun c2 => ?_)
  · replace hw := hw.1 c2
    refine lv_aload_n hx hb dX10_trim_17 rfl (lv_at hl 0 rfl) ?_
    refine lv_iload_n hx hb dX10_trim_18 rfl (lv_at hl 1 rfl) ?_
    refine uX10_17 E ha mw_963 dX10_trim_19 hP hS (fun s3 es3 H locs hP hS => ?_)
    replace hw := hw s3 es3
    refine lv_iload_n hx hb dX10_trim_22 rfl (lv_at hl 1 rfl) ?_
    exact g_iret E hw hP hS dX10_trim_23
  · replace hw := hw.2 c2
    refine g_ldc (v := -1000000001) E mw_1063 dX10_trim_14 ?_
    exact g_iret E hw hP hS dX10_trim_16
theorem c_X10_trim (l : Launch) (D : va_G) (cy : Nat → ClassId) (ad : Nat → Nat → Nat) (ha : Apart regsM ad) {post : Int32 → St → Prop} {σ : St} {x1 : Int32} (hw : w_X10_trim post σ x1) (sz : Nat) : MetI l yX10_trim cX10_trim 2 .int rm_X10_trim [.ref (ad 0 0), .int x1] D cy (cellM cy ad) regsM ad σ sz post :=
  Met_inI ok_X10_trim.2.2.2.2.2 (Nat.le_of_ble_eq_true rfl) (fun p e s m below meth c ls E hP hl => B_X10_trim_0 E ha hw hP va_S.rf hl)
-- RoofWarModel.isLetter(I)Z
theorem dX10_isLetter_0 : decode cX10_isLetter 0 = .ok (.iload_n 1, 1) := by decide +kernel
theorem dX10_isLetter_1 : decode cX10_isLetter 1 = .ok (.aload_n 0, 1) := by decide +kernel
theorem dX10_isLetter_2 : decode cX10_isLetter 2 = .ok (.getfield 233, 3) := by decide +kernel
theorem dX10_isLetter_5 : decode cX10_isLetter 5 = .ok (.if_icmp .ge 26, 3) := by decide +kernel
theorem dX10_isLetter_8 : decode cX10_isLetter 8 = .ok (.aload_n 0, 1) := by decide +kernel
theorem dX10_isLetter_9 : decode cX10_isLetter 9 = .ok (.getfield 52, 3) := by decide +kernel
theorem dX10_isLetter_12 : decode cX10_isLetter 12 = .ok (.iload_n 1, 1) := by decide +kernel
theorem dX10_isLetter_13 : decode cX10_isLetter 13 = .ok (.iaload, 1) := by decide +kernel
theorem dX10_isLetter_14 : decode cX10_isLetter 14 = .ok (.i2l, 1) := by decide +kernel
theorem dX10_isLetter_15 : decode cX10_isLetter 15 = .ok (.ldc2_w 236, 3) := by decide +kernel
theorem dX10_isLetter_18 : decode cX10_isLetter 18 = .ok (.ldc2_w 238, 3) := by decide +kernel
theorem dX10_isLetter_21 : decode cX10_isLetter 21 = .ok (.invokestatic 71, 3) := by decide +kernel
theorem dX10_isLetter_24 : decode cX10_isLetter 24 = .ok (.ifCond .eq 7, 3) := by decide +kernel
theorem dX10_isLetter_27 : decode cX10_isLetter 27 = .ok (.iconst 1, 1) := by decide +kernel
theorem dX10_isLetter_28 : decode cX10_isLetter 28 = .ok (.goto 4, 3) := by decide +kernel
theorem dX10_isLetter_31 : decode cX10_isLetter 31 = .ok (.iconst 0, 1) := by decide +kernel
theorem dX10_isLetter_32 : decode cX10_isLetter 32 = .ok (.ireturn, 1) := by decide +kernel
theorem ok_X10_isLetter : okV yX10_isLetter cX10_isLetter 2 (some .boolean) 1 := ⟨mw_1303, mw_57, mw_83, mw_1304, by decide +kernel, by decide +kernel⟩
abbrev rm_X10_isLetter : Room := { frames := 1, cells := 0, slots := 0, locals := 25 }
def w_X10_isLetter (post : Int32 → St → Prop) (σ : St) (x1 : Int32) : Prop := (((σ 0 0 2) ≤ x1 → (post 0 σ)) ∧ (¬ (σ 0 0 2) ≤ x1 → (vp_in x1 96 ∧ (w_X10_isIn (fun r3 s3 => ((r3 = 0 → (post 0 s3)) ∧ (¬ r3 = 0 → (post 1 s3)))) σ ((σ 15 0 x1.toNatClampNeg).toInt64) ((97 : Int64)) ((122 : Int64))))))
theorem B_X10_isLetter_0 (E : EnvW p s m args meth c D cy regsM ad "RoofWarModel" cX10_isLetter 2 (some .boolean)) (ha : Apart regsM ad) {post : Int32 → St → Prop} {σ : St} {x1 : Int32} (hw : w_X10_isLetter post σ x1) {H : Heap} {locs : List Loc} {ls : Array Slot} (hP : va_P D CLS (wM cy ad σ) H) (hS : va_S (AM ad s.heap.size) s.heap H locs) (hl : lv_has ls 2 [(0, .ref (ad 0 0)), (1, .int x1)]) : W p l e rm_X10_isLetter s m args below meth c H locs 0 0 (MQ below (QI D cy (cellM cy ad) regsM ad s.heap.size (fun r u => (r = 0 ∨ r = 1) ∧ post r u)) args s 0 0 (AM ad s.heap.size)) (F0 m 0 ls []) := by
  obtain ⟨hx, hb, -⟩ := id E
  unfold w_X10_isLetter at hw
  refine lv_iload_n hx hb dX10_isLetter_0 rfl (lv_at hl 1 rfl) ?_
  refine lv_aload_n hx hb dX10_isLetter_1 rfl (lv_at hl 0 rfl) ?_
  refine fX10_17 E hP mw_963 dX10_isLetter_2 ?_
  refine lv_icmp_ge (tgt := 31) hx hb dX10_isLetter_5 (by decide) (fun c1 => ?_) (fun c1 => ?_)
  · replace hw := hw.1 c1
    refine lv_iconst (v := 0) hx hb dX10_isLetter_31 (by decide) ?_
    exact g_zret E (Or.inl rfl) hw hP hS dX10_isLetter_32
  · replace hw := hw.2 c1
    refine lv_aload_n hx hb dX10_isLetter_8 rfl (lv_at hl 0 rfl) ?_
    refine fX10_16 E hP mw_962 dX10_isLetter_9 ?_
    refine lv_iload_n hx hb dX10_isLetter_12 rfl (lv_at hl 1 rfl) ?_
    obtain ⟨h2, hw⟩ := hw
    refine aM15 E hP h2 dX10_isLetter_13 ?_
    refine lv_i2l (v := (σ 15 0 x1.toNatClampNeg).toInt64) hx hb dX10_isLetter_14 rfl ?_
    refine g_ldc2 (v := 97) E mw_1305 dX10_isLetter_15 ?_
    refine g_ldc2 (v := 122) E mw_1306 dX10_isLetter_18 ?_
    refine g_cSi (As := [.long ((σ 15 0 x1.toNatClampNeg).toInt64), .long ((97 : Int64)), .long ((122 : Int64))]) (rest := []) E hl.1 (c_X10_isIn l D cy ad ha hw _) ok_X10_isIn mw_1054 ⟨(Nat.le_of_ble_eq_true rfl), (Nat.le_of_ble_eq_true rfl)⟩ ⟨rfl, rfl⟩ rfl rfl (Nat.le_of_ble_eq_true rfl) ⟨Nat.zero_le _, Nat.zero_le _⟩ hP hS dX10_isLetter_21 (fun r3 s3 hw H locs hP hS => ?_)
    obtain ⟨z3, hw⟩ := hw
    refine lv_if_eq (tgt := 31) hx hb dX10_isLetter_24 (by decide) (fun c4 => ?_) (fun c4 => ?_)
    · replace hw := hw.1 c4
      refine lv_iconst (v := 0) hx hb dX10_isLetter_31 (by decide) ?_
      exact g_zret E (Or.inl rfl) hw hP hS dX10_isLetter_32
    · replace hw := hw.2 c4
      refine lv_iconst (v := 1) hx hb dX10_isLetter_27 (by decide) ?_
      refine lv_goto (tgt := 32) hx hb dX10_isLetter_28 (by decide) ?_
      exact g_zret E (Or.inr rfl) hw hP hS dX10_isLetter_32
theorem c_X10_isLetter (l : Launch) (D : va_G) (cy : Nat → ClassId) (ad : Nat → Nat → Nat) (ha : Apart regsM ad) {post : Int32 → St → Prop} {σ : St} {x1 : Int32} (hw : w_X10_isLetter post σ x1) (sz : Nat) : MetI l yX10_isLetter cX10_isLetter 2 .boolean rm_X10_isLetter [.ref (ad 0 0), .int x1] D cy (cellM cy ad) regsM ad σ sz (fun r u => (r = 0 ∨ r = 1) ∧ post r u) :=
  Met_inI ok_X10_isLetter.2.2.2.2.2 (Nat.le_of_ble_eq_true rfl) (fun p e s m below meth c ls E hP hl => B_X10_isLetter_0 E ha hw hP va_S.rf hl)
-- RoofWarModel.isDigit(I)Z
theorem dX10_isDigit_0 : decode cX10_isDigit 0 = .ok (.iload_n 1, 1) := by decide +kernel
theorem dX10_isDigit_1 : decode cX10_isDigit 1 = .ok (.aload_n 0, 1) := by decide +kernel
theorem dX10_isDigit_2 : decode cX10_isDigit 2 = .ok (.getfield 233, 3) := by decide +kernel
theorem dX10_isDigit_5 : decode cX10_isDigit 5 = .ok (.if_icmp .ge 26, 3) := by decide +kernel
theorem dX10_isDigit_8 : decode cX10_isDigit 8 = .ok (.aload_n 0, 1) := by decide +kernel
theorem dX10_isDigit_9 : decode cX10_isDigit 9 = .ok (.getfield 52, 3) := by decide +kernel
theorem dX10_isDigit_12 : decode cX10_isDigit 12 = .ok (.iload_n 1, 1) := by decide +kernel
theorem dX10_isDigit_13 : decode cX10_isDigit 13 = .ok (.iaload, 1) := by decide +kernel
theorem dX10_isDigit_14 : decode cX10_isDigit 14 = .ok (.i2l, 1) := by decide +kernel
theorem dX10_isDigit_15 : decode cX10_isDigit 15 = .ok (.ldc2_w 240, 3) := by decide +kernel
theorem dX10_isDigit_18 : decode cX10_isDigit 18 = .ok (.ldc2_w 242, 3) := by decide +kernel
theorem dX10_isDigit_21 : decode cX10_isDigit 21 = .ok (.invokestatic 71, 3) := by decide +kernel
theorem dX10_isDigit_24 : decode cX10_isDigit 24 = .ok (.ifCond .eq 7, 3) := by decide +kernel
theorem dX10_isDigit_27 : decode cX10_isDigit 27 = .ok (.iconst 1, 1) := by decide +kernel
theorem dX10_isDigit_28 : decode cX10_isDigit 28 = .ok (.goto 4, 3) := by decide +kernel
theorem dX10_isDigit_31 : decode cX10_isDigit 31 = .ok (.iconst 0, 1) := by decide +kernel
theorem dX10_isDigit_32 : decode cX10_isDigit 32 = .ok (.ireturn, 1) := by decide +kernel
theorem ok_X10_isDigit : okV yX10_isDigit cX10_isDigit 2 (some .boolean) 1 := ⟨mw_1308, mw_58, mw_83, mw_1309, by decide +kernel, by decide +kernel⟩
abbrev rm_X10_isDigit : Room := { frames := 1, cells := 0, slots := 0, locals := 25 }
def w_X10_isDigit (post : Int32 → St → Prop) (σ : St) (x1 : Int32) : Prop := (((σ 0 0 2) ≤ x1 → (post 0 σ)) ∧ (¬ (σ 0 0 2) ≤ x1 → (vp_in x1 96 ∧ (w_X10_isIn (fun r3 s3 => ((r3 = 0 → (post 0 s3)) ∧ (¬ r3 = 0 → (post 1 s3)))) σ ((σ 15 0 x1.toNatClampNeg).toInt64) ((48 : Int64)) ((57 : Int64))))))
theorem B_X10_isDigit_0 (E : EnvW p s m args meth c D cy regsM ad "RoofWarModel" cX10_isDigit 2 (some .boolean)) (ha : Apart regsM ad) {post : Int32 → St → Prop} {σ : St} {x1 : Int32} (hw : w_X10_isDigit post σ x1) {H : Heap} {locs : List Loc} {ls : Array Slot} (hP : va_P D CLS (wM cy ad σ) H) (hS : va_S (AM ad s.heap.size) s.heap H locs) (hl : lv_has ls 2 [(0, .ref (ad 0 0)), (1, .int x1)]) : W p l e rm_X10_isDigit s m args below meth c H locs 0 0 (MQ below (QI D cy (cellM cy ad) regsM ad s.heap.size (fun r u => (r = 0 ∨ r = 1) ∧ post r u)) args s 0 0 (AM ad s.heap.size)) (F0 m 0 ls []) := by
  obtain ⟨hx, hb, -⟩ := id E
  unfold w_X10_isDigit at hw
  refine lv_iload_n hx hb dX10_isDigit_0 rfl (lv_at hl 1 rfl) ?_
  refine lv_aload_n hx hb dX10_isDigit_1 rfl (lv_at hl 0 rfl) ?_
  refine fX10_17 E hP mw_963 dX10_isDigit_2 ?_
  refine lv_icmp_ge (tgt := 31) hx hb dX10_isDigit_5 (by decide) (fun c1 => ?_) (fun c1 => ?_)
  · replace hw := hw.1 c1
    refine lv_iconst (v := 0) hx hb dX10_isDigit_31 (by decide) ?_
    exact g_zret E (Or.inl rfl) hw hP hS dX10_isDigit_32
  · replace hw := hw.2 c1
    refine lv_aload_n hx hb dX10_isDigit_8 rfl (lv_at hl 0 rfl) ?_
    refine fX10_16 E hP mw_962 dX10_isDigit_9 ?_
    refine lv_iload_n hx hb dX10_isDigit_12 rfl (lv_at hl 1 rfl) ?_
    obtain ⟨h2, hw⟩ := hw
    refine aM15 E hP h2 dX10_isDigit_13 ?_
    refine lv_i2l (v := (σ 15 0 x1.toNatClampNeg).toInt64) hx hb dX10_isDigit_14 rfl ?_
    refine g_ldc2 (v := 48) E mw_1310 dX10_isDigit_15 ?_
    refine g_ldc2 (v := 57) E mw_1311 dX10_isDigit_18 ?_
    refine g_cSi (As := [.long ((σ 15 0 x1.toNatClampNeg).toInt64), .long ((48 : Int64)), .long ((57 : Int64))]) (rest := []) E hl.1 (c_X10_isIn l D cy ad ha hw _) ok_X10_isIn mw_1054 ⟨(Nat.le_of_ble_eq_true rfl), (Nat.le_of_ble_eq_true rfl)⟩ ⟨rfl, rfl⟩ rfl rfl (Nat.le_of_ble_eq_true rfl) ⟨Nat.zero_le _, Nat.zero_le _⟩ hP hS dX10_isDigit_21 (fun r3 s3 hw H locs hP hS => ?_)
    obtain ⟨z3, hw⟩ := hw
    refine lv_if_eq (tgt := 31) hx hb dX10_isDigit_24 (by decide) (fun c4 => ?_) (fun c4 => ?_)
    · replace hw := hw.1 c4
      refine lv_iconst (v := 0) hx hb dX10_isDigit_31 (by decide) ?_
      exact g_zret E (Or.inl rfl) hw hP hS dX10_isDigit_32
    · replace hw := hw.2 c4
      refine lv_iconst (v := 1) hx hb dX10_isDigit_27 (by decide) ?_
      refine lv_goto (tgt := 32) hx hb dX10_isDigit_28 (by decide) ?_
      exact g_zret E (Or.inr rfl) hw hP hS dX10_isDigit_32
theorem c_X10_isDigit (l : Launch) (D : va_G) (cy : Nat → ClassId) (ad : Nat → Nat → Nat) (ha : Apart regsM ad) {post : Int32 → St → Prop} {σ : St} {x1 : Int32} (hw : w_X10_isDigit post σ x1) (sz : Nat) : MetI l yX10_isDigit cX10_isDigit 2 .boolean rm_X10_isDigit [.ref (ad 0 0), .int x1] D cy (cellM cy ad) regsM ad σ sz (fun r u => (r = 0 ∨ r = 1) ∧ post r u) :=
  Met_inI ok_X10_isDigit.2.2.2.2.2 (Nat.le_of_ble_eq_true rfl) (fun p e s m below meth c ls E hP hl => B_X10_isDigit_0 E ha hw hP va_S.rf hl)
-- RoofWarModel.nextToken()V
theorem dX10_nextToken_0 : decode cX10_nextToken 0 = .ok (.aload_n 0, 1) := by decide +kernel
theorem dX10_nextToken_1 : decode cX10_nextToken 1 = .ok (.getfield 244, 3) := by decide +kernel
theorem dX10_nextToken_4 : decode cX10_nextToken 4 = .ok (.ifCond .le 23, 3) := by decide +kernel
theorem dX10_nextToken_7 : decode cX10_nextToken 7 = .ok (.aload_n 0, 1) := by decide +kernel
theorem dX10_nextToken_8 : decode cX10_nextToken 8 = .ok (.getfield 247, 3) := by decide +kernel
theorem dX10_nextToken_11 : decode cX10_nextToken 11 = .ok (.iconst 1, 1) := by decide +kernel
theorem dX10_nextToken_12 : decode cX10_nextToken 12 = .ok (.if_icmp .eq 11, 3) := by decide +kernel
theorem dX10_nextToken_15 : decode cX10_nextToken 15 = .ok (.aload_n 0, 1) := by decide +kernel
theorem dX10_nextToken_16 : decode cX10_nextToken 16 = .ok (.getfield 247, 3) := by decide +kernel
theorem dX10_nextToken_19 : decode cX10_nextToken 19 = .ok (.iconst 2, 1) := by decide +kernel
theorem dX10_nextToken_20 : decode cX10_nextToken 20 = .ok (.if_icmp .ne 7, 3) := by decide +kernel
theorem dX10_nextToken_23 : decode cX10_nextToken 23 = .ok (.iconst 1, 1) := by decide +kernel
theorem dX10_nextToken_24 : decode cX10_nextToken 24 = .ok (.goto 4, 3) := by decide +kernel
theorem dX10_nextToken_27 : decode cX10_nextToken 27 = .ok (.iconst 0, 1) := by decide +kernel
theorem dX10_nextToken_28 : decode cX10_nextToken 28 = .ok (.istore_n 1, 1) := by decide +kernel
theorem dX10_nextToken_29 : decode cX10_nextToken 29 = .ok (.aload_n 0, 1) := by decide +kernel
theorem dX10_nextToken_30 : decode cX10_nextToken 30 = .ok (.getfield 244, 3) := by decide +kernel
theorem dX10_nextToken_33 : decode cX10_nextToken 33 = .ok (.istore_n 2, 1) := by decide +kernel
theorem dX10_nextToken_34 : decode cX10_nextToken 34 = .ok (.aload_n 0, 1) := by decide +kernel
theorem dX10_nextToken_35 : decode cX10_nextToken 35 = .ok (.getfield 244, 3) := by decide +kernel
theorem dX10_nextToken_38 : decode cX10_nextToken 38 = .ok (.aload_n 0, 1) := by decide +kernel
theorem dX10_nextToken_39 : decode cX10_nextToken 39 = .ok (.getfield 233, 3) := by decide +kernel
theorem dX10_nextToken_42 : decode cX10_nextToken 42 = .ok (.if_icmp .ge 30, 3) := by decide +kernel
theorem dX10_nextToken_45 : decode cX10_nextToken 45 = .ok (.aload_n 0, 1) := by decide +kernel
theorem dX10_nextToken_46 : decode cX10_nextToken 46 = .ok (.getfield 52, 3) := by decide +kernel
theorem dX10_nextToken_49 : decode cX10_nextToken 49 = .ok (.aload_n 0, 1) := by decide +kernel
theorem dX10_nextToken_50 : decode cX10_nextToken 50 = .ok (.getfield 244, 3) := by decide +kernel
theorem dX10_nextToken_53 : decode cX10_nextToken 53 = .ok (.iaload, 1) := by decide +kernel
theorem dX10_nextToken_54 : decode cX10_nextToken 54 = .ok (.bipush 32, 2) := by decide +kernel
theorem dX10_nextToken_56 : decode cX10_nextToken 56 = .ok (.if_icmp .ne 16, 3) := by decide +kernel
theorem dX10_nextToken_59 : decode cX10_nextToken 59 = .ok (.aload_n 0, 1) := by decide +kernel
theorem dX10_nextToken_60 : decode cX10_nextToken 60 = .ok (.dup, 1) := by decide +kernel
theorem dX10_nextToken_61 : decode cX10_nextToken 61 = .ok (.getfield 244, 3) := by decide +kernel
theorem dX10_nextToken_64 : decode cX10_nextToken 64 = .ok (.iconst 1, 1) := by decide +kernel
theorem dX10_nextToken_65 : decode cX10_nextToken 65 = .ok (.iadd, 1) := by decide +kernel
theorem dX10_nextToken_66 : decode cX10_nextToken 66 = .ok (.putfield 244, 3) := by decide +kernel
theorem dX10_nextToken_69 : decode cX10_nextToken 69 = .ok (.goto (-35), 3) := by decide +kernel
theorem dX10_nextToken_72 : decode cX10_nextToken 72 = .ok (.iload_n 1, 1) := by decide +kernel
theorem dX10_nextToken_73 : decode cX10_nextToken 73 = .ok (.ifCond .eq 15, 3) := by decide +kernel
theorem dX10_nextToken_76 : decode cX10_nextToken 76 = .ok (.iload_n 2, 1) := by decide +kernel
theorem dX10_nextToken_77 : decode cX10_nextToken 77 = .ok (.aload_n 0, 1) := by decide +kernel
theorem dX10_nextToken_78 : decode cX10_nextToken 78 = .ok (.getfield 244, 3) := by decide +kernel
theorem dX10_nextToken_81 : decode cX10_nextToken 81 = .ok (.if_icmp .ne 7, 3) := by decide +kernel
theorem dX10_nextToken_84 : decode cX10_nextToken 84 = .ok (.iconst 1, 1) := by decide +kernel
theorem dX10_nextToken_85 : decode cX10_nextToken 85 = .ok (.goto 4, 3) := by decide +kernel
theorem dX10_nextToken_88 : decode cX10_nextToken 88 = .ok (.iconst 0, 1) := by decide +kernel
theorem dX10_nextToken_89 : decode cX10_nextToken 89 = .ok (.istore_n 1, 1) := by decide +kernel
theorem dX10_nextToken_90 : decode cX10_nextToken 90 = .ok (.aload_n 0, 1) := by decide +kernel
theorem dX10_nextToken_91 : decode cX10_nextToken 91 = .ok (.aload_n 0, 1) := by decide +kernel
theorem dX10_nextToken_92 : decode cX10_nextToken 92 = .ok (.getfield 244, 3) := by decide +kernel
theorem dX10_nextToken_95 : decode cX10_nextToken 95 = .ok (.putfield 250, 3) := by decide +kernel
theorem dX10_nextToken_98 : decode cX10_nextToken 98 = .ok (.aload_n 0, 1) := by decide +kernel
theorem dX10_nextToken_99 : decode cX10_nextToken 99 = .ok (.getfield 250, 3) := by decide +kernel
theorem dX10_nextToken_102 : decode cX10_nextToken 102 = .ok (.aload_n 0, 1) := by decide +kernel
theorem dX10_nextToken_103 : decode cX10_nextToken 103 = .ok (.getfield 233, 3) := by decide +kernel
theorem dX10_nextToken_106 : decode cX10_nextToken 106 = .ok (.if_icmp .ne 11, 3) := by decide +kernel
theorem dX10_nextToken_109 : decode cX10_nextToken 109 = .ok (.aload_n 0, 1) := by decide +kernel
theorem dX10_nextToken_110 : decode cX10_nextToken 110 = .ok (.iconst 0, 1) := by decide +kernel
theorem dX10_nextToken_111 : decode cX10_nextToken 111 = .ok (.putfield 247, 3) := by decide +kernel
theorem dX10_nextToken_114 : decode cX10_nextToken 114 = .ok (.goto 225, 3) := by decide +kernel
theorem dX10_nextToken_117 : decode cX10_nextToken 117 = .ok (.aload_n 0, 1) := by decide +kernel
theorem dX10_nextToken_118 : decode cX10_nextToken 118 = .ok (.aload_n 0, 1) := by decide +kernel
theorem dX10_nextToken_119 : decode cX10_nextToken 119 = .ok (.getfield 250, 3) := by decide +kernel
theorem dX10_nextToken_122 : decode cX10_nextToken 122 = .ok (.invokevirtual 253, 3) := by decide +kernel
theorem dX10_nextToken_125 : decode cX10_nextToken 125 = .ok (.ifCond .eq 73, 3) := by decide +kernel
theorem dX10_nextToken_128 : decode cX10_nextToken 128 = .ok (.aload_n 0, 1) := by decide +kernel
theorem dX10_nextToken_129 : decode cX10_nextToken 129 = .ok (.aload_n 0, 1) := by decide +kernel
theorem dX10_nextToken_130 : decode cX10_nextToken 130 = .ok (.getfield 244, 3) := by decide +kernel
theorem dX10_nextToken_133 : decode cX10_nextToken 133 = .ok (.invokevirtual 253, 3) := by decide +kernel
theorem dX10_nextToken_136 : decode cX10_nextToken 136 = .ok (.ifCond .eq 16, 3) := by decide +kernel
theorem dX10_nextToken_139 : decode cX10_nextToken 139 = .ok (.aload_n 0, 1) := by decide +kernel
theorem dX10_nextToken_140 : decode cX10_nextToken 140 = .ok (.dup, 1) := by decide +kernel
theorem dX10_nextToken_141 : decode cX10_nextToken 141 = .ok (.getfield 244, 3) := by decide +kernel
theorem dX10_nextToken_144 : decode cX10_nextToken 144 = .ok (.iconst 1, 1) := by decide +kernel
theorem dX10_nextToken_145 : decode cX10_nextToken 145 = .ok (.iadd, 1) := by decide +kernel
theorem dX10_nextToken_146 : decode cX10_nextToken 146 = .ok (.putfield 244, 3) := by decide +kernel
theorem dX10_nextToken_149 : decode cX10_nextToken 149 = .ok (.goto (-21), 3) := by decide +kernel
theorem dX10_nextToken_152 : decode cX10_nextToken 152 = .ok (.aload_n 0, 1) := by decide +kernel
theorem dX10_nextToken_153 : decode cX10_nextToken 153 = .ok (.iload_n 1, 1) := by decide +kernel
theorem dX10_nextToken_154 : decode cX10_nextToken 154 = .ok (.ifCond .eq 7, 3) := by decide +kernel
theorem dX10_nextToken_157 : decode cX10_nextToken 157 = .ok (.iconst 4, 1) := by decide +kernel
theorem dX10_nextToken_158 : decode cX10_nextToken 158 = .ok (.goto 4, 3) := by decide +kernel
theorem dX10_nextToken_161 : decode cX10_nextToken 161 = .ok (.iconst 1, 1) := by decide +kernel
theorem dX10_nextToken_162 : decode cX10_nextToken 162 = .ok (.putfield 247, 3) := by decide +kernel
theorem dX10_nextToken_165 : decode cX10_nextToken 165 = .ok (.aload_n 0, 1) := by decide +kernel
theorem dX10_nextToken_166 : decode cX10_nextToken 166 = .ok (.aload_n 0, 1) := by decide +kernel
theorem dX10_nextToken_167 : decode cX10_nextToken 167 = .ok (.getfield 244, 3) := by decide +kernel
theorem dX10_nextToken_170 : decode cX10_nextToken 170 = .ok (.aload_n 0, 1) := by decide +kernel
theorem dX10_nextToken_171 : decode cX10_nextToken 171 = .ok (.getfield 250, 3) := by decide +kernel
theorem dX10_nextToken_174 : decode cX10_nextToken 174 = .ok (.isub, 1) := by decide +kernel
theorem dX10_nextToken_175 : decode cX10_nextToken 175 = .ok (.iconst 1, 1) := by decide +kernel
theorem dX10_nextToken_176 : decode cX10_nextToken 176 = .ok (.if_icmp .ne 15, 3) := by decide +kernel
theorem dX10_nextToken_179 : decode cX10_nextToken 179 = .ok (.aload_n 0, 1) := by decide +kernel
theorem dX10_nextToken_180 : decode cX10_nextToken 180 = .ok (.getfield 52, 3) := by decide +kernel
theorem dX10_nextToken_183 : decode cX10_nextToken 183 = .ok (.aload_n 0, 1) := by decide +kernel
theorem dX10_nextToken_184 : decode cX10_nextToken 184 = .ok (.getfield 250, 3) := by decide +kernel
theorem dX10_nextToken_187 : decode cX10_nextToken 187 = .ok (.iaload, 1) := by decide +kernel
theorem dX10_nextToken_188 : decode cX10_nextToken 188 = .ok (.goto 4, 3) := by decide +kernel
theorem dX10_nextToken_191 : decode cX10_nextToken 191 = .ok (.iconst 0, 1) := by decide +kernel
theorem dX10_nextToken_192 : decode cX10_nextToken 192 = .ok (.putfield 256, 3) := by decide +kernel
theorem dX10_nextToken_195 : decode cX10_nextToken 195 = .ok (.goto 144, 3) := by decide +kernel
theorem dX10_nextToken_198 : decode cX10_nextToken 198 = .ok (.aload_n 0, 1) := by decide +kernel
theorem dX10_nextToken_199 : decode cX10_nextToken 199 = .ok (.aload_n 0, 1) := by decide +kernel
theorem dX10_nextToken_200 : decode cX10_nextToken 200 = .ok (.getfield 250, 3) := by decide +kernel
theorem dX10_nextToken_203 : decode cX10_nextToken 203 = .ok (.invokevirtual 259, 3) := by decide +kernel
theorem dX10_nextToken_206 : decode cX10_nextToken 206 = .ok (.ifCond .eq 105, 3) := by decide +kernel
theorem dX10_nextToken_209 : decode cX10_nextToken 209 = .ok (.aload_n 0, 1) := by decide +kernel
theorem dX10_nextToken_210 : decode cX10_nextToken 210 = .ok (.iconst 0, 1) := by decide +kernel
theorem dX10_nextToken_211 : decode cX10_nextToken 211 = .ok (.putfield 262, 3) := by decide +kernel
theorem dX10_nextToken_214 : decode cX10_nextToken 214 = .ok (.aload_n 0, 1) := by decide +kernel
theorem dX10_nextToken_215 : decode cX10_nextToken 215 = .ok (.aload_n 0, 1) := by decide +kernel
theorem dX10_nextToken_216 : decode cX10_nextToken 216 = .ok (.getfield 244, 3) := by decide +kernel
theorem dX10_nextToken_219 : decode cX10_nextToken 219 = .ok (.invokevirtual 259, 3) := by decide +kernel
theorem dX10_nextToken_222 : decode cX10_nextToken 222 = .ok (.ifCond .eq 60, 3) := by decide +kernel
theorem dX10_nextToken_225 : decode cX10_nextToken 225 = .ok (.aload_n 0, 1) := by decide +kernel
theorem dX10_nextToken_226 : decode cX10_nextToken 226 = .ok (.aload_n 0, 1) := by decide +kernel
theorem dX10_nextToken_227 : decode cX10_nextToken 227 = .ok (.getfield 244, 3) := by decide +kernel
theorem dX10_nextToken_230 : decode cX10_nextToken 230 = .ok (.aload_n 0, 1) := by decide +kernel
theorem dX10_nextToken_231 : decode cX10_nextToken 231 = .ok (.getfield 250, 3) := by decide +kernel
theorem dX10_nextToken_234 : decode cX10_nextToken 234 = .ok (.isub, 1) := by decide +kernel
theorem dX10_nextToken_235 : decode cX10_nextToken 235 = .ok (.iconst 4, 1) := by decide +kernel
theorem dX10_nextToken_236 : decode cX10_nextToken 236 = .ok (.if_icmp .ge 26, 3) := by decide +kernel
theorem dX10_nextToken_239 : decode cX10_nextToken 239 = .ok (.bipush 10, 2) := by decide +kernel
theorem dX10_nextToken_241 : decode cX10_nextToken 241 = .ok (.aload_n 0, 1) := by decide +kernel
theorem dX10_nextToken_242 : decode cX10_nextToken 242 = .ok (.getfield 262, 3) := by decide +kernel
theorem dX10_nextToken_245 : decode cX10_nextToken 245 = .ok (.imul, 1) := by decide +kernel
theorem dX10_nextToken_246 : decode cX10_nextToken 246 = .ok (.aload_n 0, 1) := by decide +kernel
theorem dX10_nextToken_247 : decode cX10_nextToken 247 = .ok (.getfield 52, 3) := by decide +kernel
theorem dX10_nextToken_250 : decode cX10_nextToken 250 = .ok (.aload_n 0, 1) := by decide +kernel
theorem dX10_nextToken_251 : decode cX10_nextToken 251 = .ok (.getfield 244, 3) := by decide +kernel
theorem dX10_nextToken_254 : decode cX10_nextToken 254 = .ok (.iaload, 1) := by decide +kernel
theorem dX10_nextToken_255 : decode cX10_nextToken 255 = .ok (.iadd, 1) := by decide +kernel
theorem dX10_nextToken_256 : decode cX10_nextToken 256 = .ok (.bipush 48, 2) := by decide +kernel
theorem dX10_nextToken_258 : decode cX10_nextToken 258 = .ok (.isub, 1) := by decide +kernel
theorem dX10_nextToken_259 : decode cX10_nextToken 259 = .ok (.goto 7, 3) := by decide +kernel
theorem dX10_nextToken_262 : decode cX10_nextToken 262 = .ok (.aload_n 0, 1) := by decide +kernel
theorem dX10_nextToken_263 : decode cX10_nextToken 263 = .ok (.getfield 262, 3) := by decide +kernel
theorem dX10_nextToken_266 : decode cX10_nextToken 266 = .ok (.putfield 262, 3) := by decide +kernel
theorem dX10_nextToken_269 : decode cX10_nextToken 269 = .ok (.aload_n 0, 1) := by decide +kernel
theorem dX10_nextToken_270 : decode cX10_nextToken 270 = .ok (.dup, 1) := by decide +kernel
theorem dX10_nextToken_271 : decode cX10_nextToken 271 = .ok (.getfield 244, 3) := by decide +kernel
theorem dX10_nextToken_274 : decode cX10_nextToken 274 = .ok (.iconst 1, 1) := by decide +kernel
theorem dX10_nextToken_275 : decode cX10_nextToken 275 = .ok (.iadd, 1) := by decide +kernel
theorem dX10_nextToken_276 : decode cX10_nextToken 276 = .ok (.putfield 244, 3) := by decide +kernel
theorem dX10_nextToken_279 : decode cX10_nextToken 279 = .ok (.goto (-65), 3) := by decide +kernel
theorem dX10_nextToken_282 : decode cX10_nextToken 282 = .ok (.aload_n 0, 1) := by decide +kernel
theorem dX10_nextToken_283 : decode cX10_nextToken 283 = .ok (.iload_n 1, 1) := by decide +kernel
theorem dX10_nextToken_284 : decode cX10_nextToken 284 = .ok (.ifCond .ne 16, 3) := by decide +kernel
theorem dX10_nextToken_287 : decode cX10_nextToken 287 = .ok (.aload_n 0, 1) := by decide +kernel
theorem dX10_nextToken_288 : decode cX10_nextToken 288 = .ok (.getfield 244, 3) := by decide +kernel
theorem dX10_nextToken_291 : decode cX10_nextToken 291 = .ok (.aload_n 0, 1) := by decide +kernel
theorem dX10_nextToken_292 : decode cX10_nextToken 292 = .ok (.getfield 250, 3) := by decide +kernel
theorem dX10_nextToken_295 : decode cX10_nextToken 295 = .ok (.isub, 1) := by decide +kernel
theorem dX10_nextToken_296 : decode cX10_nextToken 296 = .ok (.iconst 4, 1) := by decide +kernel
theorem dX10_nextToken_297 : decode cX10_nextToken 297 = .ok (.if_icmp .le 7, 3) := by decide +kernel
theorem dX10_nextToken_300 : decode cX10_nextToken 300 = .ok (.iconst 4, 1) := by decide +kernel
theorem dX10_nextToken_301 : decode cX10_nextToken 301 = .ok (.goto 4, 3) := by decide +kernel
theorem dX10_nextToken_304 : decode cX10_nextToken 304 = .ok (.iconst 2, 1) := by decide +kernel
theorem dX10_nextToken_305 : decode cX10_nextToken 305 = .ok (.putfield 247, 3) := by decide +kernel
theorem dX10_nextToken_308 : decode cX10_nextToken 308 = .ok (.goto 31, 3) := by decide +kernel
theorem dX10_nextToken_311 : decode cX10_nextToken 311 = .ok (.aload_n 0, 1) := by decide +kernel
theorem dX10_nextToken_312 : decode cX10_nextToken 312 = .ok (.iconst 3, 1) := by decide +kernel
theorem dX10_nextToken_313 : decode cX10_nextToken 313 = .ok (.putfield 247, 3) := by decide +kernel
theorem dX10_nextToken_316 : decode cX10_nextToken 316 = .ok (.aload_n 0, 1) := by decide +kernel
theorem dX10_nextToken_317 : decode cX10_nextToken 317 = .ok (.aload_n 0, 1) := by decide +kernel
theorem dX10_nextToken_318 : decode cX10_nextToken 318 = .ok (.getfield 52, 3) := by decide +kernel
theorem dX10_nextToken_321 : decode cX10_nextToken 321 = .ok (.aload_n 0, 1) := by decide +kernel
theorem dX10_nextToken_322 : decode cX10_nextToken 322 = .ok (.getfield 250, 3) := by decide +kernel
theorem dX10_nextToken_325 : decode cX10_nextToken 325 = .ok (.iaload, 1) := by decide +kernel
theorem dX10_nextToken_326 : decode cX10_nextToken 326 = .ok (.putfield 256, 3) := by decide +kernel
theorem dX10_nextToken_329 : decode cX10_nextToken 329 = .ok (.aload_n 0, 1) := by decide +kernel
theorem dX10_nextToken_330 : decode cX10_nextToken 330 = .ok (.dup, 1) := by decide +kernel
theorem dX10_nextToken_331 : decode cX10_nextToken 331 = .ok (.getfield 244, 3) := by decide +kernel
theorem dX10_nextToken_334 : decode cX10_nextToken 334 = .ok (.iconst 1, 1) := by decide +kernel
theorem dX10_nextToken_335 : decode cX10_nextToken 335 = .ok (.iadd, 1) := by decide +kernel
theorem dX10_nextToken_336 : decode cX10_nextToken 336 = .ok (.putfield 244, 3) := by decide +kernel
theorem dX10_nextToken_339 : decode cX10_nextToken 339 = .ok (.return_, 1) := by decide +kernel
theorem ok_X10_nextToken : okV yX10_nextToken cX10_nextToken 3 none 0 := ⟨mw_1300, mw_56, mw_83, mw_1301, by decide +kernel, by decide +kernel⟩
abbrev rm_X10_nextToken : Room := { frames := 2, cells := 0, slots := 0, locals := 46 }
def b_X10_nextToken_192 (post : St → Prop) (σ : St) (y0 : Int32) : Prop := ∀ s1 : St, s1 = wr σ 0 0 7 y0 → (post s1)
theorem B_X10_nextToken_192 (E : EnvW p s m args meth c D cy regsM ad "RoofWarModel" cX10_nextToken 3 none) (ha : Apart regsM ad) {post : St → Prop} {σ : St} {y0 : Int32} (hw : b_X10_nextToken_192 post σ y0) {H : Heap} {locs : List Loc} {ls : Array Slot} (hP : va_P D CLS (wM cy ad σ) H) (hS : va_S (AM ad s.heap.size) s.heap H locs) (hl : lv_has ls 3 []) : W p l e rm_X10_nextToken s m args below meth c H locs 0 0 (MQ below (QV D cy (cellM cy ad) regsM ad s.heap.size post) args s 0 0 (AM ad s.heap.size)) (F0 m 192 ls [.int y0, .ref (ad 0 0)]) := by
  obtain ⟨hx, hb, -⟩ := id E
  unfold b_X10_nextToken_192 at hw
  refine uX10_22 E ha mw_968 dX10_nextToken_192 hP hS (fun s1 es1 H locs hP hS => ?_)
  replace hw := hw s1 es1
  refine lv_goto (tgt := 339) hx hb dX10_nextToken_195 (by decide) ?_
  exact g_vret E hw hP hS dX10_nextToken_339
def b_X10_nextToken_162 (post : St → Prop) (σ : St) (y0 : Int32) : Prop := ∀ s1 : St, s1 = wr σ 0 0 5 y0 → (((¬ ((s1 0 0 4) - (s1 0 0 3)) = 1 → (b_X10_nextToken_192 post s1 (0 : Int32))) ∧ (((s1 0 0 4) - (s1 0 0 3)) = 1 → (vp_in (s1 0 0 3) 96 ∧ (b_X10_nextToken_192 post s1 (s1 15 0 (s1 0 0 3).toNatClampNeg))))))
theorem B_X10_nextToken_162 (E : EnvW p s m args meth c D cy regsM ad "RoofWarModel" cX10_nextToken 3 none) (ha : Apart regsM ad) {post : St → Prop} {σ : St} {y0 : Int32} (hw : b_X10_nextToken_162 post σ y0) {H : Heap} {locs : List Loc} {ls : Array Slot} (hP : va_P D CLS (wM cy ad σ) H) (hS : va_S (AM ad s.heap.size) s.heap H locs) (hl : lv_has ls 3 [(0, .ref (ad 0 0))]) : W p l e rm_X10_nextToken s m args below meth c H locs 0 0 (MQ below (QV D cy (cellM cy ad) regsM ad s.heap.size post) args s 0 0 (AM ad s.heap.size)) (F0 m 162 ls [.int y0, .ref (ad 0 0)]) := by
  obtain ⟨hx, hb, -⟩ := id E
  unfold b_X10_nextToken_162 at hw
  refine uX10_20 E ha mw_966 dX10_nextToken_162 hP hS (fun s1 es1 H locs hP hS => ?_)
  replace hw := hw s1 es1
  refine lv_aload_n hx hb dX10_nextToken_165 rfl (lv_at hl 0 rfl) ?_
  refine lv_aload_n hx hb dX10_nextToken_166 rfl (lv_at hl 0 rfl) ?_
  refine fX10_19 E hP mw_965 dX10_nextToken_167 ?_
  refine lv_aload_n hx hb dX10_nextToken_170 rfl (lv_at hl 0 rfl) ?_
  refine fX10_18 E hP mw_964 dX10_nextToken_171 ?_
  refine lv_isub hx hb dX10_nextToken_174 ?_
  refine lv_iconst (v := 1) hx hb dX10_nextToken_175 (by decide) ?_
  refine lv_icmp_ne (tgt := 191) hx hb dX10_nextToken_176 (by decide) (fun c2 => ?_) (fun c2 => ?_)
  · replace hw := hw.1 c2
    refine lv_iconst (v := 0) hx hb dX10_nextToken_191 (by decide) ?_
    exact B_X10_nextToken_192 E ha hw hP hS (lv_sub hl [] rfl)
  · replace hw := hw.2 c2
    refine lv_aload_n hx hb dX10_nextToken_179 rfl (lv_at hl 0 rfl) ?_
    refine fX10_16 E hP mw_962 dX10_nextToken_180 ?_
    refine lv_aload_n hx hb dX10_nextToken_183 rfl (lv_at hl 0 rfl) ?_
    refine fX10_18 E hP mw_964 dX10_nextToken_184 ?_
    obtain ⟨h3, hw⟩ := hw
    refine aM15 E hP h3 dX10_nextToken_187 ?_
    refine lv_goto (tgt := 192) hx hb dX10_nextToken_188 (by decide) ?_
    exact B_X10_nextToken_192 E ha hw hP hS (lv_sub hl [] rfl)
def b_X10_nextToken_128 (K128 : St → Int32 → Prop) (post : St → Prop) (σ : St) (x1 : Int32) : Prop := w_X10_isLetter (fun r1 s1 => ((r1 = 0 → (((x1 = 0 → (b_X10_nextToken_162 post s1 (1 : Int32))) ∧ (¬ x1 = 0 → (b_X10_nextToken_162 post s1 (4 : Int32)))))) ∧ (¬ r1 = 0 → (∀ s4 : St, s4 = wr s1 0 0 4 ((s1 0 0 4) + 1) → (K128 s4 x1))))) σ (σ 0 0 4)
noncomputable def l_X10_nextToken_128 (post : St → Prop) : Nat → St → Int32 → Prop := fun n => Nat.rec (motive := fun _ => St → Int32 → Prop) (fun _ _ => False) (fun _ ih => b_X10_nextToken_128 ih post) n
theorem L_X10_nextToken_128 (E : EnvW p s m args meth c D cy regsM ad "RoofWarModel" cX10_nextToken 3 none) (ha : Apart regsM ad) {post : St → Prop} : ∀ (n : Nat), ∀ (σ : St) (x1 : Int32), l_X10_nextToken_128 post n σ x1 → ∀ (H : Heap) (locs : List Loc) (ls : Array Slot), va_P D CLS (wM cy ad σ) H → va_S (AM ad s.heap.size) s.heap H locs → lv_has ls 3 [(0, .ref (ad 0 0)), (1, .int x1)] → W p l e rm_X10_nextToken s m args below meth c H locs 0 0 (MQ below (QV D cy (cellM cy ad) regsM ad s.heap.size post) args s 0 0 (AM ad s.heap.size)) (F0 m 128 ls []) := by
  obtain ⟨hx, hb, -⟩ := id E
  intro n
  induction n with
  | zero => intro σ x1 hw; exact hw.elim
  | succ n hk128 =>
    intro σ x1 hw H locs ls hP hS hl
    replace hw : b_X10_nextToken_128 (l_X10_nextToken_128 post n) post σ x1 := hw
    unfold b_X10_nextToken_128 at hw
    refine lv_aload_n hx hb dX10_nextToken_128 rfl (lv_at hl 0 rfl) ?_
    refine lv_aload_n hx hb dX10_nextToken_129 rfl (lv_at hl 0 rfl) ?_
    refine fX10_19 E hP mw_965 dX10_nextToken_130 ?_
    refine g_cVi (As := [.int (σ 0 0 4)]) (rest := []) E hl.1 (c_X10_isLetter l D cy ad ha hw _) ok_X10_isLetter mw_1302 ⟨(Nat.le_of_ble_eq_true rfl), (Nat.le_of_ble_eq_true rfl)⟩ ⟨rfl, rfl⟩ rM0 rfl rfl rfl rfl rfl (Nat.le_of_ble_eq_true rfl) ⟨Nat.zero_le _, Nat.zero_le _⟩ hP hS dX10_nextToken_133 (fun r1 s1 hw H locs hP hS => ?_)
    obtain ⟨z1, hw⟩ := hw
    refine lv_if_eq (tgt := 152) hx hb dX10_nextToken_136 (by decide) (fun c2 => ?_) (fun c2 => ?_)
    · replace hw := hw.1 c2
      refine lv_aload_n hx hb dX10_nextToken_152 rfl (lv_at hl 0 rfl) ?_
      refine lv_iload_n hx hb dX10_nextToken_153 rfl (lv_at hl 1 rfl) ?_
      refine lv_if_eq (tgt := 161) hx hb dX10_nextToken_154 (by decide) (fun c3 => ?_) (fun c3 => ?_)
      · replace hw := hw.1 c3
        refine lv_iconst (v := 1) hx hb dX10_nextToken_161 (by decide) ?_
        exact B_X10_nextToken_162 E ha hw hP hS (lv_sub hl [0] rfl)
      · replace hw := hw.2 c3
        refine lv_iconst (v := 4) hx hb dX10_nextToken_157 (by decide) ?_
        refine lv_goto (tgt := 162) hx hb dX10_nextToken_158 (by decide) ?_
        exact B_X10_nextToken_162 E ha hw hP hS (lv_sub hl [0] rfl)
    · replace hw := hw.2 c2
      refine lv_aload_n hx hb dX10_nextToken_139 rfl (lv_at hl 0 rfl) ?_
      refine lv_dup hx hb dX10_nextToken_140 rfl ?_
      refine fX10_19 E hP mw_965 dX10_nextToken_141 ?_
      refine lv_iconst (v := 1) hx hb dX10_nextToken_144 (by decide) ?_
      refine lv_iadd hx hb dX10_nextToken_145 ?_
      refine uX10_19 E ha mw_965 dX10_nextToken_146 hP hS (fun s4 es4 H locs hP hS => ?_)
      replace hw := hw s4 es4
      refine lv_goto (tgt := 128) hx hb dX10_nextToken_149 (by decide) ?_
      exact hk128 s4 x1 hw _ _ _ hP hS (lv_sub hl [0, 1] rfl)
def b_X10_nextToken_266 (K214 : St → Int32 → Prop) (post : St → Prop) (σ : St) (y0 : Int32) (x1 : Int32) : Prop := ∀ s1 : St, s1 = wr σ 0 0 6 y0 → (∀ s2 : St, s2 = wr s1 0 0 4 ((s1 0 0 4) + 1) → (K214 s2 x1))
theorem B_X10_nextToken_266 (E : EnvW p s m args meth c D cy regsM ad "RoofWarModel" cX10_nextToken 3 none) (ha : Apart regsM ad) {post : St → Prop} {K214 : St → Int32 → Prop} (hk214 : ∀ (σ : St) (x1 : Int32), K214 σ x1 → ∀ (H : Heap) (locs : List Loc) (ls : Array Slot), va_P D CLS (wM cy ad σ) H → va_S (AM ad s.heap.size) s.heap H locs → lv_has ls 3 [(0, .ref (ad 0 0)), (1, .int x1)] → W p l e rm_X10_nextToken s m args below meth c H locs 0 0 (MQ below (QV D cy (cellM cy ad) regsM ad s.heap.size post) args s 0 0 (AM ad s.heap.size)) (F0 m 214 ls [])) {σ : St} {y0 : Int32} {x1 : Int32} (hw : b_X10_nextToken_266 K214 post σ y0 x1) {H : Heap} {locs : List Loc} {ls : Array Slot} (hP : va_P D CLS (wM cy ad σ) H) (hS : va_S (AM ad s.heap.size) s.heap H locs) (hl : lv_has ls 3 [(0, .ref (ad 0 0)), (1, .int x1)]) : W p l e rm_X10_nextToken s m args below meth c H locs 0 0 (MQ below (QV D cy (cellM cy ad) regsM ad s.heap.size post) args s 0 0 (AM ad s.heap.size)) (F0 m 266 ls [.int y0, .ref (ad 0 0)]) := by
  obtain ⟨hx, hb, -⟩ := id E
  unfold b_X10_nextToken_266 at hw
  refine uX10_21 E ha mw_967 dX10_nextToken_266 hP hS (fun s1 es1 H locs hP hS => ?_)
  replace hw := hw s1 es1
  refine lv_aload_n hx hb dX10_nextToken_269 rfl (lv_at hl 0 rfl) ?_
  refine lv_dup hx hb dX10_nextToken_270 rfl ?_
  refine fX10_19 E hP mw_965 dX10_nextToken_271 ?_
  refine lv_iconst (v := 1) hx hb dX10_nextToken_274 (by decide) ?_
  refine lv_iadd hx hb dX10_nextToken_275 ?_
  refine uX10_19 E ha mw_965 dX10_nextToken_276 hP hS (fun s2 es2 H locs hP hS => ?_)
  replace hw := hw s2 es2
  refine lv_goto (tgt := 214) hx hb dX10_nextToken_279 (by decide) ?_
  exact hk214 s2 x1 hw _ _ _ hP hS (lv_sub hl [0, 1] rfl)
def b_X10_nextToken_305 (post : St → Prop) (σ : St) (y0 : Int32) : Prop := ∀ s1 : St, s1 = wr σ 0 0 5 y0 → (post s1)
theorem B_X10_nextToken_305 (E : EnvW p s m args meth c D cy regsM ad "RoofWarModel" cX10_nextToken 3 none) (ha : Apart regsM ad) {post : St → Prop} {σ : St} {y0 : Int32} (hw : b_X10_nextToken_305 post σ y0) {H : Heap} {locs : List Loc} {ls : Array Slot} (hP : va_P D CLS (wM cy ad σ) H) (hS : va_S (AM ad s.heap.size) s.heap H locs) (hl : lv_has ls 3 []) : W p l e rm_X10_nextToken s m args below meth c H locs 0 0 (MQ below (QV D cy (cellM cy ad) regsM ad s.heap.size post) args s 0 0 (AM ad s.heap.size)) (F0 m 305 ls [.int y0, .ref (ad 0 0)]) := by
  obtain ⟨hx, hb, -⟩ := id E
  unfold b_X10_nextToken_305 at hw
  refine uX10_20 E ha mw_966 dX10_nextToken_305 hP hS (fun s1 es1 H locs hP hS => ?_)
  replace hw := hw s1 es1
  refine lv_goto (tgt := 339) hx hb dX10_nextToken_308 (by decide) ?_
  exact g_vret E hw hP hS dX10_nextToken_339
def b_X10_nextToken_300 (post : St → Prop) (σ : St) : Prop := b_X10_nextToken_305 post σ (4 : Int32)
theorem B_X10_nextToken_300 (E : EnvW p s m args meth c D cy regsM ad "RoofWarModel" cX10_nextToken 3 none) (ha : Apart regsM ad) {post : St → Prop} {σ : St} (hw : b_X10_nextToken_300 post σ) {H : Heap} {locs : List Loc} {ls : Array Slot} (hP : va_P D CLS (wM cy ad σ) H) (hS : va_S (AM ad s.heap.size) s.heap H locs) (hl : lv_has ls 3 []) : W p l e rm_X10_nextToken s m args below meth c H locs 0 0 (MQ below (QV D cy (cellM cy ad) regsM ad s.heap.size post) args s 0 0 (AM ad s.heap.size)) (F0 m 300 ls [.ref (ad 0 0)]) := by
  obtain ⟨hx, hb, -⟩ := id E
  unfold b_X10_nextToken_300 at hw
  refine lv_iconst (v := 4) hx hb dX10_nextToken_300 (by decide) ?_
  refine lv_goto (tgt := 305) hx hb dX10_nextToken_301 (by decide) ?_
  exact B_X10_nextToken_305 E ha hw hP hS (lv_sub hl [] rfl)
def b_X10_nextToken_214 (K214 : St → Int32 → Prop) (post : St → Prop) (σ : St) (x1 : Int32) : Prop := w_X10_isDigit (fun r1 s1 => ((r1 = 0 → (((¬ x1 = 0 → (b_X10_nextToken_300 post s1)) ∧ (x1 = 0 → (((((s1 0 0 4) - (s1 0 0 3)) ≤ 4 → (b_X10_nextToken_305 post s1 (2 : Int32))) ∧ (¬ ((s1 0 0 4) - (s1 0 0 3)) ≤ 4 → (b_X10_nextToken_300 post s1)))))))) ∧ (¬ r1 = 0 → (((4 ≤ ((s1 0 0 4) - (s1 0 0 3)) → (b_X10_nextToken_266 K214 post s1 (s1 0 0 6) x1)) ∧ (¬ 4 ≤ ((s1 0 0 4) - (s1 0 0 3)) → (vp_in (s1 0 0 4) 96 ∧ (b_X10_nextToken_266 K214 post s1 (((10 * (s1 0 0 6)) + (s1 15 0 (s1 0 0 4).toNatClampNeg)) - 48) x1)))))))) σ (σ 0 0 4)
noncomputable def l_X10_nextToken_214 (post : St → Prop) : Nat → St → Int32 → Prop := fun n => Nat.rec (motive := fun _ => St → Int32 → Prop) (fun _ _ => False) (fun _ ih => b_X10_nextToken_214 ih post) n
theorem L_X10_nextToken_214 (E : EnvW p s m args meth c D cy regsM ad "RoofWarModel" cX10_nextToken 3 none) (ha : Apart regsM ad) {post : St → Prop} : ∀ (n : Nat), ∀ (σ : St) (x1 : Int32), l_X10_nextToken_214 post n σ x1 → ∀ (H : Heap) (locs : List Loc) (ls : Array Slot), va_P D CLS (wM cy ad σ) H → va_S (AM ad s.heap.size) s.heap H locs → lv_has ls 3 [(0, .ref (ad 0 0)), (1, .int x1)] → W p l e rm_X10_nextToken s m args below meth c H locs 0 0 (MQ below (QV D cy (cellM cy ad) regsM ad s.heap.size post) args s 0 0 (AM ad s.heap.size)) (F0 m 214 ls []) := by
  obtain ⟨hx, hb, -⟩ := id E
  intro n
  induction n with
  | zero => intro σ x1 hw; exact hw.elim
  | succ n hk214 =>
    intro σ x1 hw H locs ls hP hS hl
    replace hw : b_X10_nextToken_214 (l_X10_nextToken_214 post n) post σ x1 := hw
    unfold b_X10_nextToken_214 at hw
    refine lv_aload_n hx hb dX10_nextToken_214 rfl (lv_at hl 0 rfl) ?_
    refine lv_aload_n hx hb dX10_nextToken_215 rfl (lv_at hl 0 rfl) ?_
    refine fX10_19 E hP mw_965 dX10_nextToken_216 ?_
    refine g_cVi (As := [.int (σ 0 0 4)]) (rest := []) E hl.1 (c_X10_isDigit l D cy ad ha hw _) ok_X10_isDigit mw_1307 ⟨(Nat.le_of_ble_eq_true rfl), (Nat.le_of_ble_eq_true rfl)⟩ ⟨rfl, rfl⟩ rM0 rfl rfl rfl rfl rfl (Nat.le_of_ble_eq_true rfl) ⟨Nat.zero_le _, Nat.zero_le _⟩ hP hS dX10_nextToken_219 (fun r1 s1 hw H locs hP hS => ?_)
    obtain ⟨z1, hw⟩ := hw
    refine lv_if_eq (tgt := 282) hx hb dX10_nextToken_222 (by decide) (fun c2 => ?_) (fun c2 => ?_)
    · replace hw := hw.1 c2
      refine lv_aload_n hx hb dX10_nextToken_282 rfl (lv_at hl 0 rfl) ?_
      refine lv_iload_n hx hb dX10_nextToken_283 rfl (lv_at hl 1 rfl) ?_
      refine lv_if_ne (tgt := 300) hx hb dX10_nextToken_284 (by decide) (fun c3 => ?_) (fun c3 => ?_)
      · replace hw := hw.1 c3
        exact B_X10_nextToken_300 E ha hw hP hS (lv_sub hl [] rfl)
      · replace hw := hw.2 c3
        refine lv_aload_n hx hb dX10_nextToken_287 rfl (lv_at hl 0 rfl) ?_
        refine fX10_19 E hP mw_965 dX10_nextToken_288 ?_
        refine lv_aload_n hx hb dX10_nextToken_291 rfl (lv_at hl 0 rfl) ?_
        refine fX10_18 E hP mw_964 dX10_nextToken_292 ?_
        refine lv_isub hx hb dX10_nextToken_295 ?_
        refine lv_iconst (v := 4) hx hb dX10_nextToken_296 (by decide) ?_
        refine lv_icmp_le (tgt := 304) hx hb dX10_nextToken_297 (by decide) (fun c4 => ?_) (fun c4 => ?_)
        · replace hw := hw.1 c4
          refine lv_iconst (v := 2) hx hb dX10_nextToken_304 (by decide) ?_
          exact B_X10_nextToken_305 E ha hw hP hS (lv_sub hl [] rfl)
        · replace hw := hw.2 c4
          exact B_X10_nextToken_300 E ha hw hP hS (lv_sub hl [] rfl)
    · replace hw := hw.2 c2
      refine lv_aload_n hx hb dX10_nextToken_225 rfl (lv_at hl 0 rfl) ?_
      refine lv_aload_n hx hb dX10_nextToken_226 rfl (lv_at hl 0 rfl) ?_
      refine fX10_19 E hP mw_965 dX10_nextToken_227 ?_
      refine lv_aload_n hx hb dX10_nextToken_230 rfl (lv_at hl 0 rfl) ?_
      refine fX10_18 E hP mw_964 dX10_nextToken_231 ?_
      refine lv_isub hx hb dX10_nextToken_234 ?_
      refine lv_iconst (v := 4) hx hb dX10_nextToken_235 (by decide) ?_
      refine lv_icmp_ge (tgt := 262) hx hb dX10_nextToken_236 (by decide) (fun c5 => ?_) (fun c5 => ?_)
      · replace hw := hw.1 c5
        refine lv_aload_n hx hb dX10_nextToken_262 rfl (lv_at hl 0 rfl) ?_
        refine fX10_21 E hP mw_967 dX10_nextToken_263 ?_
        exact B_X10_nextToken_266 E ha hk214 hw hP hS (lv_sub hl [0, 1] rfl)
      · replace hw := hw.2 c5
        refine lv_bipush (v := 10) hx hb dX10_nextToken_239 (by decide) ?_
        refine lv_aload_n hx hb dX10_nextToken_241 rfl (lv_at hl 0 rfl) ?_
        refine fX10_21 E hP mw_967 dX10_nextToken_242 ?_
        refine lv_imul hx hb dX10_nextToken_245 ?_
        refine lv_aload_n hx hb dX10_nextToken_246 rfl (lv_at hl 0 rfl) ?_
        refine fX10_16 E hP mw_962 dX10_nextToken_247 ?_
        refine lv_aload_n hx hb dX10_nextToken_250 rfl (lv_at hl 0 rfl) ?_
        refine fX10_19 E hP mw_965 dX10_nextToken_251 ?_
        obtain ⟨h6, hw⟩ := hw
        refine aM15 E hP h6 dX10_nextToken_254 ?_
        refine lv_iadd hx hb dX10_nextToken_255 ?_
        refine lv_bipush (v := 48) hx hb dX10_nextToken_256 (by decide) ?_
        refine lv_isub hx hb dX10_nextToken_258 ?_
        refine lv_goto (tgt := 266) hx hb dX10_nextToken_259 (by decide) ?_
        exact B_X10_nextToken_266 E ha hk214 hw hP hS (lv_sub hl [0, 1] rfl)
def b_X10_nextToken_89 (post : St → Prop) (σ : St) (y0 : Int32) : Prop := ∀ s1 : St, s1 = wr σ 0 0 3 (σ 0 0 4) → (((¬ (s1 0 0 3) = (s1 0 0 2) → (w_X10_isLetter (fun r3 s3 => ((r3 = 0 → (w_X10_isDigit (fun r5 s5 => ((r5 = 0 → (∀ s7 : St, s7 = wr s5 0 0 5 3 → (vp_in (s7 0 0 3) 96 ∧ (∀ s9 : St, s9 = wr s7 0 0 7 (s7 15 0 (s7 0 0 3).toNatClampNeg) → (∀ s10 : St, s10 = wr s9 0 0 4 ((s9 0 0 4) + 1) → (post s10)))))) ∧ (¬ r5 = 0 → (∀ s11 : St, s11 = wr s5 0 0 6 0 → (∃ n12 : Nat, l_X10_nextToken_214 post n12 s11 y0))))) s3 (s3 0 0 3))) ∧ (¬ r3 = 0 → (∃ n13 : Nat, l_X10_nextToken_128 post n13 s3 y0)))) s1 (s1 0 0 3))) ∧ ((s1 0 0 3) = (s1 0 0 2) → (∀ s14 : St, s14 = wr s1 0 0 5 0 → (post s14)))))
theorem B_X10_nextToken_89 (E : EnvW p s m args meth c D cy regsM ad "RoofWarModel" cX10_nextToken 3 none) (ha : Apart regsM ad) {post : St → Prop} {σ : St} {y0 : Int32} (hw : b_X10_nextToken_89 post σ y0) {H : Heap} {locs : List Loc} {ls : Array Slot} (hP : va_P D CLS (wM cy ad σ) H) (hS : va_S (AM ad s.heap.size) s.heap H locs) (hl : lv_has ls 3 [(0, .ref (ad 0 0))]) : W p l e rm_X10_nextToken s m args below meth c H locs 0 0 (MQ below (QV D cy (cellM cy ad) regsM ad s.heap.size post) args s 0 0 (AM ad s.heap.size)) (F0 m 89 ls [.int y0]) := by
  obtain ⟨hx, hb, -⟩ := id E
  unfold b_X10_nextToken_89 at hw
  refine lv_istore_n (lv' := [(1, .int y0), (0, .ref (ad 0 0))]) hx hb dX10_nextToken_89 rfl hl (by decide) rfl (fun ls hl => ?_)
  refine lv_aload_n hx hb dX10_nextToken_90 rfl (lv_at hl 1 rfl) ?_
  refine lv_aload_n hx hb dX10_nextToken_91 rfl (lv_at hl 1 rfl) ?_
  refine fX10_19 E hP mw_965 dX10_nextToken_92 ?_
  refine uX10_18 E ha mw_964 dX10_nextToken_95 hP hS (fun s1 es1 H locs hP hS => ?_)
  replace hw := hw s1 es1
  refine lv_aload_n hx hb dX10_nextToken_98 rfl (lv_at hl 1 rfl) ?_
  refine fX10_18 E hP mw_964 dX10_nextToken_99 ?_
  refine lv_aload_n hx hb dX10_nextToken_102 rfl (lv_at hl 1 rfl) ?_
  refine fX10_17 E hP mw_963 dX10_nextToken_103 ?_
  refine lv_icmp_ne (tgt := 117) hx hb dX10_nextToken_106 (by decide) (fun c2 => ?_) (fun c2 => ?_)
  · replace hw := hw.1 c2
    refine lv_aload_n hx hb dX10_nextToken_117 rfl (lv_at hl 1 rfl) ?_
    refine lv_aload_n hx hb dX10_nextToken_118 rfl (lv_at hl 1 rfl) ?_
    refine fX10_18 E hP mw_964 dX10_nextToken_119 ?_
    refine g_cVi (As := [.int (s1 0 0 3)]) (rest := []) E hl.1 (c_X10_isLetter l D cy ad ha hw _) ok_X10_isLetter mw_1302 ⟨(Nat.le_of_ble_eq_true rfl), (Nat.le_of_ble_eq_true rfl)⟩ ⟨rfl, rfl⟩ rM0 rfl rfl rfl rfl rfl (Nat.le_of_ble_eq_true rfl) ⟨Nat.zero_le _, Nat.zero_le _⟩ hP hS dX10_nextToken_122 (fun r3 s3 hw H locs hP hS => ?_)
    obtain ⟨z3, hw⟩ := hw
    refine lv_if_eq (tgt := 198) hx hb dX10_nextToken_125 (by decide) (fun c4 => ?_) (fun c4 => ?_)
    · replace hw := hw.1 c4
      refine lv_aload_n hx hb dX10_nextToken_198 rfl (lv_at hl 1 rfl) ?_
      refine lv_aload_n hx hb dX10_nextToken_199 rfl (lv_at hl 1 rfl) ?_
      refine fX10_18 E hP mw_964 dX10_nextToken_200 ?_
      refine g_cVi (As := [.int (s3 0 0 3)]) (rest := []) E hl.1 (c_X10_isDigit l D cy ad ha hw _) ok_X10_isDigit mw_1307 ⟨(Nat.le_of_ble_eq_true rfl), (Nat.le_of_ble_eq_true rfl)⟩ ⟨rfl, rfl⟩ rM0 rfl rfl rfl rfl rfl (Nat.le_of_ble_eq_true rfl) ⟨Nat.zero_le _, Nat.zero_le _⟩ hP hS dX10_nextToken_203 (fun r5 s5 hw H locs hP hS => ?_)
      obtain ⟨z5, hw⟩ := hw
      refine lv_if_eq (tgt := 311) hx hb dX10_nextToken_206 (by decide) (fun c6 => ?_) (fun c6 => ?_)
      · replace hw := hw.1 c6
        refine lv_aload_n hx hb dX10_nextToken_311 rfl (lv_at hl 1 rfl) ?_
        refine lv_iconst (v := 3) hx hb dX10_nextToken_312 (by decide) ?_
        refine uX10_20 E ha mw_966 dX10_nextToken_313 hP hS (fun s7 es7 H locs hP hS => ?_)
        replace hw := hw s7 es7
        refine lv_aload_n hx hb dX10_nextToken_316 rfl (lv_at hl 1 rfl) ?_
        refine lv_aload_n hx hb dX10_nextToken_317 rfl (lv_at hl 1 rfl) ?_
        refine fX10_16 E hP mw_962 dX10_nextToken_318 ?_
        refine lv_aload_n hx hb dX10_nextToken_321 rfl (lv_at hl 1 rfl) ?_
        refine fX10_18 E hP mw_964 dX10_nextToken_322 ?_
        obtain ⟨h8, hw⟩ := hw
        refine aM15 E hP h8 dX10_nextToken_325 ?_
        refine uX10_22 E ha mw_968 dX10_nextToken_326 hP hS (fun s9 es9 H locs hP hS => ?_)
        replace hw := hw s9 es9
        refine lv_aload_n hx hb dX10_nextToken_329 rfl (lv_at hl 1 rfl) ?_
        refine lv_dup hx hb dX10_nextToken_330 rfl ?_
        refine fX10_19 E hP mw_965 dX10_nextToken_331 ?_
        refine lv_iconst (v := 1) hx hb dX10_nextToken_334 (by decide) ?_
        refine lv_iadd hx hb dX10_nextToken_335 ?_
        refine uX10_19 E ha mw_965 dX10_nextToken_336 hP hS (fun s10 es10 H locs hP hS => ?_)
        replace hw := hw s10 es10
        exact g_vret E hw hP hS dX10_nextToken_339
      · replace hw := hw.2 c6
        refine lv_aload_n hx hb dX10_nextToken_209 rfl (lv_at hl 1 rfl) ?_
        refine lv_iconst (v := 0) hx hb dX10_nextToken_210 (by decide) ?_
        refine uX10_21 E ha mw_967 dX10_nextToken_211 hP hS (fun s11 es11 H locs hP hS => ?_)
        replace hw := hw s11 es11
        obtain ⟨n12, hw⟩ := hw
        exact L_X10_nextToken_214 E ha n12 s11 y0 hw _ _ _ hP hS (lv_sub hl [1, 0] rfl)
    · replace hw := hw.2 c4
      obtain ⟨n13, hw⟩ := hw
      exact L_X10_nextToken_128 E ha n13 s3 y0 hw _ _ _ hP hS (lv_sub hl [1, 0] rfl)
  · replace hw := hw.2 c2
    refine lv_aload_n hx hb dX10_nextToken_109 rfl (lv_at hl 1 rfl) ?_
    refine lv_iconst (v := 0) hx hb dX10_nextToken_110 (by decide) ?_
    refine uX10_20 E ha mw_966 dX10_nextToken_111 hP hS (fun s14 es14 H locs hP hS => ?_)
    replace hw := hw s14 es14
    refine lv_goto (tgt := 339) hx hb dX10_nextToken_114 (by decide) ?_
    exact g_vret E hw hP hS dX10_nextToken_339
def b_X10_nextToken_88 (post : St → Prop) (σ : St) : Prop := b_X10_nextToken_89 post σ (0 : Int32)
theorem B_X10_nextToken_88 (E : EnvW p s m args meth c D cy regsM ad "RoofWarModel" cX10_nextToken 3 none) (ha : Apart regsM ad) {post : St → Prop} {σ : St} (hw : b_X10_nextToken_88 post σ) {H : Heap} {locs : List Loc} {ls : Array Slot} (hP : va_P D CLS (wM cy ad σ) H) (hS : va_S (AM ad s.heap.size) s.heap H locs) (hl : lv_has ls 3 [(0, .ref (ad 0 0))]) : W p l e rm_X10_nextToken s m args below meth c H locs 0 0 (MQ below (QV D cy (cellM cy ad) regsM ad s.heap.size post) args s 0 0 (AM ad s.heap.size)) (F0 m 88 ls []) := by
  obtain ⟨hx, hb, -⟩ := id E
  unfold b_X10_nextToken_88 at hw
  refine lv_iconst (v := 0) hx hb dX10_nextToken_88 (by decide) ?_
  exact B_X10_nextToken_89 E ha hw hP hS (lv_sub hl [0] rfl)
def b_X10_nextToken_72 (post : St → Prop) (σ : St) (x1 : Int32) (x2 : Int32) : Prop := ((x1 = 0 → (b_X10_nextToken_88 post σ)) ∧ (¬ x1 = 0 → (((¬ x2 = (σ 0 0 4) → (b_X10_nextToken_88 post σ)) ∧ (x2 = (σ 0 0 4) → (b_X10_nextToken_89 post σ (1 : Int32)))))))
theorem B_X10_nextToken_72 (E : EnvW p s m args meth c D cy regsM ad "RoofWarModel" cX10_nextToken 3 none) (ha : Apart regsM ad) {post : St → Prop} {σ : St} {x1 : Int32} {x2 : Int32} (hw : b_X10_nextToken_72 post σ x1 x2) {H : Heap} {locs : List Loc} {ls : Array Slot} (hP : va_P D CLS (wM cy ad σ) H) (hS : va_S (AM ad s.heap.size) s.heap H locs) (hl : lv_has ls 3 [(0, .ref (ad 0 0)), (1, .int x1), (2, .int x2)]) : W p l e rm_X10_nextToken s m args below meth c H locs 0 0 (MQ below (QV D cy (cellM cy ad) regsM ad s.heap.size post) args s 0 0 (AM ad s.heap.size)) (F0 m 72 ls []) := by
  obtain ⟨hx, hb, -⟩ := id E
  unfold b_X10_nextToken_72 at hw
  refine lv_iload_n hx hb dX10_nextToken_72 rfl (lv_at hl 1 rfl) ?_
  refine lv_if_eq (tgt := 88) hx hb dX10_nextToken_73 (by decide) (fun c1 => ?_) (fun c1 => ?_)
  · replace hw := hw.1 c1
    exact B_X10_nextToken_88 E ha hw hP hS (lv_sub hl [0] rfl)
  · replace hw := hw.2 c1
    refine lv_iload_n hx hb dX10_nextToken_76 rfl (lv_at hl 2 rfl) ?_
    refine lv_aload_n hx hb dX10_nextToken_77 rfl (lv_at hl 0 rfl) ?_
    refine fX10_19 E hP mw_965 dX10_nextToken_78 ?_
    refine lv_icmp_ne (tgt := 88) hx hb dX10_nextToken_81 (by decide) (fun c2 => ?_) (fun c2 => ?_)
    · replace hw := hw.1 c2
      exact B_X10_nextToken_88 E ha hw hP hS (lv_sub hl [0] rfl)
    · replace hw := hw.2 c2
      refine lv_iconst (v := 1) hx hb dX10_nextToken_84 (by decide) ?_
      refine lv_goto (tgt := 89) hx hb dX10_nextToken_85 (by decide) ?_
      exact B_X10_nextToken_89 E ha hw hP hS (lv_sub hl [0] rfl)
def b_X10_nextToken_34 (K34 : St → Int32 → Int32 → Prop) (post : St → Prop) (σ : St) (x1 : Int32) (x2 : Int32) : Prop := (((σ 0 0 2) ≤ (σ 0 0 4) → (b_X10_nextToken_72 post σ x1 x2)) ∧ (¬ (σ 0 0 2) ≤ (σ 0 0 4) → (vp_in (σ 0 0 4) 96 ∧ (((¬ (σ 15 0 (σ 0 0 4).toNatClampNeg) = 32 → (b_X10_nextToken_72 post σ x1 x2)) ∧ ((σ 15 0 (σ 0 0 4).toNatClampNeg) = 32 → (∀ s4 : St, s4 = wr σ 0 0 4 ((σ 0 0 4) + 1) → (K34 s4 x1 x2))))))))
noncomputable def l_X10_nextToken_34 (post : St → Prop) : Nat → St → Int32 → Int32 → Prop := fun n => Nat.rec (motive := fun _ => St → Int32 → Int32 → Prop) (fun _ _ _ => False) (fun _ ih => b_X10_nextToken_34 ih post) n
theorem L_X10_nextToken_34 (E : EnvW p s m args meth c D cy regsM ad "RoofWarModel" cX10_nextToken 3 none) (ha : Apart regsM ad) {post : St → Prop} : ∀ (n : Nat), ∀ (σ : St) (x1 : Int32) (x2 : Int32), l_X10_nextToken_34 post n σ x1 x2 → ∀ (H : Heap) (locs : List Loc) (ls : Array Slot), va_P D CLS (wM cy ad σ) H → va_S (AM ad s.heap.size) s.heap H locs → lv_has ls 3 [(0, .ref (ad 0 0)), (1, .int x1), (2, .int x2)] → W p l e rm_X10_nextToken s m args below meth c H locs 0 0 (MQ below (QV D cy (cellM cy ad) regsM ad s.heap.size post) args s 0 0 (AM ad s.heap.size)) (F0 m 34 ls []) := by
  obtain ⟨hx, hb, -⟩ := id E
  intro n
  induction n with
  | zero => intro σ x1 x2 hw; exact hw.elim
  | succ n hk34 =>
    intro σ x1 x2 hw H locs ls hP hS hl
    replace hw : b_X10_nextToken_34 (l_X10_nextToken_34 post n) post σ x1 x2 := hw
    unfold b_X10_nextToken_34 at hw
    refine lv_aload_n hx hb dX10_nextToken_34 rfl (lv_at hl 0 rfl) ?_
    refine fX10_19 E hP mw_965 dX10_nextToken_35 ?_
    refine lv_aload_n hx hb dX10_nextToken_38 rfl (lv_at hl 0 rfl) ?_
    refine fX10_17 E hP mw_963 dX10_nextToken_39 ?_
    refine lv_icmp_ge (tgt := 72) hx hb dX10_nextToken_42 (by decide) (fun c1 => ?_) (fun c1 => ?_)
    · replace hw := hw.1 c1
      exact B_X10_nextToken_72 E ha hw hP hS (lv_sub hl [0, 1, 2] rfl)
    · replace hw := hw.2 c1
      refine lv_aload_n hx hb dX10_nextToken_45 rfl (lv_at hl 0 rfl) ?_
      refine fX10_16 E hP mw_962 dX10_nextToken_46 ?_
      refine lv_aload_n hx hb dX10_nextToken_49 rfl (lv_at hl 0 rfl) ?_
      refine fX10_19 E hP mw_965 dX10_nextToken_50 ?_
      obtain ⟨h2, hw⟩ := hw
      refine aM15 E hP h2 dX10_nextToken_53 ?_
      refine lv_bipush (v := 32) hx hb dX10_nextToken_54 (by decide) ?_
      refine lv_icmp_ne (tgt := 72) hx hb dX10_nextToken_56 (by decide) (fun c3 => ?_) (fun c3 => ?_)
      · replace hw := hw.1 c3
        exact B_X10_nextToken_72 E ha hw hP hS (lv_sub hl [0, 1, 2] rfl)
      · replace hw := hw.2 c3
        refine lv_aload_n hx hb dX10_nextToken_59 rfl (lv_at hl 0 rfl) ?_
        refine lv_dup hx hb dX10_nextToken_60 rfl ?_
        refine fX10_19 E hP mw_965 dX10_nextToken_61 ?_
        refine lv_iconst (v := 1) hx hb dX10_nextToken_64 (by decide) ?_
        refine lv_iadd hx hb dX10_nextToken_65 ?_
        refine uX10_19 E ha mw_965 dX10_nextToken_66 hP hS (fun s4 es4 H locs hP hS => ?_)
        replace hw := hw s4 es4
        refine lv_goto (tgt := 34) hx hb dX10_nextToken_69 (by decide) ?_
        exact hk34 s4 x1 x2 hw _ _ _ hP hS (lv_sub hl [0, 1, 2] rfl)
def b_X10_nextToken_23 (post : St → Prop) (σ : St) : Prop := ∀ v1 : Int32, v1 = σ 0 0 4 → (∃ n2 : Nat, l_X10_nextToken_34 post n2 σ (1 : Int32) v1)
theorem B_X10_nextToken_23 (E : EnvW p s m args meth c D cy regsM ad "RoofWarModel" cX10_nextToken 3 none) (ha : Apart regsM ad) {post : St → Prop} {σ : St} (hw : b_X10_nextToken_23 post σ) {H : Heap} {locs : List Loc} {ls : Array Slot} (hP : va_P D CLS (wM cy ad σ) H) (hS : va_S (AM ad s.heap.size) s.heap H locs) (hl : lv_has ls 3 [(0, .ref (ad 0 0))]) : W p l e rm_X10_nextToken s m args below meth c H locs 0 0 (MQ below (QV D cy (cellM cy ad) regsM ad s.heap.size post) args s 0 0 (AM ad s.heap.size)) (F0 m 23 ls []) := by
  obtain ⟨hx, hb, -⟩ := id E
  unfold b_X10_nextToken_23 at hw
  refine lv_iconst (v := 1) hx hb dX10_nextToken_23 (by decide) ?_
  refine lv_goto (tgt := 28) hx hb dX10_nextToken_24 (by decide) ?_
  refine lv_istore_n (lv' := [(1, .int 1), (0, .ref (ad 0 0))]) hx hb dX10_nextToken_28 rfl hl (by decide) rfl (fun ls hl => ?_)
  refine lv_aload_n hx hb dX10_nextToken_29 rfl (lv_at hl 1 rfl) ?_
  refine fX10_19 E hP mw_965 dX10_nextToken_30 ?_
  refine lv_topi (fun v1 ev1 => ?_)
  replace hw := hw v1 ev1
  refine lv_istore_n (lv' := [(2, .int v1), (1, .int 1), (0, .ref (ad 0 0))]) hx hb dX10_nextToken_33 rfl hl (by decide) rfl (fun ls hl => ?_)
  obtain ⟨n2, hw⟩ := hw
  exact L_X10_nextToken_34 E ha n2 σ (1 : Int32) v1 hw _ _ _ hP hS (lv_sub hl [2, 1, 0] rfl)
def w_X10_nextToken (post : St → Prop) (σ : St) : Prop := (((σ 0 0 4) ≤ 0 → (∀ v2 : Int32, v2 = σ 0 0 4 → (∃ n3 : Nat, l_X10_nextToken_34 post n3 σ (0 : Int32) v2))) ∧ (¬ (σ 0 0 4) ≤ 0 → ((((σ 0 0 5) = 1 → (b_X10_nextToken_23 post σ)) ∧ (¬ (σ 0 0 5) = 1 → (((¬ (σ 0 0 5) = 2 → (∀ v6 : Int32, v6 = σ 0 0 4 → (∃ n7 : Nat, l_X10_nextToken_34 post n7 σ (0 : Int32) v6))) ∧ ((σ 0 0 5) = 2 → (b_X10_nextToken_23 post σ)))))))))
theorem B_X10_nextToken_0 (E : EnvW p s m args meth c D cy regsM ad "RoofWarModel" cX10_nextToken 3 none) (ha : Apart regsM ad) {post : St → Prop} {σ : St} (hw : w_X10_nextToken post σ) {H : Heap} {locs : List Loc} {ls : Array Slot} (hP : va_P D CLS (wM cy ad σ) H) (hS : va_S (AM ad s.heap.size) s.heap H locs) (hl : lv_has ls 3 [(0, .ref (ad 0 0))]) : W p l e rm_X10_nextToken s m args below meth c H locs 0 0 (MQ below (QV D cy (cellM cy ad) regsM ad s.heap.size post) args s 0 0 (AM ad s.heap.size)) (F0 m 0 ls []) := by
  obtain ⟨hx, hb, -⟩ := id E
  unfold w_X10_nextToken at hw
  refine lv_aload_n hx hb dX10_nextToken_0 rfl (lv_at hl 0 rfl) ?_
  refine fX10_19 E hP mw_965 dX10_nextToken_1 ?_
  refine lv_if_le (tgt := 27) hx hb dX10_nextToken_4 (by decide) (fun c1 => ?_) (fun c1 => ?_)
  · replace hw := hw.1 c1
    refine lv_iconst (v := 0) hx hb dX10_nextToken_27 (by decide) ?_
    refine lv_istore_n (lv' := [(1, .int 0), (0, .ref (ad 0 0))]) hx hb dX10_nextToken_28 rfl hl (by decide) rfl (fun ls hl => ?_)
    refine lv_aload_n hx hb dX10_nextToken_29 rfl (lv_at hl 1 rfl) ?_
    refine fX10_19 E hP mw_965 dX10_nextToken_30 ?_
    refine lv_topi (fun v2 ev2 => ?_)
    replace hw := hw v2 ev2
    refine lv_istore_n (lv' := [(2, .int v2), (1, .int 0), (0, .ref (ad 0 0))]) hx hb dX10_nextToken_33 rfl hl (by decide) rfl (fun ls hl => ?_)
    obtain ⟨n3, hw⟩ := hw
    exact L_X10_nextToken_34 E ha n3 σ (0 : Int32) v2 hw _ _ _ hP hS (lv_sub hl [2, 1, 0] rfl)
  · replace hw := hw.2 c1
    refine lv_aload_n hx hb dX10_nextToken_7 rfl (lv_at hl 0 rfl) ?_
    refine fX10_20 E hP mw_966 dX10_nextToken_8 ?_
    refine lv_iconst (v := 1) hx hb dX10_nextToken_11 (by decide) ?_
    refine lv_icmp_eq (tgt := 23) hx hb dX10_nextToken_12 (by decide) (fun c4 => ?_) (fun c4 => ?_)
    · replace hw := hw.1 c4
      exact B_X10_nextToken_23 E ha hw hP hS (lv_sub hl [0] rfl)
    · replace hw := hw.2 c4
      refine lv_aload_n hx hb dX10_nextToken_15 rfl (lv_at hl 0 rfl) ?_
      refine fX10_20 E hP mw_966 dX10_nextToken_16 ?_
      refine lv_iconst (v := 2) hx hb dX10_nextToken_19 (by decide) ?_
      refine lv_icmp_ne (tgt := 27) hx hb dX10_nextToken_20 (by decide) (fun c5 => ?_) (fun c5 => ?_)
      · replace hw := hw.1 c5
        refine lv_iconst (v := 0) hx hb dX10_nextToken_27 (by decide) ?_
        refine lv_istore_n (lv' := [(1, .int 0), (0, .ref (ad 0 0))]) hx hb dX10_nextToken_28 rfl hl (by decide) rfl (fun ls hl => ?_)
        refine lv_aload_n hx hb dX10_nextToken_29 rfl (lv_at hl 1 rfl) ?_
        refine fX10_19 E hP mw_965 dX10_nextToken_30 ?_
        refine lv_topi (fun v6 ev6 => ?_)
        replace hw := hw v6 ev6
        refine lv_istore_n (lv' := [(2, .int v6), (1, .int 0), (0, .ref (ad 0 0))]) hx hb dX10_nextToken_33 rfl hl (by decide) rfl (fun ls hl => ?_)
        obtain ⟨n7, hw⟩ := hw
        exact L_X10_nextToken_34 E ha n7 σ (0 : Int32) v6 hw _ _ _ hP hS (lv_sub hl [2, 1, 0] rfl)
      · replace hw := hw.2 c5
        exact B_X10_nextToken_23 E ha hw hP hS (lv_sub hl [0] rfl)
theorem c_X10_nextToken (l : Launch) (D : va_G) (cy : Nat → ClassId) (ad : Nat → Nat → Nat) (ha : Apart regsM ad) {post : St → Prop} {σ : St} (hw : w_X10_nextToken post σ) (sz : Nat) : MetV l yX10_nextToken cX10_nextToken 3 rm_X10_nextToken [.ref (ad 0 0)] D cy (cellM cy ad) regsM ad σ sz post :=
  Met_inV ok_X10_nextToken.2.2.2.2.2 (Nat.le_of_ble_eq_true rfl) (fun p e s m below meth c ls E hP hl => B_X10_nextToken_0 E ha hw hP va_S.rf hl)
-- RoofWarModel.isSign(I)Z
theorem dX10_isSign_0 : decode cX10_isSign 0 = .ok (.aload_n 0, 1) := by decide +kernel
theorem dX10_isSign_1 : decode cX10_isSign 1 = .ok (.getfield 247, 3) := by decide +kernel
theorem dX10_isSign_4 : decode cX10_isSign 4 = .ok (.iconst 3, 1) := by decide +kernel
theorem dX10_isSign_5 : decode cX10_isSign 5 = .ok (.if_icmp .ne 15, 3) := by decide +kernel
theorem dX10_isSign_8 : decode cX10_isSign 8 = .ok (.aload_n 0, 1) := by decide +kernel
theorem dX10_isSign_9 : decode cX10_isSign 9 = .ok (.getfield 256, 3) := by decide +kernel
theorem dX10_isSign_12 : decode cX10_isSign 12 = .ok (.iload_n 1, 1) := by decide +kernel
theorem dX10_isSign_13 : decode cX10_isSign 13 = .ok (.if_icmp .ne 7, 3) := by decide +kernel
theorem dX10_isSign_16 : decode cX10_isSign 16 = .ok (.iconst 1, 1) := by decide +kernel
theorem dX10_isSign_17 : decode cX10_isSign 17 = .ok (.goto 4, 3) := by decide +kernel
theorem dX10_isSign_20 : decode cX10_isSign 20 = .ok (.iconst 0, 1) := by decide +kernel
theorem dX10_isSign_21 : decode cX10_isSign 21 = .ok (.ireturn, 1) := by decide +kernel
theorem ok_X10_isSign : okV yX10_isSign cX10_isSign 2 (some .boolean) 1 := ⟨mw_1346, mw_69, mw_83, mw_1347, by decide +kernel, by decide +kernel⟩
abbrev rm_X10_isSign : Room := { frames := 0, cells := 0, slots := 0, locals := 0 }
def w_X10_isSign (post : Int32 → St → Prop) (σ : St) (x1 : Int32) : Prop := ((¬ (σ 0 0 5) = 3 → (post 0 σ)) ∧ ((σ 0 0 5) = 3 → (((¬ (σ 0 0 7) = x1 → (post 0 σ)) ∧ ((σ 0 0 7) = x1 → (post 1 σ))))))
theorem B_X10_isSign_0 (E : EnvW p s m args meth c D cy regsM ad "RoofWarModel" cX10_isSign 2 (some .boolean)) (ha : Apart regsM ad) {post : Int32 → St → Prop} {σ : St} {x1 : Int32} (hw : w_X10_isSign post σ x1) {H : Heap} {locs : List Loc} {ls : Array Slot} (hP : va_P D CLS (wM cy ad σ) H) (hS : va_S (AM ad s.heap.size) s.heap H locs) (hl : lv_has ls 2 [(0, .ref (ad 0 0)), (1, .int x1)]) : W p l e rm_X10_isSign s m args below meth c H locs 0 0 (MQ below (QI D cy (cellM cy ad) regsM ad s.heap.size (fun r u => (r = 0 ∨ r = 1) ∧ post r u)) args s 0 0 (AM ad s.heap.size)) (F0 m 0 ls []) := by
  obtain ⟨hx, hb, -⟩ := id E
  unfold w_X10_isSign at hw
  refine lv_aload_n hx hb dX10_isSign_0 rfl (lv_at hl 0 rfl) ?_
  refine fX10_20 E hP mw_966 dX10_isSign_1 ?_
  refine lv_iconst (v := 3) hx hb dX10_isSign_4 (by decide) ?_
  refine lv_icmp_ne (tgt := 20) hx hb dX10_isSign_5 (by decide) (fun c1 => ?_) (fun c1 => ?_)
  · replace hw := hw.1 c1
    refine lv_iconst (v := 0) hx hb dX10_isSign_20 (by decide) ?_
    exact g_zret E (Or.inl rfl) hw hP hS dX10_isSign_21
  · replace hw := hw.2 c1
    refine lv_aload_n hx hb dX10_isSign_8 rfl (lv_at hl 0 rfl) ?_
    refine fX10_22 E hP mw_968 dX10_isSign_9 ?_
    refine lv_iload_n hx hb dX10_isSign_12 rfl (lv_at hl 1 rfl) ?_
    refine lv_icmp_ne (tgt := 20) hx hb dX10_isSign_13 (by decide) (fun c2 => ?_) (fun c2 => ?_)
    · replace hw := hw.1 c2
      refine lv_iconst (v := 0) hx hb dX10_isSign_20 (by decide) ?_
      exact g_zret E (Or.inl rfl) hw hP hS dX10_isSign_21
    · replace hw := hw.2 c2
      refine lv_iconst (v := 1) hx hb dX10_isSign_16 (by decide) ?_
      refine lv_goto (tgt := 21) hx hb dX10_isSign_17 (by decide) ?_
      exact g_zret E (Or.inr rfl) hw hP hS dX10_isSign_21
theorem c_X10_isSign (l : Launch) (D : va_G) (cy : Nat → ClassId) (ad : Nat → Nat → Nat) (ha : Apart regsM ad) {post : Int32 → St → Prop} {σ : St} {x1 : Int32} (hw : w_X10_isSign post σ x1) (sz : Nat) : MetI l yX10_isSign cX10_isSign 2 .boolean rm_X10_isSign [.ref (ad 0 0), .int x1] D cy (cellM cy ad) regsM ad σ sz (fun r u => (r = 0 ∨ r = 1) ∧ post r u) :=
  Met_inI ok_X10_isSign.2.2.2.2.2 (Nat.le_of_ble_eq_true rfl) (fun p e s m below meth c ls E hP hl => B_X10_isSign_0 E ha hw hP va_S.rf hl)
-- RoofWarModel.isWordAt(IIII)Z
theorem dX10_isWordAt_0 : decode cX10_isWordAt 0 = .ok (.iload 4, 2) := by decide +kernel
theorem dX10_isWordAt_2 : decode cX10_isWordAt 2 = .ok (.ifCond .ne 7, 3) := by decide +kernel
theorem dX10_isWordAt_5 : decode cX10_isWordAt 5 = .ok (.iconst 3, 1) := by decide +kernel
theorem dX10_isWordAt_6 : decode cX10_isWordAt 6 = .ok (.goto 4, 3) := by decide +kernel
theorem dX10_isWordAt_9 : decode cX10_isWordAt 9 = .ok (.iconst 4, 1) := by decide +kernel
theorem dX10_isWordAt_10 : decode cX10_isWordAt 10 = .ok (.istore 5, 2) := by decide +kernel
theorem dX10_isWordAt_12 : decode cX10_isWordAt 12 = .ok (.aload_n 0, 1) := by decide +kernel
theorem dX10_isWordAt_13 : decode cX10_isWordAt 13 = .ok (.getfield 247, 3) := by decide +kernel
theorem dX10_isWordAt_16 : decode cX10_isWordAt 16 = .ok (.iconst 1, 1) := by decide +kernel
theorem dX10_isWordAt_17 : decode cX10_isWordAt 17 = .ok (.if_icmp .ne 85, 3) := by decide +kernel
theorem dX10_isWordAt_20 : decode cX10_isWordAt 20 = .ok (.aload_n 0, 1) := by decide +kernel
theorem dX10_isWordAt_21 : decode cX10_isWordAt 21 = .ok (.getfield 244, 3) := by decide +kernel
theorem dX10_isWordAt_24 : decode cX10_isWordAt 24 = .ok (.aload_n 0, 1) := by decide +kernel
theorem dX10_isWordAt_25 : decode cX10_isWordAt 25 = .ok (.getfield 250, 3) := by decide +kernel
theorem dX10_isWordAt_28 : decode cX10_isWordAt 28 = .ok (.isub, 1) := by decide +kernel
theorem dX10_isWordAt_29 : decode cX10_isWordAt 29 = .ok (.iload 5, 2) := by decide +kernel
theorem dX10_isWordAt_31 : decode cX10_isWordAt 31 = .ok (.if_icmp .ne 71, 3) := by decide +kernel
theorem dX10_isWordAt_34 : decode cX10_isWordAt 34 = .ok (.aload_n 0, 1) := by decide +kernel
theorem dX10_isWordAt_35 : decode cX10_isWordAt 35 = .ok (.getfield 52, 3) := by decide +kernel
theorem dX10_isWordAt_38 : decode cX10_isWordAt 38 = .ok (.aload_n 0, 1) := by decide +kernel
theorem dX10_isWordAt_39 : decode cX10_isWordAt 39 = .ok (.getfield 250, 3) := by decide +kernel
theorem dX10_isWordAt_42 : decode cX10_isWordAt 42 = .ok (.iaload, 1) := by decide +kernel
theorem dX10_isWordAt_43 : decode cX10_isWordAt 43 = .ok (.iload_n 1, 1) := by decide +kernel
theorem dX10_isWordAt_44 : decode cX10_isWordAt 44 = .ok (.if_icmp .ne 58, 3) := by decide +kernel
theorem dX10_isWordAt_47 : decode cX10_isWordAt 47 = .ok (.aload_n 0, 1) := by decide +kernel
theorem dX10_isWordAt_48 : decode cX10_isWordAt 48 = .ok (.getfield 52, 3) := by decide +kernel
theorem dX10_isWordAt_51 : decode cX10_isWordAt 51 = .ok (.aload_n 0, 1) := by decide +kernel
theorem dX10_isWordAt_52 : decode cX10_isWordAt 52 = .ok (.getfield 250, 3) := by decide +kernel
theorem dX10_isWordAt_55 : decode cX10_isWordAt 55 = .ok (.iconst 1, 1) := by decide +kernel
theorem dX10_isWordAt_56 : decode cX10_isWordAt 56 = .ok (.iadd, 1) := by decide +kernel
theorem dX10_isWordAt_57 : decode cX10_isWordAt 57 = .ok (.iaload, 1) := by decide +kernel
theorem dX10_isWordAt_58 : decode cX10_isWordAt 58 = .ok (.iload_n 2, 1) := by decide +kernel
theorem dX10_isWordAt_59 : decode cX10_isWordAt 59 = .ok (.if_icmp .ne 43, 3) := by decide +kernel
theorem dX10_isWordAt_62 : decode cX10_isWordAt 62 = .ok (.aload_n 0, 1) := by decide +kernel
theorem dX10_isWordAt_63 : decode cX10_isWordAt 63 = .ok (.getfield 52, 3) := by decide +kernel
theorem dX10_isWordAt_66 : decode cX10_isWordAt 66 = .ok (.aload_n 0, 1) := by decide +kernel
theorem dX10_isWordAt_67 : decode cX10_isWordAt 67 = .ok (.getfield 250, 3) := by decide +kernel
theorem dX10_isWordAt_70 : decode cX10_isWordAt 70 = .ok (.iconst 2, 1) := by decide +kernel
theorem dX10_isWordAt_71 : decode cX10_isWordAt 71 = .ok (.iadd, 1) := by decide +kernel
theorem dX10_isWordAt_72 : decode cX10_isWordAt 72 = .ok (.iaload, 1) := by decide +kernel
theorem dX10_isWordAt_73 : decode cX10_isWordAt 73 = .ok (.iload_n 3, 1) := by decide +kernel
theorem dX10_isWordAt_74 : decode cX10_isWordAt 74 = .ok (.if_icmp .ne 28, 3) := by decide +kernel
theorem dX10_isWordAt_77 : decode cX10_isWordAt 77 = .ok (.iload 4, 2) := by decide +kernel
theorem dX10_isWordAt_79 : decode cX10_isWordAt 79 = .ok (.ifCond .eq 19, 3) := by decide +kernel
theorem dX10_isWordAt_82 : decode cX10_isWordAt 82 = .ok (.aload_n 0, 1) := by decide +kernel
theorem dX10_isWordAt_83 : decode cX10_isWordAt 83 = .ok (.getfield 52, 3) := by decide +kernel
theorem dX10_isWordAt_86 : decode cX10_isWordAt 86 = .ok (.aload_n 0, 1) := by decide +kernel
theorem dX10_isWordAt_87 : decode cX10_isWordAt 87 = .ok (.getfield 250, 3) := by decide +kernel
theorem dX10_isWordAt_90 : decode cX10_isWordAt 90 = .ok (.iconst 3, 1) := by decide +kernel
theorem dX10_isWordAt_91 : decode cX10_isWordAt 91 = .ok (.iadd, 1) := by decide +kernel
theorem dX10_isWordAt_92 : decode cX10_isWordAt 92 = .ok (.iaload, 1) := by decide +kernel
theorem dX10_isWordAt_93 : decode cX10_isWordAt 93 = .ok (.iload 4, 2) := by decide +kernel
theorem dX10_isWordAt_95 : decode cX10_isWordAt 95 = .ok (.if_icmp .ne 7, 3) := by decide +kernel
theorem dX10_isWordAt_98 : decode cX10_isWordAt 98 = .ok (.iconst 1, 1) := by decide +kernel
theorem dX10_isWordAt_99 : decode cX10_isWordAt 99 = .ok (.goto 4, 3) := by decide +kernel
theorem dX10_isWordAt_102 : decode cX10_isWordAt 102 = .ok (.iconst 0, 1) := by decide +kernel
theorem dX10_isWordAt_103 : decode cX10_isWordAt 103 = .ok (.ireturn, 1) := by decide +kernel
theorem ok_X10_isWordAt : okV yX10_isWordAt cX10_isWordAt 6 (some .boolean) 4 := ⟨mw_1319, mw_61, mw_83, mw_1320, by decide +kernel, by decide +kernel⟩
abbrev rm_X10_isWordAt : Room := { frames := 0, cells := 0, slots := 0, locals := 0 }
def b_X10_isWordAt_10 (post : Int32 → St → Prop) (σ : St) (y0 : Int32) (x1 : Int32) (x2 : Int32) (x3 : Int32) (x4 : Int32) : Prop := ((¬ (σ 0 0 5) = 1 → (post 0 σ)) ∧ ((σ 0 0 5) = 1 → (((¬ ((σ 0 0 4) - (σ 0 0 3)) = y0 → (post 0 σ)) ∧ (((σ 0 0 4) - (σ 0 0 3)) = y0 → (vp_in (σ 0 0 3) 96 ∧ (((¬ (σ 15 0 (σ 0 0 3).toNatClampNeg) = x1 → (post 0 σ)) ∧ ((σ 15 0 (σ 0 0 3).toNatClampNeg) = x1 → (vp_in ((σ 0 0 3) + 1) 96 ∧ (((¬ (σ 15 0 ((σ 0 0 3) + 1).toNatClampNeg) = x2 → (post 0 σ)) ∧ ((σ 15 0 ((σ 0 0 3) + 1).toNatClampNeg) = x2 → (vp_in ((σ 0 0 3) + 2) 96 ∧ (((¬ (σ 15 0 ((σ 0 0 3) + 2).toNatClampNeg) = x3 → (post 0 σ)) ∧ ((σ 15 0 ((σ 0 0 3) + 2).toNatClampNeg) = x3 → (((x4 = 0 → (post 1 σ)) ∧ (¬ x4 = 0 → (vp_in ((σ 0 0 3) + 3) 96 ∧ (((¬ (σ 15 0 ((σ 0 0 3) + 3).toNatClampNeg) = x4 → (post 0 σ)) ∧ ((σ 15 0 ((σ 0 0 3) + 3).toNatClampNeg) = x4 → (post 1 σ)))))))))))))))))))))))))
theorem B_X10_isWordAt_10 (E : EnvW p s m args meth c D cy regsM ad "RoofWarModel" cX10_isWordAt 6 (some .boolean)) (ha : Apart regsM ad) {post : Int32 → St → Prop} {σ : St} {y0 : Int32} {x1 : Int32} {x2 : Int32} {x3 : Int32} {x4 : Int32} (hw : b_X10_isWordAt_10 post σ y0 x1 x2 x3 x4) {H : Heap} {locs : List Loc} {ls : Array Slot} (hP : va_P D CLS (wM cy ad σ) H) (hS : va_S (AM ad s.heap.size) s.heap H locs) (hl : lv_has ls 6 [(0, .ref (ad 0 0)), (1, .int x1), (2, .int x2), (3, .int x3), (4, .int x4)]) : W p l e rm_X10_isWordAt s m args below meth c H locs 0 0 (MQ below (QI D cy (cellM cy ad) regsM ad s.heap.size (fun r u => (r = 0 ∨ r = 1) ∧ post r u)) args s 0 0 (AM ad s.heap.size)) (F0 m 10 ls [.int y0]) := by
  obtain ⟨hx, hb, -⟩ := id E
  unfold b_X10_isWordAt_10 at hw
  refine lv_istore (lv' := [(5, .int y0), (0, .ref (ad 0 0)), (1, .int x1), (2, .int x2), (3, .int x3), (4, .int x4)]) hx hb dX10_isWordAt_10 hl (by decide) rfl (fun ls hl => ?_)
  refine lv_aload_n hx hb dX10_isWordAt_12 rfl (lv_at hl 1 rfl) ?_
  refine fX10_20 E hP mw_966 dX10_isWordAt_13 ?_
  refine lv_iconst (v := 1) hx hb dX10_isWordAt_16 (by decide) ?_
  refine lv_icmp_ne (tgt := 102) hx hb dX10_isWordAt_17 (by decide) (fun c1 => ?_) (fun c1 => ?_)
  · replace hw := hw.1 c1
    refine lv_iconst (v := 0) hx hb dX10_isWordAt_102 (by decide) ?_
    exact g_zret E (Or.inl rfl) hw hP hS dX10_isWordAt_103
  · replace hw := hw.2 c1
    refine lv_aload_n hx hb dX10_isWordAt_20 rfl (lv_at hl 1 rfl) ?_
    refine fX10_19 E hP mw_965 dX10_isWordAt_21 ?_
    refine lv_aload_n hx hb dX10_isWordAt_24 rfl (lv_at hl 1 rfl) ?_
    refine fX10_18 E hP mw_964 dX10_isWordAt_25 ?_
    refine lv_isub hx hb dX10_isWordAt_28 ?_
    refine lv_iload hx hb dX10_isWordAt_29 (lv_at hl 0 rfl) ?_
    refine lv_icmp_ne (tgt := 102) hx hb dX10_isWordAt_31 (by decide) (fun c2 => ?_) (fun c2 => ?_)
    · replace hw := hw.1 c2
      refine lv_iconst (v := 0) hx hb dX10_isWordAt_102 (by decide) ?_
      exact g_zret E (Or.inl rfl) hw hP hS dX10_isWordAt_103
    · replace hw := hw.2 c2
      refine lv_aload_n hx hb dX10_isWordAt_34 rfl (lv_at hl 1 rfl) ?_
      refine fX10_16 E hP mw_962 dX10_isWordAt_35 ?_
      refine lv_aload_n hx hb dX10_isWordAt_38 rfl (lv_at hl 1 rfl) ?_
      refine fX10_18 E hP mw_964 dX10_isWordAt_39 ?_
      obtain ⟨h3, hw⟩ := hw
      refine aM15 E hP h3 dX10_isWordAt_42 ?_
      refine lv_iload_n hx hb dX10_isWordAt_43 rfl (lv_at hl 2 rfl) ?_
      refine lv_icmp_ne (tgt := 102) hx hb dX10_isWordAt_44 (by decide) (fun c4 => ?_) (fun c4 => ?_)
      · replace hw := hw.1 c4
        refine lv_iconst (v := 0) hx hb dX10_isWordAt_102 (by decide) ?_
        exact g_zret E (Or.inl rfl) hw hP hS dX10_isWordAt_103
      · replace hw := hw.2 c4
        refine lv_aload_n hx hb dX10_isWordAt_47 rfl (lv_at hl 1 rfl) ?_
        refine fX10_16 E hP mw_962 dX10_isWordAt_48 ?_
        refine lv_aload_n hx hb dX10_isWordAt_51 rfl (lv_at hl 1 rfl) ?_
        refine fX10_18 E hP mw_964 dX10_isWordAt_52 ?_
        refine lv_iconst (v := 1) hx hb dX10_isWordAt_55 (by decide) ?_
        refine lv_iadd hx hb dX10_isWordAt_56 ?_
        obtain ⟨h5, hw⟩ := hw
        refine aM15 E hP h5 dX10_isWordAt_57 ?_
        refine lv_iload_n hx hb dX10_isWordAt_58 rfl (lv_at hl 3 rfl) ?_
        refine lv_icmp_ne (tgt := 102) hx hb dX10_isWordAt_59 (by decide) (fun c6 => ?_) (fun c6 => ?_)
        · replace hw := hw.1 c6
          refine lv_iconst (v := 0) hx hb dX10_isWordAt_102 (by decide) ?_
          exact g_zret E (Or.inl rfl) hw hP hS dX10_isWordAt_103
        · replace hw := hw.2 c6
          refine lv_aload_n hx hb dX10_isWordAt_62 rfl (lv_at hl 1 rfl) ?_
          refine fX10_16 E hP mw_962 dX10_isWordAt_63 ?_
          refine lv_aload_n hx hb dX10_isWordAt_66 rfl (lv_at hl 1 rfl) ?_
          refine fX10_18 E hP mw_964 dX10_isWordAt_67 ?_
          refine lv_iconst (v := 2) hx hb dX10_isWordAt_70 (by decide) ?_
          refine lv_iadd hx hb dX10_isWordAt_71 ?_
          obtain ⟨h7, hw⟩ := hw
          refine aM15 E hP h7 dX10_isWordAt_72 ?_
          refine lv_iload_n hx hb dX10_isWordAt_73 rfl (lv_at hl 4 rfl) ?_
          refine lv_icmp_ne (tgt := 102) hx hb dX10_isWordAt_74 (by decide) (fun c8 => ?_) (fun c8 => ?_)
          · replace hw := hw.1 c8
            refine lv_iconst (v := 0) hx hb dX10_isWordAt_102 (by decide) ?_
            exact g_zret E (Or.inl rfl) hw hP hS dX10_isWordAt_103
          · replace hw := hw.2 c8
            refine lv_iload hx hb dX10_isWordAt_77 (lv_at hl 5 rfl) ?_
            refine lv_if_eq (tgt := 98) hx hb dX10_isWordAt_79 (by decide) (fun c9 => ?_) (fun c9 => ?_)
            · replace hw := hw.1 c9
              refine lv_iconst (v := 1) hx hb dX10_isWordAt_98 (by decide) ?_
              refine lv_goto (tgt := 103) hx hb dX10_isWordAt_99 (by decide) ?_
              exact g_zret E (Or.inr rfl) hw hP hS dX10_isWordAt_103
            · replace hw := hw.2 c9
              refine lv_aload_n hx hb dX10_isWordAt_82 rfl (lv_at hl 1 rfl) ?_
              refine fX10_16 E hP mw_962 dX10_isWordAt_83 ?_
              refine lv_aload_n hx hb dX10_isWordAt_86 rfl (lv_at hl 1 rfl) ?_
              refine fX10_18 E hP mw_964 dX10_isWordAt_87 ?_
              refine lv_iconst (v := 3) hx hb dX10_isWordAt_90 (by decide) ?_
              refine lv_iadd hx hb dX10_isWordAt_91 ?_
              obtain ⟨h10, hw⟩ := hw
              refine aM15 E hP h10 dX10_isWordAt_92 ?_
              refine lv_iload hx hb dX10_isWordAt_93 (lv_at hl 5 rfl) ?_
              refine lv_icmp_ne (tgt := 102) hx hb dX10_isWordAt_95 (by decide) (fun c11 => ?_) (fun c11 => ?_)
              · replace hw := hw.1 c11
                refine lv_iconst (v := 0) hx hb dX10_isWordAt_102 (by decide) ?_
                exact g_zret E (Or.inl rfl) hw hP hS dX10_isWordAt_103
              · replace hw := hw.2 c11
                refine lv_iconst (v := 1) hx hb dX10_isWordAt_98 (by decide) ?_
                refine lv_goto (tgt := 103) hx hb dX10_isWordAt_99 (by decide) ?_
                exact g_zret E (Or.inr rfl) hw hP hS dX10_isWordAt_103
def w_X10_isWordAt (post : Int32 → St → Prop) (σ : St) (x1 : Int32) (x2 : Int32) (x3 : Int32) (x4 : Int32) : Prop := ((¬ x4 = 0 → (b_X10_isWordAt_10 post σ (4 : Int32) x1 x2 x3 x4)) ∧ (x4 = 0 → (b_X10_isWordAt_10 post σ (3 : Int32) x1 x2 x3 x4)))
theorem B_X10_isWordAt_0 (E : EnvW p s m args meth c D cy regsM ad "RoofWarModel" cX10_isWordAt 6 (some .boolean)) (ha : Apart regsM ad) {post : Int32 → St → Prop} {σ : St} {x1 : Int32} {x2 : Int32} {x3 : Int32} {x4 : Int32} (hw : w_X10_isWordAt post σ x1 x2 x3 x4) {H : Heap} {locs : List Loc} {ls : Array Slot} (hP : va_P D CLS (wM cy ad σ) H) (hS : va_S (AM ad s.heap.size) s.heap H locs) (hl : lv_has ls 6 [(0, .ref (ad 0 0)), (1, .int x1), (2, .int x2), (3, .int x3), (4, .int x4)]) : W p l e rm_X10_isWordAt s m args below meth c H locs 0 0 (MQ below (QI D cy (cellM cy ad) regsM ad s.heap.size (fun r u => (r = 0 ∨ r = 1) ∧ post r u)) args s 0 0 (AM ad s.heap.size)) (F0 m 0 ls []) := by
  obtain ⟨hx, hb, -⟩ := id E
  unfold w_X10_isWordAt at hw
  refine lv_iload hx hb dX10_isWordAt_0 (lv_at hl 4 rfl) ?_
  refine lv_if_ne (tgt := 9) hx hb dX10_isWordAt_2 (by decide) (fun c1 => ?_) (fun c1 => ?_)
  · replace hw := hw.1 c1
    refine lv_iconst (v := 4) hx hb dX10_isWordAt_9 (by decide) ?_
    exact B_X10_isWordAt_10 E ha hw hP hS (lv_sub hl [0, 1, 2, 3, 4] rfl)
  · replace hw := hw.2 c1
    refine lv_iconst (v := 3) hx hb dX10_isWordAt_5 (by decide) ?_
    refine lv_goto (tgt := 10) hx hb dX10_isWordAt_6 (by decide) ?_
    exact B_X10_isWordAt_10 E ha hw hP hS (lv_sub hl [0, 1, 2, 3, 4] rfl)
theorem c_X10_isWordAt (l : Launch) (D : va_G) (cy : Nat → ClassId) (ad : Nat → Nat → Nat) (ha : Apart regsM ad) {post : Int32 → St → Prop} {σ : St} {x1 : Int32} {x2 : Int32} {x3 : Int32} {x4 : Int32} (hw : w_X10_isWordAt post σ x1 x2 x3 x4) (sz : Nat) : MetI l yX10_isWordAt cX10_isWordAt 6 .boolean rm_X10_isWordAt [.ref (ad 0 0), .int x1, .int x2, .int x3, .int x4] D cy (cellM cy ad) regsM ad σ sz (fun r u => (r = 0 ∨ r = 1) ∧ post r u) :=
  Met_inI ok_X10_isWordAt.2.2.2.2.2 (Nat.le_of_ble_eq_true rfl) (fun p e s m below meth c ls E hP hl => B_X10_isWordAt_0 E ha hw hP va_S.rf hl)
-- RoofWarModel.isLong(IIIIII)Z
theorem dX10_isLong_0 : decode cX10_isLong 0 = .ok (.iload 6, 2) := by decide +kernel
theorem dX10_isLong_2 : decode cX10_isLong 2 = .ok (.ifCond .ne 7, 3) := by decide +kernel
theorem dX10_isLong_5 : decode cX10_isLong 5 = .ok (.iconst 5, 1) := by decide +kernel
theorem dX10_isLong_6 : decode cX10_isLong 6 = .ok (.goto 5, 3) := by decide +kernel
theorem dX10_isLong_9 : decode cX10_isLong 9 = .ok (.bipush 6, 2) := by decide +kernel
theorem dX10_isLong_11 : decode cX10_isLong 11 = .ok (.istore 7, 2) := by decide +kernel
theorem dX10_isLong_13 : decode cX10_isLong 13 = .ok (.aload_n 0, 1) := by decide +kernel
theorem dX10_isLong_14 : decode cX10_isLong 14 = .ok (.getfield 247, 3) := by decide +kernel
theorem dX10_isLong_17 : decode cX10_isLong 17 = .ok (.iconst 1, 1) := by decide +kernel
theorem dX10_isLong_18 : decode cX10_isLong 18 = .ok (.if_icmp .ne 117, 3) := by decide +kernel
theorem dX10_isLong_21 : decode cX10_isLong 21 = .ok (.aload_n 0, 1) := by decide +kernel
theorem dX10_isLong_22 : decode cX10_isLong 22 = .ok (.getfield 244, 3) := by decide +kernel
theorem dX10_isLong_25 : decode cX10_isLong 25 = .ok (.aload_n 0, 1) := by decide +kernel
theorem dX10_isLong_26 : decode cX10_isLong 26 = .ok (.getfield 250, 3) := by decide +kernel
theorem dX10_isLong_29 : decode cX10_isLong 29 = .ok (.isub, 1) := by decide +kernel
theorem dX10_isLong_30 : decode cX10_isLong 30 = .ok (.iload 7, 2) := by decide +kernel
theorem dX10_isLong_32 : decode cX10_isLong 32 = .ok (.if_icmp .ne 103, 3) := by decide +kernel
theorem dX10_isLong_35 : decode cX10_isLong 35 = .ok (.aload_n 0, 1) := by decide +kernel
theorem dX10_isLong_36 : decode cX10_isLong 36 = .ok (.getfield 52, 3) := by decide +kernel
theorem dX10_isLong_39 : decode cX10_isLong 39 = .ok (.aload_n 0, 1) := by decide +kernel
theorem dX10_isLong_40 : decode cX10_isLong 40 = .ok (.getfield 250, 3) := by decide +kernel
theorem dX10_isLong_43 : decode cX10_isLong 43 = .ok (.iaload, 1) := by decide +kernel
theorem dX10_isLong_44 : decode cX10_isLong 44 = .ok (.iload_n 1, 1) := by decide +kernel
theorem dX10_isLong_45 : decode cX10_isLong 45 = .ok (.if_icmp .ne 90, 3) := by decide +kernel
theorem dX10_isLong_48 : decode cX10_isLong 48 = .ok (.aload_n 0, 1) := by decide +kernel
theorem dX10_isLong_49 : decode cX10_isLong 49 = .ok (.getfield 52, 3) := by decide +kernel
theorem dX10_isLong_52 : decode cX10_isLong 52 = .ok (.aload_n 0, 1) := by decide +kernel
theorem dX10_isLong_53 : decode cX10_isLong 53 = .ok (.getfield 250, 3) := by decide +kernel
theorem dX10_isLong_56 : decode cX10_isLong 56 = .ok (.iconst 1, 1) := by decide +kernel
theorem dX10_isLong_57 : decode cX10_isLong 57 = .ok (.iadd, 1) := by decide +kernel
theorem dX10_isLong_58 : decode cX10_isLong 58 = .ok (.iaload, 1) := by decide +kernel
theorem dX10_isLong_59 : decode cX10_isLong 59 = .ok (.iload_n 2, 1) := by decide +kernel
theorem dX10_isLong_60 : decode cX10_isLong 60 = .ok (.if_icmp .ne 75, 3) := by decide +kernel
theorem dX10_isLong_63 : decode cX10_isLong 63 = .ok (.aload_n 0, 1) := by decide +kernel
theorem dX10_isLong_64 : decode cX10_isLong 64 = .ok (.getfield 52, 3) := by decide +kernel
theorem dX10_isLong_67 : decode cX10_isLong 67 = .ok (.aload_n 0, 1) := by decide +kernel
theorem dX10_isLong_68 : decode cX10_isLong 68 = .ok (.getfield 250, 3) := by decide +kernel
theorem dX10_isLong_71 : decode cX10_isLong 71 = .ok (.iconst 2, 1) := by decide +kernel
theorem dX10_isLong_72 : decode cX10_isLong 72 = .ok (.iadd, 1) := by decide +kernel
theorem dX10_isLong_73 : decode cX10_isLong 73 = .ok (.iaload, 1) := by decide +kernel
theorem dX10_isLong_74 : decode cX10_isLong 74 = .ok (.iload_n 3, 1) := by decide +kernel
theorem dX10_isLong_75 : decode cX10_isLong 75 = .ok (.if_icmp .ne 60, 3) := by decide +kernel
theorem dX10_isLong_78 : decode cX10_isLong 78 = .ok (.aload_n 0, 1) := by decide +kernel
theorem dX10_isLong_79 : decode cX10_isLong 79 = .ok (.getfield 52, 3) := by decide +kernel
theorem dX10_isLong_82 : decode cX10_isLong 82 = .ok (.aload_n 0, 1) := by decide +kernel
theorem dX10_isLong_83 : decode cX10_isLong 83 = .ok (.getfield 250, 3) := by decide +kernel
theorem dX10_isLong_86 : decode cX10_isLong 86 = .ok (.iconst 3, 1) := by decide +kernel
theorem dX10_isLong_87 : decode cX10_isLong 87 = .ok (.iadd, 1) := by decide +kernel
theorem dX10_isLong_88 : decode cX10_isLong 88 = .ok (.iaload, 1) := by decide +kernel
theorem dX10_isLong_89 : decode cX10_isLong 89 = .ok (.iload 4, 2) := by decide +kernel
theorem dX10_isLong_91 : decode cX10_isLong 91 = .ok (.if_icmp .ne 44, 3) := by decide +kernel
theorem dX10_isLong_94 : decode cX10_isLong 94 = .ok (.aload_n 0, 1) := by decide +kernel
theorem dX10_isLong_95 : decode cX10_isLong 95 = .ok (.getfield 52, 3) := by decide +kernel
theorem dX10_isLong_98 : decode cX10_isLong 98 = .ok (.aload_n 0, 1) := by decide +kernel
theorem dX10_isLong_99 : decode cX10_isLong 99 = .ok (.getfield 250, 3) := by decide +kernel
theorem dX10_isLong_102 : decode cX10_isLong 102 = .ok (.iconst 4, 1) := by decide +kernel
theorem dX10_isLong_103 : decode cX10_isLong 103 = .ok (.iadd, 1) := by decide +kernel
theorem dX10_isLong_104 : decode cX10_isLong 104 = .ok (.iaload, 1) := by decide +kernel
theorem dX10_isLong_105 : decode cX10_isLong 105 = .ok (.iload 5, 2) := by decide +kernel
theorem dX10_isLong_107 : decode cX10_isLong 107 = .ok (.if_icmp .ne 28, 3) := by decide +kernel
theorem dX10_isLong_110 : decode cX10_isLong 110 = .ok (.iload 6, 2) := by decide +kernel
theorem dX10_isLong_112 : decode cX10_isLong 112 = .ok (.ifCond .eq 19, 3) := by decide +kernel
theorem dX10_isLong_115 : decode cX10_isLong 115 = .ok (.aload_n 0, 1) := by decide +kernel
theorem dX10_isLong_116 : decode cX10_isLong 116 = .ok (.getfield 52, 3) := by decide +kernel
theorem dX10_isLong_119 : decode cX10_isLong 119 = .ok (.aload_n 0, 1) := by decide +kernel
theorem dX10_isLong_120 : decode cX10_isLong 120 = .ok (.getfield 250, 3) := by decide +kernel
theorem dX10_isLong_123 : decode cX10_isLong 123 = .ok (.iconst 5, 1) := by decide +kernel
theorem dX10_isLong_124 : decode cX10_isLong 124 = .ok (.iadd, 1) := by decide +kernel
theorem dX10_isLong_125 : decode cX10_isLong 125 = .ok (.iaload, 1) := by decide +kernel
theorem dX10_isLong_126 : decode cX10_isLong 126 = .ok (.iload 6, 2) := by decide +kernel
theorem dX10_isLong_128 : decode cX10_isLong 128 = .ok (.if_icmp .ne 7, 3) := by decide +kernel
theorem dX10_isLong_131 : decode cX10_isLong 131 = .ok (.iconst 1, 1) := by decide +kernel
theorem dX10_isLong_132 : decode cX10_isLong 132 = .ok (.goto 4, 3) := by decide +kernel
theorem dX10_isLong_135 : decode cX10_isLong 135 = .ok (.iconst 0, 1) := by decide +kernel
theorem dX10_isLong_136 : decode cX10_isLong 136 = .ok (.ireturn, 1) := by decide +kernel
theorem ok_X10_isLong : okV yX10_isLong cX10_isLong 8 (some .boolean) 6 := ⟨mw_1316, mw_60, mw_83, mw_1317, by decide +kernel, by decide +kernel⟩
abbrev rm_X10_isLong : Room := { frames := 0, cells := 0, slots := 0, locals := 0 }
def b_X10_isLong_11 (post : Int32 → St → Prop) (σ : St) (y0 : Int32) (x1 : Int32) (x2 : Int32) (x3 : Int32) (x4 : Int32) (x5 : Int32) (x6 : Int32) : Prop := ((¬ (σ 0 0 5) = 1 → (post 0 σ)) ∧ ((σ 0 0 5) = 1 → (((¬ ((σ 0 0 4) - (σ 0 0 3)) = y0 → (post 0 σ)) ∧ (((σ 0 0 4) - (σ 0 0 3)) = y0 → (vp_in (σ 0 0 3) 96 ∧ (((¬ (σ 15 0 (σ 0 0 3).toNatClampNeg) = x1 → (post 0 σ)) ∧ ((σ 15 0 (σ 0 0 3).toNatClampNeg) = x1 → (vp_in ((σ 0 0 3) + 1) 96 ∧ (((¬ (σ 15 0 ((σ 0 0 3) + 1).toNatClampNeg) = x2 → (post 0 σ)) ∧ ((σ 15 0 ((σ 0 0 3) + 1).toNatClampNeg) = x2 → (vp_in ((σ 0 0 3) + 2) 96 ∧ (((¬ (σ 15 0 ((σ 0 0 3) + 2).toNatClampNeg) = x3 → (post 0 σ)) ∧ ((σ 15 0 ((σ 0 0 3) + 2).toNatClampNeg) = x3 → (vp_in ((σ 0 0 3) + 3) 96 ∧ (((¬ (σ 15 0 ((σ 0 0 3) + 3).toNatClampNeg) = x4 → (post 0 σ)) ∧ ((σ 15 0 ((σ 0 0 3) + 3).toNatClampNeg) = x4 → (vp_in ((σ 0 0 3) + 4) 96 ∧ (((¬ (σ 15 0 ((σ 0 0 3) + 4).toNatClampNeg) = x5 → (post 0 σ)) ∧ ((σ 15 0 ((σ 0 0 3) + 4).toNatClampNeg) = x5 → (((x6 = 0 → (post 1 σ)) ∧ (¬ x6 = 0 → (vp_in ((σ 0 0 3) + 5) 96 ∧ (((¬ (σ 15 0 ((σ 0 0 3) + 5).toNatClampNeg) = x6 → (post 0 σ)) ∧ ((σ 15 0 ((σ 0 0 3) + 5).toNatClampNeg) = x6 → (post 1 σ)))))))))))))))))))))))))))))))))
theorem B_X10_isLong_11 (E : EnvW p s m args meth c D cy regsM ad "RoofWarModel" cX10_isLong 8 (some .boolean)) (ha : Apart regsM ad) {post : Int32 → St → Prop} {σ : St} {y0 : Int32} {x1 : Int32} {x2 : Int32} {x3 : Int32} {x4 : Int32} {x5 : Int32} {x6 : Int32} (hw : b_X10_isLong_11 post σ y0 x1 x2 x3 x4 x5 x6) {H : Heap} {locs : List Loc} {ls : Array Slot} (hP : va_P D CLS (wM cy ad σ) H) (hS : va_S (AM ad s.heap.size) s.heap H locs) (hl : lv_has ls 8 [(0, .ref (ad 0 0)), (1, .int x1), (2, .int x2), (3, .int x3), (4, .int x4), (5, .int x5), (6, .int x6)]) : W p l e rm_X10_isLong s m args below meth c H locs 0 0 (MQ below (QI D cy (cellM cy ad) regsM ad s.heap.size (fun r u => (r = 0 ∨ r = 1) ∧ post r u)) args s 0 0 (AM ad s.heap.size)) (F0 m 11 ls [.int y0]) := by
  obtain ⟨hx, hb, -⟩ := id E
  unfold b_X10_isLong_11 at hw
  refine lv_istore (lv' := [(7, .int y0), (0, .ref (ad 0 0)), (1, .int x1), (2, .int x2), (3, .int x3), (4, .int x4), (5, .int x5), (6, .int x6)]) hx hb dX10_isLong_11 hl (by decide) rfl (fun ls hl => ?_)
  refine lv_aload_n hx hb dX10_isLong_13 rfl (lv_at hl 1 rfl) ?_
  refine fX10_20 E hP mw_966 dX10_isLong_14 ?_
  refine lv_iconst (v := 1) hx hb dX10_isLong_17 (by decide) ?_
  refine lv_icmp_ne (tgt := 135) hx hb dX10_isLong_18 (by decide) (fun c1 => ?_) (fun c1 => ?_)
  · replace hw := hw.1 c1
    refine lv_iconst (v := 0) hx hb dX10_isLong_135 (by decide) ?_
    exact g_zret E (Or.inl rfl) hw hP hS dX10_isLong_136
  · replace hw := hw.2 c1
    refine lv_aload_n hx hb dX10_isLong_21 rfl (lv_at hl 1 rfl) ?_
    refine fX10_19 E hP mw_965 dX10_isLong_22 ?_
    refine lv_aload_n hx hb dX10_isLong_25 rfl (lv_at hl 1 rfl) ?_
    refine fX10_18 E hP mw_964 dX10_isLong_26 ?_
    refine lv_isub hx hb dX10_isLong_29 ?_
    refine lv_iload hx hb dX10_isLong_30 (lv_at hl 0 rfl) ?_
    refine lv_icmp_ne (tgt := 135) hx hb dX10_isLong_32 (by decide) (fun c2 => ?_) (fun c2 => ?_)
    · replace hw := hw.1 c2
      refine lv_iconst (v := 0) hx hb dX10_isLong_135 (by decide) ?_
      exact g_zret E (Or.inl rfl) hw hP hS dX10_isLong_136
    · replace hw := hw.2 c2
      refine lv_aload_n hx hb dX10_isLong_35 rfl (lv_at hl 1 rfl) ?_
      refine fX10_16 E hP mw_962 dX10_isLong_36 ?_
      refine lv_aload_n hx hb dX10_isLong_39 rfl (lv_at hl 1 rfl) ?_
      refine fX10_18 E hP mw_964 dX10_isLong_40 ?_
      obtain ⟨h3, hw⟩ := hw
      refine aM15 E hP h3 dX10_isLong_43 ?_
      refine lv_iload_n hx hb dX10_isLong_44 rfl (lv_at hl 2 rfl) ?_
      refine lv_icmp_ne (tgt := 135) hx hb dX10_isLong_45 (by decide) (fun c4 => ?_) (fun c4 => ?_)
      · replace hw := hw.1 c4
        refine lv_iconst (v := 0) hx hb dX10_isLong_135 (by decide) ?_
        exact g_zret E (Or.inl rfl) hw hP hS dX10_isLong_136
      · replace hw := hw.2 c4
        refine lv_aload_n hx hb dX10_isLong_48 rfl (lv_at hl 1 rfl) ?_
        refine fX10_16 E hP mw_962 dX10_isLong_49 ?_
        refine lv_aload_n hx hb dX10_isLong_52 rfl (lv_at hl 1 rfl) ?_
        refine fX10_18 E hP mw_964 dX10_isLong_53 ?_
        refine lv_iconst (v := 1) hx hb dX10_isLong_56 (by decide) ?_
        refine lv_iadd hx hb dX10_isLong_57 ?_
        obtain ⟨h5, hw⟩ := hw
        refine aM15 E hP h5 dX10_isLong_58 ?_
        refine lv_iload_n hx hb dX10_isLong_59 rfl (lv_at hl 3 rfl) ?_
        refine lv_icmp_ne (tgt := 135) hx hb dX10_isLong_60 (by decide) (fun c6 => ?_) (fun c6 => ?_)
        · replace hw := hw.1 c6
          refine lv_iconst (v := 0) hx hb dX10_isLong_135 (by decide) ?_
          exact g_zret E (Or.inl rfl) hw hP hS dX10_isLong_136
        · replace hw := hw.2 c6
          refine lv_aload_n hx hb dX10_isLong_63 rfl (lv_at hl 1 rfl) ?_
          refine fX10_16 E hP mw_962 dX10_isLong_64 ?_
          refine lv_aload_n hx hb dX10_isLong_67 rfl (lv_at hl 1 rfl) ?_
          refine fX10_18 E hP mw_964 dX10_isLong_68 ?_
          refine lv_iconst (v := 2) hx hb dX10_isLong_71 (by decide) ?_
          refine lv_iadd hx hb dX10_isLong_72 ?_
          obtain ⟨h7, hw⟩ := hw
          refine aM15 E hP h7 dX10_isLong_73 ?_
          refine lv_iload_n hx hb dX10_isLong_74 rfl (lv_at hl 4 rfl) ?_
          refine lv_icmp_ne (tgt := 135) hx hb dX10_isLong_75 (by decide) (fun c8 => ?_) (fun c8 => ?_)
          · replace hw := hw.1 c8
            refine lv_iconst (v := 0) hx hb dX10_isLong_135 (by decide) ?_
            exact g_zret E (Or.inl rfl) hw hP hS dX10_isLong_136
          · replace hw := hw.2 c8
            refine lv_aload_n hx hb dX10_isLong_78 rfl (lv_at hl 1 rfl) ?_
            refine fX10_16 E hP mw_962 dX10_isLong_79 ?_
            refine lv_aload_n hx hb dX10_isLong_82 rfl (lv_at hl 1 rfl) ?_
            refine fX10_18 E hP mw_964 dX10_isLong_83 ?_
            refine lv_iconst (v := 3) hx hb dX10_isLong_86 (by decide) ?_
            refine lv_iadd hx hb dX10_isLong_87 ?_
            obtain ⟨h9, hw⟩ := hw
            refine aM15 E hP h9 dX10_isLong_88 ?_
            refine lv_iload hx hb dX10_isLong_89 (lv_at hl 5 rfl) ?_
            refine lv_icmp_ne (tgt := 135) hx hb dX10_isLong_91 (by decide) (fun c10 => ?_) (fun c10 => ?_)
            · replace hw := hw.1 c10
              refine lv_iconst (v := 0) hx hb dX10_isLong_135 (by decide) ?_
              exact g_zret E (Or.inl rfl) hw hP hS dX10_isLong_136
            · replace hw := hw.2 c10
              refine lv_aload_n hx hb dX10_isLong_94 rfl (lv_at hl 1 rfl) ?_
              refine fX10_16 E hP mw_962 dX10_isLong_95 ?_
              refine lv_aload_n hx hb dX10_isLong_98 rfl (lv_at hl 1 rfl) ?_
              refine fX10_18 E hP mw_964 dX10_isLong_99 ?_
              refine lv_iconst (v := 4) hx hb dX10_isLong_102 (by decide) ?_
              refine lv_iadd hx hb dX10_isLong_103 ?_
              obtain ⟨h11, hw⟩ := hw
              refine aM15 E hP h11 dX10_isLong_104 ?_
              refine lv_iload hx hb dX10_isLong_105 (lv_at hl 6 rfl) ?_
              refine lv_icmp_ne (tgt := 135) hx hb dX10_isLong_107 (by decide) (fun c12 => ?_) (fun c12 => ?_)
              · replace hw := hw.1 c12
                refine lv_iconst (v := 0) hx hb dX10_isLong_135 (by decide) ?_
                exact g_zret E (Or.inl rfl) hw hP hS dX10_isLong_136
              · replace hw := hw.2 c12
                refine lv_iload hx hb dX10_isLong_110 (lv_at hl 7 rfl) ?_
                refine lv_if_eq (tgt := 131) hx hb dX10_isLong_112 (by decide) (fun c13 => ?_) (fun c13 => ?_)
                · replace hw := hw.1 c13
                  refine lv_iconst (v := 1) hx hb dX10_isLong_131 (by decide) ?_
                  refine lv_goto (tgt := 136) hx hb dX10_isLong_132 (by decide) ?_
                  exact g_zret E (Or.inr rfl) hw hP hS dX10_isLong_136
                · replace hw := hw.2 c13
                  refine lv_aload_n hx hb dX10_isLong_115 rfl (lv_at hl 1 rfl) ?_
                  refine fX10_16 E hP mw_962 dX10_isLong_116 ?_
                  refine lv_aload_n hx hb dX10_isLong_119 rfl (lv_at hl 1 rfl) ?_
                  refine fX10_18 E hP mw_964 dX10_isLong_120 ?_
                  refine lv_iconst (v := 5) hx hb dX10_isLong_123 (by decide) ?_
                  refine lv_iadd hx hb dX10_isLong_124 ?_
                  obtain ⟨h14, hw⟩ := hw
                  refine aM15 E hP h14 dX10_isLong_125 ?_
                  refine lv_iload hx hb dX10_isLong_126 (lv_at hl 7 rfl) ?_
                  refine lv_icmp_ne (tgt := 135) hx hb dX10_isLong_128 (by decide) (fun c15 => ?_) (fun c15 => ?_)
                  · replace hw := hw.1 c15
                    refine lv_iconst (v := 0) hx hb dX10_isLong_135 (by decide) ?_
                    exact g_zret E (Or.inl rfl) hw hP hS dX10_isLong_136
                  · replace hw := hw.2 c15
                    refine lv_iconst (v := 1) hx hb dX10_isLong_131 (by decide) ?_
                    refine lv_goto (tgt := 136) hx hb dX10_isLong_132 (by decide) ?_
                    exact g_zret E (Or.inr rfl) hw hP hS dX10_isLong_136
def w_X10_isLong (post : Int32 → St → Prop) (σ : St) (x1 : Int32) (x2 : Int32) (x3 : Int32) (x4 : Int32) (x5 : Int32) (x6 : Int32) : Prop := ((¬ x6 = 0 → (b_X10_isLong_11 post σ (6 : Int32) x1 x2 x3 x4 x5 x6)) ∧ (x6 = 0 → (b_X10_isLong_11 post σ (5 : Int32) x1 x2 x3 x4 x5 x6)))
theorem B_X10_isLong_0 (E : EnvW p s m args meth c D cy regsM ad "RoofWarModel" cX10_isLong 8 (some .boolean)) (ha : Apart regsM ad) {post : Int32 → St → Prop} {σ : St} {x1 : Int32} {x2 : Int32} {x3 : Int32} {x4 : Int32} {x5 : Int32} {x6 : Int32} (hw : w_X10_isLong post σ x1 x2 x3 x4 x5 x6) {H : Heap} {locs : List Loc} {ls : Array Slot} (hP : va_P D CLS (wM cy ad σ) H) (hS : va_S (AM ad s.heap.size) s.heap H locs) (hl : lv_has ls 8 [(0, .ref (ad 0 0)), (1, .int x1), (2, .int x2), (3, .int x3), (4, .int x4), (5, .int x5), (6, .int x6)]) : W p l e rm_X10_isLong s m args below meth c H locs 0 0 (MQ below (QI D cy (cellM cy ad) regsM ad s.heap.size (fun r u => (r = 0 ∨ r = 1) ∧ post r u)) args s 0 0 (AM ad s.heap.size)) (F0 m 0 ls []) := by
  obtain ⟨hx, hb, -⟩ := id E
  unfold w_X10_isLong at hw
  refine lv_iload hx hb dX10_isLong_0 (lv_at hl 6 rfl) ?_
  refine lv_if_ne (tgt := 9) hx hb dX10_isLong_2 (by decide) (fun c1 => ?_) (fun c1 => ?_)
  · replace hw := hw.1 c1
    refine lv_bipush (v := 6) hx hb dX10_isLong_9 (by decide) ?_
    exact B_X10_isLong_11 E ha hw hP hS (lv_sub hl [0, 1, 2, 3, 4, 5, 6] rfl)
  · replace hw := hw.2 c1
    refine lv_iconst (v := 5) hx hb dX10_isLong_5 (by decide) ?_
    refine lv_goto (tgt := 11) hx hb dX10_isLong_6 (by decide) ?_
    exact B_X10_isLong_11 E ha hw hP hS (lv_sub hl [0, 1, 2, 3, 4, 5, 6] rfl)
theorem c_X10_isLong (l : Launch) (D : va_G) (cy : Nat → ClassId) (ad : Nat → Nat → Nat) (ha : Apart regsM ad) {post : Int32 → St → Prop} {σ : St} {x1 : Int32} {x2 : Int32} {x3 : Int32} {x4 : Int32} {x5 : Int32} {x6 : Int32} (hw : w_X10_isLong post σ x1 x2 x3 x4 x5 x6) (sz : Nat) : MetI l yX10_isLong cX10_isLong 8 .boolean rm_X10_isLong [.ref (ad 0 0), .int x1, .int x2, .int x3, .int x4, .int x5, .int x6] D cy (cellM cy ad) regsM ad σ sz (fun r u => (r = 0 ∨ r = 1) ∧ post r u) :=
  Met_inI ok_X10_isLong.2.2.2.2.2 (Nat.le_of_ble_eq_true rfl) (fun p e s m below meth c ls E hP hl => B_X10_isLong_0 E ha hw hP va_S.rf hl)
-- RoofWarModel.key()I
theorem dX10_key_0 : decode cX10_key 0 = .ok (.aload_n 0, 1) := by decide +kernel
theorem dX10_key_1 : decode cX10_key 1 = .ok (.bipush 115, 2) := by decide +kernel
theorem dX10_key_3 : decode cX10_key 3 = .ok (.bipush 112, 2) := by decide +kernel
theorem dX10_key_5 : decode cX10_key 5 = .ok (.bipush 105, 2) := by decide +kernel
theorem dX10_key_7 : decode cX10_key 7 = .ok (.bipush 116, 2) := by decide +kernel
theorem dX10_key_9 : decode cX10_key 9 = .ok (.bipush 101, 2) := by decide +kernel
theorem dX10_key_11 : decode cX10_key 11 = .ok (.iconst 0, 1) := by decide +kernel
theorem dX10_key_12 : decode cX10_key 12 = .ok (.invokevirtual 265, 3) := by decide +kernel
theorem dX10_key_15 : decode cX10_key 15 = .ok (.ifCond .eq 5, 3) := by decide +kernel
theorem dX10_key_18 : decode cX10_key 18 = .ok (.iconst 0, 1) := by decide +kernel
theorem dX10_key_19 : decode cX10_key 19 = .ok (.ireturn, 1) := by decide +kernel
theorem dX10_key_20 : decode cX10_key 20 = .ok (.aload_n 0, 1) := by decide +kernel
theorem dX10_key_21 : decode cX10_key 21 = .ok (.bipush 102, 2) := by decide +kernel
theorem dX10_key_23 : decode cX10_key 23 = .ok (.bipush 101, 2) := by decide +kernel
theorem dX10_key_25 : decode cX10_key 25 = .ok (.bipush 101, 2) := by decide +kernel
theorem dX10_key_27 : decode cX10_key 27 = .ok (.iconst 0, 1) := by decide +kernel
theorem dX10_key_28 : decode cX10_key 28 = .ok (.invokevirtual 269, 3) := by decide +kernel
theorem dX10_key_31 : decode cX10_key 31 = .ok (.ifCond .eq 5, 3) := by decide +kernel
theorem dX10_key_34 : decode cX10_key 34 = .ok (.iconst 1, 1) := by decide +kernel
theorem dX10_key_35 : decode cX10_key 35 = .ok (.ireturn, 1) := by decide +kernel
theorem dX10_key_36 : decode cX10_key 36 = .ok (.aload_n 0, 1) := by decide +kernel
theorem dX10_key_37 : decode cX10_key 37 = .ok (.bipush 102, 2) := by decide +kernel
theorem dX10_key_39 : decode cX10_key 39 = .ok (.bipush 105, 2) := by decide +kernel
theorem dX10_key_41 : decode cX10_key 41 = .ok (.bipush 110, 2) := by decide +kernel
theorem dX10_key_43 : decode cX10_key 43 = .ok (.bipush 101, 2) := by decide +kernel
theorem dX10_key_45 : decode cX10_key 45 = .ok (.invokevirtual 269, 3) := by decide +kernel
theorem dX10_key_48 : decode cX10_key 48 = .ok (.ifCond .eq 7, 3) := by decide +kernel
theorem dX10_key_51 : decode cX10_key 51 = .ok (.iconst 2, 1) := by decide +kernel
theorem dX10_key_52 : decode cX10_key 52 = .ok (.goto 4, 3) := by decide +kernel
theorem dX10_key_55 : decode cX10_key 55 = .ok (.iconst (-1), 1) := by decide +kernel
theorem dX10_key_56 : decode cX10_key 56 = .ok (.ireturn, 1) := by decide +kernel
theorem ok_X10_key : okV yX10_key cX10_key 1 (some .int) 0 := ⟨mw_1313, mw_59, mw_83, mw_1314, by decide +kernel, by decide +kernel⟩
abbrev rm_X10_key : Room := { frames := 1, cells := 0, slots := 0, locals := 27 }
def w_X10_key (post : Int32 → St → Prop) (σ : St) : Prop := w_X10_isLong (fun r1 s1 => ((r1 = 0 → (w_X10_isWordAt (fun r3 s3 => ((r3 = 0 → (w_X10_isWordAt (fun r5 s5 => ((r5 = 0 → (post ((-1)) s5)) ∧ (¬ r5 = 0 → (post 2 s5)))) s3 (102 : Int32) (105 : Int32) (110 : Int32) (101 : Int32))) ∧ (¬ r3 = 0 → (post 1 s3)))) s1 (102 : Int32) (101 : Int32) (101 : Int32) (0 : Int32))) ∧ (¬ r1 = 0 → (post 0 s1)))) σ (115 : Int32) (112 : Int32) (105 : Int32) (116 : Int32) (101 : Int32) (0 : Int32)
theorem B_X10_key_0 (E : EnvW p s m args meth c D cy regsM ad "RoofWarModel" cX10_key 1 (some .int)) (ha : Apart regsM ad) {post : Int32 → St → Prop} {σ : St} (hw : w_X10_key post σ) {H : Heap} {locs : List Loc} {ls : Array Slot} (hP : va_P D CLS (wM cy ad σ) H) (hS : va_S (AM ad s.heap.size) s.heap H locs) (hl : lv_has ls 1 [(0, .ref (ad 0 0))]) : W p l e rm_X10_key s m args below meth c H locs 0 0 (MQ below (QI D cy (cellM cy ad) regsM ad s.heap.size post) args s 0 0 (AM ad s.heap.size)) (F0 m 0 ls []) := by
  obtain ⟨hx, hb, -⟩ := id E
  unfold w_X10_key at hw
  refine lv_aload_n hx hb dX10_key_0 rfl (lv_at hl 0 rfl) ?_
  refine lv_bipush (v := 115) hx hb dX10_key_1 (by decide) ?_
  refine lv_bipush (v := 112) hx hb dX10_key_3 (by decide) ?_
  refine lv_bipush (v := 105) hx hb dX10_key_5 (by decide) ?_
  refine lv_bipush (v := 116) hx hb dX10_key_7 (by decide) ?_
  refine lv_bipush (v := 101) hx hb dX10_key_9 (by decide) ?_
  refine lv_iconst (v := 0) hx hb dX10_key_11 (by decide) ?_
  refine g_cVi (As := [.int 115, .int 112, .int 105, .int 116, .int 101, .int 0]) (rest := []) E hl.1 (c_X10_isLong l D cy ad ha hw _) ok_X10_isLong mw_1315 ⟨(Nat.le_of_ble_eq_true rfl), (Nat.le_of_ble_eq_true rfl)⟩ ⟨rfl, rfl⟩ rM0 rfl rfl rfl rfl rfl (Nat.le_of_ble_eq_true rfl) ⟨Nat.zero_le _, Nat.zero_le _⟩ hP hS dX10_key_12 (fun r1 s1 hw H locs hP hS => ?_)
  obtain ⟨z1, hw⟩ := hw
  refine lv_if_eq (tgt := 20) hx hb dX10_key_15 (by decide) (fun c2 => ?_) (fun c2 => ?_)
  · replace hw := hw.1 c2
    refine lv_aload_n hx hb dX10_key_20 rfl (lv_at hl 0 rfl) ?_
    refine lv_bipush (v := 102) hx hb dX10_key_21 (by decide) ?_
    refine lv_bipush (v := 101) hx hb dX10_key_23 (by decide) ?_
    refine lv_bipush (v := 101) hx hb dX10_key_25 (by decide) ?_
    refine lv_iconst (v := 0) hx hb dX10_key_27 (by decide) ?_
    refine g_cVi (As := [.int 102, .int 101, .int 101, .int 0]) (rest := []) E hl.1 (c_X10_isWordAt l D cy ad ha hw _) ok_X10_isWordAt mw_1318 ⟨(Nat.le_of_ble_eq_true rfl), (Nat.le_of_ble_eq_true rfl)⟩ ⟨rfl, rfl⟩ rM0 rfl rfl rfl rfl rfl (Nat.le_of_ble_eq_true rfl) ⟨Nat.zero_le _, Nat.zero_le _⟩ hP hS dX10_key_28 (fun r3 s3 hw H locs hP hS => ?_)
    obtain ⟨z3, hw⟩ := hw
    refine lv_if_eq (tgt := 36) hx hb dX10_key_31 (by decide) (fun c4 => ?_) (fun c4 => ?_)
    · replace hw := hw.1 c4
      refine lv_aload_n hx hb dX10_key_36 rfl (lv_at hl 0 rfl) ?_
      refine lv_bipush (v := 102) hx hb dX10_key_37 (by decide) ?_
      refine lv_bipush (v := 105) hx hb dX10_key_39 (by decide) ?_
      refine lv_bipush (v := 110) hx hb dX10_key_41 (by decide) ?_
      refine lv_bipush (v := 101) hx hb dX10_key_43 (by decide) ?_
      refine g_cVi (As := [.int 102, .int 105, .int 110, .int 101]) (rest := []) E hl.1 (c_X10_isWordAt l D cy ad ha hw _) ok_X10_isWordAt mw_1318 ⟨(Nat.le_of_ble_eq_true rfl), (Nat.le_of_ble_eq_true rfl)⟩ ⟨rfl, rfl⟩ rM0 rfl rfl rfl rfl rfl (Nat.le_of_ble_eq_true rfl) ⟨Nat.zero_le _, Nat.zero_le _⟩ hP hS dX10_key_45 (fun r5 s5 hw H locs hP hS => ?_)
      obtain ⟨z5, hw⟩ := hw
      refine lv_if_eq (tgt := 55) hx hb dX10_key_48 (by decide) (fun c6 => ?_) (fun c6 => ?_)
      · replace hw := hw.1 c6
        refine lv_iconst (v := -1) hx hb dX10_key_55 (by decide) ?_
        exact g_iret E hw hP hS dX10_key_56
      · replace hw := hw.2 c6
        refine lv_iconst (v := 2) hx hb dX10_key_51 (by decide) ?_
        refine lv_goto (tgt := 56) hx hb dX10_key_52 (by decide) ?_
        exact g_iret E hw hP hS dX10_key_56
    · replace hw := hw.2 c4
      refine lv_iconst (v := 1) hx hb dX10_key_34 (by decide) ?_
      exact g_iret E hw hP hS dX10_key_35
  · replace hw := hw.2 c2
    refine lv_iconst (v := 0) hx hb dX10_key_18 (by decide) ?_
    exact g_iret E hw hP hS dX10_key_19
theorem c_X10_key (l : Launch) (D : va_G) (cy : Nat → ClassId) (ad : Nat → Nat → Nat) (ha : Apart regsM ad) {post : Int32 → St → Prop} {σ : St} (hw : w_X10_key post σ) (sz : Nat) : MetI l yX10_key cX10_key 1 .int rm_X10_key [.ref (ad 0 0)] D cy (cellM cy ad) regsM ad σ sz post :=
  Met_inI ok_X10_key.2.2.2.2.2 (Nat.le_of_ble_eq_true rfl) (fun p e s m below meth c ls E hP hl => B_X10_key_0 E ha hw hP va_S.rf hl)
-- RoofWarModel.isName(II)Z
theorem dX10_isName_0 : decode cX10_isName 0 = .ok (.iload_n 0, 1) := by decide +kernel
theorem dX10_isName_1 : decode cX10_isName 1 = .ok (.lookupswitch 69 #[(0, 27), (1, 51)], 27) := by decide +kernel
theorem dX10_isName_28 : decode cX10_isName 28 = .ok (.iload_n 1, 1) := by decide +kernel
theorem dX10_isName_29 : decode cX10_isName 29 = .ok (.bipush 108, 2) := by decide +kernel
theorem dX10_isName_31 : decode cX10_isName 31 = .ok (.if_icmp .eq 15, 3) := by decide +kernel
theorem dX10_isName_34 : decode cX10_isName 34 = .ok (.iload_n 1, 1) := by decide +kernel
theorem dX10_isName_35 : decode cX10_isName 35 = .ok (.bipush 115, 2) := by decide +kernel
theorem dX10_isName_37 : decode cX10_isName 37 = .ok (.if_icmp .eq 9, 3) := by decide +kernel
theorem dX10_isName_40 : decode cX10_isName 40 = .ok (.iload_n 1, 1) := by decide +kernel
theorem dX10_isName_41 : decode cX10_isName 41 = .ok (.bipush 110, 2) := by decide +kernel
theorem dX10_isName_43 : decode cX10_isName 43 = .ok (.if_icmp .ne 7, 3) := by decide +kernel
theorem dX10_isName_46 : decode cX10_isName 46 = .ok (.iconst 1, 1) := by decide +kernel
theorem dX10_isName_47 : decode cX10_isName 47 = .ok (.goto 4, 3) := by decide +kernel
theorem dX10_isName_50 : decode cX10_isName 50 = .ok (.iconst 0, 1) := by decide +kernel
theorem dX10_isName_51 : decode cX10_isName 51 = .ok (.ireturn, 1) := by decide +kernel
theorem dX10_isName_52 : decode cX10_isName 52 = .ok (.iload_n 1, 1) := by decide +kernel
theorem dX10_isName_53 : decode cX10_isName 53 = .ok (.bipush 116, 2) := by decide +kernel
theorem dX10_isName_55 : decode cX10_isName 55 = .ok (.if_icmp .eq 9, 3) := by decide +kernel
theorem dX10_isName_58 : decode cX10_isName 58 = .ok (.iload_n 1, 1) := by decide +kernel
theorem dX10_isName_59 : decode cX10_isName 59 = .ok (.bipush 119, 2) := by decide +kernel
theorem dX10_isName_61 : decode cX10_isName 61 = .ok (.if_icmp .ne 7, 3) := by decide +kernel
theorem dX10_isName_64 : decode cX10_isName 64 = .ok (.iconst 1, 1) := by decide +kernel
theorem dX10_isName_65 : decode cX10_isName 65 = .ok (.goto 4, 3) := by decide +kernel
theorem dX10_isName_68 : decode cX10_isName 68 = .ok (.iconst 0, 1) := by decide +kernel
theorem dX10_isName_69 : decode cX10_isName 69 = .ok (.ireturn, 1) := by decide +kernel
theorem dX10_isName_70 : decode cX10_isName 70 = .ok (.iload_n 1, 1) := by decide +kernel
theorem dX10_isName_71 : decode cX10_isName 71 = .ok (.bipush 115, 2) := by decide +kernel
theorem dX10_isName_73 : decode cX10_isName 73 = .ok (.if_icmp .eq 9, 3) := by decide +kernel
theorem dX10_isName_76 : decode cX10_isName 76 = .ok (.iload_n 1, 1) := by decide +kernel
theorem dX10_isName_77 : decode cX10_isName 77 = .ok (.bipush 108, 2) := by decide +kernel
theorem dX10_isName_79 : decode cX10_isName 79 = .ok (.if_icmp .ne 7, 3) := by decide +kernel
theorem dX10_isName_82 : decode cX10_isName 82 = .ok (.iconst 1, 1) := by decide +kernel
theorem dX10_isName_83 : decode cX10_isName 83 = .ok (.goto 4, 3) := by decide +kernel
theorem dX10_isName_86 : decode cX10_isName 86 = .ok (.iconst 0, 1) := by decide +kernel
theorem dX10_isName_87 : decode cX10_isName 87 = .ok (.ireturn, 1) := by decide +kernel
theorem ok_X10_isName : okS yX10_isName cX10_isName 2 (some .boolean) 2 := ⟨mw_1343, mw_83, mw_1344, by decide +kernel, by decide +kernel⟩
abbrev rm_X10_isName : Room := { frames := 0, cells := 0, slots := 0, locals := 0 }
def w_X10_isName (post : Int32 → St → Prop) (σ : St) (x0 : Int32) (x1 : Int32) : Prop := ((x0 = 0 → (((x1 = 108 → (post 1 σ)) ∧ (¬ x1 = 108 → (((x1 = 115 → (post 1 σ)) ∧ (¬ x1 = 115 → (((¬ x1 = 110 → (post 0 σ)) ∧ (x1 = 110 → (post 1 σ))))))))))) ∧ (¬ x0 = 0 → (((x0 = 1 → (((x1 = 116 → (post 1 σ)) ∧ (¬ x1 = 116 → (((¬ x1 = 119 → (post 0 σ)) ∧ (x1 = 119 → (post 1 σ)))))))) ∧ (¬ x0 = 1 → (((x1 = 115 → (post 1 σ)) ∧ (¬ x1 = 115 → (((¬ x1 = 108 → (post 0 σ)) ∧ (x1 = 108 → (post 1 σ))))))))))))
theorem B_X10_isName_0 (E : EnvW p s m args meth c D cy regsM ad "RoofWarModel" cX10_isName 2 (some .boolean)) (ha : Apart regsM ad) {post : Int32 → St → Prop} {σ : St} {x0 : Int32} {x1 : Int32} (hw : w_X10_isName post σ x0 x1) {H : Heap} {locs : List Loc} {ls : Array Slot} (hP : va_P D CLS (wM cy ad σ) H) (hS : va_S (AM ad s.heap.size) s.heap H locs) (hl : lv_has ls 2 [(0, .int x0), (1, .int x1)]) : W p l e rm_X10_isName s m args below meth c H locs 0 0 (MQ below (QI D cy (cellM cy ad) regsM ad s.heap.size (fun r u => (r = 0 ∨ r = 1) ∧ post r u)) args s 0 0 (AM ad s.heap.size)) (F0 m 0 ls []) := by
  obtain ⟨hx, hb, -⟩ := id E
  unfold w_X10_isName at hw
  refine lv_iload_n hx hb dX10_isName_0 rfl (lv_at hl 0 rfl) ?_
  by_cases c1 : x0 = 0
  · replace hw := hw.1 c1
    refine lv_lookup (off := 27) (tgt := 28) hx hb dX10_isName_1 (by decide) (by rw [c1]; rfl) (by decide) ?_
    refine lv_iload_n hx hb dX10_isName_28 rfl (lv_at hl 1 rfl) ?_
    refine lv_bipush (v := 108) hx hb dX10_isName_29 (by decide) ?_
    refine lv_icmp_eq (tgt := 46) hx hb dX10_isName_31 (by decide) (fun c2 => ?_) (fun c2 => ?_)
    · replace hw := hw.1 c2
      refine lv_iconst (v := 1) hx hb dX10_isName_46 (by decide) ?_
      refine lv_goto (tgt := 51) hx hb dX10_isName_47 (by decide) ?_
      exact g_zret E (Or.inr rfl) hw hP hS dX10_isName_51
    · replace hw := hw.2 c2
      refine lv_iload_n hx hb dX10_isName_34 rfl (lv_at hl 1 rfl) ?_
      refine lv_bipush (v := 115) hx hb dX10_isName_35 (by decide) ?_
      refine lv_icmp_eq (tgt := 46) hx hb dX10_isName_37 (by decide) (fun c3 => ?_) (fun c3 => ?_)
      · replace hw := hw.1 c3
        refine lv_iconst (v := 1) hx hb dX10_isName_46 (by decide) ?_
        refine lv_goto (tgt := 51) hx hb dX10_isName_47 (by decide) ?_
        exact g_zret E (Or.inr rfl) hw hP hS dX10_isName_51
      · replace hw := hw.2 c3
        refine lv_iload_n hx hb dX10_isName_40 rfl (lv_at hl 1 rfl) ?_
        refine lv_bipush (v := 110) hx hb dX10_isName_41 (by decide) ?_
        refine lv_icmp_ne (tgt := 50) hx hb dX10_isName_43 (by decide) (fun c4 => ?_) (fun c4 => ?_)
        · replace hw := hw.1 c4
          refine lv_iconst (v := 0) hx hb dX10_isName_50 (by decide) ?_
          exact g_zret E (Or.inl rfl) hw hP hS dX10_isName_51
        · replace hw := hw.2 c4
          refine lv_iconst (v := 1) hx hb dX10_isName_46 (by decide) ?_
          refine lv_goto (tgt := 51) hx hb dX10_isName_47 (by decide) ?_
          exact g_zret E (Or.inr rfl) hw hP hS dX10_isName_51
  · replace hw := hw.2 c1
    by_cases c5 : x0 = 1
    · replace hw := hw.1 c5
      refine lv_lookup (off := 51) (tgt := 52) hx hb dX10_isName_1 (by decide) (by rw [c5]; rfl) (by decide) ?_
      refine lv_iload_n hx hb dX10_isName_52 rfl (lv_at hl 1 rfl) ?_
      refine lv_bipush (v := 116) hx hb dX10_isName_53 (by decide) ?_
      refine lv_icmp_eq (tgt := 64) hx hb dX10_isName_55 (by decide) (fun c6 => ?_) (fun c6 => ?_)
      · replace hw := hw.1 c6
        refine lv_iconst (v := 1) hx hb dX10_isName_64 (by decide) ?_
        refine lv_goto (tgt := 69) hx hb dX10_isName_65 (by decide) ?_
        exact g_zret E (Or.inr rfl) hw hP hS dX10_isName_69
      · replace hw := hw.2 c6
        refine lv_iload_n hx hb dX10_isName_58 rfl (lv_at hl 1 rfl) ?_
        refine lv_bipush (v := 119) hx hb dX10_isName_59 (by decide) ?_
        refine lv_icmp_ne (tgt := 68) hx hb dX10_isName_61 (by decide) (fun c7 => ?_) (fun c7 => ?_)
        · replace hw := hw.1 c7
          refine lv_iconst (v := 0) hx hb dX10_isName_68 (by decide) ?_
          exact g_zret E (Or.inl rfl) hw hP hS dX10_isName_69
        · replace hw := hw.2 c7
          refine lv_iconst (v := 1) hx hb dX10_isName_64 (by decide) ?_
          refine lv_goto (tgt := 69) hx hb dX10_isName_65 (by decide) ?_
          exact g_zret E (Or.inr rfl) hw hP hS dX10_isName_69
    · replace hw := hw.2 c5
      have e1 := ne_toI c1 (n := 0) (k := 0) (by decide)
      have e5 := ne_toI c5 (n := 1) (k := 1) (by decide)
      refine lv_lookup (off := 69) (tgt := 70) hx hb dX10_isName_1 (by decide) (by simp [Op.lookupswitch.offset, e1, Ne.symm e1, e5, Ne.symm e5]) (by decide) ?_
      refine lv_iload_n hx hb dX10_isName_70 rfl (lv_at hl 1 rfl) ?_
      refine lv_bipush (v := 115) hx hb dX10_isName_71 (by decide) ?_
      refine lv_icmp_eq (tgt := 82) hx hb dX10_isName_73 (by decide) (fun c8 => ?_) (fun c8 => ?_)
      · replace hw := hw.1 c8
        refine lv_iconst (v := 1) hx hb dX10_isName_82 (by decide) ?_
        refine lv_goto (tgt := 87) hx hb dX10_isName_83 (by decide) ?_
        exact g_zret E (Or.inr rfl) hw hP hS dX10_isName_87
      · replace hw := hw.2 c8
        refine lv_iload_n hx hb dX10_isName_76 rfl (lv_at hl 1 rfl) ?_
        refine lv_bipush (v := 108) hx hb dX10_isName_77 (by decide) ?_
        refine lv_icmp_ne (tgt := 86) hx hb dX10_isName_79 (by decide) (fun c9 => ?_) (fun c9 => ?_)
        · replace hw := hw.1 c9
          refine lv_iconst (v := 0) hx hb dX10_isName_86 (by decide) ?_
          exact g_zret E (Or.inl rfl) hw hP hS dX10_isName_87
        · replace hw := hw.2 c9
          refine lv_iconst (v := 1) hx hb dX10_isName_82 (by decide) ?_
          refine lv_goto (tgt := 87) hx hb dX10_isName_83 (by decide) ?_
          exact g_zret E (Or.inr rfl) hw hP hS dX10_isName_87
theorem c_X10_isName (l : Launch) (D : va_G) (cy : Nat → ClassId) (ad : Nat → Nat → Nat) (ha : Apart regsM ad) {post : Int32 → St → Prop} {σ : St} {x0 : Int32} {x1 : Int32} (hw : w_X10_isName post σ x0 x1) (sz : Nat) : MetI l yX10_isName cX10_isName 2 .boolean rm_X10_isName [.int x0, .int x1] D cy (cellM cy ad) regsM ad σ sz (fun r u => (r = 0 ∨ r = 1) ∧ post r u) :=
  Met_inI ok_X10_isName.2.2.2.2 (Nat.le_of_ble_eq_true rfl) (fun p e s m below meth c ls E hP hl => B_X10_isName_0 E ha hw hP va_S.rf hl)
-- RoofWarModel.step(II)V
theorem dX10_step_0 : decode cX10_step 0 = .ok (.aload_n 0, 1) := by decide +kernel
theorem dX10_step_1 : decode cX10_step 1 = .ok (.getfield 7, 3) := by decide +kernel
theorem dX10_step_4 : decode cX10_step 4 = .ok (.aload_n 0, 1) := by decide +kernel
theorem dX10_step_5 : decode cX10_step 5 = .ok (.getfield 273, 3) := by decide +kernel
theorem dX10_step_8 : decode cX10_step 8 = .ok (.iconst 2, 1) := by decide +kernel
theorem dX10_step_9 : decode cX10_step 9 = .ok (.aload_n 0, 1) := by decide +kernel
theorem dX10_step_10 : decode cX10_step 10 = .ok (.getfield 276, 3) := by decide +kernel
theorem dX10_step_13 : decode cX10_step 13 = .ok (.imul, 1) := by decide +kernel
theorem dX10_step_14 : decode cX10_step 14 = .ok (.iadd, 1) := by decide +kernel
theorem dX10_step_15 : decode cX10_step 15 = .ok (.iload_n 1, 1) := by decide +kernel
theorem dX10_step_16 : decode cX10_step 16 = .ok (.iastore, 1) := by decide +kernel
theorem dX10_step_17 : decode cX10_step 17 = .ok (.aload_n 0, 1) := by decide +kernel
theorem dX10_step_18 : decode cX10_step 18 = .ok (.getfield 7, 3) := by decide +kernel
theorem dX10_step_21 : decode cX10_step 21 = .ok (.aload_n 0, 1) := by decide +kernel
theorem dX10_step_22 : decode cX10_step 22 = .ok (.getfield 273, 3) := by decide +kernel
theorem dX10_step_25 : decode cX10_step 25 = .ok (.iconst 2, 1) := by decide +kernel
theorem dX10_step_26 : decode cX10_step 26 = .ok (.aload_n 0, 1) := by decide +kernel
theorem dX10_step_27 : decode cX10_step 27 = .ok (.getfield 276, 3) := by decide +kernel
theorem dX10_step_30 : decode cX10_step 30 = .ok (.imul, 1) := by decide +kernel
theorem dX10_step_31 : decode cX10_step 31 = .ok (.iadd, 1) := by decide +kernel
theorem dX10_step_32 : decode cX10_step 32 = .ok (.iconst 1, 1) := by decide +kernel
theorem dX10_step_33 : decode cX10_step 33 = .ok (.iadd, 1) := by decide +kernel
theorem dX10_step_34 : decode cX10_step 34 = .ok (.iload_n 2, 1) := by decide +kernel
theorem dX10_step_35 : decode cX10_step 35 = .ok (.iastore, 1) := by decide +kernel
theorem dX10_step_36 : decode cX10_step 36 = .ok (.aload_n 0, 1) := by decide +kernel
theorem dX10_step_37 : decode cX10_step 37 = .ok (.dup, 1) := by decide +kernel
theorem dX10_step_38 : decode cX10_step 38 = .ok (.getfield 276, 3) := by decide +kernel
theorem dX10_step_41 : decode cX10_step 41 = .ok (.iconst 1, 1) := by decide +kernel
theorem dX10_step_42 : decode cX10_step 42 = .ok (.iadd, 1) := by decide +kernel
theorem dX10_step_43 : decode cX10_step 43 = .ok (.putfield 276, 3) := by decide +kernel
theorem dX10_step_46 : decode cX10_step 46 = .ok (.return_, 1) := by decide +kernel
theorem ok_X10_step : okV yX10_step cX10_step 3 none 2 := ⟨mw_1340, mw_68, mw_83, mw_1341, by decide +kernel, by decide +kernel⟩
abbrev rm_X10_step : Room := { frames := 0, cells := 0, slots := 0, locals := 0 }
def w_X10_step (post : St → Prop) (σ : St) (x1 : Int32) (x2 : Int32) : Prop := vp_in ((σ 0 0 11) + (2 * (σ 0 0 10))) 3082 ∧ (∀ s2 : St, s2 = wr σ 1 0 ((σ 0 0 11) + (2 * (σ 0 0 10))).toNatClampNeg x1 → (vp_in (((s2 0 0 11) + (2 * (s2 0 0 10))) + 1) 3082 ∧ (∀ s4 : St, s4 = wr s2 1 0 (((s2 0 0 11) + (2 * (s2 0 0 10))) + 1).toNatClampNeg x2 → (∀ s5 : St, s5 = wr s4 0 0 10 ((s4 0 0 10) + 1) → (post s5)))))
theorem B_X10_step_0 (E : EnvW p s m args meth c D cy regsM ad "RoofWarModel" cX10_step 3 none) (ha : Apart regsM ad) {post : St → Prop} {σ : St} {x1 : Int32} {x2 : Int32} (hw : w_X10_step post σ x1 x2) {H : Heap} {locs : List Loc} {ls : Array Slot} (hP : va_P D CLS (wM cy ad σ) H) (hS : va_S (AM ad s.heap.size) s.heap H locs) (hl : lv_has ls 3 [(0, .ref (ad 0 0)), (1, .int x1), (2, .int x2)]) : W p l e rm_X10_step s m args below meth c H locs 0 0 (MQ below (QV D cy (cellM cy ad) regsM ad s.heap.size post) args s 0 0 (AM ad s.heap.size)) (F0 m 0 ls []) := by
  obtain ⟨hx, hb, -⟩ := id E
  unfold w_X10_step at hw
  refine lv_aload_n hx hb dX10_step_0 rfl (lv_at hl 0 rfl) ?_
  refine fX10_0 E hP mw_946 dX10_step_1 ?_
  refine lv_aload_n hx hb dX10_step_4 rfl (lv_at hl 0 rfl) ?_
  refine fX10_26 E hP mw_972 dX10_step_5 ?_
  refine lv_iconst (v := 2) hx hb dX10_step_8 (by decide) ?_
  refine lv_aload_n hx hb dX10_step_9 rfl (lv_at hl 0 rfl) ?_
  refine fX10_25 E hP mw_971 dX10_step_10 ?_
  refine lv_imul hx hb dX10_step_13 ?_
  refine lv_iadd hx hb dX10_step_14 ?_
  refine lv_iload_n hx hb dX10_step_15 rfl (lv_at hl 1 rfl) ?_
  obtain ⟨h1, hw⟩ := hw
  refine tM1 E ha h1 dX10_step_16 hP hS (fun s2 es2 H locs hP hS => ?_)
  replace hw := hw s2 es2
  refine lv_aload_n hx hb dX10_step_17 rfl (lv_at hl 0 rfl) ?_
  refine fX10_0 E hP mw_946 dX10_step_18 ?_
  refine lv_aload_n hx hb dX10_step_21 rfl (lv_at hl 0 rfl) ?_
  refine fX10_26 E hP mw_972 dX10_step_22 ?_
  refine lv_iconst (v := 2) hx hb dX10_step_25 (by decide) ?_
  refine lv_aload_n hx hb dX10_step_26 rfl (lv_at hl 0 rfl) ?_
  refine fX10_25 E hP mw_971 dX10_step_27 ?_
  refine lv_imul hx hb dX10_step_30 ?_
  refine lv_iadd hx hb dX10_step_31 ?_
  refine lv_iconst (v := 1) hx hb dX10_step_32 (by decide) ?_
  refine lv_iadd hx hb dX10_step_33 ?_
  refine lv_iload_n hx hb dX10_step_34 rfl (lv_at hl 2 rfl) ?_
  obtain ⟨h3, hw⟩ := hw
  refine tM1 E ha h3 dX10_step_35 hP hS (fun s4 es4 H locs hP hS => ?_)
  replace hw := hw s4 es4
  refine lv_aload_n hx hb dX10_step_36 rfl (lv_at hl 0 rfl) ?_
  refine lv_dup hx hb dX10_step_37 rfl ?_
  refine fX10_25 E hP mw_971 dX10_step_38 ?_
  refine lv_iconst (v := 1) hx hb dX10_step_41 (by decide) ?_
  refine lv_iadd hx hb dX10_step_42 ?_
  refine uX10_25 E ha mw_971 dX10_step_43 hP hS (fun s5 es5 H locs hP hS => ?_)
  replace hw := hw s5 es5
  exact g_vret E hw hP hS dX10_step_46
theorem c_X10_step (l : Launch) (D : va_G) (cy : Nat → ClassId) (ad : Nat → Nat → Nat) (ha : Apart regsM ad) {post : St → Prop} {σ : St} {x1 : Int32} {x2 : Int32} (hw : w_X10_step post σ x1 x2) (sz : Nat) : MetV l yX10_step cX10_step 3 rm_X10_step [.ref (ad 0 0), .int x1, .int x2] D cy (cellM cy ad) regsM ad σ sz post :=
  Met_inV ok_X10_step.2.2.2.2.2 (Nat.le_of_ble_eq_true rfl) (fun p e s m below meth c ls E hP hl => B_X10_step_0 E ha hw hP va_S.rf hl)
-- RoofWarModel.textTold(II)I
theorem dX10_textTold_0 : decode cX10_textTold 0 = .ok (.aload_n 0, 1) := by decide +kernel
theorem dX10_textTold_1 : decode cX10_textTold 1 = .ok (.iload_n 1, 1) := by decide +kernel
theorem dX10_textTold_2 : decode cX10_textTold 2 = .ok (.invokevirtual 327, 3) := by decide +kernel
theorem dX10_textTold_5 : decode cX10_textTold 5 = .ok (.ifCond .eq 13, 3) := by decide +kernel
theorem dX10_textTold_8 : decode cX10_textTold 8 = .ok (.iload_n 2, 1) := by decide +kernel
theorem dX10_textTold_9 : decode cX10_textTold 9 = .ok (.i2l, 1) := by decide +kernel
theorem dX10_textTold_10 : decode cX10_textTold 10 = .ok (.lconst 0, 1) := by decide +kernel
theorem dX10_textTold_11 : decode cX10_textTold 11 = .ok (.lconst 1, 1) := by decide +kernel
theorem dX10_textTold_12 : decode cX10_textTold 12 = .ok (.invokestatic 71, 3) := by decide +kernel
theorem dX10_textTold_15 : decode cX10_textTold 15 = .ok (.ifCond .ne 6, 3) := by decide +kernel
theorem dX10_textTold_18 : decode cX10_textTold 18 = .ok (.ldc 96, 2) := by decide +kernel
theorem dX10_textTold_20 : decode cX10_textTold 20 = .ok (.ireturn, 1) := by decide +kernel
theorem dX10_textTold_21 : decode cX10_textTold 21 = .ok (.aload_n 0, 1) := by decide +kernel
theorem dX10_textTold_22 : decode cX10_textTold 22 = .ok (.getfield 7, 3) := by decide +kernel
theorem dX10_textTold_25 : decode cX10_textTold 25 = .ok (.aload_n 0, 1) := by decide +kernel
theorem dX10_textTold_26 : decode cX10_textTold 26 = .ok (.iload_n 1, 1) := by decide +kernel
theorem dX10_textTold_27 : decode cX10_textTold 27 = .ok (.invokevirtual 318, 3) := by decide +kernel
theorem dX10_textTold_30 : decode cX10_textTold 30 = .ok (.iload_n 2, 1) := by decide +kernel
theorem dX10_textTold_31 : decode cX10_textTold 31 = .ok (.iadd, 1) := by decide +kernel
theorem dX10_textTold_32 : decode cX10_textTold 32 = .ok (.iaload, 1) := by decide +kernel
theorem dX10_textTold_33 : decode cX10_textTold 33 = .ok (.ireturn, 1) := by decide +kernel
theorem ok_X10_textTold : okV yX10_textTold cX10_textTold 3 (some .int) 2 := ⟨mw_1349, mw_1350, mw_83, mw_1351, by decide +kernel, by decide +kernel⟩
abbrev rm_X10_textTold : Room := { frames := 2, cells := 0, slots := 0, locals := 46 }
def w_X10_textTold (post : Int32 → St → Prop) (σ : St) (x1 : Int32) (x2 : Int32) : Prop := w_X10_isText (fun r1 s1 => ((r1 = 0 → (post ((-1000000001)) s1)) ∧ (¬ r1 = 0 → (w_X10_isIn (fun r3 s3 => ((¬ r3 = 0 → (w_X10_textAt (fun r5 s5 => vp_in (r5 + x2) 3082 ∧ (post (s5 1 0 (r5 + x2).toNatClampNeg) s5)) s3 x1)) ∧ (r3 = 0 → (post ((-1000000001)) s3)))) s1 x2.toInt64 ((0 : Int64)) ((1 : Int64)))))) σ x1
theorem B_X10_textTold_0 (E : EnvW p s m args meth c D cy regsM ad "RoofWarModel" cX10_textTold 3 (some .int)) (ha : Apart regsM ad) {post : Int32 → St → Prop} {σ : St} {x1 : Int32} {x2 : Int32} (hw : w_X10_textTold post σ x1 x2) {H : Heap} {locs : List Loc} {ls : Array Slot} (hP : va_P D CLS (wM cy ad σ) H) (hS : va_S (AM ad s.heap.size) s.heap H locs) (hl : lv_has ls 3 [(0, .ref (ad 0 0)), (1, .int x1), (2, .int x2)]) : W p l e rm_X10_textTold s m args below meth c H locs 0 0 (MQ below (QI D cy (cellM cy ad) regsM ad s.heap.size post) args s 0 0 (AM ad s.heap.size)) (F0 m 0 ls []) := by
  obtain ⟨hx, hb, -⟩ := id E
  unfold w_X10_textTold at hw
  refine lv_aload_n hx hb dX10_textTold_0 rfl (lv_at hl 0 rfl) ?_
  refine lv_iload_n hx hb dX10_textTold_1 rfl (lv_at hl 1 rfl) ?_
  refine g_cVi (As := [.int x1]) (rest := []) E hl.1 (c_X10_isText l D cy ad ha hw _) ok_X10_isText mw_1352 ⟨(Nat.le_of_ble_eq_true rfl), (Nat.le_of_ble_eq_true rfl)⟩ ⟨rfl, rfl⟩ rM0 rfl rfl rfl rfl rfl (Nat.le_of_ble_eq_true rfl) ⟨Nat.zero_le _, Nat.zero_le _⟩ hP hS dX10_textTold_2 (fun r1 s1 hw H locs hP hS => ?_)
  obtain ⟨z1, hw⟩ := hw
  refine lv_if_eq (tgt := 18) hx hb dX10_textTold_5 (by decide) (fun c2 => ?_) (fun c2 => ?_)
  · replace hw := hw.1 c2
    refine g_ldc (v := -1000000001) E mw_1063 dX10_textTold_18 ?_
    exact g_iret E hw hP hS dX10_textTold_20
  · replace hw := hw.2 c2
    refine lv_iload_n hx hb dX10_textTold_8 rfl (lv_at hl 2 rfl) ?_
    refine lv_i2l (v := x2.toInt64) hx hb dX10_textTold_9 rfl ?_
    refine lv_lconst (v := 0) hx hb dX10_textTold_10 (by decide) ?_
    refine lv_lconst (v := 1) hx hb dX10_textTold_11 (by decide) ?_
    refine g_cSi (As := [.long x2.toInt64, .long ((0 : Int64)), .long ((1 : Int64))]) (rest := []) E hl.1 (c_X10_isIn l D cy ad ha hw _) ok_X10_isIn mw_1054 ⟨(Nat.le_of_ble_eq_true rfl), (Nat.le_of_ble_eq_true rfl)⟩ ⟨rfl, rfl⟩ rfl rfl (Nat.le_of_ble_eq_true rfl) ⟨Nat.zero_le _, Nat.zero_le _⟩ hP hS dX10_textTold_12 (fun r3 s3 hw H locs hP hS => ?_)
    obtain ⟨z3, hw⟩ := hw
    refine lv_if_ne (tgt := 21) hx hb dX10_textTold_15 (by decide) (fun c4 => ?_) (fun c4 => ?_)
    · replace hw := hw.1 c4
      refine lv_aload_n hx hb dX10_textTold_21 rfl (lv_at hl 0 rfl) ?_
      refine fX10_0 E hP mw_946 dX10_textTold_22 ?_
      refine lv_aload_n hx hb dX10_textTold_25 rfl (lv_at hl 0 rfl) ?_
      refine lv_iload_n hx hb dX10_textTold_26 rfl (lv_at hl 1 rfl) ?_
      refine g_cVi (As := [.int x1]) (rest := [.ref (ad 1 0)]) E hl.1 (c_X10_textAt l D cy ad ha hw _) ok_X10_textAt mw_1196 ⟨(Nat.le_of_ble_eq_true rfl), (Nat.le_of_ble_eq_true rfl)⟩ ⟨rfl, rfl⟩ rM0 rfl rfl rfl rfl rfl (Nat.le_of_ble_eq_true rfl) ⟨Nat.zero_le _, Nat.zero_le _⟩ hP hS dX10_textTold_27 (fun r5 s5 hw H locs hP hS => ?_)
      refine lv_iload_n hx hb dX10_textTold_30 rfl (lv_at hl 2 rfl) ?_
      refine lv_iadd hx hb dX10_textTold_31 ?_
      obtain ⟨h6, hw⟩ := hw
      refine aM1 E hP h6 dX10_textTold_32 ?_
      exact g_iret E hw hP hS dX10_textTold_33
    · replace hw := hw.2 c4
      refine g_ldc (v := -1000000001) E mw_1063 dX10_textTold_18 ?_
      exact g_iret E hw hP hS dX10_textTold_20
theorem c_X10_textTold (l : Launch) (D : va_G) (cy : Nat → ClassId) (ad : Nat → Nat → Nat) (ha : Apart regsM ad) {post : Int32 → St → Prop} {σ : St} {x1 : Int32} {x2 : Int32} (hw : w_X10_textTold post σ x1 x2) (sz : Nat) : MetI l yX10_textTold cX10_textTold 3 .int rm_X10_textTold [.ref (ad 0 0), .int x1, .int x2] D cy (cellM cy ad) regsM ad σ sz post :=
  Met_inI ok_X10_textTold.2.2.2.2.2 (Nat.le_of_ble_eq_true rfl) (fun p e s m below meth c ls E hP hl => B_X10_textTold_0 E ha hw hP va_S.rf hl)
-- RoofWarModel.why(I)I
theorem dX10_why_0 : decode cX10_why 0 = .ok (.iload_n 1, 1) := by decide +kernel
theorem dX10_why_1 : decode cX10_why 1 = .ok (.i2l, 1) := by decide +kernel
theorem dX10_why_2 : decode cX10_why 2 = .ok (.lconst 0, 1) := by decide +kernel
theorem dX10_why_3 : decode cX10_why 3 = .ok (.ldc2_w 132, 3) := by decide +kernel
theorem dX10_why_6 : decode cX10_why 6 = .ok (.invokestatic 71, 3) := by decide +kernel
theorem dX10_why_9 : decode cX10_why 9 = .ok (.ifCond .eq 14, 3) := by decide +kernel
theorem dX10_why_12 : decode cX10_why 12 = .ok (.aload_n 0, 1) := by decide +kernel
theorem dX10_why_13 : decode cX10_why 13 = .ok (.iload_n 1, 1) := by decide +kernel
theorem dX10_why_14 : decode cX10_why 14 = .ok (.invokevirtual 159, 3) := by decide +kernel
theorem dX10_why_17 : decode cX10_why 17 = .ok (.invokestatic 142, 3) := by decide +kernel
theorem dX10_why_20 : decode cX10_why 20 = .ok (.goto 5, 3) := by decide +kernel
theorem dX10_why_23 : decode cX10_why 23 = .ok (.ldc 96, 2) := by decide +kernel
theorem dX10_why_25 : decode cX10_why 25 = .ok (.ireturn, 1) := by decide +kernel
theorem ok_X10_why : okV yX10_why cX10_why 2 (some .int) 1 := ⟨mw_1356, mw_1357, mw_83, mw_1358, by decide +kernel, by decide +kernel⟩
abbrev rm_X10_why : Room := { frames := 2, cells := 0, slots := 0, locals := 44 }
def w_X10_why (post : Int32 → St → Prop) (σ : St) (x1 : Int32) : Prop := w_X10_isIn (fun r1 s1 => ((r1 = 0 → (post ((-1000000001)) s1)) ∧ (¬ r1 = 0 → (w_X10_counts (fun r3 s3 => w_X10_orNone (fun r4 s4 => post r4 s4) s3 r3) s1 x1)))) σ x1.toInt64 ((0 : Int64)) ((2 : Int64))
theorem B_X10_why_0 (E : EnvW p s m args meth c D cy regsM ad "RoofWarModel" cX10_why 2 (some .int)) (ha : Apart regsM ad) {post : Int32 → St → Prop} {σ : St} {x1 : Int32} (hw : w_X10_why post σ x1) {H : Heap} {locs : List Loc} {ls : Array Slot} (hP : va_P D CLS (wM cy ad σ) H) (hS : va_S (AM ad s.heap.size) s.heap H locs) (hl : lv_has ls 2 [(0, .ref (ad 0 0)), (1, .int x1)]) : W p l e rm_X10_why s m args below meth c H locs 0 0 (MQ below (QI D cy (cellM cy ad) regsM ad s.heap.size post) args s 0 0 (AM ad s.heap.size)) (F0 m 0 ls []) := by
  obtain ⟨hx, hb, -⟩ := id E
  unfold w_X10_why at hw
  refine lv_iload_n hx hb dX10_why_0 rfl (lv_at hl 1 rfl) ?_
  refine lv_i2l (v := x1.toInt64) hx hb dX10_why_1 rfl ?_
  refine lv_lconst (v := 0) hx hb dX10_why_2 (by decide) ?_
  refine g_ldc2 (v := 2) E mw_1117 dX10_why_3 ?_
  refine g_cSi (As := [.long x1.toInt64, .long ((0 : Int64)), .long ((2 : Int64))]) (rest := []) E hl.1 (c_X10_isIn l D cy ad ha hw _) ok_X10_isIn mw_1054 ⟨(Nat.le_of_ble_eq_true rfl), (Nat.le_of_ble_eq_true rfl)⟩ ⟨rfl, rfl⟩ rfl rfl (Nat.le_of_ble_eq_true rfl) ⟨Nat.zero_le _, Nat.zero_le _⟩ hP hS dX10_why_6 (fun r1 s1 hw H locs hP hS => ?_)
  obtain ⟨z1, hw⟩ := hw
  refine lv_if_eq (tgt := 23) hx hb dX10_why_9 (by decide) (fun c2 => ?_) (fun c2 => ?_)
  · replace hw := hw.1 c2
    refine g_ldc (v := -1000000001) E mw_1063 dX10_why_23 ?_
    exact g_iret E hw hP hS dX10_why_25
  · replace hw := hw.2 c2
    refine lv_aload_n hx hb dX10_why_12 rfl (lv_at hl 0 rfl) ?_
    refine lv_iload_n hx hb dX10_why_13 rfl (lv_at hl 1 rfl) ?_
    refine g_cVi (As := [.int x1]) (rest := []) E hl.1 (c_X10_counts l D cy ad ha hw _) ok_X10_counts mw_1193 ⟨(Nat.le_of_ble_eq_true rfl), (Nat.le_of_ble_eq_true rfl)⟩ ⟨rfl, rfl⟩ rM0 rfl rfl rfl rfl rfl (Nat.le_of_ble_eq_true rfl) ⟨Nat.zero_le _, Nat.zero_le _⟩ hP hS dX10_why_14 (fun r3 s3 hw H locs hP hS => ?_)
    refine g_cSi (As := [.int r3]) (rest := []) E hl.1 (c_X10_orNone l D cy ad ha hw _) ok_X10_orNone mw_1127 ⟨(Nat.le_of_ble_eq_true rfl), (Nat.le_of_ble_eq_true rfl)⟩ ⟨rfl, rfl⟩ rfl rfl (Nat.le_of_ble_eq_true rfl) ⟨Nat.zero_le _, Nat.zero_le _⟩ hP hS dX10_why_17 (fun r4 s4 hw H locs hP hS => ?_)
    refine lv_goto (tgt := 25) hx hb dX10_why_20 (by decide) ?_
    exact g_iret E hw hP hS dX10_why_25
theorem c_X10_why (l : Launch) (D : va_G) (cy : Nat → ClassId) (ad : Nat → Nat → Nat) (ha : Apart regsM ad) {post : Int32 → St → Prop} {σ : St} {x1 : Int32} (hw : w_X10_why post σ x1) (sz : Nat) : MetI l yX10_why cX10_why 2 .int rm_X10_why [.ref (ad 0 0), .int x1] D cy (cellM cy ad) regsM ad σ sz post :=
  Met_inI ok_X10_why.2.2.2.2.2 (Nat.le_of_ble_eq_true rfl) (fun p e s m below meth c ls E hP hl => B_X10_why_0 E ha hw hP va_S.rf hl)
-- RoofWarModel.isSheet(I)Z
theorem dX10_isSheet_0 : decode cX10_isSheet 0 = .ok (.iload_n 0, 1) := by decide +kernel
theorem dX10_isSheet_1 : decode cX10_isSheet 1 = .ok (.i2l, 1) := by decide +kernel
theorem dX10_isSheet_2 : decode cX10_isSheet 2 = .ok (.lconst 0, 1) := by decide +kernel
theorem dX10_isSheet_3 : decode cX10_isSheet 3 = .ok (.ldc2_w 140, 3) := by decide +kernel
theorem dX10_isSheet_6 : decode cX10_isSheet 6 = .ok (.invokestatic 71, 3) := by decide +kernel
theorem dX10_isSheet_9 : decode cX10_isSheet 9 = .ok (.ireturn, 1) := by decide +kernel
theorem ok_X10_isSheet : okS yX10_isSheet cX10_isSheet 1 (some .boolean) 1 := ⟨mw_1364, mw_83, mw_1365, by decide +kernel, by decide +kernel⟩
abbrev rm_X10_isSheet : Room := { frames := 1, cells := 0, slots := 0, locals := 25 }
def w_X10_isSheet (post : Int32 → St → Prop) (σ : St) (x0 : Int32) : Prop := w_X10_isIn (fun r1 s1 => post r1 s1) σ x0.toInt64 ((0 : Int64)) ((3 : Int64))
theorem B_X10_isSheet_0 (E : EnvW p s m args meth c D cy regsM ad "RoofWarModel" cX10_isSheet 1 (some .boolean)) (ha : Apart regsM ad) {post : Int32 → St → Prop} {σ : St} {x0 : Int32} (hw : w_X10_isSheet post σ x0) {H : Heap} {locs : List Loc} {ls : Array Slot} (hP : va_P D CLS (wM cy ad σ) H) (hS : va_S (AM ad s.heap.size) s.heap H locs) (hl : lv_has ls 1 [(0, .int x0)]) : W p l e rm_X10_isSheet s m args below meth c H locs 0 0 (MQ below (QI D cy (cellM cy ad) regsM ad s.heap.size (fun r u => (r = 0 ∨ r = 1) ∧ post r u)) args s 0 0 (AM ad s.heap.size)) (F0 m 0 ls []) := by
  obtain ⟨hx, hb, -⟩ := id E
  unfold w_X10_isSheet at hw
  refine lv_iload_n hx hb dX10_isSheet_0 rfl (lv_at hl 0 rfl) ?_
  refine lv_i2l (v := x0.toInt64) hx hb dX10_isSheet_1 rfl ?_
  refine lv_lconst (v := 0) hx hb dX10_isSheet_2 (by decide) ?_
  refine g_ldc2 (v := 3) E mw_1126 dX10_isSheet_3 ?_
  refine g_cSi (As := [.long x0.toInt64, .long ((0 : Int64)), .long ((3 : Int64))]) (rest := []) E hl.1 (c_X10_isIn l D cy ad ha hw _) ok_X10_isIn mw_1054 ⟨(Nat.le_of_ble_eq_true rfl), (Nat.le_of_ble_eq_true rfl)⟩ ⟨rfl, rfl⟩ rfl rfl (Nat.le_of_ble_eq_true rfl) ⟨Nat.zero_le _, Nat.zero_le _⟩ hP hS dX10_isSheet_6 (fun r1 s1 hw H locs hP hS => ?_)
  obtain ⟨z1, hw⟩ := hw
  exact g_zret E z1 hw hP hS dX10_isSheet_9
theorem c_X10_isSheet (l : Launch) (D : va_G) (cy : Nat → ClassId) (ad : Nat → Nat → Nat) (ha : Apart regsM ad) {post : Int32 → St → Prop} {σ : St} {x0 : Int32} (hw : w_X10_isSheet post σ x0) (sz : Nat) : MetI l yX10_isSheet cX10_isSheet 1 .boolean rm_X10_isSheet [.int x0] D cy (cellM cy ad) regsM ad σ sz (fun r u => (r = 0 ∨ r = 1) ∧ post r u) :=
  Met_inI ok_X10_isSheet.2.2.2.2 (Nat.le_of_ble_eq_true rfl) (fun p e s m below meth c ls E hP hl => B_X10_isSheet_0 E ha hw hP va_S.rf hl)
-- RoofWarModel.sheet(III)I
theorem dX10_sheet_0 : decode cX10_sheet 0 = .ok (.iload_n 1, 1) := by decide +kernel
theorem dX10_sheet_1 : decode cX10_sheet 1 = .ok (.invokestatic 333, 3) := by decide +kernel
theorem dX10_sheet_4 : decode cX10_sheet 4 = .ok (.ifCond .eq 25, 3) := by decide +kernel
theorem dX10_sheet_7 : decode cX10_sheet 7 = .ok (.iload_n 2, 1) := by decide +kernel
theorem dX10_sheet_8 : decode cX10_sheet 8 = .ok (.i2l, 1) := by decide +kernel
theorem dX10_sheet_9 : decode cX10_sheet 9 = .ok (.ldc2_w 216, 3) := by decide +kernel
theorem dX10_sheet_12 : decode cX10_sheet 12 = .ok (.lconst 1, 1) := by decide +kernel
theorem dX10_sheet_13 : decode cX10_sheet 13 = .ok (.invokestatic 71, 3) := by decide +kernel
theorem dX10_sheet_16 : decode cX10_sheet 16 = .ok (.ifCond .eq 13, 3) := by decide +kernel
theorem dX10_sheet_19 : decode cX10_sheet 19 = .ok (.iload_n 2, 1) := by decide +kernel
theorem dX10_sheet_20 : decode cX10_sheet 20 = .ok (.ifCond .lt 12, 3) := by decide +kernel
theorem dX10_sheet_23 : decode cX10_sheet 23 = .ok (.iload_n 3, 1) := by decide +kernel
theorem dX10_sheet_24 : decode cX10_sheet 24 = .ok (.bipush 24, 2) := by decide +kernel
theorem dX10_sheet_26 : decode cX10_sheet 26 = .ok (.if_icmp .le 6, 3) := by decide +kernel
theorem dX10_sheet_29 : decode cX10_sheet 29 = .ok (.ldc 96, 2) := by decide +kernel
theorem dX10_sheet_31 : decode cX10_sheet 31 = .ok (.ireturn, 1) := by decide +kernel
theorem dX10_sheet_32 : decode cX10_sheet 32 = .ok (.iload_n 2, 1) := by decide +kernel
theorem dX10_sheet_33 : decode cX10_sheet 33 = .ok (.ifCond .lt 11, 3) := by decide +kernel
theorem dX10_sheet_36 : decode cX10_sheet 36 = .ok (.iload_n 3, 1) := by decide +kernel
theorem dX10_sheet_37 : decode cX10_sheet 37 = .ok (.ifCond .ge 7, 3) := by decide +kernel
theorem dX10_sheet_40 : decode cX10_sheet 40 = .ok (.ldc_w 336, 3) := by decide +kernel
theorem dX10_sheet_43 : decode cX10_sheet 43 = .ok (.ireturn, 1) := by decide +kernel
theorem dX10_sheet_44 : decode cX10_sheet 44 = .ok (.aload_n 0, 1) := by decide +kernel
theorem dX10_sheet_45 : decode cX10_sheet 45 = .ok (.getfield 19, 3) := by decide +kernel
theorem dX10_sheet_48 : decode cX10_sheet 48 = .ok (.iload_n 1, 1) := by decide +kernel
theorem dX10_sheet_49 : decode cX10_sheet 49 = .ok (.iload_n 2, 1) := by decide +kernel
theorem dX10_sheet_50 : decode cX10_sheet 50 = .ok (.iastore, 1) := by decide +kernel
theorem dX10_sheet_51 : decode cX10_sheet 51 = .ok (.aload_n 0, 1) := by decide +kernel
theorem dX10_sheet_52 : decode cX10_sheet 52 = .ok (.getfield 22, 3) := by decide +kernel
theorem dX10_sheet_55 : decode cX10_sheet 55 = .ok (.iload_n 1, 1) := by decide +kernel
theorem dX10_sheet_56 : decode cX10_sheet 56 = .ok (.iload_n 2, 1) := by decide +kernel
theorem dX10_sheet_57 : decode cX10_sheet 57 = .ok (.ifCond .ge 7, 3) := by decide +kernel
theorem dX10_sheet_60 : decode cX10_sheet 60 = .ok (.iconst 0, 1) := by decide +kernel
theorem dX10_sheet_61 : decode cX10_sheet 61 = .ok (.goto 4, 3) := by decide +kernel
theorem dX10_sheet_64 : decode cX10_sheet 64 = .ok (.iload_n 3, 1) := by decide +kernel
theorem dX10_sheet_65 : decode cX10_sheet 65 = .ok (.iastore, 1) := by decide +kernel
theorem dX10_sheet_66 : decode cX10_sheet 66 = .ok (.iconst 0, 1) := by decide +kernel
theorem dX10_sheet_67 : decode cX10_sheet 67 = .ok (.istore 4, 2) := by decide +kernel
theorem dX10_sheet_69 : decode cX10_sheet 69 = .ok (.iload 4, 2) := by decide +kernel
theorem dX10_sheet_71 : decode cX10_sheet 71 = .ok (.bipush 24, 2) := by decide +kernel
theorem dX10_sheet_73 : decode cX10_sheet 73 = .ok (.if_icmp .ge 22, 3) := by decide +kernel
theorem dX10_sheet_76 : decode cX10_sheet 76 = .ok (.aload_n 0, 1) := by decide +kernel
theorem dX10_sheet_77 : decode cX10_sheet 77 = .ok (.getfield 25, 3) := by decide +kernel
theorem dX10_sheet_80 : decode cX10_sheet 80 = .ok (.bipush 24, 2) := by decide +kernel
theorem dX10_sheet_82 : decode cX10_sheet 82 = .ok (.iload_n 1, 1) := by decide +kernel
theorem dX10_sheet_83 : decode cX10_sheet 83 = .ok (.imul, 1) := by decide +kernel
theorem dX10_sheet_84 : decode cX10_sheet 84 = .ok (.iload 4, 2) := by decide +kernel
theorem dX10_sheet_86 : decode cX10_sheet 86 = .ok (.iadd, 1) := by decide +kernel
theorem dX10_sheet_87 : decode cX10_sheet 87 = .ok (.iconst 0, 1) := by decide +kernel
theorem dX10_sheet_88 : decode cX10_sheet 88 = .ok (.iastore, 1) := by decide +kernel
theorem dX10_sheet_89 : decode cX10_sheet 89 = .ok (.iinc 4 1, 3) := by decide +kernel
theorem dX10_sheet_92 : decode cX10_sheet 92 = .ok (.goto (-23), 3) := by decide +kernel
theorem dX10_sheet_95 : decode cX10_sheet 95 = .ok (.aload_n 0, 1) := by decide +kernel
theorem dX10_sheet_96 : decode cX10_sheet 96 = .ok (.getfield 22, 3) := by decide +kernel
theorem dX10_sheet_99 : decode cX10_sheet 99 = .ok (.iload_n 1, 1) := by decide +kernel
theorem dX10_sheet_100 : decode cX10_sheet 100 = .ok (.iaload, 1) := by decide +kernel
theorem dX10_sheet_101 : decode cX10_sheet 101 = .ok (.ireturn, 1) := by decide +kernel
theorem ok_X10_sheet : okV yX10_sheet cX10_sheet 5 (some .int) 3 := ⟨mw_1360, mw_1361, mw_83, mw_1362, by decide +kernel, by decide +kernel⟩
abbrev rm_X10_sheet : Room := { frames := 2, cells := 0, slots := 0, locals := 45 }
def b_X10_sheet_69 (K69 : St → Int32 → Int32 → Prop) (post : Int32 → St → Prop) (σ : St) (x1 : Int32) (x4 : Int32) : Prop := ((24 ≤ x4 → (vp_in x1 4 ∧ (post (σ 5 0 x1.toNatClampNeg) σ))) ∧ (¬ 24 ≤ x4 → (vp_in ((24 * x1) + x4) 96 ∧ (∀ s4 : St, s4 = wr σ 6 0 ((24 * x1) + x4).toNatClampNeg 0 → (∀ v5 : Int32, v5 = x4 + 1 → (K69 s4 x1 v5))))))
noncomputable def l_X10_sheet_69 (post : Int32 → St → Prop) : Nat → St → Int32 → Int32 → Prop := fun n => Nat.rec (motive := fun _ => St → Int32 → Int32 → Prop) (fun _ _ _ => False) (fun _ ih => b_X10_sheet_69 ih post) n
theorem L_X10_sheet_69 (E : EnvW p s m args meth c D cy regsM ad "RoofWarModel" cX10_sheet 5 (some .int)) (ha : Apart regsM ad) {post : Int32 → St → Prop} : ∀ (n : Nat), ∀ (σ : St) (x1 : Int32) (x4 : Int32), l_X10_sheet_69 post n σ x1 x4 → ∀ (H : Heap) (locs : List Loc) (ls : Array Slot), va_P D CLS (wM cy ad σ) H → va_S (AM ad s.heap.size) s.heap H locs → lv_has ls 5 [(0, .ref (ad 0 0)), (1, .int x1), (4, .int x4)] → W p l e rm_X10_sheet s m args below meth c H locs 0 0 (MQ below (QI D cy (cellM cy ad) regsM ad s.heap.size post) args s 0 0 (AM ad s.heap.size)) (F0 m 69 ls []) := by
  obtain ⟨hx, hb, -⟩ := id E
  intro n
  induction n with
  | zero => intro σ x1 x4 hw; exact hw.elim
  | succ n hk69 =>
    intro σ x1 x4 hw H locs ls hP hS hl
    replace hw : b_X10_sheet_69 (l_X10_sheet_69 post n) post σ x1 x4 := hw
    unfold b_X10_sheet_69 at hw
    refine lv_iload hx hb dX10_sheet_69 (lv_at hl 2 rfl) ?_
    refine lv_bipush (v := 24) hx hb dX10_sheet_71 (by decide) ?_
    refine lv_icmp_ge (tgt := 95) hx hb dX10_sheet_73 (by decide) (fun c1 => ?_) (fun c1 => ?_)
    · replace hw := hw.1 c1
      refine lv_aload_n hx hb dX10_sheet_95 rfl (lv_at hl 0 rfl) ?_
      refine fX10_5 E hP mw_951 dX10_sheet_96 ?_
      refine lv_iload_n hx hb dX10_sheet_99 rfl (lv_at hl 1 rfl) ?_
      obtain ⟨h2, hw⟩ := hw
      refine aM5 E hP h2 dX10_sheet_100 ?_
      exact g_iret E hw hP hS dX10_sheet_101
    · replace hw := hw.2 c1
      refine lv_aload_n hx hb dX10_sheet_76 rfl (lv_at hl 0 rfl) ?_
      refine fX10_6 E hP mw_952 dX10_sheet_77 ?_
      refine lv_bipush (v := 24) hx hb dX10_sheet_80 (by decide) ?_
      refine lv_iload_n hx hb dX10_sheet_82 rfl (lv_at hl 1 rfl) ?_
      refine lv_imul hx hb dX10_sheet_83 ?_
      refine lv_iload hx hb dX10_sheet_84 (lv_at hl 2 rfl) ?_
      refine lv_iadd hx hb dX10_sheet_86 ?_
      refine lv_iconst (v := 0) hx hb dX10_sheet_87 (by decide) ?_
      obtain ⟨h3, hw⟩ := hw
      refine tM6 E ha h3 dX10_sheet_88 hP hS (fun s4 es4 H locs hP hS => ?_)
      replace hw := hw s4 es4
      obtain ⟨v5, ev5⟩ : ∃ y : Int32, y = x4 + 1 := ⟨_, rfl⟩
      replace hw := hw v5 ev5
      refine lv_iinc (v := v5) (lv' := [(4, .int v5), (0, .ref (ad 0 0)), (1, .int x1)]) hx hb dX10_sheet_89 hl (k := 2) rfl (by rw [ev5]; rfl) (by decide) rfl (fun ls hl => ?_)
      refine lv_goto (tgt := 69) hx hb dX10_sheet_92 (by decide) ?_
      exact hk69 s4 x1 v5 hw _ _ _ hP hS (lv_sub hl [1, 2, 0] rfl)
def b_X10_sheet_65 (post : Int32 → St → Prop) (σ : St) (y0 : Int32) (y1 : Int32) (x1 : Int32) : Prop := vp_in y1 4 ∧ (∀ s2 : St, s2 = wr σ 5 0 y1.toNatClampNeg y0 → (∃ n3 : Nat, l_X10_sheet_69 post n3 s2 x1 (0 : Int32)))
theorem B_X10_sheet_65 (E : EnvW p s m args meth c D cy regsM ad "RoofWarModel" cX10_sheet 5 (some .int)) (ha : Apart regsM ad) {post : Int32 → St → Prop} {σ : St} {y0 : Int32} {y1 : Int32} {x1 : Int32} (hw : b_X10_sheet_65 post σ y0 y1 x1) {H : Heap} {locs : List Loc} {ls : Array Slot} (hP : va_P D CLS (wM cy ad σ) H) (hS : va_S (AM ad s.heap.size) s.heap H locs) (hl : lv_has ls 5 [(0, .ref (ad 0 0)), (1, .int x1)]) : W p l e rm_X10_sheet s m args below meth c H locs 0 0 (MQ below (QI D cy (cellM cy ad) regsM ad s.heap.size post) args s 0 0 (AM ad s.heap.size)) (F0 m 65 ls [.int y0, .int y1, .ref (ad 5 0)]) := by
  obtain ⟨hx, hb, -⟩ := id E
  unfold b_X10_sheet_65 at hw
  obtain ⟨h1, hw⟩ := hw
  refine tM5 E ha h1 dX10_sheet_65 hP hS (fun s2 es2 H locs hP hS => ?_)
  replace hw := hw s2 es2
  refine lv_iconst (v := 0) hx hb dX10_sheet_66 (by decide) ?_
  refine lv_istore (lv' := [(4, .int 0), (0, .ref (ad 0 0)), (1, .int x1)]) hx hb dX10_sheet_67 hl (by decide) rfl (fun ls hl => ?_)
  obtain ⟨n3, hw⟩ := hw
  exact L_X10_sheet_69 E ha n3 s2 x1 (0 : Int32) hw _ _ _ hP hS (lv_sub hl [1, 2, 0] rfl)
def b_X10_sheet_44 (post : Int32 → St → Prop) (σ : St) (x1 : Int32) (x2 : Int32) (x3 : Int32) : Prop := vp_in x1 4 ∧ (∀ s2 : St, s2 = wr σ 4 0 x1.toNatClampNeg x2 → (((0 ≤ x2 → (b_X10_sheet_65 post s2 x3 x1 x1)) ∧ (¬ 0 ≤ x2 → (b_X10_sheet_65 post s2 (0 : Int32) x1 x1)))))
theorem B_X10_sheet_44 (E : EnvW p s m args meth c D cy regsM ad "RoofWarModel" cX10_sheet 5 (some .int)) (ha : Apart regsM ad) {post : Int32 → St → Prop} {σ : St} {x1 : Int32} {x2 : Int32} {x3 : Int32} (hw : b_X10_sheet_44 post σ x1 x2 x3) {H : Heap} {locs : List Loc} {ls : Array Slot} (hP : va_P D CLS (wM cy ad σ) H) (hS : va_S (AM ad s.heap.size) s.heap H locs) (hl : lv_has ls 5 [(0, .ref (ad 0 0)), (1, .int x1), (2, .int x2), (3, .int x3)]) : W p l e rm_X10_sheet s m args below meth c H locs 0 0 (MQ below (QI D cy (cellM cy ad) regsM ad s.heap.size post) args s 0 0 (AM ad s.heap.size)) (F0 m 44 ls []) := by
  obtain ⟨hx, hb, -⟩ := id E
  unfold b_X10_sheet_44 at hw
  refine lv_aload_n hx hb dX10_sheet_44 rfl (lv_at hl 0 rfl) ?_
  refine fX10_4 E hP mw_950 dX10_sheet_45 ?_
  refine lv_iload_n hx hb dX10_sheet_48 rfl (lv_at hl 1 rfl) ?_
  refine lv_iload_n hx hb dX10_sheet_49 rfl (lv_at hl 2 rfl) ?_
  obtain ⟨h1, hw⟩ := hw
  refine tM4 E ha h1 dX10_sheet_50 hP hS (fun s2 es2 H locs hP hS => ?_)
  replace hw := hw s2 es2
  refine lv_aload_n hx hb dX10_sheet_51 rfl (lv_at hl 0 rfl) ?_
  refine fX10_5 E hP mw_951 dX10_sheet_52 ?_
  refine lv_iload_n hx hb dX10_sheet_55 rfl (lv_at hl 1 rfl) ?_
  refine lv_iload_n hx hb dX10_sheet_56 rfl (lv_at hl 2 rfl) ?_
  refine lv_if_ge (tgt := 64) hx hb dX10_sheet_57 (by decide) (fun c3 => ?_) (fun c3 => ?_)
  · replace hw := hw.1 c3
    refine lv_iload_n hx hb dX10_sheet_64 rfl (lv_at hl 3 rfl) ?_
    exact B_X10_sheet_65 E ha hw hP hS (lv_sub hl [0, 1] rfl)
  · replace hw := hw.2 c3
    refine lv_iconst (v := 0) hx hb dX10_sheet_60 (by decide) ?_
    refine lv_goto (tgt := 65) hx hb dX10_sheet_61 (by decide) ?_
    exact B_X10_sheet_65 E ha hw hP hS (lv_sub hl [0, 1] rfl)
def b_X10_sheet_32 (post : Int32 → St → Prop) (σ : St) (x1 : Int32) (x2 : Int32) (x3 : Int32) : Prop := ((x2 < 0 → (b_X10_sheet_44 post σ x1 x2 x3)) ∧ (¬ x2 < 0 → (((0 ≤ x3 → (b_X10_sheet_44 post σ x1 x2 x3)) ∧ (¬ 0 ≤ x3 → (post ((-1000000014)) σ))))))
theorem B_X10_sheet_32 (E : EnvW p s m args meth c D cy regsM ad "RoofWarModel" cX10_sheet 5 (some .int)) (ha : Apart regsM ad) {post : Int32 → St → Prop} {σ : St} {x1 : Int32} {x2 : Int32} {x3 : Int32} (hw : b_X10_sheet_32 post σ x1 x2 x3) {H : Heap} {locs : List Loc} {ls : Array Slot} (hP : va_P D CLS (wM cy ad σ) H) (hS : va_S (AM ad s.heap.size) s.heap H locs) (hl : lv_has ls 5 [(0, .ref (ad 0 0)), (1, .int x1), (2, .int x2), (3, .int x3)]) : W p l e rm_X10_sheet s m args below meth c H locs 0 0 (MQ below (QI D cy (cellM cy ad) regsM ad s.heap.size post) args s 0 0 (AM ad s.heap.size)) (F0 m 32 ls []) := by
  obtain ⟨hx, hb, -⟩ := id E
  unfold b_X10_sheet_32 at hw
  refine lv_iload_n hx hb dX10_sheet_32 rfl (lv_at hl 2 rfl) ?_
  refine lv_if_lt (tgt := 44) hx hb dX10_sheet_33 (by decide) (fun c1 => ?_) (fun c1 => ?_)
  · replace hw := hw.1 c1
    exact B_X10_sheet_44 E ha hw hP hS (lv_sub hl [0, 1, 2, 3] rfl)
  · replace hw := hw.2 c1
    refine lv_iload_n hx hb dX10_sheet_36 rfl (lv_at hl 3 rfl) ?_
    refine lv_if_ge (tgt := 44) hx hb dX10_sheet_37 (by decide) (fun c2 => ?_) (fun c2 => ?_)
    · replace hw := hw.1 c2
      exact B_X10_sheet_44 E ha hw hP hS (lv_sub hl [0, 1, 2, 3] rfl)
    · replace hw := hw.2 c2
      refine g_ldcw (v := -1000000014) E mw_1366 dX10_sheet_40 ?_
      exact g_iret E hw hP hS dX10_sheet_43
def w_X10_sheet (post : Int32 → St → Prop) (σ : St) (x1 : Int32) (x2 : Int32) (x3 : Int32) : Prop := w_X10_isSheet (fun r1 s1 => ((r1 = 0 → (post ((-1000000001)) s1)) ∧ (¬ r1 = 0 → (w_X10_isIn (fun r3 s3 => ((r3 = 0 → (post ((-1000000001)) s3)) ∧ (¬ r3 = 0 → (((x2 < 0 → (b_X10_sheet_32 post s3 x1 x2 x3)) ∧ (¬ x2 < 0 → (((x3 ≤ 24 → (b_X10_sheet_32 post s3 x1 x2 x3)) ∧ (¬ x3 ≤ 24 → (post ((-1000000001)) s3)))))))))) s1 x2.toInt64 ((-1 : Int64)) ((1 : Int64)))))) σ x1
theorem B_X10_sheet_0 (E : EnvW p s m args meth c D cy regsM ad "RoofWarModel" cX10_sheet 5 (some .int)) (ha : Apart regsM ad) {post : Int32 → St → Prop} {σ : St} {x1 : Int32} {x2 : Int32} {x3 : Int32} (hw : w_X10_sheet post σ x1 x2 x3) {H : Heap} {locs : List Loc} {ls : Array Slot} (hP : va_P D CLS (wM cy ad σ) H) (hS : va_S (AM ad s.heap.size) s.heap H locs) (hl : lv_has ls 5 [(0, .ref (ad 0 0)), (1, .int x1), (2, .int x2), (3, .int x3)]) : W p l e rm_X10_sheet s m args below meth c H locs 0 0 (MQ below (QI D cy (cellM cy ad) regsM ad s.heap.size post) args s 0 0 (AM ad s.heap.size)) (F0 m 0 ls []) := by
  obtain ⟨hx, hb, -⟩ := id E
  unfold w_X10_sheet at hw
  refine lv_iload_n hx hb dX10_sheet_0 rfl (lv_at hl 1 rfl) ?_
  refine g_cSi (As := [.int x1]) (rest := []) E hl.1 (c_X10_isSheet l D cy ad ha hw _) ok_X10_isSheet mw_1363 ⟨(Nat.le_of_ble_eq_true rfl), (Nat.le_of_ble_eq_true rfl)⟩ ⟨rfl, rfl⟩ rfl rfl (Nat.le_of_ble_eq_true rfl) ⟨Nat.zero_le _, Nat.zero_le _⟩ hP hS dX10_sheet_1 (fun r1 s1 hw H locs hP hS => ?_)
  obtain ⟨z1, hw⟩ := hw
  refine lv_if_eq (tgt := 29) hx hb dX10_sheet_4 (by decide) (fun c2 => ?_) (fun c2 => ?_)
  · replace hw := hw.1 c2
    refine g_ldc (v := -1000000001) E mw_1063 dX10_sheet_29 ?_
    exact g_iret E hw hP hS dX10_sheet_31
  · replace hw := hw.2 c2
    refine lv_iload_n hx hb dX10_sheet_7 rfl (lv_at hl 2 rfl) ?_
    refine lv_i2l (v := x2.toInt64) hx hb dX10_sheet_8 rfl ?_
    refine g_ldc2 (v := -1) E mw_1239 dX10_sheet_9 ?_
    refine lv_lconst (v := 1) hx hb dX10_sheet_12 (by decide) ?_
    refine g_cSi (As := [.long x2.toInt64, .long ((-1 : Int64)), .long ((1 : Int64))]) (rest := []) E hl.1 (c_X10_isIn l D cy ad ha hw _) ok_X10_isIn mw_1054 ⟨(Nat.le_of_ble_eq_true rfl), (Nat.le_of_ble_eq_true rfl)⟩ ⟨rfl, rfl⟩ rfl rfl (Nat.le_of_ble_eq_true rfl) ⟨Nat.zero_le _, Nat.zero_le _⟩ hP hS dX10_sheet_13 (fun r3 s3 hw H locs hP hS => ?_)
    obtain ⟨z3, hw⟩ := hw
    refine lv_if_eq (tgt := 29) hx hb dX10_sheet_16 (by decide) (fun c4 => ?_) (fun c4 => ?_)
    · replace hw := hw.1 c4
      refine g_ldc (v := -1000000001) E mw_1063 dX10_sheet_29 ?_
      exact g_iret E hw hP hS dX10_sheet_31
    · replace hw := hw.2 c4
      refine lv_iload_n hx hb dX10_sheet_19 rfl (lv_at hl 2 rfl) ?_
      refine lv_if_lt (tgt := 32) hx hb dX10_sheet_20 (by decide) (fun c5 => ?_) (fun c5 => ?_)
      · replace hw := hw.1 c5
        exact B_X10_sheet_32 E ha hw hP hS (lv_sub hl [0, 1, 2, 3] rfl)
      · replace hw := hw.2 c5
        refine lv_iload_n hx hb dX10_sheet_23 rfl (lv_at hl 3 rfl) ?_
        refine lv_bipush (v := 24) hx hb dX10_sheet_24 (by decide) ?_
        refine lv_icmp_le (tgt := 32) hx hb dX10_sheet_26 (by decide) (fun c6 => ?_) (fun c6 => ?_)
        · replace hw := hw.1 c6
          exact B_X10_sheet_32 E ha hw hP hS (lv_sub hl [0, 1, 2, 3] rfl)
        · replace hw := hw.2 c6
          refine g_ldc (v := -1000000001) E mw_1063 dX10_sheet_29 ?_
          exact g_iret E hw hP hS dX10_sheet_31
theorem c_X10_sheet (l : Launch) (D : va_G) (cy : Nat → ClassId) (ad : Nat → Nat → Nat) (ha : Apart regsM ad) {post : Int32 → St → Prop} {σ : St} {x1 : Int32} {x2 : Int32} {x3 : Int32} (hw : w_X10_sheet post σ x1 x2 x3) (sz : Nat) : MetI l yX10_sheet cX10_sheet 5 .int rm_X10_sheet [.ref (ad 0 0), .int x1, .int x2, .int x3] D cy (cellM cy ad) regsM ad σ sz post :=
  Met_inI ok_X10_sheet.2.2.2.2.2 (Nat.le_of_ble_eq_true rfl) (fun p e s m below meth c ls E hP hl => B_X10_sheet_0 E ha hw hP va_S.rf hl)
-- RoofWarModel.mark(III)I
theorem dX10_mark_0 : decode cX10_mark 0 = .ok (.iload_n 1, 1) := by decide +kernel
theorem dX10_mark_1 : decode cX10_mark 1 = .ok (.invokestatic 333, 3) := by decide +kernel
theorem dX10_mark_4 : decode cX10_mark 4 = .ok (.ifCond .ne 6, 3) := by decide +kernel
theorem dX10_mark_7 : decode cX10_mark 7 = .ok (.ldc 96, 2) := by decide +kernel
theorem dX10_mark_9 : decode cX10_mark 9 = .ok (.ireturn, 1) := by decide +kernel
theorem dX10_mark_10 : decode cX10_mark 10 = .ok (.aload_n 0, 1) := by decide +kernel
theorem dX10_mark_11 : decode cX10_mark 11 = .ok (.getfield 19, 3) := by decide +kernel
theorem dX10_mark_14 : decode cX10_mark 14 = .ok (.iload_n 1, 1) := by decide +kernel
theorem dX10_mark_15 : decode cX10_mark 15 = .ok (.iaload, 1) := by decide +kernel
theorem dX10_mark_16 : decode cX10_mark 16 = .ok (.ifCond .ge 7, 3) := by decide +kernel
theorem dX10_mark_19 : decode cX10_mark 19 = .ok (.ldc_w 337, 3) := by decide +kernel
theorem dX10_mark_22 : decode cX10_mark 22 = .ok (.ireturn, 1) := by decide +kernel
theorem dX10_mark_23 : decode cX10_mark 23 = .ok (.iload_n 2, 1) := by decide +kernel
theorem dX10_mark_24 : decode cX10_mark 24 = .ok (.i2l, 1) := by decide +kernel
theorem dX10_mark_25 : decode cX10_mark 25 = .ok (.lconst 0, 1) := by decide +kernel
theorem dX10_mark_26 : decode cX10_mark 26 = .ok (.aload_n 0, 1) := by decide +kernel
theorem dX10_mark_27 : decode cX10_mark 27 = .ok (.getfield 22, 3) := by decide +kernel
theorem dX10_mark_30 : decode cX10_mark 30 = .ok (.iload_n 1, 1) := by decide +kernel
theorem dX10_mark_31 : decode cX10_mark 31 = .ok (.iaload, 1) := by decide +kernel
theorem dX10_mark_32 : decode cX10_mark 32 = .ok (.iconst 1, 1) := by decide +kernel
theorem dX10_mark_33 : decode cX10_mark 33 = .ok (.isub, 1) := by decide +kernel
theorem dX10_mark_34 : decode cX10_mark 34 = .ok (.i2l, 1) := by decide +kernel
theorem dX10_mark_35 : decode cX10_mark 35 = .ok (.invokestatic 71, 3) := by decide +kernel
theorem dX10_mark_38 : decode cX10_mark 38 = .ok (.ifCond .ne 7, 3) := by decide +kernel
theorem dX10_mark_41 : decode cX10_mark 41 = .ok (.ldc_w 338, 3) := by decide +kernel
theorem dX10_mark_44 : decode cX10_mark 44 = .ok (.ireturn, 1) := by decide +kernel
theorem dX10_mark_45 : decode cX10_mark 45 = .ok (.aload_n 0, 1) := by decide +kernel
theorem dX10_mark_46 : decode cX10_mark 46 = .ok (.getfield 19, 3) := by decide +kernel
theorem dX10_mark_49 : decode cX10_mark 49 = .ok (.iload_n 1, 1) := by decide +kernel
theorem dX10_mark_50 : decode cX10_mark 50 = .ok (.iaload, 1) := by decide +kernel
theorem dX10_mark_51 : decode cX10_mark 51 = .ok (.ifCond .ne 12, 3) := by decide +kernel
theorem dX10_mark_54 : decode cX10_mark 54 = .ok (.iload_n 3, 1) := by decide +kernel
theorem dX10_mark_55 : decode cX10_mark 55 = .ok (.ldc 70, 2) := by decide +kernel
theorem dX10_mark_57 : decode cX10_mark 57 = .ok (.if_icmp .ne 6, 3) := by decide +kernel
theorem dX10_mark_60 : decode cX10_mark 60 = .ok (.ldc 128, 2) := by decide +kernel
theorem dX10_mark_62 : decode cX10_mark 62 = .ok (.ireturn, 1) := by decide +kernel
theorem dX10_mark_63 : decode cX10_mark 63 = .ok (.aload_n 0, 1) := by decide +kernel
theorem dX10_mark_64 : decode cX10_mark 64 = .ok (.getfield 19, 3) := by decide +kernel
theorem dX10_mark_67 : decode cX10_mark 67 = .ok (.iload_n 1, 1) := by decide +kernel
theorem dX10_mark_68 : decode cX10_mark 68 = .ok (.iaload, 1) := by decide +kernel
theorem dX10_mark_69 : decode cX10_mark 69 = .ok (.iconst 1, 1) := by decide +kernel
theorem dX10_mark_70 : decode cX10_mark 70 = .ok (.if_icmp .ne 26, 3) := by decide +kernel
theorem dX10_mark_73 : decode cX10_mark 73 = .ok (.iload_n 3, 1) := by decide +kernel
theorem dX10_mark_74 : decode cX10_mark 74 = .ok (.ldc 70, 2) := by decide +kernel
theorem dX10_mark_76 : decode cX10_mark 76 = .ok (.if_icmp .eq 20, 3) := by decide +kernel
theorem dX10_mark_79 : decode cX10_mark 79 = .ok (.iload_n 3, 1) := by decide +kernel
theorem dX10_mark_80 : decode cX10_mark 80 = .ok (.i2l, 1) := by decide +kernel
theorem dX10_mark_81 : decode cX10_mark 81 = .ok (.ldc2_w 339, 3) := by decide +kernel
theorem dX10_mark_84 : decode cX10_mark 84 = .ok (.ldc2_w 341, 3) := by decide +kernel
theorem dX10_mark_87 : decode cX10_mark 87 = .ok (.invokestatic 71, 3) := by decide +kernel
theorem dX10_mark_90 : decode cX10_mark 90 = .ok (.ifCond .ne 6, 3) := by decide +kernel
theorem dX10_mark_93 : decode cX10_mark 93 = .ok (.ldc 96, 2) := by decide +kernel
theorem dX10_mark_95 : decode cX10_mark 95 = .ok (.ireturn, 1) := by decide +kernel
theorem dX10_mark_96 : decode cX10_mark 96 = .ok (.aload_n 0, 1) := by decide +kernel
theorem dX10_mark_97 : decode cX10_mark 97 = .ok (.getfield 25, 3) := by decide +kernel
theorem dX10_mark_100 : decode cX10_mark 100 = .ok (.bipush 24, 2) := by decide +kernel
theorem dX10_mark_102 : decode cX10_mark 102 = .ok (.iload_n 1, 1) := by decide +kernel
theorem dX10_mark_103 : decode cX10_mark 103 = .ok (.imul, 1) := by decide +kernel
theorem dX10_mark_104 : decode cX10_mark 104 = .ok (.iload_n 2, 1) := by decide +kernel
theorem dX10_mark_105 : decode cX10_mark 105 = .ok (.iadd, 1) := by decide +kernel
theorem dX10_mark_106 : decode cX10_mark 106 = .ok (.aload_n 0, 1) := by decide +kernel
theorem dX10_mark_107 : decode cX10_mark 107 = .ok (.getfield 19, 3) := by decide +kernel
theorem dX10_mark_110 : decode cX10_mark 110 = .ok (.iload_n 1, 1) := by decide +kernel
theorem dX10_mark_111 : decode cX10_mark 111 = .ok (.iaload, 1) := by decide +kernel
theorem dX10_mark_112 : decode cX10_mark 112 = .ok (.ifCond .ne 13, 3) := by decide +kernel
theorem dX10_mark_115 : decode cX10_mark 115 = .ok (.iload_n 3, 1) := by decide +kernel
theorem dX10_mark_116 : decode cX10_mark 116 = .ok (.bipush 16, 2) := by decide +kernel
theorem dX10_mark_118 : decode cX10_mark 118 = .ok (.ishl, 1) := by decide +kernel
theorem dX10_mark_119 : decode cX10_mark 119 = .ok (.bipush 16, 2) := by decide +kernel
theorem dX10_mark_121 : decode cX10_mark 121 = .ok (.ishr, 1) := by decide +kernel
theorem dX10_mark_122 : decode cX10_mark 122 = .ok (.goto 4, 3) := by decide +kernel
theorem dX10_mark_125 : decode cX10_mark 125 = .ok (.iload_n 3, 1) := by decide +kernel
theorem dX10_mark_126 : decode cX10_mark 126 = .ok (.iastore, 1) := by decide +kernel
theorem dX10_mark_127 : decode cX10_mark 127 = .ok (.iconst 1, 1) := by decide +kernel
theorem dX10_mark_128 : decode cX10_mark 128 = .ok (.ireturn, 1) := by decide +kernel
theorem ok_X10_mark : okV yX10_mark cX10_mark 4 (some .int) 3 := ⟨mw_1368, mw_1369, mw_83, mw_1370, by decide +kernel, by decide +kernel⟩
abbrev rm_X10_mark : Room := { frames := 2, cells := 0, slots := 0, locals := 45 }
def b_X10_mark_126 (post : Int32 → St → Prop) (σ : St) (y0 : Int32) (y1 : Int32) : Prop := vp_in y1 96 ∧ (∀ s2 : St, s2 = wr σ 6 0 y1.toNatClampNeg y0 → (post 1 s2))
theorem B_X10_mark_126 (E : EnvW p s m args meth c D cy regsM ad "RoofWarModel" cX10_mark 4 (some .int)) (ha : Apart regsM ad) {post : Int32 → St → Prop} {σ : St} {y0 : Int32} {y1 : Int32} (hw : b_X10_mark_126 post σ y0 y1) {H : Heap} {locs : List Loc} {ls : Array Slot} (hP : va_P D CLS (wM cy ad σ) H) (hS : va_S (AM ad s.heap.size) s.heap H locs) (hl : lv_has ls 4 []) : W p l e rm_X10_mark s m args below meth c H locs 0 0 (MQ below (QI D cy (cellM cy ad) regsM ad s.heap.size post) args s 0 0 (AM ad s.heap.size)) (F0 m 126 ls [.int y0, .int y1, .ref (ad 6 0)]) := by
  obtain ⟨hx, hb, -⟩ := id E
  unfold b_X10_mark_126 at hw
  obtain ⟨h1, hw⟩ := hw
  refine tM6 E ha h1 dX10_mark_126 hP hS (fun s2 es2 H locs hP hS => ?_)
  replace hw := hw s2 es2
  refine lv_iconst (v := 1) hx hb dX10_mark_127 (by decide) ?_
  exact g_iret E hw hP hS dX10_mark_128
def b_X10_mark_96 (post : Int32 → St → Prop) (σ : St) (x1 : Int32) (x2 : Int32) (x3 : Int32) : Prop := vp_in x1 4 ∧ (((¬ (σ 4 0 x1.toNatClampNeg) = 0 → (b_X10_mark_126 post σ x3 ((24 * x1) + x2))) ∧ ((σ 4 0 x1.toNatClampNeg) = 0 → (b_X10_mark_126 post σ ((x3 <<< (16 &&& 31)) >>> (16 &&& 31)) ((24 * x1) + x2)))))
theorem B_X10_mark_96 (E : EnvW p s m args meth c D cy regsM ad "RoofWarModel" cX10_mark 4 (some .int)) (ha : Apart regsM ad) {post : Int32 → St → Prop} {σ : St} {x1 : Int32} {x2 : Int32} {x3 : Int32} (hw : b_X10_mark_96 post σ x1 x2 x3) {H : Heap} {locs : List Loc} {ls : Array Slot} (hP : va_P D CLS (wM cy ad σ) H) (hS : va_S (AM ad s.heap.size) s.heap H locs) (hl : lv_has ls 4 [(0, .ref (ad 0 0)), (1, .int x1), (2, .int x2), (3, .int x3)]) : W p l e rm_X10_mark s m args below meth c H locs 0 0 (MQ below (QI D cy (cellM cy ad) regsM ad s.heap.size post) args s 0 0 (AM ad s.heap.size)) (F0 m 96 ls []) := by
  obtain ⟨hx, hb, -⟩ := id E
  unfold b_X10_mark_96 at hw
  refine lv_aload_n hx hb dX10_mark_96 rfl (lv_at hl 0 rfl) ?_
  refine fX10_6 E hP mw_952 dX10_mark_97 ?_
  refine lv_bipush (v := 24) hx hb dX10_mark_100 (by decide) ?_
  refine lv_iload_n hx hb dX10_mark_102 rfl (lv_at hl 1 rfl) ?_
  refine lv_imul hx hb dX10_mark_103 ?_
  refine lv_iload_n hx hb dX10_mark_104 rfl (lv_at hl 2 rfl) ?_
  refine lv_iadd hx hb dX10_mark_105 ?_
  refine lv_aload_n hx hb dX10_mark_106 rfl (lv_at hl 0 rfl) ?_
  refine fX10_4 E hP mw_950 dX10_mark_107 ?_
  refine lv_iload_n hx hb dX10_mark_110 rfl (lv_at hl 1 rfl) ?_
  obtain ⟨h1, hw⟩ := hw
  refine aM4 E hP h1 dX10_mark_111 ?_
  refine lv_if_ne (tgt := 125) hx hb dX10_mark_112 (by decide) (fun c2 => ?_) (fun c2 => ?_)
  · replace hw := hw.1 c2
    refine lv_iload_n hx hb dX10_mark_125 rfl (lv_at hl 3 rfl) ?_
    exact B_X10_mark_126 E ha hw hP hS (lv_sub hl [] rfl)
  · replace hw := hw.2 c2
    refine lv_iload_n hx hb dX10_mark_115 rfl (lv_at hl 3 rfl) ?_
    refine lv_bipush (v := 16) hx hb dX10_mark_116 (by decide) ?_
    refine lv_ishl hx hb dX10_mark_118 ?_
    refine lv_bipush (v := 16) hx hb dX10_mark_119 (by decide) ?_
    refine lv_ishr hx hb dX10_mark_121 ?_
    refine lv_goto (tgt := 126) hx hb dX10_mark_122 (by decide) ?_
    exact B_X10_mark_126 E ha hw hP hS (lv_sub hl [] rfl)
def b_X10_mark_63 (post : Int32 → St → Prop) (σ : St) (x1 : Int32) (x2 : Int32) (x3 : Int32) : Prop := vp_in x1 4 ∧ (((¬ (σ 4 0 x1.toNatClampNeg) = 1 → (b_X10_mark_96 post σ x1 x2 x3)) ∧ ((σ 4 0 x1.toNatClampNeg) = 1 → (((x3 = ((-1000000005)) → (b_X10_mark_96 post σ x1 x2 x3)) ∧ (¬ x3 = ((-1000000005)) → (w_X10_isIn (fun r4 s4 => ((¬ r4 = 0 → (b_X10_mark_96 post s4 x1 x2 x3)) ∧ (r4 = 0 → (post ((-1000000001)) s4)))) σ x3.toInt64 ((-99999 : Int64)) ((99999 : Int64)))))))))
theorem B_X10_mark_63 (E : EnvW p s m args meth c D cy regsM ad "RoofWarModel" cX10_mark 4 (some .int)) (ha : Apart regsM ad) {post : Int32 → St → Prop} {σ : St} {x1 : Int32} {x2 : Int32} {x3 : Int32} (hw : b_X10_mark_63 post σ x1 x2 x3) {H : Heap} {locs : List Loc} {ls : Array Slot} (hP : va_P D CLS (wM cy ad σ) H) (hS : va_S (AM ad s.heap.size) s.heap H locs) (hl : lv_has ls 4 [(0, .ref (ad 0 0)), (1, .int x1), (2, .int x2), (3, .int x3)]) : W p l e rm_X10_mark s m args below meth c H locs 0 0 (MQ below (QI D cy (cellM cy ad) regsM ad s.heap.size post) args s 0 0 (AM ad s.heap.size)) (F0 m 63 ls []) := by
  obtain ⟨hx, hb, -⟩ := id E
  unfold b_X10_mark_63 at hw
  refine lv_aload_n hx hb dX10_mark_63 rfl (lv_at hl 0 rfl) ?_
  refine fX10_4 E hP mw_950 dX10_mark_64 ?_
  refine lv_iload_n hx hb dX10_mark_67 rfl (lv_at hl 1 rfl) ?_
  obtain ⟨h1, hw⟩ := hw
  refine aM4 E hP h1 dX10_mark_68 ?_
  refine lv_iconst (v := 1) hx hb dX10_mark_69 (by decide) ?_
  refine lv_icmp_ne (tgt := 96) hx hb dX10_mark_70 (by decide) (fun c2 => ?_) (fun c2 => ?_)
  · replace hw := hw.1 c2
    exact B_X10_mark_96 E ha hw hP hS (lv_sub hl [0, 1, 2, 3] rfl)
  · replace hw := hw.2 c2
    refine lv_iload_n hx hb dX10_mark_73 rfl (lv_at hl 3 rfl) ?_
    refine g_ldc (v := -1000000005) E mw_1130 dX10_mark_74 ?_
    refine lv_icmp_eq (tgt := 96) hx hb dX10_mark_76 (by decide) (fun c3 => ?_) (fun c3 => ?_)
    · replace hw := hw.1 c3
      exact B_X10_mark_96 E ha hw hP hS (lv_sub hl [0, 1, 2, 3] rfl)
    · replace hw := hw.2 c3
      refine lv_iload_n hx hb dX10_mark_79 rfl (lv_at hl 3 rfl) ?_
      refine lv_i2l (v := x3.toInt64) hx hb dX10_mark_80 rfl ?_
      refine g_ldc2 (v := -99999) E mw_1373 dX10_mark_81 ?_
      refine g_ldc2 (v := 99999) E mw_1374 dX10_mark_84 ?_
      refine g_cSi (As := [.long x3.toInt64, .long ((-99999 : Int64)), .long ((99999 : Int64))]) (rest := []) E hl.1 (c_X10_isIn l D cy ad ha hw _) ok_X10_isIn mw_1054 ⟨(Nat.le_of_ble_eq_true rfl), (Nat.le_of_ble_eq_true rfl)⟩ ⟨rfl, rfl⟩ rfl rfl (Nat.le_of_ble_eq_true rfl) ⟨Nat.zero_le _, Nat.zero_le _⟩ hP hS dX10_mark_87 (fun r4 s4 hw H locs hP hS => ?_)
      obtain ⟨z4, hw⟩ := hw
      refine lv_if_ne (tgt := 96) hx hb dX10_mark_90 (by decide) (fun c5 => ?_) (fun c5 => ?_)
      · replace hw := hw.1 c5
        exact B_X10_mark_96 E ha hw hP hS (lv_sub hl [0, 1, 2, 3] rfl)
      · replace hw := hw.2 c5
        refine g_ldc (v := -1000000001) E mw_1063 dX10_mark_93 ?_
        exact g_iret E hw hP hS dX10_mark_95
def w_X10_mark (post : Int32 → St → Prop) (σ : St) (x1 : Int32) (x2 : Int32) (x3 : Int32) : Prop := w_X10_isSheet (fun r1 s1 => ((¬ r1 = 0 → (vp_in x1 4 ∧ (((0 ≤ (s1 4 0 x1.toNatClampNeg) → (vp_in x1 4 ∧ (w_X10_isIn (fun r6 s6 => ((¬ r6 = 0 → (vp_in x1 4 ∧ (((¬ (s6 4 0 x1.toNatClampNeg) = 0 → (b_X10_mark_63 post s6 x1 x2 x3)) ∧ ((s6 4 0 x1.toNatClampNeg) = 0 → (((¬ x3 = ((-1000000005)) → (b_X10_mark_63 post s6 x1 x2 x3)) ∧ (x3 = ((-1000000005)) → (post ((-1000000012)) s6))))))))) ∧ (r6 = 0 → (post ((-1000000013)) s6)))) s1 x2.toInt64 ((0 : Int64)) (((s1 5 0 x1.toNatClampNeg) - 1).toInt64)))) ∧ (¬ 0 ≤ (s1 4 0 x1.toNatClampNeg) → (post ((-1000000011)) s1)))))) ∧ (r1 = 0 → (post ((-1000000001)) s1)))) σ x1
theorem B_X10_mark_0 (E : EnvW p s m args meth c D cy regsM ad "RoofWarModel" cX10_mark 4 (some .int)) (ha : Apart regsM ad) {post : Int32 → St → Prop} {σ : St} {x1 : Int32} {x2 : Int32} {x3 : Int32} (hw : w_X10_mark post σ x1 x2 x3) {H : Heap} {locs : List Loc} {ls : Array Slot} (hP : va_P D CLS (wM cy ad σ) H) (hS : va_S (AM ad s.heap.size) s.heap H locs) (hl : lv_has ls 4 [(0, .ref (ad 0 0)), (1, .int x1), (2, .int x2), (3, .int x3)]) : W p l e rm_X10_mark s m args below meth c H locs 0 0 (MQ below (QI D cy (cellM cy ad) regsM ad s.heap.size post) args s 0 0 (AM ad s.heap.size)) (F0 m 0 ls []) := by
  obtain ⟨hx, hb, -⟩ := id E
  unfold w_X10_mark at hw
  refine lv_iload_n hx hb dX10_mark_0 rfl (lv_at hl 1 rfl) ?_
  refine g_cSi (As := [.int x1]) (rest := []) E hl.1 (c_X10_isSheet l D cy ad ha hw _) ok_X10_isSheet mw_1363 ⟨(Nat.le_of_ble_eq_true rfl), (Nat.le_of_ble_eq_true rfl)⟩ ⟨rfl, rfl⟩ rfl rfl (Nat.le_of_ble_eq_true rfl) ⟨Nat.zero_le _, Nat.zero_le _⟩ hP hS dX10_mark_1 (fun r1 s1 hw H locs hP hS => ?_)
  obtain ⟨z1, hw⟩ := hw
  refine lv_if_ne (tgt := 10) hx hb dX10_mark_4 (by decide) (fun c2 => ?_) (fun c2 => ?_)
  · replace hw := hw.1 c2
    refine lv_aload_n hx hb dX10_mark_10 rfl (lv_at hl 0 rfl) ?_
    refine fX10_4 E hP mw_950 dX10_mark_11 ?_
    refine lv_iload_n hx hb dX10_mark_14 rfl (lv_at hl 1 rfl) ?_
    obtain ⟨h3, hw⟩ := hw
    refine aM4 E hP h3 dX10_mark_15 ?_
    refine lv_if_ge (tgt := 23) hx hb dX10_mark_16 (by decide) (fun c4 => ?_) (fun c4 => ?_)
    · replace hw := hw.1 c4
      refine lv_iload_n hx hb dX10_mark_23 rfl (lv_at hl 2 rfl) ?_
      refine lv_i2l (v := x2.toInt64) hx hb dX10_mark_24 rfl ?_
      refine lv_lconst (v := 0) hx hb dX10_mark_25 (by decide) ?_
      refine lv_aload_n hx hb dX10_mark_26 rfl (lv_at hl 0 rfl) ?_
      refine fX10_5 E hP mw_951 dX10_mark_27 ?_
      refine lv_iload_n hx hb dX10_mark_30 rfl (lv_at hl 1 rfl) ?_
      obtain ⟨h5, hw⟩ := hw
      refine aM5 E hP h5 dX10_mark_31 ?_
      refine lv_iconst (v := 1) hx hb dX10_mark_32 (by decide) ?_
      refine lv_isub hx hb dX10_mark_33 ?_
      refine lv_i2l (v := ((s1 5 0 x1.toNatClampNeg) - 1).toInt64) hx hb dX10_mark_34 rfl ?_
      refine g_cSi (As := [.long x2.toInt64, .long ((0 : Int64)), .long (((s1 5 0 x1.toNatClampNeg) - 1).toInt64)]) (rest := []) E hl.1 (c_X10_isIn l D cy ad ha hw _) ok_X10_isIn mw_1054 ⟨(Nat.le_of_ble_eq_true rfl), (Nat.le_of_ble_eq_true rfl)⟩ ⟨rfl, rfl⟩ rfl rfl (Nat.le_of_ble_eq_true rfl) ⟨Nat.zero_le _, Nat.zero_le _⟩ hP hS dX10_mark_35 (fun r6 s6 hw H locs hP hS => ?_)
      obtain ⟨z6, hw⟩ := hw
      refine lv_if_ne (tgt := 45) hx hb dX10_mark_38 (by decide) (fun c7 => ?_) (fun c7 => ?_)
      · replace hw := hw.1 c7
        refine lv_aload_n hx hb dX10_mark_45 rfl (lv_at hl 0 rfl) ?_
        refine fX10_4 E hP mw_950 dX10_mark_46 ?_
        refine lv_iload_n hx hb dX10_mark_49 rfl (lv_at hl 1 rfl) ?_
        obtain ⟨h8, hw⟩ := hw
        refine aM4 E hP h8 dX10_mark_50 ?_
        refine lv_if_ne (tgt := 63) hx hb dX10_mark_51 (by decide) (fun c9 => ?_) (fun c9 => ?_)
        · replace hw := hw.1 c9
          exact B_X10_mark_63 E ha hw hP hS (lv_sub hl [0, 1, 2, 3] rfl)
        · replace hw := hw.2 c9
          refine lv_iload_n hx hb dX10_mark_54 rfl (lv_at hl 3 rfl) ?_
          refine g_ldc (v := -1000000005) E mw_1130 dX10_mark_55 ?_
          refine lv_icmp_ne (tgt := 63) hx hb dX10_mark_57 (by decide) (fun c10 => ?_) (fun c10 => ?_)
          · replace hw := hw.1 c10
            exact B_X10_mark_63 E ha hw hP hS (lv_sub hl [0, 1, 2, 3] rfl)
          · replace hw := hw.2 c10
            refine g_ldc (v := -1000000012) E mw_1105 dX10_mark_60 ?_
            exact g_iret E hw hP hS dX10_mark_62
      · replace hw := hw.2 c7
        refine g_ldcw (v := -1000000013) E mw_1372 dX10_mark_41 ?_
        exact g_iret E hw hP hS dX10_mark_44
    · replace hw := hw.2 c4
      refine g_ldcw (v := -1000000011) E mw_1371 dX10_mark_19 ?_
      exact g_iret E hw hP hS dX10_mark_22
  · replace hw := hw.2 c2
    refine g_ldc (v := -1000000001) E mw_1063 dX10_mark_7 ?_
    exact g_iret E hw hP hS dX10_mark_9
theorem c_X10_mark (l : Launch) (D : va_G) (cy : Nat → ClassId) (ad : Nat → Nat → Nat) (ha : Apart regsM ad) {post : Int32 → St → Prop} {σ : St} {x1 : Int32} {x2 : Int32} {x3 : Int32} (hw : w_X10_mark post σ x1 x2 x3) (sz : Nat) : MetI l yX10_mark cX10_mark 4 .int rm_X10_mark [.ref (ad 0 0), .int x1, .int x2, .int x3] D cy (cellM cy ad) regsM ad σ sz post :=
  Met_inI ok_X10_mark.2.2.2.2.2 (Nat.le_of_ble_eq_true rfl) (fun p e s m below meth c ls E hP hl => B_X10_mark_0 E ha hw hP va_S.rf hl)
-- RoofWarModel.pour(I)I
theorem dX10_pour_0 : decode cX10_pour 0 = .ok (.iload_n 1, 1) := by decide +kernel
theorem dX10_pour_1 : decode cX10_pour 1 = .ok (.invokestatic 333, 3) := by decide +kernel
theorem dX10_pour_4 : decode cX10_pour 4 = .ok (.ifCond .ne 6, 3) := by decide +kernel
theorem dX10_pour_7 : decode cX10_pour 7 = .ok (.ldc 96, 2) := by decide +kernel
theorem dX10_pour_9 : decode cX10_pour 9 = .ok (.ireturn, 1) := by decide +kernel
theorem dX10_pour_10 : decode cX10_pour 10 = .ok (.aload_n 0, 1) := by decide +kernel
theorem dX10_pour_11 : decode cX10_pour 11 = .ok (.getfield 19, 3) := by decide +kernel
theorem dX10_pour_14 : decode cX10_pour 14 = .ok (.iload_n 1, 1) := by decide +kernel
theorem dX10_pour_15 : decode cX10_pour 15 = .ok (.iaload, 1) := by decide +kernel
theorem dX10_pour_16 : decode cX10_pour 16 = .ok (.ifCond .ge 7, 3) := by decide +kernel
theorem dX10_pour_19 : decode cX10_pour 19 = .ok (.ldc_w 337, 3) := by decide +kernel
theorem dX10_pour_22 : decode cX10_pour 22 = .ok (.ireturn, 1) := by decide +kernel
theorem dX10_pour_23 : decode cX10_pour 23 = .ok (.iconst 0, 1) := by decide +kernel
theorem dX10_pour_24 : decode cX10_pour 24 = .ok (.istore_n 2, 1) := by decide +kernel
theorem dX10_pour_25 : decode cX10_pour 25 = .ok (.iconst 0, 1) := by decide +kernel
theorem dX10_pour_26 : decode cX10_pour 26 = .ok (.istore_n 3, 1) := by decide +kernel
theorem dX10_pour_27 : decode cX10_pour 27 = .ok (.iload_n 3, 1) := by decide +kernel
theorem dX10_pour_28 : decode cX10_pour 28 = .ok (.aload_n 0, 1) := by decide +kernel
theorem dX10_pour_29 : decode cX10_pour 29 = .ok (.getfield 22, 3) := by decide +kernel
theorem dX10_pour_32 : decode cX10_pour 32 = .ok (.iload_n 1, 1) := by decide +kernel
theorem dX10_pour_33 : decode cX10_pour 33 = .ok (.iaload, 1) := by decide +kernel
theorem dX10_pour_34 : decode cX10_pour 34 = .ok (.if_icmp .ge 91, 3) := by decide +kernel
theorem dX10_pour_37 : decode cX10_pour 37 = .ok (.iload_n 3, 1) := by decide +kernel
theorem dX10_pour_38 : decode cX10_pour 38 = .ok (.aload_n 0, 1) := by decide +kernel
theorem dX10_pour_39 : decode cX10_pour 39 = .ok (.getfield 7, 3) := by decide +kernel
theorem dX10_pour_42 : decode cX10_pour 42 = .ok (.iconst 0, 1) := by decide +kernel
theorem dX10_pour_43 : decode cX10_pour 43 = .ok (.iaload, 1) := by decide +kernel
theorem dX10_pour_44 : decode cX10_pour 44 = .ok (.if_icmp .ge 81, 3) := by decide +kernel
theorem dX10_pour_47 : decode cX10_pour 47 = .ok (.aload_n 0, 1) := by decide +kernel
theorem dX10_pour_48 : decode cX10_pour 48 = .ok (.getfield 25, 3) := by decide +kernel
theorem dX10_pour_51 : decode cX10_pour 51 = .ok (.bipush 24, 2) := by decide +kernel
theorem dX10_pour_53 : decode cX10_pour 53 = .ok (.iload_n 1, 1) := by decide +kernel
theorem dX10_pour_54 : decode cX10_pour 54 = .ok (.imul, 1) := by decide +kernel
theorem dX10_pour_55 : decode cX10_pour 55 = .ok (.iload_n 3, 1) := by decide +kernel
theorem dX10_pour_56 : decode cX10_pour 56 = .ok (.iadd, 1) := by decide +kernel
theorem dX10_pour_57 : decode cX10_pour 57 = .ok (.iaload, 1) := by decide +kernel
theorem dX10_pour_58 : decode cX10_pour 58 = .ok (.istore 4, 2) := by decide +kernel
theorem dX10_pour_60 : decode cX10_pour 60 = .ok (.iload 4, 2) := by decide +kernel
theorem dX10_pour_62 : decode cX10_pour 62 = .ok (.ldc 70, 2) := by decide +kernel
theorem dX10_pour_64 : decode cX10_pour 64 = .ok (.if_icmp .ne 19, 3) := by decide +kernel
theorem dX10_pour_67 : decode cX10_pour 67 = .ok (.aload_n 0, 1) := by decide +kernel
theorem dX10_pour_68 : decode cX10_pour 68 = .ok (.getfield 7, 3) := by decide +kernel
theorem dX10_pour_71 : decode cX10_pour 71 = .ok (.bipush 10, 2) := by decide +kernel
theorem dX10_pour_73 : decode cX10_pour 73 = .ok (.iconst 4, 1) := by decide +kernel
theorem dX10_pour_74 : decode cX10_pour 74 = .ok (.iload_n 3, 1) := by decide +kernel
theorem dX10_pour_75 : decode cX10_pour 75 = .ok (.imul, 1) := by decide +kernel
theorem dX10_pour_76 : decode cX10_pour 76 = .ok (.iadd, 1) := by decide +kernel
theorem dX10_pour_77 : decode cX10_pour 77 = .ok (.iconst 2, 1) := by decide +kernel
theorem dX10_pour_78 : decode cX10_pour 78 = .ok (.iadd, 1) := by decide +kernel
theorem dX10_pour_79 : decode cX10_pour 79 = .ok (.iaload, 1) := by decide +kernel
theorem dX10_pour_80 : decode cX10_pour 80 = .ok (.goto 10, 3) := by decide +kernel
theorem dX10_pour_83 : decode cX10_pour 83 = .ok (.iload 4, 2) := by decide +kernel
theorem dX10_pour_85 : decode cX10_pour 85 = .ok (.bipush 99, 2) := by decide +kernel
theorem dX10_pour_87 : decode cX10_pour 87 = .ok (.invokestatic 165, 3) := by decide +kernel
theorem dX10_pour_90 : decode cX10_pour 90 = .ok (.istore 5, 2) := by decide +kernel
theorem dX10_pour_92 : decode cX10_pour 92 = .ok (.iload_n 2, 1) := by decide +kernel
theorem dX10_pour_93 : decode cX10_pour 93 = .ok (.iload 5, 2) := by decide +kernel
theorem dX10_pour_95 : decode cX10_pour 95 = .ok (.aload_n 0, 1) := by decide +kernel
theorem dX10_pour_96 : decode cX10_pour 96 = .ok (.bipush 10, 2) := by decide +kernel
theorem dX10_pour_98 : decode cX10_pour 98 = .ok (.iconst 4, 1) := by decide +kernel
theorem dX10_pour_99 : decode cX10_pour 99 = .ok (.iload_n 3, 1) := by decide +kernel
theorem dX10_pour_100 : decode cX10_pour 100 = .ok (.imul, 1) := by decide +kernel
theorem dX10_pour_101 : decode cX10_pour 101 = .ok (.iadd, 1) := by decide +kernel
theorem dX10_pour_102 : decode cX10_pour 102 = .ok (.iconst 2, 1) := by decide +kernel
theorem dX10_pour_103 : decode cX10_pour 103 = .ok (.iadd, 1) := by decide +kernel
theorem dX10_pour_104 : decode cX10_pour 104 = .ok (.iload 5, 2) := by decide +kernel
theorem dX10_pour_106 : decode cX10_pour 106 = .ok (.invokevirtual 129, 3) := by decide +kernel
theorem dX10_pour_109 : decode cX10_pour 109 = .ok (.if_icmp .ne 7, 3) := by decide +kernel
theorem dX10_pour_112 : decode cX10_pour 112 = .ok (.iconst 0, 1) := by decide +kernel
theorem dX10_pour_113 : decode cX10_pour 113 = .ok (.goto 4, 3) := by decide +kernel
theorem dX10_pour_116 : decode cX10_pour 116 = .ok (.iconst 1, 1) := by decide +kernel
theorem dX10_pour_117 : decode cX10_pour 117 = .ok (.iadd, 1) := by decide +kernel
theorem dX10_pour_118 : decode cX10_pour 118 = .ok (.istore_n 2, 1) := by decide +kernel
theorem dX10_pour_119 : decode cX10_pour 119 = .ok (.iinc 3 1, 3) := by decide +kernel
theorem dX10_pour_122 : decode cX10_pour 122 = .ok (.goto (-95), 3) := by decide +kernel
theorem dX10_pour_125 : decode cX10_pour 125 = .ok (.iload_n 2, 1) := by decide +kernel
theorem dX10_pour_126 : decode cX10_pour 126 = .ok (.ireturn, 1) := by decide +kernel
theorem ok_X10_pour : okV yX10_pour cX10_pour 6 (some .int) 1 := ⟨mw_1376, mw_1377, mw_83, mw_1378, by decide +kernel, by decide +kernel⟩
abbrev rm_X10_pour : Room := { frames := 2, cells := 0, slots := 0, locals := 45 }
def b_X10_pour_90 (K27 : St → Int32 → Int32 → Int32 → Prop) (post : Int32 → St → Prop) (σ : St) (y0 : Int32) (x1 : Int32) (x2 : Int32) (x3 : Int32) : Prop := w_X10_changes (fun r1 s1 => ((¬ y0 = r1 → (∀ v3 : Int32, v3 = x2 + 1 → (∀ v4 : Int32, v4 = x3 + 1 → (K27 s1 x1 v3 v4)))) ∧ (y0 = r1 → (∀ v5 : Int32, v5 = x2 + 0 → (∀ v6 : Int32, v6 = x3 + 1 → (K27 s1 x1 v5 v6)))))) σ ((10 + (4 * x3)) + 2) y0
theorem B_X10_pour_90 (E : EnvW p s m args meth c D cy regsM ad "RoofWarModel" cX10_pour 6 (some .int)) (ha : Apart regsM ad) {post : Int32 → St → Prop} {K27 : St → Int32 → Int32 → Int32 → Prop} (hk27 : ∀ (σ : St) (x1 : Int32) (x2 : Int32) (x3 : Int32), K27 σ x1 x2 x3 → ∀ (H : Heap) (locs : List Loc) (ls : Array Slot), va_P D CLS (wM cy ad σ) H → va_S (AM ad s.heap.size) s.heap H locs → lv_has ls 6 [(0, .ref (ad 0 0)), (1, .int x1), (2, .int x2), (3, .int x3)] → W p l e rm_X10_pour s m args below meth c H locs 0 0 (MQ below (QI D cy (cellM cy ad) regsM ad s.heap.size post) args s 0 0 (AM ad s.heap.size)) (F0 m 27 ls [])) {σ : St} {y0 : Int32} {x1 : Int32} {x2 : Int32} {x3 : Int32} (hw : b_X10_pour_90 K27 post σ y0 x1 x2 x3) {H : Heap} {locs : List Loc} {ls : Array Slot} (hP : va_P D CLS (wM cy ad σ) H) (hS : va_S (AM ad s.heap.size) s.heap H locs) (hl : lv_has ls 6 [(0, .ref (ad 0 0)), (1, .int x1), (2, .int x2), (3, .int x3)]) : W p l e rm_X10_pour s m args below meth c H locs 0 0 (MQ below (QI D cy (cellM cy ad) regsM ad s.heap.size post) args s 0 0 (AM ad s.heap.size)) (F0 m 90 ls [.int y0]) := by
  obtain ⟨hx, hb, -⟩ := id E
  unfold b_X10_pour_90 at hw
  refine lv_istore (lv' := [(5, .int y0), (0, .ref (ad 0 0)), (1, .int x1), (2, .int x2), (3, .int x3)]) hx hb dX10_pour_90 hl (by decide) rfl (fun ls hl => ?_)
  refine lv_iload_n hx hb dX10_pour_92 rfl (lv_at hl 3 rfl) ?_
  refine lv_iload hx hb dX10_pour_93 (lv_at hl 0 rfl) ?_
  refine lv_aload_n hx hb dX10_pour_95 rfl (lv_at hl 1 rfl) ?_
  refine lv_bipush (v := 10) hx hb dX10_pour_96 (by decide) ?_
  refine lv_iconst (v := 4) hx hb dX10_pour_98 (by decide) ?_
  refine lv_iload_n hx hb dX10_pour_99 rfl (lv_at hl 4 rfl) ?_
  refine lv_imul hx hb dX10_pour_100 ?_
  refine lv_iadd hx hb dX10_pour_101 ?_
  refine lv_iconst (v := 2) hx hb dX10_pour_102 (by decide) ?_
  refine lv_iadd hx hb dX10_pour_103 ?_
  refine lv_iload hx hb dX10_pour_104 (lv_at hl 0 rfl) ?_
  refine g_cVi (As := [.int ((10 + (4 * x3)) + 2), .int y0]) (rest := [.int y0, .int x2]) E hl.1 (c_X10_changes l D cy ad ha hw _) ok_X10_changes mw_1110 ⟨(Nat.le_of_ble_eq_true rfl), (Nat.le_of_ble_eq_true rfl)⟩ ⟨rfl, rfl⟩ rM0 rfl rfl rfl rfl rfl (Nat.le_of_ble_eq_true rfl) ⟨Nat.zero_le _, Nat.zero_le _⟩ hP hS dX10_pour_106 (fun r1 s1 hw H locs hP hS => ?_)
  refine lv_icmp_ne (tgt := 116) hx hb dX10_pour_109 (by decide) (fun c2 => ?_) (fun c2 => ?_)
  · replace hw := hw.1 c2
    refine lv_iconst (v := 1) hx hb dX10_pour_116 (by decide) ?_
    refine lv_iadd hx hb dX10_pour_117 ?_
    refine lv_topi (fun v3 ev3 => ?_)
    replace hw := hw v3 ev3
    refine lv_istore_n (lv' := [(2, .int v3), (5, .int y0), (0, .ref (ad 0 0)), (1, .int x1), (3, .int x3)]) hx hb dX10_pour_118 rfl hl (by decide) rfl (fun ls hl => ?_)
    obtain ⟨v4, ev4⟩ : ∃ y : Int32, y = x3 + 1 := ⟨_, rfl⟩
    replace hw := hw v4 ev4
    refine lv_iinc (v := v4) (lv' := [(3, .int v4), (2, .int v3), (5, .int y0), (0, .ref (ad 0 0)), (1, .int x1)]) hx hb dX10_pour_119 hl (k := 4) rfl (by rw [ev4]; rfl) (by decide) rfl (fun ls hl => ?_)
    refine lv_goto (tgt := 27) hx hb dX10_pour_122 (by decide) ?_
    exact hk27 s1 x1 v3 v4 hw _ _ _ hP hS (lv_sub hl [3, 4, 1, 0] rfl)
  · replace hw := hw.2 c2
    refine lv_iconst (v := 0) hx hb dX10_pour_112 (by decide) ?_
    refine lv_goto (tgt := 117) hx hb dX10_pour_113 (by decide) ?_
    refine lv_iadd hx hb dX10_pour_117 ?_
    refine lv_topi (fun v5 ev5 => ?_)
    replace hw := hw v5 ev5
    refine lv_istore_n (lv' := [(2, .int v5), (5, .int y0), (0, .ref (ad 0 0)), (1, .int x1), (3, .int x3)]) hx hb dX10_pour_118 rfl hl (by decide) rfl (fun ls hl => ?_)
    obtain ⟨v6, ev6⟩ : ∃ y : Int32, y = x3 + 1 := ⟨_, rfl⟩
    replace hw := hw v6 ev6
    refine lv_iinc (v := v6) (lv' := [(3, .int v6), (2, .int v5), (5, .int y0), (0, .ref (ad 0 0)), (1, .int x1)]) hx hb dX10_pour_119 hl (k := 4) rfl (by rw [ev6]; rfl) (by decide) rfl (fun ls hl => ?_)
    refine lv_goto (tgt := 27) hx hb dX10_pour_122 (by decide) ?_
    exact hk27 s1 x1 v5 v6 hw _ _ _ hP hS (lv_sub hl [3, 4, 1, 0] rfl)
def b_X10_pour_27 (K27 : St → Int32 → Int32 → Int32 → Prop) (post : Int32 → St → Prop) (σ : St) (x1 : Int32) (x2 : Int32) (x3 : Int32) : Prop := vp_in x1 4 ∧ ((((σ 5 0 x1.toNatClampNeg) ≤ x3 → (post x2 σ)) ∧ (¬ (σ 5 0 x1.toNatClampNeg) ≤ x3 → (vp_in (0 : Int32) 3082 ∧ ((((σ 1 0 (0 : Int32).toNatClampNeg) ≤ x3 → (post x2 σ)) ∧ (¬ (σ 1 0 (0 : Int32).toNatClampNeg) ≤ x3 → (vp_in ((24 * x1) + x3) 96 ∧ (∀ v6 : Int32, v6 = σ 6 0 ((24 * x1) + x3).toNatClampNeg → (((¬ v6 = ((-1000000005)) → (w_X10_within (fun r8 s8 => b_X10_pour_90 K27 post s8 r8 x1 x2 x3) σ v6 (99 : Int32))) ∧ (v6 = ((-1000000005)) → (vp_in ((10 + (4 * x3)) + 2) 3082 ∧ (b_X10_pour_90 K27 post σ (σ 1 0 ((10 + (4 * x3)) + 2).toNatClampNeg) x1 x2 x3))))))))))))))
noncomputable def l_X10_pour_27 (post : Int32 → St → Prop) : Nat → St → Int32 → Int32 → Int32 → Prop := fun n => Nat.rec (motive := fun _ => St → Int32 → Int32 → Int32 → Prop) (fun _ _ _ _ => False) (fun _ ih => b_X10_pour_27 ih post) n
theorem L_X10_pour_27 (E : EnvW p s m args meth c D cy regsM ad "RoofWarModel" cX10_pour 6 (some .int)) (ha : Apart regsM ad) {post : Int32 → St → Prop} : ∀ (n : Nat), ∀ (σ : St) (x1 : Int32) (x2 : Int32) (x3 : Int32), l_X10_pour_27 post n σ x1 x2 x3 → ∀ (H : Heap) (locs : List Loc) (ls : Array Slot), va_P D CLS (wM cy ad σ) H → va_S (AM ad s.heap.size) s.heap H locs → lv_has ls 6 [(0, .ref (ad 0 0)), (1, .int x1), (2, .int x2), (3, .int x3)] → W p l e rm_X10_pour s m args below meth c H locs 0 0 (MQ below (QI D cy (cellM cy ad) regsM ad s.heap.size post) args s 0 0 (AM ad s.heap.size)) (F0 m 27 ls []) := by
  obtain ⟨hx, hb, -⟩ := id E
  intro n
  induction n with
  | zero => intro σ x1 x2 x3 hw; exact hw.elim
  | succ n hk27 =>
    intro σ x1 x2 x3 hw H locs ls hP hS hl
    replace hw : b_X10_pour_27 (l_X10_pour_27 post n) post σ x1 x2 x3 := hw
    unfold b_X10_pour_27 at hw
    refine lv_iload_n hx hb dX10_pour_27 rfl (lv_at hl 3 rfl) ?_
    refine lv_aload_n hx hb dX10_pour_28 rfl (lv_at hl 0 rfl) ?_
    refine fX10_5 E hP mw_951 dX10_pour_29 ?_
    refine lv_iload_n hx hb dX10_pour_32 rfl (lv_at hl 1 rfl) ?_
    obtain ⟨h1, hw⟩ := hw
    refine aM5 E hP h1 dX10_pour_33 ?_
    refine lv_icmp_ge (tgt := 125) hx hb dX10_pour_34 (by decide) (fun c2 => ?_) (fun c2 => ?_)
    · replace hw := hw.1 c2
      refine lv_iload_n hx hb dX10_pour_125 rfl (lv_at hl 2 rfl) ?_
      exact g_iret E hw hP hS dX10_pour_126
    · replace hw := hw.2 c2
      refine lv_iload_n hx hb dX10_pour_37 rfl (lv_at hl 3 rfl) ?_
      refine lv_aload_n hx hb dX10_pour_38 rfl (lv_at hl 0 rfl) ?_
      refine fX10_0 E hP mw_946 dX10_pour_39 ?_
      refine lv_iconst (v := 0) hx hb dX10_pour_42 (by decide) ?_
      obtain ⟨h3, hw⟩ := hw
      refine aM1 E hP h3 dX10_pour_43 ?_
      refine lv_icmp_ge (tgt := 125) hx hb dX10_pour_44 (by decide) (fun c4 => ?_) (fun c4 => ?_)
      · replace hw := hw.1 c4
        refine lv_iload_n hx hb dX10_pour_125 rfl (lv_at hl 2 rfl) ?_
        exact g_iret E hw hP hS dX10_pour_126
      · replace hw := hw.2 c4
        refine lv_aload_n hx hb dX10_pour_47 rfl (lv_at hl 0 rfl) ?_
        refine fX10_6 E hP mw_952 dX10_pour_48 ?_
        refine lv_bipush (v := 24) hx hb dX10_pour_51 (by decide) ?_
        refine lv_iload_n hx hb dX10_pour_53 rfl (lv_at hl 1 rfl) ?_
        refine lv_imul hx hb dX10_pour_54 ?_
        refine lv_iload_n hx hb dX10_pour_55 rfl (lv_at hl 3 rfl) ?_
        refine lv_iadd hx hb dX10_pour_56 ?_
        obtain ⟨h5, hw⟩ := hw
        refine aM6 E hP h5 dX10_pour_57 ?_
        refine lv_topi (fun v6 ev6 => ?_)
        replace hw := hw v6 ev6
        refine lv_istore (lv' := [(4, .int v6), (0, .ref (ad 0 0)), (1, .int x1), (2, .int x2), (3, .int x3)]) hx hb dX10_pour_58 hl (by decide) rfl (fun ls hl => ?_)
        refine lv_iload hx hb dX10_pour_60 (lv_at hl 0 rfl) ?_
        refine g_ldc (v := -1000000005) E mw_1130 dX10_pour_62 ?_
        refine lv_icmp_ne (tgt := 83) hx hb dX10_pour_64 (by decide) (fun c7 => ?_) (fun c7 => ?_)
        · replace hw := hw.1 c7
          refine lv_iload hx hb dX10_pour_83 (lv_at hl 0 rfl) ?_
          refine lv_bipush (v := 99) hx hb dX10_pour_85 (by decide) ?_
          refine g_cSi (As := [.int v6, .int 99]) (rest := []) E hl.1 (c_X10_within l D cy ad ha hw _) ok_X10_within mw_1205 ⟨(Nat.le_of_ble_eq_true rfl), (Nat.le_of_ble_eq_true rfl)⟩ ⟨rfl, rfl⟩ rfl rfl (Nat.le_of_ble_eq_true rfl) ⟨Nat.zero_le _, Nat.zero_le _⟩ hP hS dX10_pour_87 (fun r8 s8 hw H locs hP hS => ?_)
          exact B_X10_pour_90 E ha hk27 hw hP hS (lv_sub hl [1, 2, 3, 4] rfl)
        · replace hw := hw.2 c7
          refine lv_aload_n hx hb dX10_pour_67 rfl (lv_at hl 1 rfl) ?_
          refine fX10_0 E hP mw_946 dX10_pour_68 ?_
          refine lv_bipush (v := 10) hx hb dX10_pour_71 (by decide) ?_
          refine lv_iconst (v := 4) hx hb dX10_pour_73 (by decide) ?_
          refine lv_iload_n hx hb dX10_pour_74 rfl (lv_at hl 4 rfl) ?_
          refine lv_imul hx hb dX10_pour_75 ?_
          refine lv_iadd hx hb dX10_pour_76 ?_
          refine lv_iconst (v := 2) hx hb dX10_pour_77 (by decide) ?_
          refine lv_iadd hx hb dX10_pour_78 ?_
          obtain ⟨h9, hw⟩ := hw
          refine aM1 E hP h9 dX10_pour_79 ?_
          refine lv_goto (tgt := 90) hx hb dX10_pour_80 (by decide) ?_
          exact B_X10_pour_90 E ha hk27 hw hP hS (lv_sub hl [1, 2, 3, 4] rfl)
def w_X10_pour (post : Int32 → St → Prop) (σ : St) (x1 : Int32) : Prop := w_X10_isSheet (fun r1 s1 => ((¬ r1 = 0 → (vp_in x1 4 ∧ (((0 ≤ (s1 4 0 x1.toNatClampNeg) → (∃ n5 : Nat, l_X10_pour_27 post n5 s1 x1 (0 : Int32) (0 : Int32))) ∧ (¬ 0 ≤ (s1 4 0 x1.toNatClampNeg) → (post ((-1000000011)) s1)))))) ∧ (r1 = 0 → (post ((-1000000001)) s1)))) σ x1
theorem B_X10_pour_0 (E : EnvW p s m args meth c D cy regsM ad "RoofWarModel" cX10_pour 6 (some .int)) (ha : Apart regsM ad) {post : Int32 → St → Prop} {σ : St} {x1 : Int32} (hw : w_X10_pour post σ x1) {H : Heap} {locs : List Loc} {ls : Array Slot} (hP : va_P D CLS (wM cy ad σ) H) (hS : va_S (AM ad s.heap.size) s.heap H locs) (hl : lv_has ls 6 [(0, .ref (ad 0 0)), (1, .int x1)]) : W p l e rm_X10_pour s m args below meth c H locs 0 0 (MQ below (QI D cy (cellM cy ad) regsM ad s.heap.size post) args s 0 0 (AM ad s.heap.size)) (F0 m 0 ls []) := by
  obtain ⟨hx, hb, -⟩ := id E
  unfold w_X10_pour at hw
  refine lv_iload_n hx hb dX10_pour_0 rfl (lv_at hl 1 rfl) ?_
  refine g_cSi (As := [.int x1]) (rest := []) E hl.1 (c_X10_isSheet l D cy ad ha hw _) ok_X10_isSheet mw_1363 ⟨(Nat.le_of_ble_eq_true rfl), (Nat.le_of_ble_eq_true rfl)⟩ ⟨rfl, rfl⟩ rfl rfl (Nat.le_of_ble_eq_true rfl) ⟨Nat.zero_le _, Nat.zero_le _⟩ hP hS dX10_pour_1 (fun r1 s1 hw H locs hP hS => ?_)
  obtain ⟨z1, hw⟩ := hw
  refine lv_if_ne (tgt := 10) hx hb dX10_pour_4 (by decide) (fun c2 => ?_) (fun c2 => ?_)
  · replace hw := hw.1 c2
    refine lv_aload_n hx hb dX10_pour_10 rfl (lv_at hl 0 rfl) ?_
    refine fX10_4 E hP mw_950 dX10_pour_11 ?_
    refine lv_iload_n hx hb dX10_pour_14 rfl (lv_at hl 1 rfl) ?_
    obtain ⟨h3, hw⟩ := hw
    refine aM4 E hP h3 dX10_pour_15 ?_
    refine lv_if_ge (tgt := 23) hx hb dX10_pour_16 (by decide) (fun c4 => ?_) (fun c4 => ?_)
    · replace hw := hw.1 c4
      refine lv_iconst (v := 0) hx hb dX10_pour_23 (by decide) ?_
      refine lv_istore_n (lv' := [(2, .int 0), (0, .ref (ad 0 0)), (1, .int x1)]) hx hb dX10_pour_24 rfl hl (by decide) rfl (fun ls hl => ?_)
      refine lv_iconst (v := 0) hx hb dX10_pour_25 (by decide) ?_
      refine lv_istore_n (lv' := [(3, .int 0), (2, .int 0), (0, .ref (ad 0 0)), (1, .int x1)]) hx hb dX10_pour_26 rfl hl (by decide) rfl (fun ls hl => ?_)
      obtain ⟨n5, hw⟩ := hw
      exact L_X10_pour_27 E ha n5 s1 x1 (0 : Int32) (0 : Int32) hw _ _ _ hP hS (lv_sub hl [2, 3, 1, 0] rfl)
    · replace hw := hw.2 c4
      refine g_ldcw (v := -1000000011) E mw_1371 dX10_pour_19 ?_
      exact g_iret E hw hP hS dX10_pour_22
  · replace hw := hw.2 c2
    refine g_ldc (v := -1000000001) E mw_1063 dX10_pour_7 ?_
    exact g_iret E hw hP hS dX10_pour_9
theorem c_X10_pour (l : Launch) (D : va_G) (cy : Nat → ClassId) (ad : Nat → Nat → Nat) (ha : Apart regsM ad) {post : Int32 → St → Prop} {σ : St} {x1 : Int32} (hw : w_X10_pour post σ x1) (sz : Nat) : MetI l yX10_pour cX10_pour 6 .int rm_X10_pour [.ref (ad 0 0), .int x1] D cy (cellM cy ad) regsM ad σ sz post :=
  Met_inI ok_X10_pour.2.2.2.2.2 (Nat.le_of_ble_eq_true rfl) (fun p e s m below meth c ls E hP hl => B_X10_pour_0 E ha hw hP va_S.rf hl)
-- RoofWarModel.reads(I)I
theorem dX10_reads_0 : decode cX10_reads 0 = .ok (.iload_n 1, 1) := by decide +kernel
theorem dX10_reads_1 : decode cX10_reads 1 = .ok (.invokestatic 333, 3) := by decide +kernel
theorem dX10_reads_4 : decode cX10_reads 4 = .ok (.ifCond .ne 6, 3) := by decide +kernel
theorem dX10_reads_7 : decode cX10_reads 7 = .ok (.ldc 96, 2) := by decide +kernel
theorem dX10_reads_9 : decode cX10_reads 9 = .ok (.ireturn, 1) := by decide +kernel
theorem dX10_reads_10 : decode cX10_reads 10 = .ok (.aload_n 0, 1) := by decide +kernel
theorem dX10_reads_11 : decode cX10_reads 11 = .ok (.getfield 19, 3) := by decide +kernel
theorem dX10_reads_14 : decode cX10_reads 14 = .ok (.iload_n 1, 1) := by decide +kernel
theorem dX10_reads_15 : decode cX10_reads 15 = .ok (.iaload, 1) := by decide +kernel
theorem dX10_reads_16 : decode cX10_reads 16 = .ok (.ifCond .ge 7, 3) := by decide +kernel
theorem dX10_reads_19 : decode cX10_reads 19 = .ok (.ldc_w 337, 3) := by decide +kernel
theorem dX10_reads_22 : decode cX10_reads 22 = .ok (.ireturn, 1) := by decide +kernel
theorem dX10_reads_23 : decode cX10_reads 23 = .ok (.iconst 0, 1) := by decide +kernel
theorem dX10_reads_24 : decode cX10_reads 24 = .ok (.istore_n 2, 1) := by decide +kernel
theorem dX10_reads_25 : decode cX10_reads 25 = .ok (.iload_n 2, 1) := by decide +kernel
theorem dX10_reads_26 : decode cX10_reads 26 = .ok (.aload_n 0, 1) := by decide +kernel
theorem dX10_reads_27 : decode cX10_reads 27 = .ok (.getfield 22, 3) := by decide +kernel
theorem dX10_reads_30 : decode cX10_reads 30 = .ok (.iload_n 1, 1) := by decide +kernel
theorem dX10_reads_31 : decode cX10_reads 31 = .ok (.iaload, 1) := by decide +kernel
theorem dX10_reads_32 : decode cX10_reads 32 = .ok (.if_icmp .ge 49, 3) := by decide +kernel
theorem dX10_reads_35 : decode cX10_reads 35 = .ok (.aload_n 0, 1) := by decide +kernel
theorem dX10_reads_36 : decode cX10_reads 36 = .ok (.getfield 25, 3) := by decide +kernel
theorem dX10_reads_39 : decode cX10_reads 39 = .ok (.bipush 24, 2) := by decide +kernel
theorem dX10_reads_41 : decode cX10_reads 41 = .ok (.iload_n 1, 1) := by decide +kernel
theorem dX10_reads_42 : decode cX10_reads 42 = .ok (.imul, 1) := by decide +kernel
theorem dX10_reads_43 : decode cX10_reads 43 = .ok (.iload_n 2, 1) := by decide +kernel
theorem dX10_reads_44 : decode cX10_reads 44 = .ok (.iadd, 1) := by decide +kernel
theorem dX10_reads_45 : decode cX10_reads 45 = .ok (.iaload, 1) := by decide +kernel
theorem dX10_reads_46 : decode cX10_reads 46 = .ok (.istore_n 3, 1) := by decide +kernel
theorem dX10_reads_47 : decode cX10_reads 47 = .ok (.iload_n 3, 1) := by decide +kernel
theorem dX10_reads_48 : decode cX10_reads 48 = .ok (.ldc 70, 2) := by decide +kernel
theorem dX10_reads_50 : decode cX10_reads 50 = .ok (.if_icmp .eq 25, 3) := by decide +kernel
theorem dX10_reads_53 : decode cX10_reads 53 = .ok (.iload_n 2, 1) := by decide +kernel
theorem dX10_reads_54 : decode cX10_reads 54 = .ok (.aload_n 0, 1) := by decide +kernel
theorem dX10_reads_55 : decode cX10_reads 55 = .ok (.getfield 7, 3) := by decide +kernel
theorem dX10_reads_58 : decode cX10_reads 58 = .ok (.iconst 0, 1) := by decide +kernel
theorem dX10_reads_59 : decode cX10_reads 59 = .ok (.iaload, 1) := by decide +kernel
theorem dX10_reads_60 : decode cX10_reads 60 = .ok (.if_icmp .ge 13, 3) := by decide +kernel
theorem dX10_reads_63 : decode cX10_reads 63 = .ok (.iload_n 3, 1) := by decide +kernel
theorem dX10_reads_64 : decode cX10_reads 64 = .ok (.aload_n 0, 1) := by decide +kernel
theorem dX10_reads_65 : decode cX10_reads 65 = .ok (.iload_n 2, 1) := by decide +kernel
theorem dX10_reads_66 : decode cX10_reads 66 = .ok (.iconst 3, 1) := by decide +kernel
theorem dX10_reads_67 : decode cX10_reads 67 = .ok (.invokevirtual 78, 3) := by decide +kernel
theorem dX10_reads_70 : decode cX10_reads 70 = .ok (.if_icmp .eq 5, 3) := by decide +kernel
theorem dX10_reads_73 : decode cX10_reads 73 = .ok (.iload_n 2, 1) := by decide +kernel
theorem dX10_reads_74 : decode cX10_reads 74 = .ok (.ireturn, 1) := by decide +kernel
theorem dX10_reads_75 : decode cX10_reads 75 = .ok (.iinc 2 1, 3) := by decide +kernel
theorem dX10_reads_78 : decode cX10_reads 78 = .ok (.goto (-53), 3) := by decide +kernel
theorem dX10_reads_81 : decode cX10_reads 81 = .ok (.ldc 70, 2) := by decide +kernel
theorem dX10_reads_83 : decode cX10_reads 83 = .ok (.ireturn, 1) := by decide +kernel
theorem ok_X10_reads : okV yX10_reads cX10_reads 4 (some .int) 1 := ⟨mw_1380, mw_1381, mw_83, mw_1382, by decide +kernel, by decide +kernel⟩
abbrev rm_X10_reads : Room := { frames := 2, cells := 0, slots := 0, locals := 45 }
def b_X10_reads_25 (K25 : St → Int32 → Int32 → Prop) (post : Int32 → St → Prop) (σ : St) (x1 : Int32) (x2 : Int32) : Prop := vp_in x1 4 ∧ ((((σ 5 0 x1.toNatClampNeg) ≤ x2 → (post ((-1000000005)) σ)) ∧ (¬ (σ 5 0 x1.toNatClampNeg) ≤ x2 → (vp_in ((24 * x1) + x2) 96 ∧ (∀ v4 : Int32, v4 = σ 6 0 ((24 * x1) + x2).toNatClampNeg → (((v4 = ((-1000000005)) → (∀ v6 : Int32, v6 = x2 + 1 → (K25 σ x1 v6))) ∧ (¬ v4 = ((-1000000005)) → (vp_in (0 : Int32) 3082 ∧ ((((σ 1 0 (0 : Int32).toNatClampNeg) ≤ x2 → (post x2 σ)) ∧ (¬ (σ 1 0 (0 : Int32).toNatClampNeg) ≤ x2 → (w_X10_of (fun r9 s9 => ((v4 = r9 → (∀ v11 : Int32, v11 = x2 + 1 → (K25 s9 x1 v11))) ∧ (¬ v4 = r9 → (post x2 s9)))) σ x2 (3 : Int32))))))))))))))
noncomputable def l_X10_reads_25 (post : Int32 → St → Prop) : Nat → St → Int32 → Int32 → Prop := fun n => Nat.rec (motive := fun _ => St → Int32 → Int32 → Prop) (fun _ _ _ => False) (fun _ ih => b_X10_reads_25 ih post) n
theorem L_X10_reads_25 (E : EnvW p s m args meth c D cy regsM ad "RoofWarModel" cX10_reads 4 (some .int)) (ha : Apart regsM ad) {post : Int32 → St → Prop} : ∀ (n : Nat), ∀ (σ : St) (x1 : Int32) (x2 : Int32), l_X10_reads_25 post n σ x1 x2 → ∀ (H : Heap) (locs : List Loc) (ls : Array Slot), va_P D CLS (wM cy ad σ) H → va_S (AM ad s.heap.size) s.heap H locs → lv_has ls 4 [(0, .ref (ad 0 0)), (1, .int x1), (2, .int x2)] → W p l e rm_X10_reads s m args below meth c H locs 0 0 (MQ below (QI D cy (cellM cy ad) regsM ad s.heap.size post) args s 0 0 (AM ad s.heap.size)) (F0 m 25 ls []) := by
  obtain ⟨hx, hb, -⟩ := id E
  intro n
  induction n with
  | zero => intro σ x1 x2 hw; exact hw.elim
  | succ n hk25 =>
    intro σ x1 x2 hw H locs ls hP hS hl
    replace hw : b_X10_reads_25 (l_X10_reads_25 post n) post σ x1 x2 := hw
    unfold b_X10_reads_25 at hw
    refine lv_iload_n hx hb dX10_reads_25 rfl (lv_at hl 2 rfl) ?_
    refine lv_aload_n hx hb dX10_reads_26 rfl (lv_at hl 0 rfl) ?_
    refine fX10_5 E hP mw_951 dX10_reads_27 ?_
    refine lv_iload_n hx hb dX10_reads_30 rfl (lv_at hl 1 rfl) ?_
    obtain ⟨h1, hw⟩ := hw
    refine aM5 E hP h1 dX10_reads_31 ?_
    refine lv_icmp_ge (tgt := 81) hx hb dX10_reads_32 (by decide) (fun c2 => ?_) (fun c2 => ?_)
    · replace hw := hw.1 c2
      refine g_ldc (v := -1000000005) E mw_1130 dX10_reads_81 ?_
      exact g_iret E hw hP hS dX10_reads_83
    · replace hw := hw.2 c2
      refine lv_aload_n hx hb dX10_reads_35 rfl (lv_at hl 0 rfl) ?_
      refine fX10_6 E hP mw_952 dX10_reads_36 ?_
      refine lv_bipush (v := 24) hx hb dX10_reads_39 (by decide) ?_
      refine lv_iload_n hx hb dX10_reads_41 rfl (lv_at hl 1 rfl) ?_
      refine lv_imul hx hb dX10_reads_42 ?_
      refine lv_iload_n hx hb dX10_reads_43 rfl (lv_at hl 2 rfl) ?_
      refine lv_iadd hx hb dX10_reads_44 ?_
      obtain ⟨h3, hw⟩ := hw
      refine aM6 E hP h3 dX10_reads_45 ?_
      refine lv_topi (fun v4 ev4 => ?_)
      replace hw := hw v4 ev4
      refine lv_istore_n (lv' := [(3, .int v4), (0, .ref (ad 0 0)), (1, .int x1), (2, .int x2)]) hx hb dX10_reads_46 rfl hl (by decide) rfl (fun ls hl => ?_)
      refine lv_iload_n hx hb dX10_reads_47 rfl (lv_at hl 0 rfl) ?_
      refine g_ldc (v := -1000000005) E mw_1130 dX10_reads_48 ?_
      refine lv_icmp_eq (tgt := 75) hx hb dX10_reads_50 (by decide) (fun c5 => ?_) (fun c5 => ?_)
      · replace hw := hw.1 c5
        obtain ⟨v6, ev6⟩ : ∃ y : Int32, y = x2 + 1 := ⟨_, rfl⟩
        replace hw := hw v6 ev6
        refine lv_iinc (v := v6) (lv' := [(2, .int v6), (3, .int v4), (0, .ref (ad 0 0)), (1, .int x1)]) hx hb dX10_reads_75 hl (k := 3) rfl (by rw [ev6]; rfl) (by decide) rfl (fun ls hl => ?_)
        refine lv_goto (tgt := 25) hx hb dX10_reads_78 (by decide) ?_
        exact hk25 σ x1 v6 hw _ _ _ hP hS (lv_sub hl [2, 3, 0] rfl)
      · replace hw := hw.2 c5
        refine lv_iload_n hx hb dX10_reads_53 rfl (lv_at hl 3 rfl) ?_
        refine lv_aload_n hx hb dX10_reads_54 rfl (lv_at hl 1 rfl) ?_
        refine fX10_0 E hP mw_946 dX10_reads_55 ?_
        refine lv_iconst (v := 0) hx hb dX10_reads_58 (by decide) ?_
        obtain ⟨h7, hw⟩ := hw
        refine aM1 E hP h7 dX10_reads_59 ?_
        refine lv_icmp_ge (tgt := 73) hx hb dX10_reads_60 (by decide) (fun c8 => ?_) (fun c8 => ?_)
        · replace hw := hw.1 c8
          refine lv_iload_n hx hb dX10_reads_73 rfl (lv_at hl 3 rfl) ?_
          exact g_iret E hw hP hS dX10_reads_74
        · replace hw := hw.2 c8
          refine lv_iload_n hx hb dX10_reads_63 rfl (lv_at hl 0 rfl) ?_
          refine lv_aload_n hx hb dX10_reads_64 rfl (lv_at hl 1 rfl) ?_
          refine lv_iload_n hx hb dX10_reads_65 rfl (lv_at hl 3 rfl) ?_
          refine lv_iconst (v := 3) hx hb dX10_reads_66 (by decide) ?_
          refine g_cVi (As := [.int x2, .int 3]) (rest := [.int v4]) E hl.1 (c_X10_of l D cy ad ha hw _) ok_X10_of mw_1067 ⟨(Nat.le_of_ble_eq_true rfl), (Nat.le_of_ble_eq_true rfl)⟩ ⟨rfl, rfl⟩ rM0 rfl rfl rfl rfl rfl (Nat.le_of_ble_eq_true rfl) ⟨Nat.zero_le _, Nat.zero_le _⟩ hP hS dX10_reads_67 (fun r9 s9 hw H locs hP hS => ?_)
          refine lv_icmp_eq (tgt := 75) hx hb dX10_reads_70 (by decide) (fun c10 => ?_) (fun c10 => ?_)
          · replace hw := hw.1 c10
            obtain ⟨v11, ev11⟩ : ∃ y : Int32, y = x2 + 1 := ⟨_, rfl⟩
            replace hw := hw v11 ev11
            refine lv_iinc (v := v11) (lv' := [(2, .int v11), (3, .int v4), (0, .ref (ad 0 0)), (1, .int x1)]) hx hb dX10_reads_75 hl (k := 3) rfl (by rw [ev11]; rfl) (by decide) rfl (fun ls hl => ?_)
            refine lv_goto (tgt := 25) hx hb dX10_reads_78 (by decide) ?_
            exact hk25 s9 x1 v11 hw _ _ _ hP hS (lv_sub hl [2, 3, 0] rfl)
          · replace hw := hw.2 c10
            refine lv_iload_n hx hb dX10_reads_73 rfl (lv_at hl 3 rfl) ?_
            exact g_iret E hw hP hS dX10_reads_74
def w_X10_reads (post : Int32 → St → Prop) (σ : St) (x1 : Int32) : Prop := w_X10_isSheet (fun r1 s1 => ((¬ r1 = 0 → (vp_in x1 4 ∧ (((0 ≤ (s1 4 0 x1.toNatClampNeg) → (∃ n5 : Nat, l_X10_reads_25 post n5 s1 x1 (0 : Int32))) ∧ (¬ 0 ≤ (s1 4 0 x1.toNatClampNeg) → (post ((-1000000011)) s1)))))) ∧ (r1 = 0 → (post ((-1000000001)) s1)))) σ x1
theorem B_X10_reads_0 (E : EnvW p s m args meth c D cy regsM ad "RoofWarModel" cX10_reads 4 (some .int)) (ha : Apart regsM ad) {post : Int32 → St → Prop} {σ : St} {x1 : Int32} (hw : w_X10_reads post σ x1) {H : Heap} {locs : List Loc} {ls : Array Slot} (hP : va_P D CLS (wM cy ad σ) H) (hS : va_S (AM ad s.heap.size) s.heap H locs) (hl : lv_has ls 4 [(0, .ref (ad 0 0)), (1, .int x1)]) : W p l e rm_X10_reads s m args below meth c H locs 0 0 (MQ below (QI D cy (cellM cy ad) regsM ad s.heap.size post) args s 0 0 (AM ad s.heap.size)) (F0 m 0 ls []) := by
  obtain ⟨hx, hb, -⟩ := id E
  unfold w_X10_reads at hw
  refine lv_iload_n hx hb dX10_reads_0 rfl (lv_at hl 1 rfl) ?_
  refine g_cSi (As := [.int x1]) (rest := []) E hl.1 (c_X10_isSheet l D cy ad ha hw _) ok_X10_isSheet mw_1363 ⟨(Nat.le_of_ble_eq_true rfl), (Nat.le_of_ble_eq_true rfl)⟩ ⟨rfl, rfl⟩ rfl rfl (Nat.le_of_ble_eq_true rfl) ⟨Nat.zero_le _, Nat.zero_le _⟩ hP hS dX10_reads_1 (fun r1 s1 hw H locs hP hS => ?_)
  obtain ⟨z1, hw⟩ := hw
  refine lv_if_ne (tgt := 10) hx hb dX10_reads_4 (by decide) (fun c2 => ?_) (fun c2 => ?_)
  · replace hw := hw.1 c2
    refine lv_aload_n hx hb dX10_reads_10 rfl (lv_at hl 0 rfl) ?_
    refine fX10_4 E hP mw_950 dX10_reads_11 ?_
    refine lv_iload_n hx hb dX10_reads_14 rfl (lv_at hl 1 rfl) ?_
    obtain ⟨h3, hw⟩ := hw
    refine aM4 E hP h3 dX10_reads_15 ?_
    refine lv_if_ge (tgt := 23) hx hb dX10_reads_16 (by decide) (fun c4 => ?_) (fun c4 => ?_)
    · replace hw := hw.1 c4
      refine lv_iconst (v := 0) hx hb dX10_reads_23 (by decide) ?_
      refine lv_istore_n (lv' := [(2, .int 0), (0, .ref (ad 0 0)), (1, .int x1)]) hx hb dX10_reads_24 rfl hl (by decide) rfl (fun ls hl => ?_)
      obtain ⟨n5, hw⟩ := hw
      exact L_X10_reads_25 E ha n5 s1 x1 (0 : Int32) hw _ _ _ hP hS (lv_sub hl [1, 2, 0] rfl)
    · replace hw := hw.2 c4
      refine g_ldcw (v := -1000000011) E mw_1371 dX10_reads_19 ?_
      exact g_iret E hw hP hS dX10_reads_22
  · replace hw := hw.2 c2
    refine g_ldc (v := -1000000001) E mw_1063 dX10_reads_7 ?_
    exact g_iret E hw hP hS dX10_reads_9
theorem c_X10_reads (l : Launch) (D : va_G) (cy : Nat → ClassId) (ad : Nat → Nat → Nat) (ha : Apart regsM ad) {post : Int32 → St → Prop} {σ : St} {x1 : Int32} (hw : w_X10_reads post σ x1) (sz : Nat) : MetI l yX10_reads cX10_reads 4 .int rm_X10_reads [.ref (ad 0 0), .int x1] D cy (cellM cy ad) regsM ad σ sz post :=
  Met_inI ok_X10_reads.2.2.2.2.2 (Nat.le_of_ble_eq_true rfl) (fun p e s m below meth c ls E hP hl => B_X10_reads_0 E ha hw hP va_S.rf hl)
-- RoofWarModel.likeOnes(II)I
theorem dX10_likeOnes_0 : decode cX10_likeOnes 0 = .ok (.aload_n 0, 1) := by decide +kernel
theorem dX10_likeOnes_1 : decode cX10_likeOnes 1 = .ok (.invokevirtual 222, 3) := by decide +kernel
theorem dX10_likeOnes_4 : decode cX10_likeOnes 4 = .ok (.iconst 0, 1) := by decide +kernel
theorem dX10_likeOnes_5 : decode cX10_likeOnes 5 = .ok (.istore_n 3, 1) := by decide +kernel
theorem dX10_likeOnes_6 : decode cX10_likeOnes 6 = .ok (.iconst 0, 1) := by decide +kernel
theorem dX10_likeOnes_7 : decode cX10_likeOnes 7 = .ok (.istore 4, 2) := by decide +kernel
theorem dX10_likeOnes_9 : decode cX10_likeOnes 9 = .ok (.iload 4, 2) := by decide +kernel
theorem dX10_likeOnes_11 : decode cX10_likeOnes 11 = .ok (.aload_n 0, 1) := by decide +kernel
theorem dX10_likeOnes_12 : decode cX10_likeOnes 12 = .ok (.getfield 22, 3) := by decide +kernel
theorem dX10_likeOnes_15 : decode cX10_likeOnes 15 = .ok (.iload_n 1, 1) := by decide +kernel
theorem dX10_likeOnes_16 : decode cX10_likeOnes 16 = .ok (.iaload, 1) := by decide +kernel
theorem dX10_likeOnes_17 : decode cX10_likeOnes 17 = .ok (.if_icmp .ge 53, 3) := by decide +kernel
theorem dX10_likeOnes_20 : decode cX10_likeOnes 20 = .ok (.aload_n 0, 1) := by decide +kernel
theorem dX10_likeOnes_21 : decode cX10_likeOnes 21 = .ok (.getfield 25, 3) := by decide +kernel
theorem dX10_likeOnes_24 : decode cX10_likeOnes 24 = .ok (.bipush 24, 2) := by decide +kernel
theorem dX10_likeOnes_26 : decode cX10_likeOnes 26 = .ok (.iload_n 1, 1) := by decide +kernel
theorem dX10_likeOnes_27 : decode cX10_likeOnes 27 = .ok (.imul, 1) := by decide +kernel
theorem dX10_likeOnes_28 : decode cX10_likeOnes 28 = .ok (.iload 4, 2) := by decide +kernel
theorem dX10_likeOnes_30 : decode cX10_likeOnes 30 = .ok (.iadd, 1) := by decide +kernel
theorem dX10_likeOnes_31 : decode cX10_likeOnes 31 = .ok (.iaload, 1) := by decide +kernel
theorem dX10_likeOnes_32 : decode cX10_likeOnes 32 = .ok (.istore 5, 2) := by decide +kernel
theorem dX10_likeOnes_34 : decode cX10_likeOnes 34 = .ok (.iload_n 3, 1) := by decide +kernel
theorem dX10_likeOnes_35 : decode cX10_likeOnes 35 = .ok (.iload 5, 2) := by decide +kernel
theorem dX10_likeOnes_37 : decode cX10_likeOnes 37 = .ok (.ldc 70, 2) := by decide +kernel
theorem dX10_likeOnes_39 : decode cX10_likeOnes 39 = .ok (.if_icmp .eq 18, 3) := by decide +kernel
theorem dX10_likeOnes_42 : decode cX10_likeOnes 42 = .ok (.iload 5, 2) := by decide +kernel
theorem dX10_likeOnes_44 : decode cX10_likeOnes 44 = .ok (.aload_n 0, 1) := by decide +kernel
theorem dX10_likeOnes_45 : decode cX10_likeOnes 45 = .ok (.iload_n 2, 1) := by decide +kernel
theorem dX10_likeOnes_46 : decode cX10_likeOnes 46 = .ok (.iconst 3, 1) := by decide +kernel
theorem dX10_likeOnes_47 : decode cX10_likeOnes 47 = .ok (.invokevirtual 78, 3) := by decide +kernel
theorem dX10_likeOnes_50 : decode cX10_likeOnes 50 = .ok (.if_icmp .ne 7, 3) := by decide +kernel
theorem dX10_likeOnes_53 : decode cX10_likeOnes 53 = .ok (.iconst 1, 1) := by decide +kernel
theorem dX10_likeOnes_54 : decode cX10_likeOnes 54 = .ok (.goto 4, 3) := by decide +kernel
theorem dX10_likeOnes_57 : decode cX10_likeOnes 57 = .ok (.iconst 0, 1) := by decide +kernel
theorem dX10_likeOnes_58 : decode cX10_likeOnes 58 = .ok (.iadd, 1) := by decide +kernel
theorem dX10_likeOnes_59 : decode cX10_likeOnes 59 = .ok (.istore_n 3, 1) := by decide +kernel
theorem dX10_likeOnes_60 : decode cX10_likeOnes 60 = .ok (.aload_n 0, 1) := by decide +kernel
theorem dX10_likeOnes_61 : decode cX10_likeOnes 61 = .ok (.invokevirtual 191, 3) := by decide +kernel
theorem dX10_likeOnes_64 : decode cX10_likeOnes 64 = .ok (.iinc 4 1, 3) := by decide +kernel
theorem dX10_likeOnes_67 : decode cX10_likeOnes 67 = .ok (.goto (-58), 3) := by decide +kernel
theorem dX10_likeOnes_70 : decode cX10_likeOnes 70 = .ok (.aload_n 0, 1) := by decide +kernel
theorem dX10_likeOnes_71 : decode cX10_likeOnes 71 = .ok (.invokevirtual 225, 3) := by decide +kernel
theorem dX10_likeOnes_74 : decode cX10_likeOnes 74 = .ok (.iload_n 3, 1) := by decide +kernel
theorem dX10_likeOnes_75 : decode cX10_likeOnes 75 = .ok (.ireturn, 1) := by decide +kernel
theorem ok_X10_likeOnes : okV yX10_likeOnes cX10_likeOnes 6 (some .int) 2 := ⟨mw_1388, mw_71, mw_83, mw_1389, by decide +kernel, by decide +kernel⟩
abbrev rm_X10_likeOnes : Room := { frames := 6, cells := 0, slots := 0, locals := 138 }
def b_X10_likeOnes_58 (K9 : St → Int32 → Int32 → Int32 → Int32 → Prop) (post : Int32 → St → Prop) (σ : St) (y0 : Int32) (y1 : Int32) (x1 : Int32) (x2 : Int32) (x4 : Int32) : Prop := ∀ v1 : Int32, v1 = y1 + y0 → (w_X10_goesOn (fun s2 => ∀ v3 : Int32, v3 = x4 + 1 → (K9 s2 x1 x2 v1 v3)) σ)
theorem B_X10_likeOnes_58 (E : EnvW p s m args meth c D cy regsM ad "RoofWarModel" cX10_likeOnes 6 (some .int)) (ha : Apart regsM ad) {post : Int32 → St → Prop} {K9 : St → Int32 → Int32 → Int32 → Int32 → Prop} (hk9 : ∀ (σ : St) (x1 : Int32) (x2 : Int32) (x3 : Int32) (x4 : Int32), K9 σ x1 x2 x3 x4 → ∀ (H : Heap) (locs : List Loc) (ls : Array Slot), va_P D CLS (wM cy ad σ) H → va_S (AM ad s.heap.size) s.heap H locs → lv_has ls 6 [(0, .ref (ad 0 0)), (1, .int x1), (2, .int x2), (3, .int x3), (4, .int x4)] → W p l e rm_X10_likeOnes s m args below meth c H locs 0 0 (MQ below (QI D cy (cellM cy ad) regsM ad s.heap.size post) args s 0 0 (AM ad s.heap.size)) (F0 m 9 ls [])) {σ : St} {y0 : Int32} {y1 : Int32} {x1 : Int32} {x2 : Int32} {x4 : Int32} (hw : b_X10_likeOnes_58 K9 post σ y0 y1 x1 x2 x4) {H : Heap} {locs : List Loc} {ls : Array Slot} (hP : va_P D CLS (wM cy ad σ) H) (hS : va_S (AM ad s.heap.size) s.heap H locs) (hl : lv_has ls 6 [(0, .ref (ad 0 0)), (1, .int x1), (2, .int x2), (4, .int x4)]) : W p l e rm_X10_likeOnes s m args below meth c H locs 0 0 (MQ below (QI D cy (cellM cy ad) regsM ad s.heap.size post) args s 0 0 (AM ad s.heap.size)) (F0 m 58 ls [.int y0, .int y1]) := by
  obtain ⟨hx, hb, -⟩ := id E
  unfold b_X10_likeOnes_58 at hw
  refine lv_iadd hx hb dX10_likeOnes_58 ?_
  refine lv_topi (fun v1 ev1 => ?_)
  replace hw := hw v1 ev1
  refine lv_istore_n (lv' := [(3, .int v1), (0, .ref (ad 0 0)), (1, .int x1), (2, .int x2), (4, .int x4)]) hx hb dX10_likeOnes_59 rfl hl (by decide) rfl (fun ls hl => ?_)
  refine lv_aload_n hx hb dX10_likeOnes_60 rfl (lv_at hl 1 rfl) ?_
  refine g_cVv (As := []) (rest := []) E hl.1 (c_X10_goesOn l D cy ad ha hw _) ok_X10_goesOn mw_1166 ⟨(Nat.le_of_ble_eq_true rfl), (Nat.le_of_ble_eq_true rfl)⟩ ⟨rfl, rfl⟩ rM0 rfl rfl rfl rfl rfl (Nat.le_of_ble_eq_true rfl) ⟨Nat.zero_le _, Nat.zero_le _⟩ hP hS dX10_likeOnes_61 (fun s2 hw H locs hP hS => ?_)
  obtain ⟨v3, ev3⟩ : ∃ y : Int32, y = x4 + 1 := ⟨_, rfl⟩
  replace hw := hw v3 ev3
  refine lv_iinc (v := v3) (lv' := [(4, .int v3), (3, .int v1), (0, .ref (ad 0 0)), (1, .int x1), (2, .int x2)]) hx hb dX10_likeOnes_64 hl (k := 4) rfl (by rw [ev3]; rfl) (by decide) rfl (fun ls hl => ?_)
  refine lv_goto (tgt := 9) hx hb dX10_likeOnes_67 (by decide) ?_
  exact hk9 s2 x1 x2 v1 v3 hw _ _ _ hP hS (lv_sub hl [2, 3, 4, 1, 0] rfl)
def b_X10_likeOnes_57 (K9 : St → Int32 → Int32 → Int32 → Int32 → Prop) (post : Int32 → St → Prop) (σ : St) (y0 : Int32) (x1 : Int32) (x2 : Int32) (x4 : Int32) : Prop := b_X10_likeOnes_58 K9 post σ (0 : Int32) y0 x1 x2 x4
theorem B_X10_likeOnes_57 (E : EnvW p s m args meth c D cy regsM ad "RoofWarModel" cX10_likeOnes 6 (some .int)) (ha : Apart regsM ad) {post : Int32 → St → Prop} {K9 : St → Int32 → Int32 → Int32 → Int32 → Prop} (hk9 : ∀ (σ : St) (x1 : Int32) (x2 : Int32) (x3 : Int32) (x4 : Int32), K9 σ x1 x2 x3 x4 → ∀ (H : Heap) (locs : List Loc) (ls : Array Slot), va_P D CLS (wM cy ad σ) H → va_S (AM ad s.heap.size) s.heap H locs → lv_has ls 6 [(0, .ref (ad 0 0)), (1, .int x1), (2, .int x2), (3, .int x3), (4, .int x4)] → W p l e rm_X10_likeOnes s m args below meth c H locs 0 0 (MQ below (QI D cy (cellM cy ad) regsM ad s.heap.size post) args s 0 0 (AM ad s.heap.size)) (F0 m 9 ls [])) {σ : St} {y0 : Int32} {x1 : Int32} {x2 : Int32} {x4 : Int32} (hw : b_X10_likeOnes_57 K9 post σ y0 x1 x2 x4) {H : Heap} {locs : List Loc} {ls : Array Slot} (hP : va_P D CLS (wM cy ad σ) H) (hS : va_S (AM ad s.heap.size) s.heap H locs) (hl : lv_has ls 6 [(0, .ref (ad 0 0)), (1, .int x1), (2, .int x2), (4, .int x4)]) : W p l e rm_X10_likeOnes s m args below meth c H locs 0 0 (MQ below (QI D cy (cellM cy ad) regsM ad s.heap.size post) args s 0 0 (AM ad s.heap.size)) (F0 m 57 ls [.int y0]) := by
  obtain ⟨hx, hb, -⟩ := id E
  unfold b_X10_likeOnes_57 at hw
  refine lv_iconst (v := 0) hx hb dX10_likeOnes_57 (by decide) ?_
  exact B_X10_likeOnes_58 E ha hk9 hw hP hS (lv_sub hl [0, 1, 2, 3] rfl)
def b_X10_likeOnes_9 (K9 : St → Int32 → Int32 → Int32 → Int32 → Prop) (post : Int32 → St → Prop) (σ : St) (x1 : Int32) (x2 : Int32) (x3 : Int32) (x4 : Int32) : Prop := vp_in x1 4 ∧ ((((σ 5 0 x1.toNatClampNeg) ≤ x4 → (w_X10_laysBack (fun s3 => post x3 s3) σ)) ∧ (¬ (σ 5 0 x1.toNatClampNeg) ≤ x4 → (vp_in ((24 * x1) + x4) 96 ∧ (∀ v5 : Int32, v5 = σ 6 0 ((24 * x1) + x4).toNatClampNeg → (((v5 = ((-1000000005)) → (b_X10_likeOnes_57 K9 post σ x3 x1 x2 x4)) ∧ (¬ v5 = ((-1000000005)) → (w_X10_of (fun r7 s7 => ((¬ v5 = r7 → (b_X10_likeOnes_57 K9 post s7 x3 x1 x2 x4)) ∧ (v5 = r7 → (b_X10_likeOnes_58 K9 post s7 (1 : Int32) x3 x1 x2 x4)))) σ x2 (3 : Int32))))))))))
noncomputable def l_X10_likeOnes_9 (post : Int32 → St → Prop) : Nat → St → Int32 → Int32 → Int32 → Int32 → Prop := fun n => Nat.rec (motive := fun _ => St → Int32 → Int32 → Int32 → Int32 → Prop) (fun _ _ _ _ _ => False) (fun _ ih => b_X10_likeOnes_9 ih post) n
theorem L_X10_likeOnes_9 (E : EnvW p s m args meth c D cy regsM ad "RoofWarModel" cX10_likeOnes 6 (some .int)) (ha : Apart regsM ad) {post : Int32 → St → Prop} : ∀ (n : Nat), ∀ (σ : St) (x1 : Int32) (x2 : Int32) (x3 : Int32) (x4 : Int32), l_X10_likeOnes_9 post n σ x1 x2 x3 x4 → ∀ (H : Heap) (locs : List Loc) (ls : Array Slot), va_P D CLS (wM cy ad σ) H → va_S (AM ad s.heap.size) s.heap H locs → lv_has ls 6 [(0, .ref (ad 0 0)), (1, .int x1), (2, .int x2), (3, .int x3), (4, .int x4)] → W p l e rm_X10_likeOnes s m args below meth c H locs 0 0 (MQ below (QI D cy (cellM cy ad) regsM ad s.heap.size post) args s 0 0 (AM ad s.heap.size)) (F0 m 9 ls []) := by
  obtain ⟨hx, hb, -⟩ := id E
  intro n
  induction n with
  | zero => intro σ x1 x2 x3 x4 hw; exact hw.elim
  | succ n hk9 =>
    intro σ x1 x2 x3 x4 hw H locs ls hP hS hl
    replace hw : b_X10_likeOnes_9 (l_X10_likeOnes_9 post n) post σ x1 x2 x3 x4 := hw
    unfold b_X10_likeOnes_9 at hw
    refine lv_iload hx hb dX10_likeOnes_9 (lv_at hl 4 rfl) ?_
    refine lv_aload_n hx hb dX10_likeOnes_11 rfl (lv_at hl 0 rfl) ?_
    refine fX10_5 E hP mw_951 dX10_likeOnes_12 ?_
    refine lv_iload_n hx hb dX10_likeOnes_15 rfl (lv_at hl 1 rfl) ?_
    obtain ⟨h1, hw⟩ := hw
    refine aM5 E hP h1 dX10_likeOnes_16 ?_
    refine lv_icmp_ge (tgt := 70) hx hb dX10_likeOnes_17 (by decide) (fun c2 => ?_) (fun c2 => ?_)
    · replace hw := hw.1 c2
      refine lv_aload_n hx hb dX10_likeOnes_70 rfl (lv_at hl 0 rfl) ?_
      refine g_cVv (As := []) (rest := []) E hl.1 (c_X10_laysBack l D cy ad ha hw _) ok_X10_laysBack mw_1257 ⟨(Nat.le_of_ble_eq_true rfl), (Nat.le_of_ble_eq_true rfl)⟩ ⟨rfl, rfl⟩ rM0 rfl rfl rfl rfl rfl (Nat.le_of_ble_eq_true rfl) ⟨Nat.zero_le _, Nat.zero_le _⟩ hP hS dX10_likeOnes_71 (fun s3 hw H locs hP hS => ?_)
      refine lv_iload_n hx hb dX10_likeOnes_74 rfl (lv_at hl 3 rfl) ?_
      exact g_iret E hw hP hS dX10_likeOnes_75
    · replace hw := hw.2 c2
      refine lv_aload_n hx hb dX10_likeOnes_20 rfl (lv_at hl 0 rfl) ?_
      refine fX10_6 E hP mw_952 dX10_likeOnes_21 ?_
      refine lv_bipush (v := 24) hx hb dX10_likeOnes_24 (by decide) ?_
      refine lv_iload_n hx hb dX10_likeOnes_26 rfl (lv_at hl 1 rfl) ?_
      refine lv_imul hx hb dX10_likeOnes_27 ?_
      refine lv_iload hx hb dX10_likeOnes_28 (lv_at hl 4 rfl) ?_
      refine lv_iadd hx hb dX10_likeOnes_30 ?_
      obtain ⟨h4, hw⟩ := hw
      refine aM6 E hP h4 dX10_likeOnes_31 ?_
      refine lv_topi (fun v5 ev5 => ?_)
      replace hw := hw v5 ev5
      refine lv_istore (lv' := [(5, .int v5), (0, .ref (ad 0 0)), (1, .int x1), (2, .int x2), (3, .int x3), (4, .int x4)]) hx hb dX10_likeOnes_32 hl (by decide) rfl (fun ls hl => ?_)
      refine lv_iload_n hx hb dX10_likeOnes_34 rfl (lv_at hl 4 rfl) ?_
      refine lv_iload hx hb dX10_likeOnes_35 (lv_at hl 0 rfl) ?_
      refine g_ldc (v := -1000000005) E mw_1130 dX10_likeOnes_37 ?_
      refine lv_icmp_eq (tgt := 57) hx hb dX10_likeOnes_39 (by decide) (fun c6 => ?_) (fun c6 => ?_)
      · replace hw := hw.1 c6
        exact B_X10_likeOnes_57 E ha hk9 hw hP hS (lv_sub hl [1, 2, 3, 5] rfl)
      · replace hw := hw.2 c6
        refine lv_iload hx hb dX10_likeOnes_42 (lv_at hl 0 rfl) ?_
        refine lv_aload_n hx hb dX10_likeOnes_44 rfl (lv_at hl 1 rfl) ?_
        refine lv_iload_n hx hb dX10_likeOnes_45 rfl (lv_at hl 3 rfl) ?_
        refine lv_iconst (v := 3) hx hb dX10_likeOnes_46 (by decide) ?_
        refine g_cVi (As := [.int x2, .int 3]) (rest := [.int v5, .int x3]) E hl.1 (c_X10_of l D cy ad ha hw _) ok_X10_of mw_1067 ⟨(Nat.le_of_ble_eq_true rfl), (Nat.le_of_ble_eq_true rfl)⟩ ⟨rfl, rfl⟩ rM0 rfl rfl rfl rfl rfl (Nat.le_of_ble_eq_true rfl) ⟨Nat.zero_le _, Nat.zero_le _⟩ hP hS dX10_likeOnes_47 (fun r7 s7 hw H locs hP hS => ?_)
        refine lv_icmp_ne (tgt := 57) hx hb dX10_likeOnes_50 (by decide) (fun c8 => ?_) (fun c8 => ?_)
        · replace hw := hw.1 c8
          exact B_X10_likeOnes_57 E ha hk9 hw hP hS (lv_sub hl [1, 2, 3, 5] rfl)
        · replace hw := hw.2 c8
          refine lv_iconst (v := 1) hx hb dX10_likeOnes_53 (by decide) ?_
          refine lv_goto (tgt := 58) hx hb dX10_likeOnes_54 (by decide) ?_
          exact B_X10_likeOnes_58 E ha hk9 hw hP hS (lv_sub hl [1, 2, 3, 5] rfl)
def w_X10_likeOnes (post : Int32 → St → Prop) (σ : St) (x1 : Int32) (x2 : Int32) : Prop := w_X10_laysBy (fun s1 => ∃ n2 : Nat, l_X10_likeOnes_9 post n2 s1 x1 x2 (0 : Int32) (0 : Int32)) σ
theorem B_X10_likeOnes_0 (E : EnvW p s m args meth c D cy regsM ad "RoofWarModel" cX10_likeOnes 6 (some .int)) (ha : Apart regsM ad) {post : Int32 → St → Prop} {σ : St} {x1 : Int32} {x2 : Int32} (hw : w_X10_likeOnes post σ x1 x2) {H : Heap} {locs : List Loc} {ls : Array Slot} (hP : va_P D CLS (wM cy ad σ) H) (hS : va_S (AM ad s.heap.size) s.heap H locs) (hl : lv_has ls 6 [(0, .ref (ad 0 0)), (1, .int x1), (2, .int x2)]) : W p l e rm_X10_likeOnes s m args below meth c H locs 0 0 (MQ below (QI D cy (cellM cy ad) regsM ad s.heap.size post) args s 0 0 (AM ad s.heap.size)) (F0 m 0 ls []) := by
  obtain ⟨hx, hb, -⟩ := id E
  unfold w_X10_likeOnes at hw
  refine lv_aload_n hx hb dX10_likeOnes_0 rfl (lv_at hl 0 rfl) ?_
  refine g_cVv (As := []) (rest := []) E hl.1 (c_X10_laysBy l D cy ad ha hw _) ok_X10_laysBy mw_1254 ⟨(Nat.le_of_ble_eq_true rfl), (Nat.le_of_ble_eq_true rfl)⟩ ⟨rfl, rfl⟩ rM0 rfl rfl rfl rfl rfl (Nat.le_of_ble_eq_true rfl) ⟨Nat.zero_le _, Nat.zero_le _⟩ hP hS dX10_likeOnes_1 (fun s1 hw H locs hP hS => ?_)
  refine lv_iconst (v := 0) hx hb dX10_likeOnes_4 (by decide) ?_
  refine lv_istore_n (lv' := [(3, .int 0), (0, .ref (ad 0 0)), (1, .int x1), (2, .int x2)]) hx hb dX10_likeOnes_5 rfl hl (by decide) rfl (fun ls hl => ?_)
  refine lv_iconst (v := 0) hx hb dX10_likeOnes_6 (by decide) ?_
  refine lv_istore (lv' := [(4, .int 0), (3, .int 0), (0, .ref (ad 0 0)), (1, .int x1), (2, .int x2)]) hx hb dX10_likeOnes_7 hl (by decide) rfl (fun ls hl => ?_)
  obtain ⟨n2, hw⟩ := hw
  exact L_X10_likeOnes_9 E ha n2 s1 x1 x2 (0 : Int32) (0 : Int32) hw _ _ _ hP hS (lv_sub hl [2, 3, 4, 1, 0] rfl)
theorem c_X10_likeOnes (l : Launch) (D : va_G) (cy : Nat → ClassId) (ad : Nat → Nat → Nat) (ha : Apart regsM ad) {post : Int32 → St → Prop} {σ : St} {x1 : Int32} {x2 : Int32} (hw : w_X10_likeOnes post σ x1 x2) (sz : Nat) : MetI l yX10_likeOnes cX10_likeOnes 6 .int rm_X10_likeOnes [.ref (ad 0 0), .int x1, .int x2] D cy (cellM cy ad) regsM ad σ sz post :=
  Met_inI ok_X10_likeOnes.2.2.2.2.2 (Nat.le_of_ble_eq_true rfl) (fun p e s m below meth c ls E hP hl => B_X10_likeOnes_0 E ha hw hP va_S.rf hl)
-- RoofWarModel.like(II)I
theorem dX10_like_0 : decode cX10_like 0 = .ok (.iload_n 1, 1) := by decide +kernel
theorem dX10_like_1 : decode cX10_like 1 = .ok (.invokestatic 333, 3) := by decide +kernel
theorem dX10_like_4 : decode cX10_like 4 = .ok (.ifCond .eq 13, 3) := by decide +kernel
theorem dX10_like_7 : decode cX10_like 7 = .ok (.iload_n 2, 1) := by decide +kernel
theorem dX10_like_8 : decode cX10_like 8 = .ok (.i2l, 1) := by decide +kernel
theorem dX10_like_9 : decode cX10_like 9 = .ok (.lconst 0, 1) := by decide +kernel
theorem dX10_like_10 : decode cX10_like 10 = .ok (.lconst 1, 1) := by decide +kernel
theorem dX10_like_11 : decode cX10_like 11 = .ok (.invokestatic 71, 3) := by decide +kernel
theorem dX10_like_14 : decode cX10_like 14 = .ok (.ifCond .ne 6, 3) := by decide +kernel
theorem dX10_like_17 : decode cX10_like 17 = .ok (.ldc 96, 2) := by decide +kernel
theorem dX10_like_19 : decode cX10_like 19 = .ok (.ireturn, 1) := by decide +kernel
theorem dX10_like_20 : decode cX10_like 20 = .ok (.aload_n 0, 1) := by decide +kernel
theorem dX10_like_21 : decode cX10_like 21 = .ok (.getfield 19, 3) := by decide +kernel
theorem dX10_like_24 : decode cX10_like 24 = .ok (.iload_n 1, 1) := by decide +kernel
theorem dX10_like_25 : decode cX10_like 25 = .ok (.iaload, 1) := by decide +kernel
theorem dX10_like_26 : decode cX10_like 26 = .ok (.ifCond .ge 7, 3) := by decide +kernel
theorem dX10_like_29 : decode cX10_like 29 = .ok (.ldc_w 337, 3) := by decide +kernel
theorem dX10_like_32 : decode cX10_like 32 = .ok (.ireturn, 1) := by decide +kernel
theorem dX10_like_33 : decode cX10_like 33 = .ok (.iconst (-1), 1) := by decide +kernel
theorem dX10_like_34 : decode cX10_like 34 = .ok (.istore_n 3, 1) := by decide +kernel
theorem dX10_like_35 : decode cX10_like 35 = .ok (.iconst (-1), 1) := by decide +kernel
theorem dX10_like_36 : decode cX10_like 36 = .ok (.istore 4, 2) := by decide +kernel
theorem dX10_like_38 : decode cX10_like 38 = .ok (.iconst 0, 1) := by decide +kernel
theorem dX10_like_39 : decode cX10_like 39 = .ok (.istore 5, 2) := by decide +kernel
theorem dX10_like_41 : decode cX10_like 41 = .ok (.iload 5, 2) := by decide +kernel
theorem dX10_like_43 : decode cX10_like 43 = .ok (.aload_n 0, 1) := by decide +kernel
theorem dX10_like_44 : decode cX10_like 44 = .ok (.getfield 7, 3) := by decide +kernel
theorem dX10_like_47 : decode cX10_like 47 = .ok (.iconst 0, 1) := by decide +kernel
theorem dX10_like_48 : decode cX10_like 48 = .ok (.iaload, 1) := by decide +kernel
theorem dX10_like_49 : decode cX10_like 49 = .ok (.if_icmp .ge 48, 3) := by decide +kernel
theorem dX10_like_52 : decode cX10_like 52 = .ok (.aload_n 0, 1) := by decide +kernel
theorem dX10_like_53 : decode cX10_like 53 = .ok (.iload_n 1, 1) := by decide +kernel
theorem dX10_like_54 : decode cX10_like 54 = .ok (.iload 5, 2) := by decide +kernel
theorem dX10_like_56 : decode cX10_like 56 = .ok (.invokevirtual 343, 3) := by decide +kernel
theorem dX10_like_59 : decode cX10_like 59 = .ok (.istore 6, 2) := by decide +kernel
theorem dX10_like_61 : decode cX10_like 61 = .ok (.iload 6, 2) := by decide +kernel
theorem dX10_like_63 : decode cX10_like 63 = .ok (.iload 4, 2) := by decide +kernel
theorem dX10_like_65 : decode cX10_like 65 = .ok (.if_icmp .le 8, 3) := by decide +kernel
theorem dX10_like_68 : decode cX10_like 68 = .ok (.iload 5, 2) := by decide +kernel
theorem dX10_like_70 : decode cX10_like 70 = .ok (.goto 4, 3) := by decide +kernel
theorem dX10_like_73 : decode cX10_like 73 = .ok (.iload_n 3, 1) := by decide +kernel
theorem dX10_like_74 : decode cX10_like 74 = .ok (.istore_n 3, 1) := by decide +kernel
theorem dX10_like_75 : decode cX10_like 75 = .ok (.iload 6, 2) := by decide +kernel
theorem dX10_like_77 : decode cX10_like 77 = .ok (.iload 4, 2) := by decide +kernel
theorem dX10_like_79 : decode cX10_like 79 = .ok (.if_icmp .le 8, 3) := by decide +kernel
theorem dX10_like_82 : decode cX10_like 82 = .ok (.iload 6, 2) := by decide +kernel
theorem dX10_like_84 : decode cX10_like 84 = .ok (.goto 5, 3) := by decide +kernel
theorem dX10_like_87 : decode cX10_like 87 = .ok (.iload 4, 2) := by decide +kernel
theorem dX10_like_89 : decode cX10_like 89 = .ok (.istore 4, 2) := by decide +kernel
theorem dX10_like_91 : decode cX10_like 91 = .ok (.iinc 5 1, 3) := by decide +kernel
theorem dX10_like_94 : decode cX10_like 94 = .ok (.goto (-53), 3) := by decide +kernel
theorem dX10_like_97 : decode cX10_like 97 = .ok (.iload_n 3, 1) := by decide +kernel
theorem dX10_like_98 : decode cX10_like 98 = .ok (.ifCond .ge 8, 3) := by decide +kernel
theorem dX10_like_101 : decode cX10_like 101 = .ok (.ldc 70, 2) := by decide +kernel
theorem dX10_like_103 : decode cX10_like 103 = .ok (.goto 13, 3) := by decide +kernel
theorem dX10_like_106 : decode cX10_like 106 = .ok (.iload_n 2, 1) := by decide +kernel
theorem dX10_like_107 : decode cX10_like 107 = .ok (.ifCond .ne 7, 3) := by decide +kernel
theorem dX10_like_110 : decode cX10_like 110 = .ok (.iload_n 3, 1) := by decide +kernel
theorem dX10_like_111 : decode cX10_like 111 = .ok (.goto 5, 3) := by decide +kernel
theorem dX10_like_114 : decode cX10_like 114 = .ok (.iload 4, 2) := by decide +kernel
theorem dX10_like_116 : decode cX10_like 116 = .ok (.ireturn, 1) := by decide +kernel
theorem ok_X10_like : okV yX10_like cX10_like 7 (some .int) 2 := ⟨mw_1384, mw_1385, mw_83, mw_1386, by decide +kernel, by decide +kernel⟩
abbrev rm_X10_like : Room := { frames := 7, cells := 0, slots := 0, locals := 163 }
def b_X10_like_74 (K41 : St → Int32 → Int32 → Int32 → Int32 → Int32 → Prop) (post : Int32 → St → Prop) (σ : St) (y0 : Int32) (x1 : Int32) (x2 : Int32) (x4 : Int32) (x5 : Int32) (x6 : Int32) : Prop := ((x6 ≤ x4 → (∀ v2 : Int32, v2 = x5 + 1 → (K41 σ x1 x2 y0 x4 v2))) ∧ (¬ x6 ≤ x4 → (∀ v3 : Int32, v3 = x5 + 1 → (K41 σ x1 x2 y0 x6 v3))))
theorem B_X10_like_74 (E : EnvW p s m args meth c D cy regsM ad "RoofWarModel" cX10_like 7 (some .int)) (ha : Apart regsM ad) {post : Int32 → St → Prop} {K41 : St → Int32 → Int32 → Int32 → Int32 → Int32 → Prop} (hk41 : ∀ (σ : St) (x1 : Int32) (x2 : Int32) (x3 : Int32) (x4 : Int32) (x5 : Int32), K41 σ x1 x2 x3 x4 x5 → ∀ (H : Heap) (locs : List Loc) (ls : Array Slot), va_P D CLS (wM cy ad σ) H → va_S (AM ad s.heap.size) s.heap H locs → lv_has ls 7 [(0, .ref (ad 0 0)), (1, .int x1), (2, .int x2), (3, .int x3), (4, .int x4), (5, .int x5)] → W p l e rm_X10_like s m args below meth c H locs 0 0 (MQ below (QI D cy (cellM cy ad) regsM ad s.heap.size post) args s 0 0 (AM ad s.heap.size)) (F0 m 41 ls [])) {σ : St} {y0 : Int32} {x1 : Int32} {x2 : Int32} {x4 : Int32} {x5 : Int32} {x6 : Int32} (hw : b_X10_like_74 K41 post σ y0 x1 x2 x4 x5 x6) {H : Heap} {locs : List Loc} {ls : Array Slot} (hP : va_P D CLS (wM cy ad σ) H) (hS : va_S (AM ad s.heap.size) s.heap H locs) (hl : lv_has ls 7 [(0, .ref (ad 0 0)), (1, .int x1), (2, .int x2), (4, .int x4), (5, .int x5), (6, .int x6)]) : W p l e rm_X10_like s m args below meth c H locs 0 0 (MQ below (QI D cy (cellM cy ad) regsM ad s.heap.size post) args s 0 0 (AM ad s.heap.size)) (F0 m 74 ls [.int y0]) := by
  obtain ⟨hx, hb, -⟩ := id E
  unfold b_X10_like_74 at hw
  refine lv_istore_n (lv' := [(3, .int y0), (0, .ref (ad 0 0)), (1, .int x1), (2, .int x2), (4, .int x4), (5, .int x5), (6, .int x6)]) hx hb dX10_like_74 rfl hl (by decide) rfl (fun ls hl => ?_)
  refine lv_iload hx hb dX10_like_75 (lv_at hl 6 rfl) ?_
  refine lv_iload hx hb dX10_like_77 (lv_at hl 4 rfl) ?_
  refine lv_icmp_le (tgt := 87) hx hb dX10_like_79 (by decide) (fun c1 => ?_) (fun c1 => ?_)
  · replace hw := hw.1 c1
    refine lv_iload hx hb dX10_like_87 (lv_at hl 4 rfl) ?_
    refine lv_istore (lv' := [(4, .int x4), (3, .int y0), (0, .ref (ad 0 0)), (1, .int x1), (2, .int x2), (5, .int x5), (6, .int x6)]) hx hb dX10_like_89 hl (by decide) rfl (fun ls hl => ?_)
    obtain ⟨v2, ev2⟩ : ∃ y : Int32, y = x5 + 1 := ⟨_, rfl⟩
    replace hw := hw v2 ev2
    refine lv_iinc (v := v2) (lv' := [(5, .int v2), (4, .int x4), (3, .int y0), (0, .ref (ad 0 0)), (1, .int x1), (2, .int x2), (6, .int x6)]) hx hb dX10_like_91 hl (k := 5) rfl (by rw [ev2]; rfl) (by decide) rfl (fun ls hl => ?_)
    refine lv_goto (tgt := 41) hx hb dX10_like_94 (by decide) ?_
    exact hk41 σ x1 x2 y0 x4 v2 hw _ _ _ hP hS (lv_sub hl [3, 4, 5, 2, 1, 0] rfl)
  · replace hw := hw.2 c1
    refine lv_iload hx hb dX10_like_82 (lv_at hl 6 rfl) ?_
    refine lv_goto (tgt := 89) hx hb dX10_like_84 (by decide) ?_
    refine lv_istore (lv' := [(4, .int x6), (3, .int y0), (0, .ref (ad 0 0)), (1, .int x1), (2, .int x2), (5, .int x5), (6, .int x6)]) hx hb dX10_like_89 hl (by decide) rfl (fun ls hl => ?_)
    obtain ⟨v3, ev3⟩ : ∃ y : Int32, y = x5 + 1 := ⟨_, rfl⟩
    replace hw := hw v3 ev3
    refine lv_iinc (v := v3) (lv' := [(5, .int v3), (4, .int x6), (3, .int y0), (0, .ref (ad 0 0)), (1, .int x1), (2, .int x2), (6, .int x6)]) hx hb dX10_like_91 hl (k := 5) rfl (by rw [ev3]; rfl) (by decide) rfl (fun ls hl => ?_)
    refine lv_goto (tgt := 41) hx hb dX10_like_94 (by decide) ?_
    exact hk41 σ x1 x2 y0 x6 v3 hw _ _ _ hP hS (lv_sub hl [3, 4, 5, 2, 1, 0] rfl)
def b_X10_like_41 (K41 : St → Int32 → Int32 → Int32 → Int32 → Int32 → Prop) (post : Int32 → St → Prop) (σ : St) (x1 : Int32) (x2 : Int32) (x3 : Int32) (x4 : Int32) (x5 : Int32) : Prop := vp_in (0 : Int32) 3082 ∧ ((((σ 1 0 (0 : Int32).toNatClampNeg) ≤ x5 → (((0 ≤ x3 → (((¬ x2 = 0 → (post x4 σ)) ∧ (x2 = 0 → (post x3 σ))))) ∧ (¬ 0 ≤ x3 → (post ((-1000000005)) σ))))) ∧ (¬ (σ 1 0 (0 : Int32).toNatClampNeg) ≤ x5 → (w_X10_likeOnes (fun r5 s5 => ((r5 ≤ x4 → (b_X10_like_74 K41 post s5 x3 x1 x2 x4 x5 r5)) ∧ (¬ r5 ≤ x4 → (b_X10_like_74 K41 post s5 x5 x1 x2 x4 x5 r5)))) σ x1 x5))))
noncomputable def l_X10_like_41 (post : Int32 → St → Prop) : Nat → St → Int32 → Int32 → Int32 → Int32 → Int32 → Prop := fun n => Nat.rec (motive := fun _ => St → Int32 → Int32 → Int32 → Int32 → Int32 → Prop) (fun _ _ _ _ _ _ => False) (fun _ ih => b_X10_like_41 ih post) n
theorem L_X10_like_41 (E : EnvW p s m args meth c D cy regsM ad "RoofWarModel" cX10_like 7 (some .int)) (ha : Apart regsM ad) {post : Int32 → St → Prop} : ∀ (n : Nat), ∀ (σ : St) (x1 : Int32) (x2 : Int32) (x3 : Int32) (x4 : Int32) (x5 : Int32), l_X10_like_41 post n σ x1 x2 x3 x4 x5 → ∀ (H : Heap) (locs : List Loc) (ls : Array Slot), va_P D CLS (wM cy ad σ) H → va_S (AM ad s.heap.size) s.heap H locs → lv_has ls 7 [(0, .ref (ad 0 0)), (1, .int x1), (2, .int x2), (3, .int x3), (4, .int x4), (5, .int x5)] → W p l e rm_X10_like s m args below meth c H locs 0 0 (MQ below (QI D cy (cellM cy ad) regsM ad s.heap.size post) args s 0 0 (AM ad s.heap.size)) (F0 m 41 ls []) := by
  obtain ⟨hx, hb, -⟩ := id E
  intro n
  induction n with
  | zero => intro σ x1 x2 x3 x4 x5 hw; exact hw.elim
  | succ n hk41 =>
    intro σ x1 x2 x3 x4 x5 hw H locs ls hP hS hl
    replace hw : b_X10_like_41 (l_X10_like_41 post n) post σ x1 x2 x3 x4 x5 := hw
    unfold b_X10_like_41 at hw
    refine lv_iload hx hb dX10_like_41 (lv_at hl 5 rfl) ?_
    refine lv_aload_n hx hb dX10_like_43 rfl (lv_at hl 0 rfl) ?_
    refine fX10_0 E hP mw_946 dX10_like_44 ?_
    refine lv_iconst (v := 0) hx hb dX10_like_47 (by decide) ?_
    obtain ⟨h1, hw⟩ := hw
    refine aM1 E hP h1 dX10_like_48 ?_
    refine lv_icmp_ge (tgt := 97) hx hb dX10_like_49 (by decide) (fun c2 => ?_) (fun c2 => ?_)
    · replace hw := hw.1 c2
      refine lv_iload_n hx hb dX10_like_97 rfl (lv_at hl 3 rfl) ?_
      refine lv_if_ge (tgt := 106) hx hb dX10_like_98 (by decide) (fun c3 => ?_) (fun c3 => ?_)
      · replace hw := hw.1 c3
        refine lv_iload_n hx hb dX10_like_106 rfl (lv_at hl 2 rfl) ?_
        refine lv_if_ne (tgt := 114) hx hb dX10_like_107 (by decide) (fun c4 => ?_) (fun c4 => ?_)
        · replace hw := hw.1 c4
          refine lv_iload hx hb dX10_like_114 (lv_at hl 4 rfl) ?_
          exact g_iret E hw hP hS dX10_like_116
        · replace hw := hw.2 c4
          refine lv_iload_n hx hb dX10_like_110 rfl (lv_at hl 3 rfl) ?_
          refine lv_goto (tgt := 116) hx hb dX10_like_111 (by decide) ?_
          exact g_iret E hw hP hS dX10_like_116
      · replace hw := hw.2 c3
        refine g_ldc (v := -1000000005) E mw_1130 dX10_like_101 ?_
        refine lv_goto (tgt := 116) hx hb dX10_like_103 (by decide) ?_
        exact g_iret E hw hP hS dX10_like_116
    · replace hw := hw.2 c2
      refine lv_aload_n hx hb dX10_like_52 rfl (lv_at hl 0 rfl) ?_
      refine lv_iload_n hx hb dX10_like_53 rfl (lv_at hl 1 rfl) ?_
      refine lv_iload hx hb dX10_like_54 (lv_at hl 5 rfl) ?_
      refine g_cVi (As := [.int x1, .int x5]) (rest := []) E hl.1 (c_X10_likeOnes l D cy ad ha hw _) ok_X10_likeOnes mw_1387 ⟨(Nat.le_of_ble_eq_true rfl), (Nat.le_of_ble_eq_true rfl)⟩ ⟨rfl, rfl⟩ rM0 rfl rfl rfl rfl rfl (Nat.le_of_ble_eq_true rfl) ⟨Nat.zero_le _, Nat.zero_le _⟩ hP hS dX10_like_56 (fun r5 s5 hw H locs hP hS => ?_)
      refine lv_istore (lv' := [(6, .int r5), (0, .ref (ad 0 0)), (1, .int x1), (2, .int x2), (3, .int x3), (4, .int x4), (5, .int x5)]) hx hb dX10_like_59 hl (by decide) rfl (fun ls hl => ?_)
      refine lv_iload hx hb dX10_like_61 (lv_at hl 0 rfl) ?_
      refine lv_iload hx hb dX10_like_63 (lv_at hl 5 rfl) ?_
      refine lv_icmp_le (tgt := 73) hx hb dX10_like_65 (by decide) (fun c6 => ?_) (fun c6 => ?_)
      · replace hw := hw.1 c6
        refine lv_iload_n hx hb dX10_like_73 rfl (lv_at hl 4 rfl) ?_
        exact B_X10_like_74 E ha hk41 hw hP hS (lv_sub hl [1, 2, 3, 5, 6, 0] rfl)
      · replace hw := hw.2 c6
        refine lv_iload hx hb dX10_like_68 (lv_at hl 6 rfl) ?_
        refine lv_goto (tgt := 74) hx hb dX10_like_70 (by decide) ?_
        exact B_X10_like_74 E ha hk41 hw hP hS (lv_sub hl [1, 2, 3, 5, 6, 0] rfl)
def w_X10_like (post : Int32 → St → Prop) (σ : St) (x1 : Int32) (x2 : Int32) : Prop := w_X10_isSheet (fun r1 s1 => ((r1 = 0 → (post ((-1000000001)) s1)) ∧ (¬ r1 = 0 → (w_X10_isIn (fun r3 s3 => ((¬ r3 = 0 → (vp_in x1 4 ∧ (((0 ≤ (s3 4 0 x1.toNatClampNeg) → (∃ n7 : Nat, l_X10_like_41 post n7 s3 x1 x2 (-1 : Int32) (-1 : Int32) (0 : Int32))) ∧ (¬ 0 ≤ (s3 4 0 x1.toNatClampNeg) → (post ((-1000000011)) s3)))))) ∧ (r3 = 0 → (post ((-1000000001)) s3)))) s1 x2.toInt64 ((0 : Int64)) ((1 : Int64)))))) σ x1
theorem B_X10_like_0 (E : EnvW p s m args meth c D cy regsM ad "RoofWarModel" cX10_like 7 (some .int)) (ha : Apart regsM ad) {post : Int32 → St → Prop} {σ : St} {x1 : Int32} {x2 : Int32} (hw : w_X10_like post σ x1 x2) {H : Heap} {locs : List Loc} {ls : Array Slot} (hP : va_P D CLS (wM cy ad σ) H) (hS : va_S (AM ad s.heap.size) s.heap H locs) (hl : lv_has ls 7 [(0, .ref (ad 0 0)), (1, .int x1), (2, .int x2)]) : W p l e rm_X10_like s m args below meth c H locs 0 0 (MQ below (QI D cy (cellM cy ad) regsM ad s.heap.size post) args s 0 0 (AM ad s.heap.size)) (F0 m 0 ls []) := by
  obtain ⟨hx, hb, -⟩ := id E
  unfold w_X10_like at hw
  refine lv_iload_n hx hb dX10_like_0 rfl (lv_at hl 1 rfl) ?_
  refine g_cSi (As := [.int x1]) (rest := []) E hl.1 (c_X10_isSheet l D cy ad ha hw _) ok_X10_isSheet mw_1363 ⟨(Nat.le_of_ble_eq_true rfl), (Nat.le_of_ble_eq_true rfl)⟩ ⟨rfl, rfl⟩ rfl rfl (Nat.le_of_ble_eq_true rfl) ⟨Nat.zero_le _, Nat.zero_le _⟩ hP hS dX10_like_1 (fun r1 s1 hw H locs hP hS => ?_)
  obtain ⟨z1, hw⟩ := hw
  refine lv_if_eq (tgt := 17) hx hb dX10_like_4 (by decide) (fun c2 => ?_) (fun c2 => ?_)
  · replace hw := hw.1 c2
    refine g_ldc (v := -1000000001) E mw_1063 dX10_like_17 ?_
    exact g_iret E hw hP hS dX10_like_19
  · replace hw := hw.2 c2
    refine lv_iload_n hx hb dX10_like_7 rfl (lv_at hl 2 rfl) ?_
    refine lv_i2l (v := x2.toInt64) hx hb dX10_like_8 rfl ?_
    refine lv_lconst (v := 0) hx hb dX10_like_9 (by decide) ?_
    refine lv_lconst (v := 1) hx hb dX10_like_10 (by decide) ?_
    refine g_cSi (As := [.long x2.toInt64, .long ((0 : Int64)), .long ((1 : Int64))]) (rest := []) E hl.1 (c_X10_isIn l D cy ad ha hw _) ok_X10_isIn mw_1054 ⟨(Nat.le_of_ble_eq_true rfl), (Nat.le_of_ble_eq_true rfl)⟩ ⟨rfl, rfl⟩ rfl rfl (Nat.le_of_ble_eq_true rfl) ⟨Nat.zero_le _, Nat.zero_le _⟩ hP hS dX10_like_11 (fun r3 s3 hw H locs hP hS => ?_)
    obtain ⟨z3, hw⟩ := hw
    refine lv_if_ne (tgt := 20) hx hb dX10_like_14 (by decide) (fun c4 => ?_) (fun c4 => ?_)
    · replace hw := hw.1 c4
      refine lv_aload_n hx hb dX10_like_20 rfl (lv_at hl 0 rfl) ?_
      refine fX10_4 E hP mw_950 dX10_like_21 ?_
      refine lv_iload_n hx hb dX10_like_24 rfl (lv_at hl 1 rfl) ?_
      obtain ⟨h5, hw⟩ := hw
      refine aM4 E hP h5 dX10_like_25 ?_
      refine lv_if_ge (tgt := 33) hx hb dX10_like_26 (by decide) (fun c6 => ?_) (fun c6 => ?_)
      · replace hw := hw.1 c6
        refine lv_iconst (v := -1) hx hb dX10_like_33 (by decide) ?_
        refine lv_istore_n (lv' := [(3, .int ((-1))), (0, .ref (ad 0 0)), (1, .int x1), (2, .int x2)]) hx hb dX10_like_34 rfl hl (by decide) rfl (fun ls hl => ?_)
        refine lv_iconst (v := -1) hx hb dX10_like_35 (by decide) ?_
        refine lv_istore (lv' := [(4, .int ((-1))), (3, .int ((-1))), (0, .ref (ad 0 0)), (1, .int x1), (2, .int x2)]) hx hb dX10_like_36 hl (by decide) rfl (fun ls hl => ?_)
        refine lv_iconst (v := 0) hx hb dX10_like_38 (by decide) ?_
        refine lv_istore (lv' := [(5, .int 0), (4, .int ((-1))), (3, .int ((-1))), (0, .ref (ad 0 0)), (1, .int x1), (2, .int x2)]) hx hb dX10_like_39 hl (by decide) rfl (fun ls hl => ?_)
        obtain ⟨n7, hw⟩ := hw
        exact L_X10_like_41 E ha n7 s3 x1 x2 (-1 : Int32) (-1 : Int32) (0 : Int32) hw _ _ _ hP hS (lv_sub hl [3, 4, 5, 2, 1, 0] rfl)
      · replace hw := hw.2 c6
        refine g_ldcw (v := -1000000011) E mw_1371 dX10_like_29 ?_
        exact g_iret E hw hP hS dX10_like_32
    · replace hw := hw.2 c4
      refine g_ldc (v := -1000000001) E mw_1063 dX10_like_17 ?_
      exact g_iret E hw hP hS dX10_like_19
theorem c_X10_like (l : Launch) (D : va_G) (cy : Nat → ClassId) (ad : Nat → Nat → Nat) (ha : Apart regsM ad) {post : Int32 → St → Prop} {σ : St} {x1 : Int32} {x2 : Int32} (hw : w_X10_like post σ x1 x2) (sz : Nat) : MetI l yX10_like cX10_like 7 .int rm_X10_like [.ref (ad 0 0), .int x1, .int x2] D cy (cellM cy ad) regsM ad σ sz post :=
  Met_inI ok_X10_like.2.2.2.2.2 (Nat.le_of_ble_eq_true rfl) (fun p e s m below meth c ls E hP hl => B_X10_like_0 E ha hw hP va_S.rf hl)
-- RoofWarModel.copy(IIIII)I
theorem dX10_copy_0 : decode cX10_copy 0 = .ok (.iload_n 1, 1) := by decide +kernel
theorem dX10_copy_1 : decode cX10_copy 1 = .ok (.invokestatic 333, 3) := by decide +kernel
theorem dX10_copy_4 : decode cX10_copy 4 = .ok (.ifCond .eq 10, 3) := by decide +kernel
theorem dX10_copy_7 : decode cX10_copy 7 = .ok (.iload_n 3, 1) := by decide +kernel
theorem dX10_copy_8 : decode cX10_copy 8 = .ok (.invokestatic 333, 3) := by decide +kernel
theorem dX10_copy_11 : decode cX10_copy 11 = .ok (.ifCond .ne 6, 3) := by decide +kernel
theorem dX10_copy_14 : decode cX10_copy 14 = .ok (.ldc 96, 2) := by decide +kernel
theorem dX10_copy_16 : decode cX10_copy 16 = .ok (.ireturn, 1) := by decide +kernel
theorem dX10_copy_17 : decode cX10_copy 17 = .ok (.aload_n 0, 1) := by decide +kernel
theorem dX10_copy_18 : decode cX10_copy 18 = .ok (.getfield 19, 3) := by decide +kernel
theorem dX10_copy_21 : decode cX10_copy 21 = .ok (.iload_n 1, 1) := by decide +kernel
theorem dX10_copy_22 : decode cX10_copy 22 = .ok (.iaload, 1) := by decide +kernel
theorem dX10_copy_23 : decode cX10_copy 23 = .ok (.ifCond .lt 12, 3) := by decide +kernel
theorem dX10_copy_26 : decode cX10_copy 26 = .ok (.aload_n 0, 1) := by decide +kernel
theorem dX10_copy_27 : decode cX10_copy 27 = .ok (.getfield 19, 3) := by decide +kernel
theorem dX10_copy_30 : decode cX10_copy 30 = .ok (.iload_n 3, 1) := by decide +kernel
theorem dX10_copy_31 : decode cX10_copy 31 = .ok (.iaload, 1) := by decide +kernel
theorem dX10_copy_32 : decode cX10_copy 32 = .ok (.ifCond .ge 7, 3) := by decide +kernel
theorem dX10_copy_35 : decode cX10_copy 35 = .ok (.ldc_w 337, 3) := by decide +kernel
theorem dX10_copy_38 : decode cX10_copy 38 = .ok (.ireturn, 1) := by decide +kernel
theorem dX10_copy_39 : decode cX10_copy 39 = .ok (.aload_n 0, 1) := by decide +kernel
theorem dX10_copy_40 : decode cX10_copy 40 = .ok (.getfield 19, 3) := by decide +kernel
theorem dX10_copy_43 : decode cX10_copy 43 = .ok (.iload_n 1, 1) := by decide +kernel
theorem dX10_copy_44 : decode cX10_copy 44 = .ok (.iaload, 1) := by decide +kernel
theorem dX10_copy_45 : decode cX10_copy 45 = .ok (.aload_n 0, 1) := by decide +kernel
theorem dX10_copy_46 : decode cX10_copy 46 = .ok (.getfield 19, 3) := by decide +kernel
theorem dX10_copy_49 : decode cX10_copy 49 = .ok (.iload_n 3, 1) := by decide +kernel
theorem dX10_copy_50 : decode cX10_copy 50 = .ok (.iaload, 1) := by decide +kernel
theorem dX10_copy_51 : decode cX10_copy 51 = .ok (.if_icmp .eq 6, 3) := by decide +kernel
theorem dX10_copy_54 : decode cX10_copy 54 = .ok (.ldc 128, 2) := by decide +kernel
theorem dX10_copy_56 : decode cX10_copy 56 = .ok (.ireturn, 1) := by decide +kernel
theorem dX10_copy_57 : decode cX10_copy 57 = .ok (.iload_n 2, 1) := by decide +kernel
theorem dX10_copy_58 : decode cX10_copy 58 = .ok (.ifCond .lt 48, 3) := by decide +kernel
theorem dX10_copy_61 : decode cX10_copy 61 = .ok (.iload 4, 2) := by decide +kernel
theorem dX10_copy_63 : decode cX10_copy 63 = .ok (.ifCond .lt 43, 3) := by decide +kernel
theorem dX10_copy_66 : decode cX10_copy 66 = .ok (.iload 5, 2) := by decide +kernel
theorem dX10_copy_68 : decode cX10_copy 68 = .ok (.ifCond .lt 38, 3) := by decide +kernel
theorem dX10_copy_71 : decode cX10_copy 71 = .ok (.iload_n 2, 1) := by decide +kernel
theorem dX10_copy_72 : decode cX10_copy 72 = .ok (.i2l, 1) := by decide +kernel
theorem dX10_copy_73 : decode cX10_copy 73 = .ok (.iload 5, 2) := by decide +kernel
theorem dX10_copy_75 : decode cX10_copy 75 = .ok (.i2l, 1) := by decide +kernel
theorem dX10_copy_76 : decode cX10_copy 76 = .ok (.ladd, 1) := by decide +kernel
theorem dX10_copy_77 : decode cX10_copy 77 = .ok (.aload_n 0, 1) := by decide +kernel
theorem dX10_copy_78 : decode cX10_copy 78 = .ok (.getfield 22, 3) := by decide +kernel
theorem dX10_copy_81 : decode cX10_copy 81 = .ok (.iload_n 1, 1) := by decide +kernel
theorem dX10_copy_82 : decode cX10_copy 82 = .ok (.iaload, 1) := by decide +kernel
theorem dX10_copy_83 : decode cX10_copy 83 = .ok (.i2l, 1) := by decide +kernel
theorem dX10_copy_84 : decode cX10_copy 84 = .ok (.lcmp, 1) := by decide +kernel
theorem dX10_copy_85 : decode cX10_copy 85 = .ok (.ifCond .gt 21, 3) := by decide +kernel
theorem dX10_copy_88 : decode cX10_copy 88 = .ok (.iload 4, 2) := by decide +kernel
theorem dX10_copy_90 : decode cX10_copy 90 = .ok (.i2l, 1) := by decide +kernel
theorem dX10_copy_91 : decode cX10_copy 91 = .ok (.iload 5, 2) := by decide +kernel
theorem dX10_copy_93 : decode cX10_copy 93 = .ok (.i2l, 1) := by decide +kernel
theorem dX10_copy_94 : decode cX10_copy 94 = .ok (.ladd, 1) := by decide +kernel
theorem dX10_copy_95 : decode cX10_copy 95 = .ok (.aload_n 0, 1) := by decide +kernel
theorem dX10_copy_96 : decode cX10_copy 96 = .ok (.getfield 22, 3) := by decide +kernel
theorem dX10_copy_99 : decode cX10_copy 99 = .ok (.iload_n 3, 1) := by decide +kernel
theorem dX10_copy_100 : decode cX10_copy 100 = .ok (.iaload, 1) := by decide +kernel
theorem dX10_copy_101 : decode cX10_copy 101 = .ok (.i2l, 1) := by decide +kernel
theorem dX10_copy_102 : decode cX10_copy 102 = .ok (.lcmp, 1) := by decide +kernel
theorem dX10_copy_103 : decode cX10_copy 103 = .ok (.ifCond .le 7, 3) := by decide +kernel
theorem dX10_copy_106 : decode cX10_copy 106 = .ok (.ldc_w 338, 3) := by decide +kernel
theorem dX10_copy_109 : decode cX10_copy 109 = .ok (.ireturn, 1) := by decide +kernel
theorem dX10_copy_110 : decode cX10_copy 110 = .ok (.iconst 0, 1) := by decide +kernel
theorem dX10_copy_111 : decode cX10_copy 111 = .ok (.istore 6, 2) := by decide +kernel
theorem dX10_copy_113 : decode cX10_copy 113 = .ok (.iload 6, 2) := by decide +kernel
theorem dX10_copy_115 : decode cX10_copy 115 = .ok (.iload 5, 2) := by decide +kernel
theorem dX10_copy_117 : decode cX10_copy 117 = .ok (.if_icmp .ge 30, 3) := by decide +kernel
theorem dX10_copy_120 : decode cX10_copy 120 = .ok (.aload_n 0, 1) := by decide +kernel
theorem dX10_copy_121 : decode cX10_copy 121 = .ok (.getfield 61, 3) := by decide +kernel
theorem dX10_copy_124 : decode cX10_copy 124 = .ok (.iload 6, 2) := by decide +kernel
theorem dX10_copy_126 : decode cX10_copy 126 = .ok (.aload_n 0, 1) := by decide +kernel
theorem dX10_copy_127 : decode cX10_copy 127 = .ok (.getfield 25, 3) := by decide +kernel
theorem dX10_copy_130 : decode cX10_copy 130 = .ok (.bipush 24, 2) := by decide +kernel
theorem dX10_copy_132 : decode cX10_copy 132 = .ok (.iload_n 1, 1) := by decide +kernel
theorem dX10_copy_133 : decode cX10_copy 133 = .ok (.imul, 1) := by decide +kernel
theorem dX10_copy_134 : decode cX10_copy 134 = .ok (.iload_n 2, 1) := by decide +kernel
theorem dX10_copy_135 : decode cX10_copy 135 = .ok (.iadd, 1) := by decide +kernel
theorem dX10_copy_136 : decode cX10_copy 136 = .ok (.iload 6, 2) := by decide +kernel
theorem dX10_copy_138 : decode cX10_copy 138 = .ok (.iadd, 1) := by decide +kernel
theorem dX10_copy_139 : decode cX10_copy 139 = .ok (.iaload, 1) := by decide +kernel
theorem dX10_copy_140 : decode cX10_copy 140 = .ok (.iastore, 1) := by decide +kernel
theorem dX10_copy_141 : decode cX10_copy 141 = .ok (.iinc 6 1, 3) := by decide +kernel
theorem dX10_copy_144 : decode cX10_copy 144 = .ok (.goto (-31), 3) := by decide +kernel
theorem dX10_copy_147 : decode cX10_copy 147 = .ok (.iconst 0, 1) := by decide +kernel
theorem dX10_copy_148 : decode cX10_copy 148 = .ok (.istore 6, 2) := by decide +kernel
theorem dX10_copy_150 : decode cX10_copy 150 = .ok (.iload 6, 2) := by decide +kernel
theorem dX10_copy_152 : decode cX10_copy 152 = .ok (.iload 5, 2) := by decide +kernel
theorem dX10_copy_154 : decode cX10_copy 154 = .ok (.if_icmp .ge 31, 3) := by decide +kernel
theorem dX10_copy_157 : decode cX10_copy 157 = .ok (.aload_n 0, 1) := by decide +kernel
theorem dX10_copy_158 : decode cX10_copy 158 = .ok (.getfield 25, 3) := by decide +kernel
theorem dX10_copy_161 : decode cX10_copy 161 = .ok (.bipush 24, 2) := by decide +kernel
theorem dX10_copy_163 : decode cX10_copy 163 = .ok (.iload_n 3, 1) := by decide +kernel
theorem dX10_copy_164 : decode cX10_copy 164 = .ok (.imul, 1) := by decide +kernel
theorem dX10_copy_165 : decode cX10_copy 165 = .ok (.iload 4, 2) := by decide +kernel
theorem dX10_copy_167 : decode cX10_copy 167 = .ok (.iadd, 1) := by decide +kernel
theorem dX10_copy_168 : decode cX10_copy 168 = .ok (.iload 6, 2) := by decide +kernel
theorem dX10_copy_170 : decode cX10_copy 170 = .ok (.iadd, 1) := by decide +kernel
theorem dX10_copy_171 : decode cX10_copy 171 = .ok (.aload_n 0, 1) := by decide +kernel
theorem dX10_copy_172 : decode cX10_copy 172 = .ok (.getfield 61, 3) := by decide +kernel
theorem dX10_copy_175 : decode cX10_copy 175 = .ok (.iload 6, 2) := by decide +kernel
theorem dX10_copy_177 : decode cX10_copy 177 = .ok (.iaload, 1) := by decide +kernel
theorem dX10_copy_178 : decode cX10_copy 178 = .ok (.iastore, 1) := by decide +kernel
theorem dX10_copy_179 : decode cX10_copy 179 = .ok (.iinc 6 1, 3) := by decide +kernel
theorem dX10_copy_182 : decode cX10_copy 182 = .ok (.goto (-32), 3) := by decide +kernel
theorem dX10_copy_185 : decode cX10_copy 185 = .ok (.iload 5, 2) := by decide +kernel
theorem dX10_copy_187 : decode cX10_copy 187 = .ok (.ireturn, 1) := by decide +kernel
theorem ok_X10_copy : okV yX10_copy cX10_copy 7 (some .int) 5 := ⟨mw_1391, mw_1392, mw_83, mw_1393, by decide +kernel, by decide +kernel⟩
abbrev rm_X10_copy : Room := { frames := 2, cells := 0, slots := 0, locals := 45 }
def b_X10_copy_150 (K150 : St → Int32 → Int32 → Int32 → Int32 → Prop) (post : Int32 → St → Prop) (σ : St) (x3 : Int32) (x4 : Int32) (x5 : Int32) (x6 : Int32) : Prop := ((x5 ≤ x6 → (post x5 σ)) ∧ (¬ x5 ≤ x6 → (vp_in x6 24 ∧ (vp_in (((24 * x3) + x4) + x6) 96 ∧ (∀ s4 : St, s4 = wr σ 6 0 (((24 * x3) + x4) + x6).toNatClampNeg (σ 18 0 x6.toNatClampNeg) → (∀ v5 : Int32, v5 = x6 + 1 → (K150 s4 x3 x4 x5 v5)))))))
noncomputable def l_X10_copy_150 (post : Int32 → St → Prop) : Nat → St → Int32 → Int32 → Int32 → Int32 → Prop := fun n => Nat.rec (motive := fun _ => St → Int32 → Int32 → Int32 → Int32 → Prop) (fun _ _ _ _ _ => False) (fun _ ih => b_X10_copy_150 ih post) n
theorem L_X10_copy_150 (E : EnvW p s m args meth c D cy regsM ad "RoofWarModel" cX10_copy 7 (some .int)) (ha : Apart regsM ad) {post : Int32 → St → Prop} : ∀ (n : Nat), ∀ (σ : St) (x3 : Int32) (x4 : Int32) (x5 : Int32) (x6 : Int32), l_X10_copy_150 post n σ x3 x4 x5 x6 → ∀ (H : Heap) (locs : List Loc) (ls : Array Slot), va_P D CLS (wM cy ad σ) H → va_S (AM ad s.heap.size) s.heap H locs → lv_has ls 7 [(0, .ref (ad 0 0)), (3, .int x3), (4, .int x4), (5, .int x5), (6, .int x6)] → W p l e rm_X10_copy s m args below meth c H locs 0 0 (MQ below (QI D cy (cellM cy ad) regsM ad s.heap.size post) args s 0 0 (AM ad s.heap.size)) (F0 m 150 ls []) := by
  obtain ⟨hx, hb, -⟩ := id E
  intro n
  induction n with
  | zero => intro σ x3 x4 x5 x6 hw; exact hw.elim
  | succ n hk150 =>
    intro σ x3 x4 x5 x6 hw H locs ls hP hS hl
    replace hw : b_X10_copy_150 (l_X10_copy_150 post n) post σ x3 x4 x5 x6 := hw
    unfold b_X10_copy_150 at hw
    refine lv_iload hx hb dX10_copy_150 (lv_at hl 4 rfl) ?_
    refine lv_iload hx hb dX10_copy_152 (lv_at hl 3 rfl) ?_
    refine lv_icmp_ge (tgt := 185) hx hb dX10_copy_154 (by decide) (fun c1 => ?_) (fun c1 => ?_)
    · replace hw := hw.1 c1
      refine lv_iload hx hb dX10_copy_185 (lv_at hl 3 rfl) ?_
      exact g_iret E hw hP hS dX10_copy_187
    · replace hw := hw.2 c1
      refine lv_aload_n hx hb dX10_copy_157 rfl (lv_at hl 0 rfl) ?_
      refine fX10_6 E hP mw_952 dX10_copy_158 ?_
      refine lv_bipush (v := 24) hx hb dX10_copy_161 (by decide) ?_
      refine lv_iload_n hx hb dX10_copy_163 rfl (lv_at hl 1 rfl) ?_
      refine lv_imul hx hb dX10_copy_164 ?_
      refine lv_iload hx hb dX10_copy_165 (lv_at hl 2 rfl) ?_
      refine lv_iadd hx hb dX10_copy_167 ?_
      refine lv_iload hx hb dX10_copy_168 (lv_at hl 4 rfl) ?_
      refine lv_iadd hx hb dX10_copy_170 ?_
      refine lv_aload_n hx hb dX10_copy_171 rfl (lv_at hl 0 rfl) ?_
      refine fX10_30 E hP mw_976 dX10_copy_172 ?_
      refine lv_iload hx hb dX10_copy_175 (lv_at hl 4 rfl) ?_
      obtain ⟨h2, hw⟩ := hw
      refine aM18 E hP h2 dX10_copy_177 ?_
      obtain ⟨h3, hw⟩ := hw
      refine tM6 E ha h3 dX10_copy_178 hP hS (fun s4 es4 H locs hP hS => ?_)
      replace hw := hw s4 es4
      obtain ⟨v5, ev5⟩ : ∃ y : Int32, y = x6 + 1 := ⟨_, rfl⟩
      replace hw := hw v5 ev5
      refine lv_iinc (v := v5) (lv' := [(6, .int v5), (0, .ref (ad 0 0)), (3, .int x3), (4, .int x4), (5, .int x5)]) hx hb dX10_copy_179 hl (k := 4) rfl (by rw [ev5]; rfl) (by decide) rfl (fun ls hl => ?_)
      refine lv_goto (tgt := 150) hx hb dX10_copy_182 (by decide) ?_
      exact hk150 s4 x3 x4 x5 v5 hw _ _ _ hP hS (lv_sub hl [1, 2, 3, 4, 0] rfl)
def b_X10_copy_113 (K113 : St → Int32 → Int32 → Int32 → Int32 → Int32 → Int32 → Prop) (post : Int32 → St → Prop) (σ : St) (x1 : Int32) (x2 : Int32) (x3 : Int32) (x4 : Int32) (x5 : Int32) (x6 : Int32) : Prop := ((x5 ≤ x6 → (∃ n2 : Nat, l_X10_copy_150 post n2 σ x3 x4 x5 (0 : Int32))) ∧ (¬ x5 ≤ x6 → (vp_in (((24 * x1) + x2) + x6) 96 ∧ (vp_in x6 24 ∧ (∀ s5 : St, s5 = wr σ 18 0 x6.toNatClampNeg (σ 6 0 (((24 * x1) + x2) + x6).toNatClampNeg) → (∀ v6 : Int32, v6 = x6 + 1 → (K113 s5 x1 x2 x3 x4 x5 v6)))))))
noncomputable def l_X10_copy_113 (post : Int32 → St → Prop) : Nat → St → Int32 → Int32 → Int32 → Int32 → Int32 → Int32 → Prop := fun n => Nat.rec (motive := fun _ => St → Int32 → Int32 → Int32 → Int32 → Int32 → Int32 → Prop) (fun _ _ _ _ _ _ _ => False) (fun _ ih => b_X10_copy_113 ih post) n
theorem L_X10_copy_113 (E : EnvW p s m args meth c D cy regsM ad "RoofWarModel" cX10_copy 7 (some .int)) (ha : Apart regsM ad) {post : Int32 → St → Prop} : ∀ (n : Nat), ∀ (σ : St) (x1 : Int32) (x2 : Int32) (x3 : Int32) (x4 : Int32) (x5 : Int32) (x6 : Int32), l_X10_copy_113 post n σ x1 x2 x3 x4 x5 x6 → ∀ (H : Heap) (locs : List Loc) (ls : Array Slot), va_P D CLS (wM cy ad σ) H → va_S (AM ad s.heap.size) s.heap H locs → lv_has ls 7 [(0, .ref (ad 0 0)), (1, .int x1), (2, .int x2), (3, .int x3), (4, .int x4), (5, .int x5), (6, .int x6)] → W p l e rm_X10_copy s m args below meth c H locs 0 0 (MQ below (QI D cy (cellM cy ad) regsM ad s.heap.size post) args s 0 0 (AM ad s.heap.size)) (F0 m 113 ls []) := by
  obtain ⟨hx, hb, -⟩ := id E
  intro n
  induction n with
  | zero => intro σ x1 x2 x3 x4 x5 x6 hw; exact hw.elim
  | succ n hk113 =>
    intro σ x1 x2 x3 x4 x5 x6 hw H locs ls hP hS hl
    replace hw : b_X10_copy_113 (l_X10_copy_113 post n) post σ x1 x2 x3 x4 x5 x6 := hw
    unfold b_X10_copy_113 at hw
    refine lv_iload hx hb dX10_copy_113 (lv_at hl 6 rfl) ?_
    refine lv_iload hx hb dX10_copy_115 (lv_at hl 5 rfl) ?_
    refine lv_icmp_ge (tgt := 147) hx hb dX10_copy_117 (by decide) (fun c1 => ?_) (fun c1 => ?_)
    · replace hw := hw.1 c1
      refine lv_iconst (v := 0) hx hb dX10_copy_147 (by decide) ?_
      refine lv_istore (lv' := [(6, .int 0), (0, .ref (ad 0 0)), (1, .int x1), (2, .int x2), (3, .int x3), (4, .int x4), (5, .int x5)]) hx hb dX10_copy_148 hl (by decide) rfl (fun ls hl => ?_)
      obtain ⟨n2, hw⟩ := hw
      exact L_X10_copy_150 E ha n2 σ x3 x4 x5 (0 : Int32) hw _ _ _ hP hS (lv_sub hl [1, 4, 5, 6, 0] rfl)
    · replace hw := hw.2 c1
      refine lv_aload_n hx hb dX10_copy_120 rfl (lv_at hl 0 rfl) ?_
      refine fX10_30 E hP mw_976 dX10_copy_121 ?_
      refine lv_iload hx hb dX10_copy_124 (lv_at hl 6 rfl) ?_
      refine lv_aload_n hx hb dX10_copy_126 rfl (lv_at hl 0 rfl) ?_
      refine fX10_6 E hP mw_952 dX10_copy_127 ?_
      refine lv_bipush (v := 24) hx hb dX10_copy_130 (by decide) ?_
      refine lv_iload_n hx hb dX10_copy_132 rfl (lv_at hl 1 rfl) ?_
      refine lv_imul hx hb dX10_copy_133 ?_
      refine lv_iload_n hx hb dX10_copy_134 rfl (lv_at hl 2 rfl) ?_
      refine lv_iadd hx hb dX10_copy_135 ?_
      refine lv_iload hx hb dX10_copy_136 (lv_at hl 6 rfl) ?_
      refine lv_iadd hx hb dX10_copy_138 ?_
      obtain ⟨h3, hw⟩ := hw
      refine aM6 E hP h3 dX10_copy_139 ?_
      obtain ⟨h4, hw⟩ := hw
      refine tM18 E ha h4 dX10_copy_140 hP hS (fun s5 es5 H locs hP hS => ?_)
      replace hw := hw s5 es5
      obtain ⟨v6, ev6⟩ : ∃ y : Int32, y = x6 + 1 := ⟨_, rfl⟩
      replace hw := hw v6 ev6
      refine lv_iinc (v := v6) (lv' := [(6, .int v6), (0, .ref (ad 0 0)), (1, .int x1), (2, .int x2), (3, .int x3), (4, .int x4), (5, .int x5)]) hx hb dX10_copy_141 hl (k := 6) rfl (by rw [ev6]; rfl) (by decide) rfl (fun ls hl => ?_)
      refine lv_goto (tgt := 113) hx hb dX10_copy_144 (by decide) ?_
      exact hk113 s5 x1 x2 x3 x4 x5 v6 hw _ _ _ hP hS (lv_sub hl [1, 2, 3, 4, 5, 6, 0] rfl)
def w_X10_copy (post : Int32 → St → Prop) (σ : St) (x1 : Int32) (x2 : Int32) (x3 : Int32) (x4 : Int32) (x5 : Int32) : Prop := w_X10_isSheet (fun r1 s1 => ((r1 = 0 → (post ((-1000000001)) s1)) ∧ (¬ r1 = 0 → (w_X10_isSheet (fun r3 s3 => ((¬ r3 = 0 → (vp_in x1 4 ∧ ((((s3 4 0 x1.toNatClampNeg) < 0 → (post ((-1000000011)) s3)) ∧ (¬ (s3 4 0 x1.toNatClampNeg) < 0 → (vp_in x3 4 ∧ (((0 ≤ (s3 4 0 x3.toNatClampNeg) → (vp_in x1 4 ∧ (vp_in x3 4 ∧ ((((s3 4 0 x1.toNatClampNeg) = (s3 4 0 x3.toNatClampNeg) → (((x2 < 0 → (post ((-1000000013)) s3)) ∧ (¬ x2 < 0 → (((x4 < 0 → (post ((-1000000013)) s3)) ∧ (¬ x4 < 0 → (((x5 < 0 → (post ((-1000000013)) s3)) ∧ (¬ x5 < 0 → (vp_in x1 4 ∧ (((0 < (lg_cmp (x2.toInt64 + x5.toInt64) ((s3 5 0 x1.toNatClampNeg).toInt64)) → (post ((-1000000013)) s3)) ∧ (¬ 0 < (lg_cmp (x2.toInt64 + x5.toInt64) ((s3 5 0 x1.toNatClampNeg).toInt64)) → (vp_in x3 4 ∧ ((((lg_cmp (x4.toInt64 + x5.toInt64) ((s3 5 0 x3.toNatClampNeg).toInt64)) ≤ 0 → (∃ n19 : Nat, l_X10_copy_113 post n19 s3 x1 x2 x3 x4 x5 (0 : Int32))) ∧ (¬ (lg_cmp (x4.toInt64 + x5.toInt64) ((s3 5 0 x3.toNatClampNeg).toInt64)) ≤ 0 → (post ((-1000000013)) s3))))))))))))))))))) ∧ (¬ (s3 4 0 x1.toNatClampNeg) = (s3 4 0 x3.toNatClampNeg) → (post ((-1000000012)) s3))))))) ∧ (¬ 0 ≤ (s3 4 0 x3.toNatClampNeg) → (post ((-1000000011)) s3)))))))))) ∧ (r3 = 0 → (post ((-1000000001)) s3)))) s1 x3)))) σ x1
theorem B_X10_copy_0 (E : EnvW p s m args meth c D cy regsM ad "RoofWarModel" cX10_copy 7 (some .int)) (ha : Apart regsM ad) {post : Int32 → St → Prop} {σ : St} {x1 : Int32} {x2 : Int32} {x3 : Int32} {x4 : Int32} {x5 : Int32} (hw : w_X10_copy post σ x1 x2 x3 x4 x5) {H : Heap} {locs : List Loc} {ls : Array Slot} (hP : va_P D CLS (wM cy ad σ) H) (hS : va_S (AM ad s.heap.size) s.heap H locs) (hl : lv_has ls 7 [(0, .ref (ad 0 0)), (1, .int x1), (2, .int x2), (3, .int x3), (4, .int x4), (5, .int x5)]) : W p l e rm_X10_copy s m args below meth c H locs 0 0 (MQ below (QI D cy (cellM cy ad) regsM ad s.heap.size post) args s 0 0 (AM ad s.heap.size)) (F0 m 0 ls []) := by
  obtain ⟨hx, hb, -⟩ := id E
  unfold w_X10_copy at hw
  refine lv_iload_n hx hb dX10_copy_0 rfl (lv_at hl 1 rfl) ?_
  refine g_cSi (As := [.int x1]) (rest := []) E hl.1 (c_X10_isSheet l D cy ad ha hw _) ok_X10_isSheet mw_1363 ⟨(Nat.le_of_ble_eq_true rfl), (Nat.le_of_ble_eq_true rfl)⟩ ⟨rfl, rfl⟩ rfl rfl (Nat.le_of_ble_eq_true rfl) ⟨Nat.zero_le _, Nat.zero_le _⟩ hP hS dX10_copy_1 (fun r1 s1 hw H locs hP hS => ?_)
  obtain ⟨z1, hw⟩ := hw
  refine lv_if_eq (tgt := 14) hx hb dX10_copy_4 (by decide) (fun c2 => ?_) (fun c2 => ?_)
  · replace hw := hw.1 c2
    refine g_ldc (v := -1000000001) E mw_1063 dX10_copy_14 ?_
    exact g_iret E hw hP hS dX10_copy_16
  · replace hw := hw.2 c2
    refine lv_iload_n hx hb dX10_copy_7 rfl (lv_at hl 3 rfl) ?_
    refine g_cSi (As := [.int x3]) (rest := []) E hl.1 (c_X10_isSheet l D cy ad ha hw _) ok_X10_isSheet mw_1363 ⟨(Nat.le_of_ble_eq_true rfl), (Nat.le_of_ble_eq_true rfl)⟩ ⟨rfl, rfl⟩ rfl rfl (Nat.le_of_ble_eq_true rfl) ⟨Nat.zero_le _, Nat.zero_le _⟩ hP hS dX10_copy_8 (fun r3 s3 hw H locs hP hS => ?_)
    obtain ⟨z3, hw⟩ := hw
    refine lv_if_ne (tgt := 17) hx hb dX10_copy_11 (by decide) (fun c4 => ?_) (fun c4 => ?_)
    · replace hw := hw.1 c4
      refine lv_aload_n hx hb dX10_copy_17 rfl (lv_at hl 0 rfl) ?_
      refine fX10_4 E hP mw_950 dX10_copy_18 ?_
      refine lv_iload_n hx hb dX10_copy_21 rfl (lv_at hl 1 rfl) ?_
      obtain ⟨h5, hw⟩ := hw
      refine aM4 E hP h5 dX10_copy_22 ?_
      refine lv_if_lt (tgt := 35) hx hb dX10_copy_23 (by decide) (fun c6 => ?_) (fun c6 => ?_)
      · replace hw := hw.1 c6
        refine g_ldcw (v := -1000000011) E mw_1371 dX10_copy_35 ?_
        exact g_iret E hw hP hS dX10_copy_38
      · replace hw := hw.2 c6
        refine lv_aload_n hx hb dX10_copy_26 rfl (lv_at hl 0 rfl) ?_
        refine fX10_4 E hP mw_950 dX10_copy_27 ?_
        refine lv_iload_n hx hb dX10_copy_30 rfl (lv_at hl 3 rfl) ?_
        obtain ⟨h7, hw⟩ := hw
        refine aM4 E hP h7 dX10_copy_31 ?_
        refine lv_if_ge (tgt := 39) hx hb dX10_copy_32 (by decide) (fun c8 => ?_) (fun c8 => ?_)
        · replace hw := hw.1 c8
          refine lv_aload_n hx hb dX10_copy_39 rfl (lv_at hl 0 rfl) ?_
          refine fX10_4 E hP mw_950 dX10_copy_40 ?_
          refine lv_iload_n hx hb dX10_copy_43 rfl (lv_at hl 1 rfl) ?_
          obtain ⟨h9, hw⟩ := hw
          refine aM4 E hP h9 dX10_copy_44 ?_
          refine lv_aload_n hx hb dX10_copy_45 rfl (lv_at hl 0 rfl) ?_
          refine fX10_4 E hP mw_950 dX10_copy_46 ?_
          refine lv_iload_n hx hb dX10_copy_49 rfl (lv_at hl 3 rfl) ?_
          obtain ⟨h10, hw⟩ := hw
          refine aM4 E hP h10 dX10_copy_50 ?_
          refine lv_icmp_eq (tgt := 57) hx hb dX10_copy_51 (by decide) (fun c11 => ?_) (fun c11 => ?_)
          · replace hw := hw.1 c11
            refine lv_iload_n hx hb dX10_copy_57 rfl (lv_at hl 2 rfl) ?_
            refine lv_if_lt (tgt := 106) hx hb dX10_copy_58 (by decide) (fun c12 => ?_) (fun c12 => ?_)
            · replace hw := hw.1 c12
              refine g_ldcw (v := -1000000013) E mw_1372 dX10_copy_106 ?_
              exact g_iret E hw hP hS dX10_copy_109
            · replace hw := hw.2 c12
              refine lv_iload hx hb dX10_copy_61 (lv_at hl 4 rfl) ?_
              refine lv_if_lt (tgt := 106) hx hb dX10_copy_63 (by decide) (fun c13 => ?_) (fun c13 => ?_)
              · replace hw := hw.1 c13
                refine g_ldcw (v := -1000000013) E mw_1372 dX10_copy_106 ?_
                exact g_iret E hw hP hS dX10_copy_109
              · replace hw := hw.2 c13
                refine lv_iload hx hb dX10_copy_66 (lv_at hl 5 rfl) ?_
                refine lv_if_lt (tgt := 106) hx hb dX10_copy_68 (by decide) (fun c14 => ?_) (fun c14 => ?_)
                · replace hw := hw.1 c14
                  refine g_ldcw (v := -1000000013) E mw_1372 dX10_copy_106 ?_
                  exact g_iret E hw hP hS dX10_copy_109
                · replace hw := hw.2 c14
                  refine lv_iload_n hx hb dX10_copy_71 rfl (lv_at hl 2 rfl) ?_
                  refine lv_i2l (v := x2.toInt64) hx hb dX10_copy_72 rfl ?_
                  refine lv_iload hx hb dX10_copy_73 (lv_at hl 5 rfl) ?_
                  refine lv_i2l (v := x5.toInt64) hx hb dX10_copy_75 rfl ?_
                  refine lv_ladd hx hb dX10_copy_76 ?_
                  refine lv_aload_n hx hb dX10_copy_77 rfl (lv_at hl 0 rfl) ?_
                  refine fX10_5 E hP mw_951 dX10_copy_78 ?_
                  refine lv_iload_n hx hb dX10_copy_81 rfl (lv_at hl 1 rfl) ?_
                  obtain ⟨h15, hw⟩ := hw
                  refine aM5 E hP h15 dX10_copy_82 ?_
                  refine lv_i2l (v := (s3 5 0 x1.toNatClampNeg).toInt64) hx hb dX10_copy_83 rfl ?_
                  refine W.lcmp hx hb dX10_copy_84 ?_
                  refine lv_if_gt (tgt := 106) hx hb dX10_copy_85 (by decide) (fun c16 => ?_) (fun c16 => ?_)
                  · replace hw := hw.1 c16
                    refine g_ldcw (v := -1000000013) E mw_1372 dX10_copy_106 ?_
                    exact g_iret E hw hP hS dX10_copy_109
                  · replace hw := hw.2 c16
                    refine lv_iload hx hb dX10_copy_88 (lv_at hl 4 rfl) ?_
                    refine lv_i2l (v := x4.toInt64) hx hb dX10_copy_90 rfl ?_
                    refine lv_iload hx hb dX10_copy_91 (lv_at hl 5 rfl) ?_
                    refine lv_i2l (v := x5.toInt64) hx hb dX10_copy_93 rfl ?_
                    refine lv_ladd hx hb dX10_copy_94 ?_
                    refine lv_aload_n hx hb dX10_copy_95 rfl (lv_at hl 0 rfl) ?_
                    refine fX10_5 E hP mw_951 dX10_copy_96 ?_
                    refine lv_iload_n hx hb dX10_copy_99 rfl (lv_at hl 3 rfl) ?_
                    obtain ⟨h17, hw⟩ := hw
                    refine aM5 E hP h17 dX10_copy_100 ?_
                    refine lv_i2l (v := (s3 5 0 x3.toNatClampNeg).toInt64) hx hb dX10_copy_101 rfl ?_
                    refine W.lcmp hx hb dX10_copy_102 ?_
                    refine lv_if_le (tgt := 110) hx hb dX10_copy_103 (by decide) (fun c18 => ?_) (fun c18 => ?_)
                    · replace hw := hw.1 c18
                      refine lv_iconst (v := 0) hx hb dX10_copy_110 (by decide) ?_
                      refine lv_istore (lv' := [(6, .int 0), (0, .ref (ad 0 0)), (1, .int x1), (2, .int x2), (3, .int x3), (4, .int x4), (5, .int x5)]) hx hb dX10_copy_111 hl (by decide) rfl (fun ls hl => ?_)
                      obtain ⟨n19, hw⟩ := hw
                      exact L_X10_copy_113 E ha n19 s3 x1 x2 x3 x4 x5 (0 : Int32) hw _ _ _ hP hS (lv_sub hl [1, 2, 3, 4, 5, 6, 0] rfl)
                    · replace hw := hw.2 c18
                      refine g_ldcw (v := -1000000013) E mw_1372 dX10_copy_106 ?_
                      exact g_iret E hw hP hS dX10_copy_109
          · replace hw := hw.2 c11
            refine g_ldc (v := -1000000012) E mw_1105 dX10_copy_54 ?_
            exact g_iret E hw hP hS dX10_copy_56
        · replace hw := hw.2 c8
          refine g_ldcw (v := -1000000011) E mw_1371 dX10_copy_35 ?_
          exact g_iret E hw hP hS dX10_copy_38
    · replace hw := hw.2 c4
      refine g_ldc (v := -1000000001) E mw_1063 dX10_copy_14 ?_
      exact g_iret E hw hP hS dX10_copy_16
theorem c_X10_copy (l : Launch) (D : va_G) (cy : Nat → ClassId) (ad : Nat → Nat → Nat) (ha : Apart regsM ad) {post : Int32 → St → Prop} {σ : St} {x1 : Int32} {x2 : Int32} {x3 : Int32} {x4 : Int32} {x5 : Int32} (hw : w_X10_copy post σ x1 x2 x3 x4 x5) (sz : Nat) : MetI l yX10_copy cX10_copy 7 .int rm_X10_copy [.ref (ad 0 0), .int x1, .int x2, .int x3, .int x4, .int x5] D cy (cellM cy ad) regsM ad σ sz post :=
  Met_inI ok_X10_copy.2.2.2.2.2 (Nat.le_of_ble_eq_true rfl) (fun p e s m below meth c ls E hP hl => B_X10_copy_0 E ha hw hP va_S.rf hl)
-- RoofWarModel.isSlot(I)Z
theorem dX10_isSlot_0 : decode cX10_isSlot 0 = .ok (.iload_n 0, 1) := by decide +kernel
theorem dX10_isSlot_1 : decode cX10_isSlot 1 = .ok (.i2l, 1) := by decide +kernel
theorem dX10_isSlot_2 : decode cX10_isSlot 2 = .ok (.lconst 0, 1) := by decide +kernel
theorem dX10_isSlot_3 : decode cX10_isSlot 3 = .ok (.ldc2_w 346, 3) := by decide +kernel
theorem dX10_isSlot_6 : decode cX10_isSlot 6 = .ok (.invokestatic 71, 3) := by decide +kernel
theorem dX10_isSlot_9 : decode cX10_isSlot 9 = .ok (.ireturn, 1) := by decide +kernel
theorem ok_X10_isSlot : okS yX10_isSlot cX10_isSlot 1 (some .boolean) 1 := ⟨mw_1399, mw_83, mw_1400, by decide +kernel, by decide +kernel⟩
abbrev rm_X10_isSlot : Room := { frames := 1, cells := 0, slots := 0, locals := 25 }
def w_X10_isSlot (post : Int32 → St → Prop) (σ : St) (x0 : Int32) : Prop := w_X10_isIn (fun r1 s1 => post r1 s1) σ x0.toInt64 ((0 : Int64)) ((4 : Int64))
theorem B_X10_isSlot_0 (E : EnvW p s m args meth c D cy regsM ad "RoofWarModel" cX10_isSlot 1 (some .boolean)) (ha : Apart regsM ad) {post : Int32 → St → Prop} {σ : St} {x0 : Int32} (hw : w_X10_isSlot post σ x0) {H : Heap} {locs : List Loc} {ls : Array Slot} (hP : va_P D CLS (wM cy ad σ) H) (hS : va_S (AM ad s.heap.size) s.heap H locs) (hl : lv_has ls 1 [(0, .int x0)]) : W p l e rm_X10_isSlot s m args below meth c H locs 0 0 (MQ below (QI D cy (cellM cy ad) regsM ad s.heap.size (fun r u => (r = 0 ∨ r = 1) ∧ post r u)) args s 0 0 (AM ad s.heap.size)) (F0 m 0 ls []) := by
  obtain ⟨hx, hb, -⟩ := id E
  unfold w_X10_isSlot at hw
  refine lv_iload_n hx hb dX10_isSlot_0 rfl (lv_at hl 0 rfl) ?_
  refine lv_i2l (v := x0.toInt64) hx hb dX10_isSlot_1 rfl ?_
  refine lv_lconst (v := 0) hx hb dX10_isSlot_2 (by decide) ?_
  refine g_ldc2 (v := 4) E mw_1401 dX10_isSlot_3 ?_
  refine g_cSi (As := [.long x0.toInt64, .long ((0 : Int64)), .long ((4 : Int64))]) (rest := []) E hl.1 (c_X10_isIn l D cy ad ha hw _) ok_X10_isIn mw_1054 ⟨(Nat.le_of_ble_eq_true rfl), (Nat.le_of_ble_eq_true rfl)⟩ ⟨rfl, rfl⟩ rfl rfl (Nat.le_of_ble_eq_true rfl) ⟨Nat.zero_le _, Nat.zero_le _⟩ hP hS dX10_isSlot_6 (fun r1 s1 hw H locs hP hS => ?_)
  obtain ⟨z1, hw⟩ := hw
  exact g_zret E z1 hw hP hS dX10_isSlot_9
theorem c_X10_isSlot (l : Launch) (D : va_G) (cy : Nat → ClassId) (ad : Nat → Nat → Nat) (ha : Apart regsM ad) {post : Int32 → St → Prop} {σ : St} {x0 : Int32} (hw : w_X10_isSlot post σ x0) (sz : Nat) : MetI l yX10_isSlot cX10_isSlot 1 .boolean rm_X10_isSlot [.int x0] D cy (cellM cy ad) regsM ad σ sz (fun r u => (r = 0 ∨ r = 1) ∧ post r u) :=
  Met_inI ok_X10_isSlot.2.2.2.2 (Nat.le_of_ble_eq_true rfl) (fun p e s m below meth c ls E hP hl => B_X10_isSlot_0 E ha hw hP va_S.rf hl)
-- RoofWarModel.lay(III)I
theorem dX10_lay_0 : decode cX10_lay 0 = .ok (.iload_n 2, 1) := by decide +kernel
theorem dX10_lay_1 : decode cX10_lay 1 = .ok (.ifCond .eq 33, 3) := by decide +kernel
theorem dX10_lay_4 : decode cX10_lay 4 = .ok (.iload_n 2, 1) := by decide +kernel
theorem dX10_lay_5 : decode cX10_lay 5 = .ok (.iconst 3, 1) := by decide +kernel
theorem dX10_lay_6 : decode cX10_lay 6 = .ok (.if_icmp .eq 28, 3) := by decide +kernel
theorem dX10_lay_9 : decode cX10_lay 9 = .ok (.iload_n 2, 1) := by decide +kernel
theorem dX10_lay_10 : decode cX10_lay 10 = .ok (.iconst 1, 1) := by decide +kernel
theorem dX10_lay_11 : decode cX10_lay 11 = .ok (.if_icmp .ne 11, 3) := by decide +kernel
theorem dX10_lay_14 : decode cX10_lay 14 = .ok (.aload_n 0, 1) := by decide +kernel
theorem dX10_lay_15 : decode cX10_lay 15 = .ok (.iload_n 3, 1) := by decide +kernel
theorem dX10_lay_16 : decode cX10_lay 16 = .ok (.invokevirtual 107, 3) := by decide +kernel
theorem dX10_lay_19 : decode cX10_lay 19 = .ok (.ifCond .ne 15, 3) := by decide +kernel
theorem dX10_lay_22 : decode cX10_lay 22 = .ok (.iload_n 2, 1) := by decide +kernel
theorem dX10_lay_23 : decode cX10_lay 23 = .ok (.iconst 2, 1) := by decide +kernel
theorem dX10_lay_24 : decode cX10_lay 24 = .ok (.if_icmp .ne 14, 3) := by decide +kernel
theorem dX10_lay_27 : decode cX10_lay 27 = .ok (.iload_n 3, 1) := by decide +kernel
theorem dX10_lay_28 : decode cX10_lay 28 = .ok (.invokestatic 333, 3) := by decide +kernel
theorem dX10_lay_31 : decode cX10_lay 31 = .ok (.ifCond .eq 7, 3) := by decide +kernel
theorem dX10_lay_34 : decode cX10_lay 34 = .ok (.iconst 1, 1) := by decide +kernel
theorem dX10_lay_35 : decode cX10_lay 35 = .ok (.goto 4, 3) := by decide +kernel
theorem dX10_lay_38 : decode cX10_lay 38 = .ok (.iconst 0, 1) := by decide +kernel
theorem dX10_lay_39 : decode cX10_lay 39 = .ok (.istore 4, 2) := by decide +kernel
theorem dX10_lay_41 : decode cX10_lay 41 = .ok (.iload_n 1, 1) := by decide +kernel
theorem dX10_lay_42 : decode cX10_lay 42 = .ok (.invokestatic 348, 3) := by decide +kernel
theorem dX10_lay_45 : decode cX10_lay 45 = .ok (.ifCond .eq 8, 3) := by decide +kernel
theorem dX10_lay_48 : decode cX10_lay 48 = .ok (.iload 4, 2) := by decide +kernel
theorem dX10_lay_50 : decode cX10_lay 50 = .ok (.ifCond .ne 6, 3) := by decide +kernel
theorem dX10_lay_53 : decode cX10_lay 53 = .ok (.ldc 96, 2) := by decide +kernel
theorem dX10_lay_55 : decode cX10_lay 55 = .ok (.ireturn, 1) := by decide +kernel
theorem dX10_lay_56 : decode cX10_lay 56 = .ok (.iload_n 2, 1) := by decide +kernel
theorem dX10_lay_57 : decode cX10_lay 57 = .ok (.iconst 2, 1) := by decide +kernel
theorem dX10_lay_58 : decode cX10_lay 58 = .ok (.if_icmp .ne 16, 3) := by decide +kernel
theorem dX10_lay_61 : decode cX10_lay 61 = .ok (.aload_n 0, 1) := by decide +kernel
theorem dX10_lay_62 : decode cX10_lay 62 = .ok (.getfield 19, 3) := by decide +kernel
theorem dX10_lay_65 : decode cX10_lay 65 = .ok (.iload_n 3, 1) := by decide +kernel
theorem dX10_lay_66 : decode cX10_lay 66 = .ok (.iaload, 1) := by decide +kernel
theorem dX10_lay_67 : decode cX10_lay 67 = .ok (.ifCond .ge 7, 3) := by decide +kernel
theorem dX10_lay_70 : decode cX10_lay 70 = .ok (.ldc_w 337, 3) := by decide +kernel
theorem dX10_lay_73 : decode cX10_lay 73 = .ok (.ireturn, 1) := by decide +kernel
theorem dX10_lay_74 : decode cX10_lay 74 = .ok (.aload_n 0, 1) := by decide +kernel
theorem dX10_lay_75 : decode cX10_lay 75 = .ok (.getfield 28, 3) := by decide +kernel
theorem dX10_lay_78 : decode cX10_lay 78 = .ok (.iload_n 1, 1) := by decide +kernel
theorem dX10_lay_79 : decode cX10_lay 79 = .ok (.iaload, 1) := by decide +kernel
theorem dX10_lay_80 : decode cX10_lay 80 = .ok (.istore 5, 2) := by decide +kernel
theorem dX10_lay_82 : decode cX10_lay 82 = .ok (.aload_n 0, 1) := by decide +kernel
theorem dX10_lay_83 : decode cX10_lay 83 = .ok (.getfield 28, 3) := by decide +kernel
theorem dX10_lay_86 : decode cX10_lay 86 = .ok (.iload_n 1, 1) := by decide +kernel
theorem dX10_lay_87 : decode cX10_lay 87 = .ok (.iload_n 2, 1) := by decide +kernel
theorem dX10_lay_88 : decode cX10_lay 88 = .ok (.iastore, 1) := by decide +kernel
theorem dX10_lay_89 : decode cX10_lay 89 = .ok (.aload_n 0, 1) := by decide +kernel
theorem dX10_lay_90 : decode cX10_lay 90 = .ok (.getfield 31, 3) := by decide +kernel
theorem dX10_lay_93 : decode cX10_lay 93 = .ok (.iload_n 1, 1) := by decide +kernel
theorem dX10_lay_94 : decode cX10_lay 94 = .ok (.iload_n 2, 1) := by decide +kernel
theorem dX10_lay_95 : decode cX10_lay 95 = .ok (.iconst 1, 1) := by decide +kernel
theorem dX10_lay_96 : decode cX10_lay 96 = .ok (.if_icmp .ne 12, 3) := by decide +kernel
theorem dX10_lay_99 : decode cX10_lay 99 = .ok (.aload_n 0, 1) := by decide +kernel
theorem dX10_lay_100 : decode cX10_lay 100 = .ok (.iload_n 3, 1) := by decide +kernel
theorem dX10_lay_101 : decode cX10_lay 101 = .ok (.iconst 0, 1) := by decide +kernel
theorem dX10_lay_102 : decode cX10_lay 102 = .ok (.invokevirtual 78, 3) := by decide +kernel
theorem dX10_lay_105 : decode cX10_lay 105 = .ok (.goto 4, 3) := by decide +kernel
theorem dX10_lay_108 : decode cX10_lay 108 = .ok (.iload_n 3, 1) := by decide +kernel
theorem dX10_lay_109 : decode cX10_lay 109 = .ok (.iastore, 1) := by decide +kernel
theorem dX10_lay_110 : decode cX10_lay 110 = .ok (.aload_n 0, 1) := by decide +kernel
theorem dX10_lay_111 : decode cX10_lay 111 = .ok (.getfield 34, 3) := by decide +kernel
theorem dX10_lay_114 : decode cX10_lay 114 = .ok (.iload_n 1, 1) := by decide +kernel
theorem dX10_lay_115 : decode cX10_lay 115 = .ok (.iload_n 2, 1) := by decide +kernel
theorem dX10_lay_116 : decode cX10_lay 116 = .ok (.iconst 1, 1) := by decide +kernel
theorem dX10_lay_117 : decode cX10_lay 117 = .ok (.if_icmp .ne 11, 3) := by decide +kernel
theorem dX10_lay_120 : decode cX10_lay 120 = .ok (.aload_n 0, 1) := by decide +kernel
theorem dX10_lay_121 : decode cX10_lay 121 = .ok (.iload_n 3, 1) := by decide +kernel
theorem dX10_lay_122 : decode cX10_lay 122 = .ok (.invokevirtual 121, 3) := by decide +kernel
theorem dX10_lay_125 : decode cX10_lay 125 = .ok (.goto 4, 3) := by decide +kernel
theorem dX10_lay_128 : decode cX10_lay 128 = .ok (.iconst 0, 1) := by decide +kernel
theorem dX10_lay_129 : decode cX10_lay 129 = .ok (.iastore, 1) := by decide +kernel
theorem dX10_lay_130 : decode cX10_lay 130 = .ok (.iload_n 2, 1) := by decide +kernel
theorem dX10_lay_131 : decode cX10_lay 131 = .ok (.iconst 2, 1) := by decide +kernel
theorem dX10_lay_132 : decode cX10_lay 132 = .ok (.if_icmp .ne 55, 3) := by decide +kernel
theorem dX10_lay_135 : decode cX10_lay 135 = .ok (.aload_n 0, 1) := by decide +kernel
theorem dX10_lay_136 : decode cX10_lay 136 = .ok (.getfield 37, 3) := by decide +kernel
theorem dX10_lay_139 : decode cX10_lay 139 = .ok (.iload_n 1, 1) := by decide +kernel
theorem dX10_lay_140 : decode cX10_lay 140 = .ok (.aload_n 0, 1) := by decide +kernel
theorem dX10_lay_141 : decode cX10_lay 141 = .ok (.getfield 22, 3) := by decide +kernel
theorem dX10_lay_144 : decode cX10_lay 144 = .ok (.iload_n 3, 1) := by decide +kernel
theorem dX10_lay_145 : decode cX10_lay 145 = .ok (.iaload, 1) := by decide +kernel
theorem dX10_lay_146 : decode cX10_lay 146 = .ok (.iastore, 1) := by decide +kernel
theorem dX10_lay_147 : decode cX10_lay 147 = .ok (.iconst 0, 1) := by decide +kernel
theorem dX10_lay_148 : decode cX10_lay 148 = .ok (.istore 6, 2) := by decide +kernel
theorem dX10_lay_150 : decode cX10_lay 150 = .ok (.iload 6, 2) := by decide +kernel
theorem dX10_lay_152 : decode cX10_lay 152 = .ok (.bipush 24, 2) := by decide +kernel
theorem dX10_lay_154 : decode cX10_lay 154 = .ok (.if_icmp .ge 33, 3) := by decide +kernel
theorem dX10_lay_157 : decode cX10_lay 157 = .ok (.aload_n 0, 1) := by decide +kernel
theorem dX10_lay_158 : decode cX10_lay 158 = .ok (.getfield 40, 3) := by decide +kernel
theorem dX10_lay_161 : decode cX10_lay 161 = .ok (.bipush 24, 2) := by decide +kernel
theorem dX10_lay_163 : decode cX10_lay 163 = .ok (.iload_n 1, 1) := by decide +kernel
theorem dX10_lay_164 : decode cX10_lay 164 = .ok (.imul, 1) := by decide +kernel
theorem dX10_lay_165 : decode cX10_lay 165 = .ok (.iload 6, 2) := by decide +kernel
theorem dX10_lay_167 : decode cX10_lay 167 = .ok (.iadd, 1) := by decide +kernel
theorem dX10_lay_168 : decode cX10_lay 168 = .ok (.aload_n 0, 1) := by decide +kernel
theorem dX10_lay_169 : decode cX10_lay 169 = .ok (.getfield 25, 3) := by decide +kernel
theorem dX10_lay_172 : decode cX10_lay 172 = .ok (.bipush 24, 2) := by decide +kernel
theorem dX10_lay_174 : decode cX10_lay 174 = .ok (.iload_n 3, 1) := by decide +kernel
theorem dX10_lay_175 : decode cX10_lay 175 = .ok (.imul, 1) := by decide +kernel
theorem dX10_lay_176 : decode cX10_lay 176 = .ok (.iload 6, 2) := by decide +kernel
theorem dX10_lay_178 : decode cX10_lay 178 = .ok (.iadd, 1) := by decide +kernel
theorem dX10_lay_179 : decode cX10_lay 179 = .ok (.iaload, 1) := by decide +kernel
theorem dX10_lay_180 : decode cX10_lay 180 = .ok (.iastore, 1) := by decide +kernel
theorem dX10_lay_181 : decode cX10_lay 181 = .ok (.iinc 6 1, 3) := by decide +kernel
theorem dX10_lay_184 : decode cX10_lay 184 = .ok (.goto (-34), 3) := by decide +kernel
theorem dX10_lay_187 : decode cX10_lay 187 = .ok (.iload 5, 2) := by decide +kernel
theorem dX10_lay_189 : decode cX10_lay 189 = .ok (.ireturn, 1) := by decide +kernel
theorem ok_X10_lay : okV yX10_lay cX10_lay 7 (some .int) 3 := ⟨mw_1395, mw_1396, mw_83, mw_1397, by decide +kernel, by decide +kernel⟩
abbrev rm_X10_lay : Room := { frames := 2, cells := 0, slots := 0, locals := 46 }
def b_X10_lay_150 (K150 : St → Int32 → Int32 → Int32 → Int32 → Prop) (post : Int32 → St → Prop) (σ : St) (x1 : Int32) (x3 : Int32) (x5 : Int32) (x6 : Int32) : Prop := ((24 ≤ x6 → (post x5 σ)) ∧ (¬ 24 ≤ x6 → (vp_in ((24 * x3) + x6) 96 ∧ (vp_in ((24 * x1) + x6) 120 ∧ (∀ s4 : St, s4 = wr σ 11 0 ((24 * x1) + x6).toNatClampNeg (σ 6 0 ((24 * x3) + x6).toNatClampNeg) → (∀ v5 : Int32, v5 = x6 + 1 → (K150 s4 x1 x3 x5 v5)))))))
noncomputable def l_X10_lay_150 (post : Int32 → St → Prop) : Nat → St → Int32 → Int32 → Int32 → Int32 → Prop := fun n => Nat.rec (motive := fun _ => St → Int32 → Int32 → Int32 → Int32 → Prop) (fun _ _ _ _ _ => False) (fun _ ih => b_X10_lay_150 ih post) n
theorem L_X10_lay_150 (E : EnvW p s m args meth c D cy regsM ad "RoofWarModel" cX10_lay 7 (some .int)) (ha : Apart regsM ad) {post : Int32 → St → Prop} : ∀ (n : Nat), ∀ (σ : St) (x1 : Int32) (x3 : Int32) (x5 : Int32) (x6 : Int32), l_X10_lay_150 post n σ x1 x3 x5 x6 → ∀ (H : Heap) (locs : List Loc) (ls : Array Slot), va_P D CLS (wM cy ad σ) H → va_S (AM ad s.heap.size) s.heap H locs → lv_has ls 7 [(0, .ref (ad 0 0)), (1, .int x1), (3, .int x3), (5, .int x5), (6, .int x6)] → W p l e rm_X10_lay s m args below meth c H locs 0 0 (MQ below (QI D cy (cellM cy ad) regsM ad s.heap.size post) args s 0 0 (AM ad s.heap.size)) (F0 m 150 ls []) := by
  obtain ⟨hx, hb, -⟩ := id E
  intro n
  induction n with
  | zero => intro σ x1 x3 x5 x6 hw; exact hw.elim
  | succ n hk150 =>
    intro σ x1 x3 x5 x6 hw H locs ls hP hS hl
    replace hw : b_X10_lay_150 (l_X10_lay_150 post n) post σ x1 x3 x5 x6 := hw
    unfold b_X10_lay_150 at hw
    refine lv_iload hx hb dX10_lay_150 (lv_at hl 4 rfl) ?_
    refine lv_bipush (v := 24) hx hb dX10_lay_152 (by decide) ?_
    refine lv_icmp_ge (tgt := 187) hx hb dX10_lay_154 (by decide) (fun c1 => ?_) (fun c1 => ?_)
    · replace hw := hw.1 c1
      refine lv_iload hx hb dX10_lay_187 (lv_at hl 3 rfl) ?_
      exact g_iret E hw hP hS dX10_lay_189
    · replace hw := hw.2 c1
      refine lv_aload_n hx hb dX10_lay_157 rfl (lv_at hl 0 rfl) ?_
      refine fX10_11 E hP mw_957 dX10_lay_158 ?_
      refine lv_bipush (v := 24) hx hb dX10_lay_161 (by decide) ?_
      refine lv_iload_n hx hb dX10_lay_163 rfl (lv_at hl 1 rfl) ?_
      refine lv_imul hx hb dX10_lay_164 ?_
      refine lv_iload hx hb dX10_lay_165 (lv_at hl 4 rfl) ?_
      refine lv_iadd hx hb dX10_lay_167 ?_
      refine lv_aload_n hx hb dX10_lay_168 rfl (lv_at hl 0 rfl) ?_
      refine fX10_6 E hP mw_952 dX10_lay_169 ?_
      refine lv_bipush (v := 24) hx hb dX10_lay_172 (by decide) ?_
      refine lv_iload_n hx hb dX10_lay_174 rfl (lv_at hl 2 rfl) ?_
      refine lv_imul hx hb dX10_lay_175 ?_
      refine lv_iload hx hb dX10_lay_176 (lv_at hl 4 rfl) ?_
      refine lv_iadd hx hb dX10_lay_178 ?_
      obtain ⟨h2, hw⟩ := hw
      refine aM6 E hP h2 dX10_lay_179 ?_
      obtain ⟨h3, hw⟩ := hw
      refine tM11 E ha h3 dX10_lay_180 hP hS (fun s4 es4 H locs hP hS => ?_)
      replace hw := hw s4 es4
      obtain ⟨v5, ev5⟩ : ∃ y : Int32, y = x6 + 1 := ⟨_, rfl⟩
      replace hw := hw v5 ev5
      refine lv_iinc (v := v5) (lv' := [(6, .int v5), (0, .ref (ad 0 0)), (1, .int x1), (3, .int x3), (5, .int x5)]) hx hb dX10_lay_181 hl (k := 4) rfl (by rw [ev5]; rfl) (by decide) rfl (fun ls hl => ?_)
      refine lv_goto (tgt := 150) hx hb dX10_lay_184 (by decide) ?_
      exact hk150 s4 x1 x3 x5 v5 hw _ _ _ hP hS (lv_sub hl [1, 2, 3, 4, 0] rfl)
def b_X10_lay_129 (post : Int32 → St → Prop) (σ : St) (y0 : Int32) (y1 : Int32) (x1 : Int32) (x2 : Int32) (x3 : Int32) (x5 : Int32) : Prop := vp_in y1 5 ∧ (∀ s2 : St, s2 = wr σ 9 0 y1.toNatClampNeg y0 → (((¬ x2 = 2 → (post x5 s2)) ∧ (x2 = 2 → (vp_in x3 4 ∧ (vp_in x1 5 ∧ (∀ s6 : St, s6 = wr s2 10 0 x1.toNatClampNeg (s2 5 0 x3.toNatClampNeg) → (∃ n7 : Nat, l_X10_lay_150 post n7 s6 x1 x3 x5 (0 : Int32)))))))))
theorem B_X10_lay_129 (E : EnvW p s m args meth c D cy regsM ad "RoofWarModel" cX10_lay 7 (some .int)) (ha : Apart regsM ad) {post : Int32 → St → Prop} {σ : St} {y0 : Int32} {y1 : Int32} {x1 : Int32} {x2 : Int32} {x3 : Int32} {x5 : Int32} (hw : b_X10_lay_129 post σ y0 y1 x1 x2 x3 x5) {H : Heap} {locs : List Loc} {ls : Array Slot} (hP : va_P D CLS (wM cy ad σ) H) (hS : va_S (AM ad s.heap.size) s.heap H locs) (hl : lv_has ls 7 [(0, .ref (ad 0 0)), (1, .int x1), (2, .int x2), (3, .int x3), (5, .int x5)]) : W p l e rm_X10_lay s m args below meth c H locs 0 0 (MQ below (QI D cy (cellM cy ad) regsM ad s.heap.size post) args s 0 0 (AM ad s.heap.size)) (F0 m 129 ls [.int y0, .int y1, .ref (ad 9 0)]) := by
  obtain ⟨hx, hb, -⟩ := id E
  unfold b_X10_lay_129 at hw
  obtain ⟨h1, hw⟩ := hw
  refine tM9 E ha h1 dX10_lay_129 hP hS (fun s2 es2 H locs hP hS => ?_)
  replace hw := hw s2 es2
  refine lv_iload_n hx hb dX10_lay_130 rfl (lv_at hl 2 rfl) ?_
  refine lv_iconst (v := 2) hx hb dX10_lay_131 (by decide) ?_
  refine lv_icmp_ne (tgt := 187) hx hb dX10_lay_132 (by decide) (fun c3 => ?_) (fun c3 => ?_)
  · replace hw := hw.1 c3
    refine lv_iload hx hb dX10_lay_187 (lv_at hl 4 rfl) ?_
    exact g_iret E hw hP hS dX10_lay_189
  · replace hw := hw.2 c3
    refine lv_aload_n hx hb dX10_lay_135 rfl (lv_at hl 0 rfl) ?_
    refine fX10_10 E hP mw_956 dX10_lay_136 ?_
    refine lv_iload_n hx hb dX10_lay_139 rfl (lv_at hl 1 rfl) ?_
    refine lv_aload_n hx hb dX10_lay_140 rfl (lv_at hl 0 rfl) ?_
    refine fX10_5 E hP mw_951 dX10_lay_141 ?_
    refine lv_iload_n hx hb dX10_lay_144 rfl (lv_at hl 3 rfl) ?_
    obtain ⟨h4, hw⟩ := hw
    refine aM5 E hP h4 dX10_lay_145 ?_
    obtain ⟨h5, hw⟩ := hw
    refine tM10 E ha h5 dX10_lay_146 hP hS (fun s6 es6 H locs hP hS => ?_)
    replace hw := hw s6 es6
    refine lv_iconst (v := 0) hx hb dX10_lay_147 (by decide) ?_
    refine lv_istore (lv' := [(6, .int 0), (0, .ref (ad 0 0)), (1, .int x1), (2, .int x2), (3, .int x3), (5, .int x5)]) hx hb dX10_lay_148 hl (by decide) rfl (fun ls hl => ?_)
    obtain ⟨n7, hw⟩ := hw
    exact L_X10_lay_150 E ha n7 s6 x1 x3 x5 (0 : Int32) hw _ _ _ hP hS (lv_sub hl [1, 2, 4, 5, 0] rfl)
def b_X10_lay_109 (post : Int32 → St → Prop) (σ : St) (y0 : Int32) (y1 : Int32) (x1 : Int32) (x2 : Int32) (x3 : Int32) (x5 : Int32) : Prop := vp_in y1 5 ∧ (∀ s2 : St, s2 = wr σ 8 0 y1.toNatClampNeg y0 → (((¬ x2 = 1 → (b_X10_lay_129 post s2 (0 : Int32) x1 x1 x2 x3 x5)) ∧ (x2 = 1 → (w_X10_worth (fun r4 s4 => b_X10_lay_129 post s4 r4 x1 x1 x2 x3 x5) s2 x3)))))
theorem B_X10_lay_109 (E : EnvW p s m args meth c D cy regsM ad "RoofWarModel" cX10_lay 7 (some .int)) (ha : Apart regsM ad) {post : Int32 → St → Prop} {σ : St} {y0 : Int32} {y1 : Int32} {x1 : Int32} {x2 : Int32} {x3 : Int32} {x5 : Int32} (hw : b_X10_lay_109 post σ y0 y1 x1 x2 x3 x5) {H : Heap} {locs : List Loc} {ls : Array Slot} (hP : va_P D CLS (wM cy ad σ) H) (hS : va_S (AM ad s.heap.size) s.heap H locs) (hl : lv_has ls 7 [(0, .ref (ad 0 0)), (1, .int x1), (2, .int x2), (3, .int x3), (5, .int x5)]) : W p l e rm_X10_lay s m args below meth c H locs 0 0 (MQ below (QI D cy (cellM cy ad) regsM ad s.heap.size post) args s 0 0 (AM ad s.heap.size)) (F0 m 109 ls [.int y0, .int y1, .ref (ad 8 0)]) := by
  obtain ⟨hx, hb, -⟩ := id E
  unfold b_X10_lay_109 at hw
  obtain ⟨h1, hw⟩ := hw
  refine tM8 E ha h1 dX10_lay_109 hP hS (fun s2 es2 H locs hP hS => ?_)
  replace hw := hw s2 es2
  refine lv_aload_n hx hb dX10_lay_110 rfl (lv_at hl 0 rfl) ?_
  refine fX10_9 E hP mw_955 dX10_lay_111 ?_
  refine lv_iload_n hx hb dX10_lay_114 rfl (lv_at hl 1 rfl) ?_
  refine lv_iload_n hx hb dX10_lay_115 rfl (lv_at hl 2 rfl) ?_
  refine lv_iconst (v := 1) hx hb dX10_lay_116 (by decide) ?_
  refine lv_icmp_ne (tgt := 128) hx hb dX10_lay_117 (by decide) (fun c3 => ?_) (fun c3 => ?_)
  · replace hw := hw.1 c3
    refine lv_iconst (v := 0) hx hb dX10_lay_128 (by decide) ?_
    exact B_X10_lay_129 E ha hw hP hS (lv_sub hl [0, 1, 2, 3, 4] rfl)
  · replace hw := hw.2 c3
    refine lv_aload_n hx hb dX10_lay_120 rfl (lv_at hl 0 rfl) ?_
    refine lv_iload_n hx hb dX10_lay_121 rfl (lv_at hl 3 rfl) ?_
    refine g_cVi (As := [.int x3]) (rest := [.int x1, .ref (ad 9 0)]) E hl.1 (c_X10_worth l D cy ad ha hw _) ok_X10_worth mw_1095 ⟨(Nat.le_of_ble_eq_true rfl), (Nat.le_of_ble_eq_true rfl)⟩ ⟨rfl, rfl⟩ rM0 rfl rfl rfl rfl rfl (Nat.le_of_ble_eq_true rfl) ⟨Nat.zero_le _, Nat.zero_le _⟩ hP hS dX10_lay_122 (fun r4 s4 hw H locs hP hS => ?_)
    refine lv_goto (tgt := 129) hx hb dX10_lay_125 (by decide) ?_
    exact B_X10_lay_129 E ha hw hP hS (lv_sub hl [0, 1, 2, 3, 4] rfl)
def b_X10_lay_74 (post : Int32 → St → Prop) (σ : St) (x1 : Int32) (x2 : Int32) (x3 : Int32) : Prop := vp_in x1 5 ∧ (∀ v2 : Int32, v2 = σ 7 0 x1.toNatClampNeg → (vp_in x1 5 ∧ (∀ s4 : St, s4 = wr σ 7 0 x1.toNatClampNeg x2 → (((¬ x2 = 1 → (b_X10_lay_109 post s4 x3 x1 x1 x2 x3 v2)) ∧ (x2 = 1 → (w_X10_of (fun r6 s6 => b_X10_lay_109 post s6 r6 x1 x1 x2 x3 v2) s4 x3 (0 : Int32))))))))
theorem B_X10_lay_74 (E : EnvW p s m args meth c D cy regsM ad "RoofWarModel" cX10_lay 7 (some .int)) (ha : Apart regsM ad) {post : Int32 → St → Prop} {σ : St} {x1 : Int32} {x2 : Int32} {x3 : Int32} (hw : b_X10_lay_74 post σ x1 x2 x3) {H : Heap} {locs : List Loc} {ls : Array Slot} (hP : va_P D CLS (wM cy ad σ) H) (hS : va_S (AM ad s.heap.size) s.heap H locs) (hl : lv_has ls 7 [(0, .ref (ad 0 0)), (1, .int x1), (2, .int x2), (3, .int x3)]) : W p l e rm_X10_lay s m args below meth c H locs 0 0 (MQ below (QI D cy (cellM cy ad) regsM ad s.heap.size post) args s 0 0 (AM ad s.heap.size)) (F0 m 74 ls []) := by
  obtain ⟨hx, hb, -⟩ := id E
  unfold b_X10_lay_74 at hw
  refine lv_aload_n hx hb dX10_lay_74 rfl (lv_at hl 0 rfl) ?_
  refine fX10_7 E hP mw_953 dX10_lay_75 ?_
  refine lv_iload_n hx hb dX10_lay_78 rfl (lv_at hl 1 rfl) ?_
  obtain ⟨h1, hw⟩ := hw
  refine aM7 E hP h1 dX10_lay_79 ?_
  refine lv_topi (fun v2 ev2 => ?_)
  replace hw := hw v2 ev2
  refine lv_istore (lv' := [(5, .int v2), (0, .ref (ad 0 0)), (1, .int x1), (2, .int x2), (3, .int x3)]) hx hb dX10_lay_80 hl (by decide) rfl (fun ls hl => ?_)
  refine lv_aload_n hx hb dX10_lay_82 rfl (lv_at hl 1 rfl) ?_
  refine fX10_7 E hP mw_953 dX10_lay_83 ?_
  refine lv_iload_n hx hb dX10_lay_86 rfl (lv_at hl 2 rfl) ?_
  refine lv_iload_n hx hb dX10_lay_87 rfl (lv_at hl 3 rfl) ?_
  obtain ⟨h3, hw⟩ := hw
  refine tM7 E ha h3 dX10_lay_88 hP hS (fun s4 es4 H locs hP hS => ?_)
  replace hw := hw s4 es4
  refine lv_aload_n hx hb dX10_lay_89 rfl (lv_at hl 1 rfl) ?_
  refine fX10_8 E hP mw_954 dX10_lay_90 ?_
  refine lv_iload_n hx hb dX10_lay_93 rfl (lv_at hl 2 rfl) ?_
  refine lv_iload_n hx hb dX10_lay_94 rfl (lv_at hl 3 rfl) ?_
  refine lv_iconst (v := 1) hx hb dX10_lay_95 (by decide) ?_
  refine lv_icmp_ne (tgt := 108) hx hb dX10_lay_96 (by decide) (fun c5 => ?_) (fun c5 => ?_)
  · replace hw := hw.1 c5
    refine lv_iload_n hx hb dX10_lay_108 rfl (lv_at hl 4 rfl) ?_
    exact B_X10_lay_109 E ha hw hP hS (lv_sub hl [1, 2, 3, 4, 0] rfl)
  · replace hw := hw.2 c5
    refine lv_aload_n hx hb dX10_lay_99 rfl (lv_at hl 1 rfl) ?_
    refine lv_iload_n hx hb dX10_lay_100 rfl (lv_at hl 4 rfl) ?_
    refine lv_iconst (v := 0) hx hb dX10_lay_101 (by decide) ?_
    refine g_cVi (As := [.int x3, .int 0]) (rest := [.int x1, .ref (ad 8 0)]) E hl.1 (c_X10_of l D cy ad ha hw _) ok_X10_of mw_1067 ⟨(Nat.le_of_ble_eq_true rfl), (Nat.le_of_ble_eq_true rfl)⟩ ⟨rfl, rfl⟩ rM0 rfl rfl rfl rfl rfl (Nat.le_of_ble_eq_true rfl) ⟨Nat.zero_le _, Nat.zero_le _⟩ hP hS dX10_lay_102 (fun r6 s6 hw H locs hP hS => ?_)
    refine lv_goto (tgt := 109) hx hb dX10_lay_105 (by decide) ?_
    exact B_X10_lay_109 E ha hw hP hS (lv_sub hl [1, 2, 3, 4, 0] rfl)
def b_X10_lay_39 (post : Int32 → St → Prop) (σ : St) (y0 : Int32) (x1 : Int32) (x2 : Int32) (x3 : Int32) : Prop := w_X10_isSlot (fun r1 s1 => ((r1 = 0 → (post ((-1000000001)) s1)) ∧ (¬ r1 = 0 → (((¬ y0 = 0 → (((¬ x2 = 2 → (b_X10_lay_74 post s1 x1 x2 x3)) ∧ (x2 = 2 → (vp_in x3 4 ∧ (((0 ≤ (s1 4 0 x3.toNatClampNeg) → (b_X10_lay_74 post s1 x1 x2 x3)) ∧ (¬ 0 ≤ (s1 4 0 x3.toNatClampNeg) → (post ((-1000000011)) s1))))))))) ∧ (y0 = 0 → (post ((-1000000001)) s1))))))) σ x1
theorem B_X10_lay_39 (E : EnvW p s m args meth c D cy regsM ad "RoofWarModel" cX10_lay 7 (some .int)) (ha : Apart regsM ad) {post : Int32 → St → Prop} {σ : St} {y0 : Int32} {x1 : Int32} {x2 : Int32} {x3 : Int32} (hw : b_X10_lay_39 post σ y0 x1 x2 x3) {H : Heap} {locs : List Loc} {ls : Array Slot} (hP : va_P D CLS (wM cy ad σ) H) (hS : va_S (AM ad s.heap.size) s.heap H locs) (hl : lv_has ls 7 [(0, .ref (ad 0 0)), (1, .int x1), (2, .int x2), (3, .int x3)]) : W p l e rm_X10_lay s m args below meth c H locs 0 0 (MQ below (QI D cy (cellM cy ad) regsM ad s.heap.size post) args s 0 0 (AM ad s.heap.size)) (F0 m 39 ls [.int y0]) := by
  obtain ⟨hx, hb, -⟩ := id E
  unfold b_X10_lay_39 at hw
  refine lv_istore (lv' := [(4, .int y0), (0, .ref (ad 0 0)), (1, .int x1), (2, .int x2), (3, .int x3)]) hx hb dX10_lay_39 hl (by decide) rfl (fun ls hl => ?_)
  refine lv_iload_n hx hb dX10_lay_41 rfl (lv_at hl 2 rfl) ?_
  refine g_cSi (As := [.int x1]) (rest := []) E hl.1 (c_X10_isSlot l D cy ad ha hw _) ok_X10_isSlot mw_1398 ⟨(Nat.le_of_ble_eq_true rfl), (Nat.le_of_ble_eq_true rfl)⟩ ⟨rfl, rfl⟩ rfl rfl (Nat.le_of_ble_eq_true rfl) ⟨Nat.zero_le _, Nat.zero_le _⟩ hP hS dX10_lay_42 (fun r1 s1 hw H locs hP hS => ?_)
  obtain ⟨z1, hw⟩ := hw
  refine lv_if_eq (tgt := 53) hx hb dX10_lay_45 (by decide) (fun c2 => ?_) (fun c2 => ?_)
  · replace hw := hw.1 c2
    refine g_ldc (v := -1000000001) E mw_1063 dX10_lay_53 ?_
    exact g_iret E hw hP hS dX10_lay_55
  · replace hw := hw.2 c2
    refine lv_iload hx hb dX10_lay_48 (lv_at hl 0 rfl) ?_
    refine lv_if_ne (tgt := 56) hx hb dX10_lay_50 (by decide) (fun c3 => ?_) (fun c3 => ?_)
    · replace hw := hw.1 c3
      refine lv_iload_n hx hb dX10_lay_56 rfl (lv_at hl 3 rfl) ?_
      refine lv_iconst (v := 2) hx hb dX10_lay_57 (by decide) ?_
      refine lv_icmp_ne (tgt := 74) hx hb dX10_lay_58 (by decide) (fun c4 => ?_) (fun c4 => ?_)
      · replace hw := hw.1 c4
        exact B_X10_lay_74 E ha hw hP hS (lv_sub hl [1, 2, 3, 4] rfl)
      · replace hw := hw.2 c4
        refine lv_aload_n hx hb dX10_lay_61 rfl (lv_at hl 1 rfl) ?_
        refine fX10_4 E hP mw_950 dX10_lay_62 ?_
        refine lv_iload_n hx hb dX10_lay_65 rfl (lv_at hl 4 rfl) ?_
        obtain ⟨h5, hw⟩ := hw
        refine aM4 E hP h5 dX10_lay_66 ?_
        refine lv_if_ge (tgt := 74) hx hb dX10_lay_67 (by decide) (fun c6 => ?_) (fun c6 => ?_)
        · replace hw := hw.1 c6
          exact B_X10_lay_74 E ha hw hP hS (lv_sub hl [1, 2, 3, 4] rfl)
        · replace hw := hw.2 c6
          refine g_ldcw (v := -1000000011) E mw_1371 dX10_lay_70 ?_
          exact g_iret E hw hP hS dX10_lay_73
    · replace hw := hw.2 c3
      refine g_ldc (v := -1000000001) E mw_1063 dX10_lay_53 ?_
      exact g_iret E hw hP hS dX10_lay_55
def b_X10_lay_34 (post : Int32 → St → Prop) (σ : St) (x1 : Int32) (x2 : Int32) (x3 : Int32) : Prop := b_X10_lay_39 post σ (1 : Int32) x1 x2 x3
theorem B_X10_lay_34 (E : EnvW p s m args meth c D cy regsM ad "RoofWarModel" cX10_lay 7 (some .int)) (ha : Apart regsM ad) {post : Int32 → St → Prop} {σ : St} {x1 : Int32} {x2 : Int32} {x3 : Int32} (hw : b_X10_lay_34 post σ x1 x2 x3) {H : Heap} {locs : List Loc} {ls : Array Slot} (hP : va_P D CLS (wM cy ad σ) H) (hS : va_S (AM ad s.heap.size) s.heap H locs) (hl : lv_has ls 7 [(0, .ref (ad 0 0)), (1, .int x1), (2, .int x2), (3, .int x3)]) : W p l e rm_X10_lay s m args below meth c H locs 0 0 (MQ below (QI D cy (cellM cy ad) regsM ad s.heap.size post) args s 0 0 (AM ad s.heap.size)) (F0 m 34 ls []) := by
  obtain ⟨hx, hb, -⟩ := id E
  unfold b_X10_lay_34 at hw
  refine lv_iconst (v := 1) hx hb dX10_lay_34 (by decide) ?_
  refine lv_goto (tgt := 39) hx hb dX10_lay_35 (by decide) ?_
  exact B_X10_lay_39 E ha hw hP hS (lv_sub hl [0, 1, 2, 3] rfl)
def b_X10_lay_38 (post : Int32 → St → Prop) (σ : St) (x1 : Int32) (x2 : Int32) (x3 : Int32) : Prop := b_X10_lay_39 post σ (0 : Int32) x1 x2 x3
theorem B_X10_lay_38 (E : EnvW p s m args meth c D cy regsM ad "RoofWarModel" cX10_lay 7 (some .int)) (ha : Apart regsM ad) {post : Int32 → St → Prop} {σ : St} {x1 : Int32} {x2 : Int32} {x3 : Int32} (hw : b_X10_lay_38 post σ x1 x2 x3) {H : Heap} {locs : List Loc} {ls : Array Slot} (hP : va_P D CLS (wM cy ad σ) H) (hS : va_S (AM ad s.heap.size) s.heap H locs) (hl : lv_has ls 7 [(0, .ref (ad 0 0)), (1, .int x1), (2, .int x2), (3, .int x3)]) : W p l e rm_X10_lay s m args below meth c H locs 0 0 (MQ below (QI D cy (cellM cy ad) regsM ad s.heap.size post) args s 0 0 (AM ad s.heap.size)) (F0 m 38 ls []) := by
  obtain ⟨hx, hb, -⟩ := id E
  unfold b_X10_lay_38 at hw
  refine lv_iconst (v := 0) hx hb dX10_lay_38 (by decide) ?_
  exact B_X10_lay_39 E ha hw hP hS (lv_sub hl [0, 1, 2, 3] rfl)
def b_X10_lay_22 (post : Int32 → St → Prop) (σ : St) (x1 : Int32) (x2 : Int32) (x3 : Int32) : Prop := ((¬ x2 = 2 → (b_X10_lay_38 post σ x1 x2 x3)) ∧ (x2 = 2 → (w_X10_isSheet (fun r2 s2 => ((r2 = 0 → (b_X10_lay_38 post s2 x1 x2 x3)) ∧ (¬ r2 = 0 → (b_X10_lay_34 post s2 x1 x2 x3)))) σ x3)))
theorem B_X10_lay_22 (E : EnvW p s m args meth c D cy regsM ad "RoofWarModel" cX10_lay 7 (some .int)) (ha : Apart regsM ad) {post : Int32 → St → Prop} {σ : St} {x1 : Int32} {x2 : Int32} {x3 : Int32} (hw : b_X10_lay_22 post σ x1 x2 x3) {H : Heap} {locs : List Loc} {ls : Array Slot} (hP : va_P D CLS (wM cy ad σ) H) (hS : va_S (AM ad s.heap.size) s.heap H locs) (hl : lv_has ls 7 [(0, .ref (ad 0 0)), (1, .int x1), (2, .int x2), (3, .int x3)]) : W p l e rm_X10_lay s m args below meth c H locs 0 0 (MQ below (QI D cy (cellM cy ad) regsM ad s.heap.size post) args s 0 0 (AM ad s.heap.size)) (F0 m 22 ls []) := by
  obtain ⟨hx, hb, -⟩ := id E
  unfold b_X10_lay_22 at hw
  refine lv_iload_n hx hb dX10_lay_22 rfl (lv_at hl 2 rfl) ?_
  refine lv_iconst (v := 2) hx hb dX10_lay_23 (by decide) ?_
  refine lv_icmp_ne (tgt := 38) hx hb dX10_lay_24 (by decide) (fun c1 => ?_) (fun c1 => ?_)
  · replace hw := hw.1 c1
    exact B_X10_lay_38 E ha hw hP hS (lv_sub hl [0, 1, 2, 3] rfl)
  · replace hw := hw.2 c1
    refine lv_iload_n hx hb dX10_lay_27 rfl (lv_at hl 3 rfl) ?_
    refine g_cSi (As := [.int x3]) (rest := []) E hl.1 (c_X10_isSheet l D cy ad ha hw _) ok_X10_isSheet mw_1363 ⟨(Nat.le_of_ble_eq_true rfl), (Nat.le_of_ble_eq_true rfl)⟩ ⟨rfl, rfl⟩ rfl rfl (Nat.le_of_ble_eq_true rfl) ⟨Nat.zero_le _, Nat.zero_le _⟩ hP hS dX10_lay_28 (fun r2 s2 hw H locs hP hS => ?_)
    obtain ⟨z2, hw⟩ := hw
    refine lv_if_eq (tgt := 38) hx hb dX10_lay_31 (by decide) (fun c3 => ?_) (fun c3 => ?_)
    · replace hw := hw.1 c3
      exact B_X10_lay_38 E ha hw hP hS (lv_sub hl [0, 1, 2, 3] rfl)
    · replace hw := hw.2 c3
      exact B_X10_lay_34 E ha hw hP hS (lv_sub hl [0, 1, 2, 3] rfl)
def w_X10_lay (post : Int32 → St → Prop) (σ : St) (x1 : Int32) (x2 : Int32) (x3 : Int32) : Prop := ((x2 = 0 → (b_X10_lay_34 post σ x1 x2 x3)) ∧ (¬ x2 = 0 → (((x2 = 3 → (b_X10_lay_34 post σ x1 x2 x3)) ∧ (¬ x2 = 3 → (((¬ x2 = 1 → (b_X10_lay_22 post σ x1 x2 x3)) ∧ (x2 = 1 → (w_X10_isRoof (fun r4 s4 => ((¬ r4 = 0 → (b_X10_lay_34 post s4 x1 x2 x3)) ∧ (r4 = 0 → (b_X10_lay_22 post s4 x1 x2 x3)))) σ x3)))))))))
theorem B_X10_lay_0 (E : EnvW p s m args meth c D cy regsM ad "RoofWarModel" cX10_lay 7 (some .int)) (ha : Apart regsM ad) {post : Int32 → St → Prop} {σ : St} {x1 : Int32} {x2 : Int32} {x3 : Int32} (hw : w_X10_lay post σ x1 x2 x3) {H : Heap} {locs : List Loc} {ls : Array Slot} (hP : va_P D CLS (wM cy ad σ) H) (hS : va_S (AM ad s.heap.size) s.heap H locs) (hl : lv_has ls 7 [(0, .ref (ad 0 0)), (1, .int x1), (2, .int x2), (3, .int x3)]) : W p l e rm_X10_lay s m args below meth c H locs 0 0 (MQ below (QI D cy (cellM cy ad) regsM ad s.heap.size post) args s 0 0 (AM ad s.heap.size)) (F0 m 0 ls []) := by
  obtain ⟨hx, hb, -⟩ := id E
  unfold w_X10_lay at hw
  refine lv_iload_n hx hb dX10_lay_0 rfl (lv_at hl 2 rfl) ?_
  refine lv_if_eq (tgt := 34) hx hb dX10_lay_1 (by decide) (fun c1 => ?_) (fun c1 => ?_)
  · replace hw := hw.1 c1
    exact B_X10_lay_34 E ha hw hP hS (lv_sub hl [0, 1, 2, 3] rfl)
  · replace hw := hw.2 c1
    refine lv_iload_n hx hb dX10_lay_4 rfl (lv_at hl 2 rfl) ?_
    refine lv_iconst (v := 3) hx hb dX10_lay_5 (by decide) ?_
    refine lv_icmp_eq (tgt := 34) hx hb dX10_lay_6 (by decide) (fun c2 => ?_) (fun c2 => ?_)
    · replace hw := hw.1 c2
      exact B_X10_lay_34 E ha hw hP hS (lv_sub hl [0, 1, 2, 3] rfl)
    · replace hw := hw.2 c2
      refine lv_iload_n hx hb dX10_lay_9 rfl (lv_at hl 2 rfl) ?_
      refine lv_iconst (v := 1) hx hb dX10_lay_10 (by decide) ?_
      refine lv_icmp_ne (tgt := 22) hx hb dX10_lay_11 (by decide) (fun c3 => ?_) (fun c3 => ?_)
      · replace hw := hw.1 c3
        exact B_X10_lay_22 E ha hw hP hS (lv_sub hl [0, 1, 2, 3] rfl)
      · replace hw := hw.2 c3
        refine lv_aload_n hx hb dX10_lay_14 rfl (lv_at hl 0 rfl) ?_
        refine lv_iload_n hx hb dX10_lay_15 rfl (lv_at hl 3 rfl) ?_
        refine g_cVi (As := [.int x3]) (rest := []) E hl.1 (c_X10_isRoof l D cy ad ha hw _) ok_X10_isRoof mw_1082 ⟨(Nat.le_of_ble_eq_true rfl), (Nat.le_of_ble_eq_true rfl)⟩ ⟨rfl, rfl⟩ rM0 rfl rfl rfl rfl rfl (Nat.le_of_ble_eq_true rfl) ⟨Nat.zero_le _, Nat.zero_le _⟩ hP hS dX10_lay_16 (fun r4 s4 hw H locs hP hS => ?_)
        obtain ⟨z4, hw⟩ := hw
        refine lv_if_ne (tgt := 34) hx hb dX10_lay_19 (by decide) (fun c5 => ?_) (fun c5 => ?_)
        · replace hw := hw.1 c5
          exact B_X10_lay_34 E ha hw hP hS (lv_sub hl [0, 1, 2, 3] rfl)
        · replace hw := hw.2 c5
          exact B_X10_lay_22 E ha hw hP hS (lv_sub hl [0, 1, 2, 3] rfl)
theorem c_X10_lay (l : Launch) (D : va_G) (cy : Nat → ClassId) (ad : Nat → Nat → Nat) (ha : Apart regsM ad) {post : Int32 → St → Prop} {σ : St} {x1 : Int32} {x2 : Int32} {x3 : Int32} (hw : w_X10_lay post σ x1 x2 x3) (sz : Nat) : MetI l yX10_lay cX10_lay 7 .int rm_X10_lay [.ref (ad 0 0), .int x1, .int x2, .int x3] D cy (cellM cy ad) regsM ad σ sz post :=
  Met_inI ok_X10_lay.2.2.2.2.2 (Nat.le_of_ble_eq_true rfl) (fun p e s m below meth c ls E hP hl => B_X10_lay_0 E ha hw hP va_S.rf hl)
-- RoofWarModel.ask(II)I
theorem dX10_ask_0 : decode cX10_ask 0 = .ok (.iload_n 1, 1) := by decide +kernel
theorem dX10_ask_1 : decode cX10_ask 1 = .ok (.invokestatic 348, 3) := by decide +kernel
theorem dX10_ask_4 : decode cX10_ask 4 = .ok (.ifCond .eq 15, 3) := by decide +kernel
theorem dX10_ask_7 : decode cX10_ask 7 = .ok (.iload_n 2, 1) := by decide +kernel
theorem dX10_ask_8 : decode cX10_ask 8 = .ok (.i2l, 1) := by decide +kernel
theorem dX10_ask_9 : decode cX10_ask 9 = .ok (.lconst 0, 1) := by decide +kernel
theorem dX10_ask_10 : decode cX10_ask 10 = .ok (.ldc2_w 86, 3) := by decide +kernel
theorem dX10_ask_13 : decode cX10_ask 13 = .ok (.invokestatic 71, 3) := by decide +kernel
theorem dX10_ask_16 : decode cX10_ask 16 = .ok (.ifCond .ne 6, 3) := by decide +kernel
theorem dX10_ask_19 : decode cX10_ask 19 = .ok (.ldc 96, 2) := by decide +kernel
theorem dX10_ask_21 : decode cX10_ask 21 = .ok (.ireturn, 1) := by decide +kernel
theorem dX10_ask_22 : decode cX10_ask 22 = .ok (.aload_n 0, 1) := by decide +kernel
theorem dX10_ask_23 : decode cX10_ask 23 = .ok (.getfield 28, 3) := by decide +kernel
theorem dX10_ask_26 : decode cX10_ask 26 = .ok (.iload_n 1, 1) := by decide +kernel
theorem dX10_ask_27 : decode cX10_ask 27 = .ok (.iaload, 1) := by decide +kernel
theorem dX10_ask_28 : decode cX10_ask 28 = .ok (.ifCond .ne 7, 3) := by decide +kernel
theorem dX10_ask_31 : decode cX10_ask 31 = .ok (.ldc_w 337, 3) := by decide +kernel
theorem dX10_ask_34 : decode cX10_ask 34 = .ok (.ireturn, 1) := by decide +kernel
theorem dX10_ask_35 : decode cX10_ask 35 = .ok (.aload_n 0, 1) := by decide +kernel
theorem dX10_ask_36 : decode cX10_ask 36 = .ok (.getfield 28, 3) := by decide +kernel
theorem dX10_ask_39 : decode cX10_ask 39 = .ok (.iload_n 1, 1) := by decide +kernel
theorem dX10_ask_40 : decode cX10_ask 40 = .ok (.iaload, 1) := by decide +kernel
theorem dX10_ask_41 : decode cX10_ask 41 = .ok (.iconst 1, 1) := by decide +kernel
theorem dX10_ask_42 : decode cX10_ask 42 = .ok (.if_icmp .ne 25, 3) := by decide +kernel
theorem dX10_ask_45 : decode cX10_ask 45 = .ok (.aload_n 0, 1) := by decide +kernel
theorem dX10_ask_46 : decode cX10_ask 46 = .ok (.getfield 31, 3) := by decide +kernel
theorem dX10_ask_49 : decode cX10_ask 49 = .ok (.iload_n 1, 1) := by decide +kernel
theorem dX10_ask_50 : decode cX10_ask 50 = .ok (.iaload, 1) := by decide +kernel
theorem dX10_ask_51 : decode cX10_ask 51 = .ok (.iload_n 2, 1) := by decide +kernel
theorem dX10_ask_52 : decode cX10_ask 52 = .ok (.invokestatic 124, 3) := by decide +kernel
theorem dX10_ask_55 : decode cX10_ask 55 = .ok (.ifCond .eq 12, 3) := by decide +kernel
theorem dX10_ask_58 : decode cX10_ask 58 = .ok (.aload_n 0, 1) := by decide +kernel
theorem dX10_ask_59 : decode cX10_ask 59 = .ok (.getfield 34, 3) := by decide +kernel
theorem dX10_ask_62 : decode cX10_ask 62 = .ok (.iload_n 1, 1) := by decide +kernel
theorem dX10_ask_63 : decode cX10_ask 63 = .ok (.iaload, 1) := by decide +kernel
theorem dX10_ask_64 : decode cX10_ask 64 = .ok (.goto 5, 3) := by decide +kernel
theorem dX10_ask_67 : decode cX10_ask 67 = .ok (.ldc 128, 2) := by decide +kernel
theorem dX10_ask_69 : decode cX10_ask 69 = .ok (.ireturn, 1) := by decide +kernel
theorem ok_X10_ask : okV yX10_ask cX10_ask 3 (some .int) 2 := ⟨mw_1403, mw_1404, mw_83, mw_1405, by decide +kernel, by decide +kernel⟩
abbrev rm_X10_ask : Room := { frames := 2, cells := 0, slots := 0, locals := 45 }
def w_X10_ask (post : Int32 → St → Prop) (σ : St) (x1 : Int32) (x2 : Int32) : Prop := w_X10_isSlot (fun r1 s1 => ((r1 = 0 → (post ((-1000000001)) s1)) ∧ (¬ r1 = 0 → (w_X10_isIn (fun r3 s3 => ((¬ r3 = 0 → (vp_in x1 5 ∧ (((¬ (s3 7 0 x1.toNatClampNeg) = 0 → (vp_in x1 5 ∧ (((¬ (s3 7 0 x1.toNatClampNeg) = 1 → (post ((-1000000012)) s3)) ∧ ((s3 7 0 x1.toNatClampNeg) = 1 → (vp_in x1 5 ∧ (w_X10_isOf (fun r10 s10 => ((r10 = 0 → (post ((-1000000012)) s10)) ∧ (¬ r10 = 0 → (vp_in x1 5 ∧ (post (s10 9 0 x1.toNatClampNeg) s10))))) s3 (s3 8 0 x1.toNatClampNeg) x2))))))) ∧ ((s3 7 0 x1.toNatClampNeg) = 0 → (post ((-1000000011)) s3)))))) ∧ (r3 = 0 → (post ((-1000000001)) s3)))) s1 x2.toInt64 ((0 : Int64)) ((5 : Int64)))))) σ x1
theorem B_X10_ask_0 (E : EnvW p s m args meth c D cy regsM ad "RoofWarModel" cX10_ask 3 (some .int)) (ha : Apart regsM ad) {post : Int32 → St → Prop} {σ : St} {x1 : Int32} {x2 : Int32} (hw : w_X10_ask post σ x1 x2) {H : Heap} {locs : List Loc} {ls : Array Slot} (hP : va_P D CLS (wM cy ad σ) H) (hS : va_S (AM ad s.heap.size) s.heap H locs) (hl : lv_has ls 3 [(0, .ref (ad 0 0)), (1, .int x1), (2, .int x2)]) : W p l e rm_X10_ask s m args below meth c H locs 0 0 (MQ below (QI D cy (cellM cy ad) regsM ad s.heap.size post) args s 0 0 (AM ad s.heap.size)) (F0 m 0 ls []) := by
  obtain ⟨hx, hb, -⟩ := id E
  unfold w_X10_ask at hw
  refine lv_iload_n hx hb dX10_ask_0 rfl (lv_at hl 1 rfl) ?_
  refine g_cSi (As := [.int x1]) (rest := []) E hl.1 (c_X10_isSlot l D cy ad ha hw _) ok_X10_isSlot mw_1398 ⟨(Nat.le_of_ble_eq_true rfl), (Nat.le_of_ble_eq_true rfl)⟩ ⟨rfl, rfl⟩ rfl rfl (Nat.le_of_ble_eq_true rfl) ⟨Nat.zero_le _, Nat.zero_le _⟩ hP hS dX10_ask_1 (fun r1 s1 hw H locs hP hS => ?_)
  obtain ⟨z1, hw⟩ := hw
  refine lv_if_eq (tgt := 19) hx hb dX10_ask_4 (by decide) (fun c2 => ?_) (fun c2 => ?_)
  · replace hw := hw.1 c2
    refine g_ldc (v := -1000000001) E mw_1063 dX10_ask_19 ?_
    exact g_iret E hw hP hS dX10_ask_21
  · replace hw := hw.2 c2
    refine lv_iload_n hx hb dX10_ask_7 rfl (lv_at hl 2 rfl) ?_
    refine lv_i2l (v := x2.toInt64) hx hb dX10_ask_8 rfl ?_
    refine lv_lconst (v := 0) hx hb dX10_ask_9 (by decide) ?_
    refine g_ldc2 (v := 5) E mw_1053 dX10_ask_10 ?_
    refine g_cSi (As := [.long x2.toInt64, .long ((0 : Int64)), .long ((5 : Int64))]) (rest := []) E hl.1 (c_X10_isIn l D cy ad ha hw _) ok_X10_isIn mw_1054 ⟨(Nat.le_of_ble_eq_true rfl), (Nat.le_of_ble_eq_true rfl)⟩ ⟨rfl, rfl⟩ rfl rfl (Nat.le_of_ble_eq_true rfl) ⟨Nat.zero_le _, Nat.zero_le _⟩ hP hS dX10_ask_13 (fun r3 s3 hw H locs hP hS => ?_)
    obtain ⟨z3, hw⟩ := hw
    refine lv_if_ne (tgt := 22) hx hb dX10_ask_16 (by decide) (fun c4 => ?_) (fun c4 => ?_)
    · replace hw := hw.1 c4
      refine lv_aload_n hx hb dX10_ask_22 rfl (lv_at hl 0 rfl) ?_
      refine fX10_7 E hP mw_953 dX10_ask_23 ?_
      refine lv_iload_n hx hb dX10_ask_26 rfl (lv_at hl 1 rfl) ?_
      obtain ⟨h5, hw⟩ := hw
      refine aM7 E hP h5 dX10_ask_27 ?_
      refine lv_if_ne (tgt := 35) hx hb dX10_ask_28 (by decide) (fun c6 => ?_) (fun c6 => ?_)
      · replace hw := hw.1 c6
        refine lv_aload_n hx hb dX10_ask_35 rfl (lv_at hl 0 rfl) ?_
        refine fX10_7 E hP mw_953 dX10_ask_36 ?_
        refine lv_iload_n hx hb dX10_ask_39 rfl (lv_at hl 1 rfl) ?_
        obtain ⟨h7, hw⟩ := hw
        refine aM7 E hP h7 dX10_ask_40 ?_
        refine lv_iconst (v := 1) hx hb dX10_ask_41 (by decide) ?_
        refine lv_icmp_ne (tgt := 67) hx hb dX10_ask_42 (by decide) (fun c8 => ?_) (fun c8 => ?_)
        · replace hw := hw.1 c8
          refine g_ldc (v := -1000000012) E mw_1105 dX10_ask_67 ?_
          exact g_iret E hw hP hS dX10_ask_69
        · replace hw := hw.2 c8
          refine lv_aload_n hx hb dX10_ask_45 rfl (lv_at hl 0 rfl) ?_
          refine fX10_8 E hP mw_954 dX10_ask_46 ?_
          refine lv_iload_n hx hb dX10_ask_49 rfl (lv_at hl 1 rfl) ?_
          obtain ⟨h9, hw⟩ := hw
          refine aM8 E hP h9 dX10_ask_50 ?_
          refine lv_iload_n hx hb dX10_ask_51 rfl (lv_at hl 2 rfl) ?_
          refine g_cSi (As := [.int (s3 8 0 x1.toNatClampNeg), .int x2]) (rest := []) E hl.1 (c_X10_isOf l D cy ad ha hw _) ok_X10_isOf mw_1102 ⟨(Nat.le_of_ble_eq_true rfl), (Nat.le_of_ble_eq_true rfl)⟩ ⟨rfl, rfl⟩ rfl rfl (Nat.le_of_ble_eq_true rfl) ⟨Nat.zero_le _, Nat.zero_le _⟩ hP hS dX10_ask_52 (fun r10 s10 hw H locs hP hS => ?_)
          obtain ⟨z10, hw⟩ := hw
          refine lv_if_eq (tgt := 67) hx hb dX10_ask_55 (by decide) (fun c11 => ?_) (fun c11 => ?_)
          · replace hw := hw.1 c11
            refine g_ldc (v := -1000000012) E mw_1105 dX10_ask_67 ?_
            exact g_iret E hw hP hS dX10_ask_69
          · replace hw := hw.2 c11
            refine lv_aload_n hx hb dX10_ask_58 rfl (lv_at hl 0 rfl) ?_
            refine fX10_9 E hP mw_955 dX10_ask_59 ?_
            refine lv_iload_n hx hb dX10_ask_62 rfl (lv_at hl 1 rfl) ?_
            obtain ⟨h12, hw⟩ := hw
            refine aM9 E hP h12 dX10_ask_63 ?_
            refine lv_goto (tgt := 69) hx hb dX10_ask_64 (by decide) ?_
            exact g_iret E hw hP hS dX10_ask_69
      · replace hw := hw.2 c6
        refine g_ldcw (v := -1000000011) E mw_1371 dX10_ask_31 ?_
        exact g_iret E hw hP hS dX10_ask_34
    · replace hw := hw.2 c4
      refine g_ldc (v := -1000000001) E mw_1063 dX10_ask_19 ?_
      exact g_iret E hw hP hS dX10_ask_21
theorem c_X10_ask (l : Launch) (D : va_G) (cy : Nat → ClassId) (ad : Nat → Nat → Nat) (ha : Apart regsM ad) {post : Int32 → St → Prop} {σ : St} {x1 : Int32} {x2 : Int32} (hw : w_X10_ask post σ x1 x2) (sz : Nat) : MetI l yX10_ask cX10_ask 3 .int rm_X10_ask [.ref (ad 0 0), .int x1, .int x2] D cy (cellM cy ad) regsM ad σ sz post :=
  Met_inI ok_X10_ask.2.2.2.2.2 (Nat.le_of_ble_eq_true rfl) (fun p e s m below meth c ls E hP hl => B_X10_ask_0 E ha hw hP va_S.rf hl)
-- RoofWarModel.item(II)I
theorem dX10_item_0 : decode cX10_item 0 = .ok (.iload_n 1, 1) := by decide +kernel
theorem dX10_item_1 : decode cX10_item 1 = .ok (.invokestatic 348, 3) := by decide +kernel
theorem dX10_item_4 : decode cX10_item 4 = .ok (.ifCond .ne 6, 3) := by decide +kernel
theorem dX10_item_7 : decode cX10_item 7 = .ok (.ldc 96, 2) := by decide +kernel
theorem dX10_item_9 : decode cX10_item 9 = .ok (.ireturn, 1) := by decide +kernel
theorem dX10_item_10 : decode cX10_item 10 = .ok (.aload_n 0, 1) := by decide +kernel
theorem dX10_item_11 : decode cX10_item 11 = .ok (.getfield 28, 3) := by decide +kernel
theorem dX10_item_14 : decode cX10_item 14 = .ok (.iload_n 1, 1) := by decide +kernel
theorem dX10_item_15 : decode cX10_item 15 = .ok (.iaload, 1) := by decide +kernel
theorem dX10_item_16 : decode cX10_item 16 = .ok (.iconst 2, 1) := by decide +kernel
theorem dX10_item_17 : decode cX10_item 17 = .ok (.if_icmp .eq 21, 3) := by decide +kernel
theorem dX10_item_20 : decode cX10_item 20 = .ok (.aload_n 0, 1) := by decide +kernel
theorem dX10_item_21 : decode cX10_item 21 = .ok (.getfield 28, 3) := by decide +kernel
theorem dX10_item_24 : decode cX10_item 24 = .ok (.iload_n 1, 1) := by decide +kernel
theorem dX10_item_25 : decode cX10_item 25 = .ok (.iaload, 1) := by decide +kernel
theorem dX10_item_26 : decode cX10_item 26 = .ok (.ifCond .ne 9, 3) := by decide +kernel
theorem dX10_item_29 : decode cX10_item 29 = .ok (.ldc_w 337, 3) := by decide +kernel
theorem dX10_item_32 : decode cX10_item 32 = .ok (.goto 5, 3) := by decide +kernel
theorem dX10_item_35 : decode cX10_item 35 = .ok (.ldc 128, 2) := by decide +kernel
theorem dX10_item_37 : decode cX10_item 37 = .ok (.ireturn, 1) := by decide +kernel
theorem dX10_item_38 : decode cX10_item 38 = .ok (.iload_n 2, 1) := by decide +kernel
theorem dX10_item_39 : decode cX10_item 39 = .ok (.i2l, 1) := by decide +kernel
theorem dX10_item_40 : decode cX10_item 40 = .ok (.lconst 0, 1) := by decide +kernel
theorem dX10_item_41 : decode cX10_item 41 = .ok (.aload_n 0, 1) := by decide +kernel
theorem dX10_item_42 : decode cX10_item 42 = .ok (.getfield 37, 3) := by decide +kernel
theorem dX10_item_45 : decode cX10_item 45 = .ok (.iload_n 1, 1) := by decide +kernel
theorem dX10_item_46 : decode cX10_item 46 = .ok (.iaload, 1) := by decide +kernel
theorem dX10_item_47 : decode cX10_item 47 = .ok (.iconst 1, 1) := by decide +kernel
theorem dX10_item_48 : decode cX10_item 48 = .ok (.isub, 1) := by decide +kernel
theorem dX10_item_49 : decode cX10_item 49 = .ok (.i2l, 1) := by decide +kernel
theorem dX10_item_50 : decode cX10_item 50 = .ok (.invokestatic 71, 3) := by decide +kernel
theorem dX10_item_53 : decode cX10_item 53 = .ok (.ifCond .ne 7, 3) := by decide +kernel
theorem dX10_item_56 : decode cX10_item 56 = .ok (.ldc_w 338, 3) := by decide +kernel
theorem dX10_item_59 : decode cX10_item 59 = .ok (.ireturn, 1) := by decide +kernel
theorem dX10_item_60 : decode cX10_item 60 = .ok (.aload_n 0, 1) := by decide +kernel
theorem dX10_item_61 : decode cX10_item 61 = .ok (.getfield 40, 3) := by decide +kernel
theorem dX10_item_64 : decode cX10_item 64 = .ok (.bipush 24, 2) := by decide +kernel
theorem dX10_item_66 : decode cX10_item 66 = .ok (.iload_n 1, 1) := by decide +kernel
theorem dX10_item_67 : decode cX10_item 67 = .ok (.imul, 1) := by decide +kernel
theorem dX10_item_68 : decode cX10_item 68 = .ok (.iload_n 2, 1) := by decide +kernel
theorem dX10_item_69 : decode cX10_item 69 = .ok (.iadd, 1) := by decide +kernel
theorem dX10_item_70 : decode cX10_item 70 = .ok (.iaload, 1) := by decide +kernel
theorem dX10_item_71 : decode cX10_item 71 = .ok (.istore_n 3, 1) := by decide +kernel
theorem dX10_item_72 : decode cX10_item 72 = .ok (.iload_n 3, 1) := by decide +kernel
theorem dX10_item_73 : decode cX10_item 73 = .ok (.ldc 70, 2) := by decide +kernel
theorem dX10_item_75 : decode cX10_item 75 = .ok (.if_icmp .ne 8, 3) := by decide +kernel
theorem dX10_item_78 : decode cX10_item 78 = .ok (.ldc 128, 2) := by decide +kernel
theorem dX10_item_80 : decode cX10_item 80 = .ok (.goto 4, 3) := by decide +kernel
theorem dX10_item_83 : decode cX10_item 83 = .ok (.iload_n 3, 1) := by decide +kernel
theorem dX10_item_84 : decode cX10_item 84 = .ok (.ireturn, 1) := by decide +kernel
theorem ok_X10_item : okV yX10_item cX10_item 4 (some .int) 2 := ⟨mw_1407, mw_1408, mw_83, mw_1409, by decide +kernel, by decide +kernel⟩
abbrev rm_X10_item : Room := { frames := 2, cells := 0, slots := 0, locals := 45 }
def w_X10_item (post : Int32 → St → Prop) (σ : St) (x1 : Int32) (x2 : Int32) : Prop := w_X10_isSlot (fun r1 s1 => ((¬ r1 = 0 → (vp_in x1 5 ∧ ((((s1 7 0 x1.toNatClampNeg) = 2 → (vp_in x1 5 ∧ (w_X10_isIn (fun r6 s6 => ((¬ r6 = 0 → (vp_in ((24 * x1) + x2) 120 ∧ (∀ v9 : Int32, v9 = s6 11 0 ((24 * x1) + x2).toNatClampNeg → (((¬ v9 = ((-1000000005)) → (post v9 s6)) ∧ (v9 = ((-1000000005)) → (post ((-1000000012)) s6))))))) ∧ (r6 = 0 → (post ((-1000000013)) s6)))) s1 x2.toInt64 ((0 : Int64)) (((s1 10 0 x1.toNatClampNeg) - 1).toInt64)))) ∧ (¬ (s1 7 0 x1.toNatClampNeg) = 2 → (vp_in x1 5 ∧ (((¬ (s1 7 0 x1.toNatClampNeg) = 0 → (post ((-1000000012)) s1)) ∧ ((s1 7 0 x1.toNatClampNeg) = 0 → (post ((-1000000011)) s1)))))))))) ∧ (r1 = 0 → (post ((-1000000001)) s1)))) σ x1
theorem B_X10_item_0 (E : EnvW p s m args meth c D cy regsM ad "RoofWarModel" cX10_item 4 (some .int)) (ha : Apart regsM ad) {post : Int32 → St → Prop} {σ : St} {x1 : Int32} {x2 : Int32} (hw : w_X10_item post σ x1 x2) {H : Heap} {locs : List Loc} {ls : Array Slot} (hP : va_P D CLS (wM cy ad σ) H) (hS : va_S (AM ad s.heap.size) s.heap H locs) (hl : lv_has ls 4 [(0, .ref (ad 0 0)), (1, .int x1), (2, .int x2)]) : W p l e rm_X10_item s m args below meth c H locs 0 0 (MQ below (QI D cy (cellM cy ad) regsM ad s.heap.size post) args s 0 0 (AM ad s.heap.size)) (F0 m 0 ls []) := by
  obtain ⟨hx, hb, -⟩ := id E
  unfold w_X10_item at hw
  refine lv_iload_n hx hb dX10_item_0 rfl (lv_at hl 1 rfl) ?_
  refine g_cSi (As := [.int x1]) (rest := []) E hl.1 (c_X10_isSlot l D cy ad ha hw _) ok_X10_isSlot mw_1398 ⟨(Nat.le_of_ble_eq_true rfl), (Nat.le_of_ble_eq_true rfl)⟩ ⟨rfl, rfl⟩ rfl rfl (Nat.le_of_ble_eq_true rfl) ⟨Nat.zero_le _, Nat.zero_le _⟩ hP hS dX10_item_1 (fun r1 s1 hw H locs hP hS => ?_)
  obtain ⟨z1, hw⟩ := hw
  refine lv_if_ne (tgt := 10) hx hb dX10_item_4 (by decide) (fun c2 => ?_) (fun c2 => ?_)
  · replace hw := hw.1 c2
    refine lv_aload_n hx hb dX10_item_10 rfl (lv_at hl 0 rfl) ?_
    refine fX10_7 E hP mw_953 dX10_item_11 ?_
    refine lv_iload_n hx hb dX10_item_14 rfl (lv_at hl 1 rfl) ?_
    obtain ⟨h3, hw⟩ := hw
    refine aM7 E hP h3 dX10_item_15 ?_
    refine lv_iconst (v := 2) hx hb dX10_item_16 (by decide) ?_
    refine lv_icmp_eq (tgt := 38) hx hb dX10_item_17 (by decide) (fun c4 => ?_) (fun c4 => ?_)
    · replace hw := hw.1 c4
      refine lv_iload_n hx hb dX10_item_38 rfl (lv_at hl 2 rfl) ?_
      refine lv_i2l (v := x2.toInt64) hx hb dX10_item_39 rfl ?_
      refine lv_lconst (v := 0) hx hb dX10_item_40 (by decide) ?_
      refine lv_aload_n hx hb dX10_item_41 rfl (lv_at hl 0 rfl) ?_
      refine fX10_10 E hP mw_956 dX10_item_42 ?_
      refine lv_iload_n hx hb dX10_item_45 rfl (lv_at hl 1 rfl) ?_
      obtain ⟨h5, hw⟩ := hw
      refine aM10 E hP h5 dX10_item_46 ?_
      refine lv_iconst (v := 1) hx hb dX10_item_47 (by decide) ?_
      refine lv_isub hx hb dX10_item_48 ?_
      refine lv_i2l (v := ((s1 10 0 x1.toNatClampNeg) - 1).toInt64) hx hb dX10_item_49 rfl ?_
      refine g_cSi (As := [.long x2.toInt64, .long ((0 : Int64)), .long (((s1 10 0 x1.toNatClampNeg) - 1).toInt64)]) (rest := []) E hl.1 (c_X10_isIn l D cy ad ha hw _) ok_X10_isIn mw_1054 ⟨(Nat.le_of_ble_eq_true rfl), (Nat.le_of_ble_eq_true rfl)⟩ ⟨rfl, rfl⟩ rfl rfl (Nat.le_of_ble_eq_true rfl) ⟨Nat.zero_le _, Nat.zero_le _⟩ hP hS dX10_item_50 (fun r6 s6 hw H locs hP hS => ?_)
      obtain ⟨z6, hw⟩ := hw
      refine lv_if_ne (tgt := 60) hx hb dX10_item_53 (by decide) (fun c7 => ?_) (fun c7 => ?_)
      · replace hw := hw.1 c7
        refine lv_aload_n hx hb dX10_item_60 rfl (lv_at hl 0 rfl) ?_
        refine fX10_11 E hP mw_957 dX10_item_61 ?_
        refine lv_bipush (v := 24) hx hb dX10_item_64 (by decide) ?_
        refine lv_iload_n hx hb dX10_item_66 rfl (lv_at hl 1 rfl) ?_
        refine lv_imul hx hb dX10_item_67 ?_
        refine lv_iload_n hx hb dX10_item_68 rfl (lv_at hl 2 rfl) ?_
        refine lv_iadd hx hb dX10_item_69 ?_
        obtain ⟨h8, hw⟩ := hw
        refine aM11 E hP h8 dX10_item_70 ?_
        refine lv_topi (fun v9 ev9 => ?_)
        replace hw := hw v9 ev9
        refine lv_istore_n (lv' := [(3, .int v9), (0, .ref (ad 0 0)), (1, .int x1), (2, .int x2)]) hx hb dX10_item_71 rfl hl (by decide) rfl (fun ls hl => ?_)
        refine lv_iload_n hx hb dX10_item_72 rfl (lv_at hl 0 rfl) ?_
        refine g_ldc (v := -1000000005) E mw_1130 dX10_item_73 ?_
        refine lv_icmp_ne (tgt := 83) hx hb dX10_item_75 (by decide) (fun c10 => ?_) (fun c10 => ?_)
        · replace hw := hw.1 c10
          refine lv_iload_n hx hb dX10_item_83 rfl (lv_at hl 0 rfl) ?_
          exact g_iret E hw hP hS dX10_item_84
        · replace hw := hw.2 c10
          refine g_ldc (v := -1000000012) E mw_1105 dX10_item_78 ?_
          refine lv_goto (tgt := 84) hx hb dX10_item_80 (by decide) ?_
          exact g_iret E hw hP hS dX10_item_84
      · replace hw := hw.2 c7
        refine g_ldcw (v := -1000000013) E mw_1372 dX10_item_56 ?_
        exact g_iret E hw hP hS dX10_item_59
    · replace hw := hw.2 c4
      refine lv_aload_n hx hb dX10_item_20 rfl (lv_at hl 0 rfl) ?_
      refine fX10_7 E hP mw_953 dX10_item_21 ?_
      refine lv_iload_n hx hb dX10_item_24 rfl (lv_at hl 1 rfl) ?_
      obtain ⟨h11, hw⟩ := hw
      refine aM7 E hP h11 dX10_item_25 ?_
      refine lv_if_ne (tgt := 35) hx hb dX10_item_26 (by decide) (fun c12 => ?_) (fun c12 => ?_)
      · replace hw := hw.1 c12
        refine g_ldc (v := -1000000012) E mw_1105 dX10_item_35 ?_
        exact g_iret E hw hP hS dX10_item_37
      · replace hw := hw.2 c12
        refine g_ldcw (v := -1000000011) E mw_1371 dX10_item_29 ?_
        refine lv_goto (tgt := 37) hx hb dX10_item_32 (by decide) ?_
        exact g_iret E hw hP hS dX10_item_37
  · replace hw := hw.2 c2
    refine g_ldc (v := -1000000001) E mw_1063 dX10_item_7 ?_
    exact g_iret E hw hP hS dX10_item_9
theorem c_X10_item (l : Launch) (D : va_G) (cy : Nat → ClassId) (ad : Nat → Nat → Nat) (ha : Apart regsM ad) {post : Int32 → St → Prop} {σ : St} {x1 : Int32} {x2 : Int32} (hw : w_X10_item post σ x1 x2) (sz : Nat) : MetI l yX10_item cX10_item 4 .int rm_X10_item [.ref (ad 0 0), .int x1, .int x2] D cy (cellM cy ad) regsM ad σ sz post :=
  Met_inI ok_X10_item.2.2.2.2.2 (Nat.le_of_ble_eq_true rfl) (fun p e s m below meth c ls E hP hl => B_X10_item_0 E ha hw hP va_S.rf hl)
-- RoofWarModel.rest(II)I
theorem dX10_rest_0 : decode cX10_rest 0 = .ok (.iload_n 1, 1) := by decide +kernel
theorem dX10_rest_1 : decode cX10_rest 1 = .ok (.invokestatic 348, 3) := by decide +kernel
theorem dX10_rest_4 : decode cX10_rest 4 = .ok (.ifCond .ne 6, 3) := by decide +kernel
theorem dX10_rest_7 : decode cX10_rest 7 = .ok (.ldc 96, 2) := by decide +kernel
theorem dX10_rest_9 : decode cX10_rest 9 = .ok (.ireturn, 1) := by decide +kernel
theorem dX10_rest_10 : decode cX10_rest 10 = .ok (.aload_n 0, 1) := by decide +kernel
theorem dX10_rest_11 : decode cX10_rest 11 = .ok (.getfield 28, 3) := by decide +kernel
theorem dX10_rest_14 : decode cX10_rest 14 = .ok (.iload_n 1, 1) := by decide +kernel
theorem dX10_rest_15 : decode cX10_rest 15 = .ok (.iaload, 1) := by decide +kernel
theorem dX10_rest_16 : decode cX10_rest 16 = .ok (.iconst 3, 1) := by decide +kernel
theorem dX10_rest_17 : decode cX10_rest 17 = .ok (.if_icmp .eq 21, 3) := by decide +kernel
theorem dX10_rest_20 : decode cX10_rest 20 = .ok (.aload_n 0, 1) := by decide +kernel
theorem dX10_rest_21 : decode cX10_rest 21 = .ok (.getfield 28, 3) := by decide +kernel
theorem dX10_rest_24 : decode cX10_rest 24 = .ok (.iload_n 1, 1) := by decide +kernel
theorem dX10_rest_25 : decode cX10_rest 25 = .ok (.iaload, 1) := by decide +kernel
theorem dX10_rest_26 : decode cX10_rest 26 = .ok (.ifCond .ne 9, 3) := by decide +kernel
theorem dX10_rest_29 : decode cX10_rest 29 = .ok (.ldc_w 337, 3) := by decide +kernel
theorem dX10_rest_32 : decode cX10_rest 32 = .ok (.goto 5, 3) := by decide +kernel
theorem dX10_rest_35 : decode cX10_rest 35 = .ok (.ldc 128, 2) := by decide +kernel
theorem dX10_rest_37 : decode cX10_rest 37 = .ok (.ireturn, 1) := by decide +kernel
theorem dX10_rest_38 : decode cX10_rest 38 = .ok (.iload_n 2, 1) := by decide +kernel
theorem dX10_rest_39 : decode cX10_rest 39 = .ok (.ifCond .ne 8, 3) := by decide +kernel
theorem dX10_rest_42 : decode cX10_rest 42 = .ok (.ldc 101, 2) := by decide +kernel
theorem dX10_rest_44 : decode cX10_rest 44 = .ok (.goto 11, 3) := by decide +kernel
theorem dX10_rest_47 : decode cX10_rest 47 = .ok (.aload_n 0, 1) := by decide +kernel
theorem dX10_rest_48 : decode cX10_rest 48 = .ok (.getfield 31, 3) := by decide +kernel
theorem dX10_rest_51 : decode cX10_rest 51 = .ok (.iload_n 1, 1) := by decide +kernel
theorem dX10_rest_52 : decode cX10_rest 52 = .ok (.iaload, 1) := by decide +kernel
theorem dX10_rest_53 : decode cX10_rest 53 = .ok (.iload_n 2, 1) := by decide +kernel
theorem dX10_rest_54 : decode cX10_rest 54 = .ok (.irem, 1) := by decide +kernel
theorem dX10_rest_55 : decode cX10_rest 55 = .ok (.ireturn, 1) := by decide +kernel
theorem ok_X10_rest : okV yX10_rest cX10_rest 3 (some .int) 2 := ⟨mw_1411, mw_1412, mw_83, mw_1413, by decide +kernel, by decide +kernel⟩
abbrev rm_X10_rest : Room := { frames := 2, cells := 0, slots := 0, locals := 45 }
def w_X10_rest (post : Int32 → St → Prop) (σ : St) (x1 : Int32) (x2 : Int32) : Prop := w_X10_isSlot (fun r1 s1 => ((¬ r1 = 0 → (vp_in x1 5 ∧ ((((s1 7 0 x1.toNatClampNeg) = 3 → (((¬ x2 = 0 → (vp_in x1 5 ∧ (¬ x2 = 0 ∧ (∀ v8 : Int32, v8 = jrem (s1 8 0 x1.toNatClampNeg) x2 → (post v8 s1))))) ∧ (x2 = 0 → (post ((-1000000002)) s1))))) ∧ (¬ (s1 7 0 x1.toNatClampNeg) = 3 → (vp_in x1 5 ∧ (((¬ (s1 7 0 x1.toNatClampNeg) = 0 → (post ((-1000000012)) s1)) ∧ ((s1 7 0 x1.toNatClampNeg) = 0 → (post ((-1000000011)) s1)))))))))) ∧ (r1 = 0 → (post ((-1000000001)) s1)))) σ x1
theorem B_X10_rest_0 (E : EnvW p s m args meth c D cy regsM ad "RoofWarModel" cX10_rest 3 (some .int)) (ha : Apart regsM ad) {post : Int32 → St → Prop} {σ : St} {x1 : Int32} {x2 : Int32} (hw : w_X10_rest post σ x1 x2) {H : Heap} {locs : List Loc} {ls : Array Slot} (hP : va_P D CLS (wM cy ad σ) H) (hS : va_S (AM ad s.heap.size) s.heap H locs) (hl : lv_has ls 3 [(0, .ref (ad 0 0)), (1, .int x1), (2, .int x2)]) : W p l e rm_X10_rest s m args below meth c H locs 0 0 (MQ below (QI D cy (cellM cy ad) regsM ad s.heap.size post) args s 0 0 (AM ad s.heap.size)) (F0 m 0 ls []) := by
  obtain ⟨hx, hb, -⟩ := id E
  unfold w_X10_rest at hw
  refine lv_iload_n hx hb dX10_rest_0 rfl (lv_at hl 1 rfl) ?_
  refine g_cSi (As := [.int x1]) (rest := []) E hl.1 (c_X10_isSlot l D cy ad ha hw _) ok_X10_isSlot mw_1398 ⟨(Nat.le_of_ble_eq_true rfl), (Nat.le_of_ble_eq_true rfl)⟩ ⟨rfl, rfl⟩ rfl rfl (Nat.le_of_ble_eq_true rfl) ⟨Nat.zero_le _, Nat.zero_le _⟩ hP hS dX10_rest_1 (fun r1 s1 hw H locs hP hS => ?_)
  obtain ⟨z1, hw⟩ := hw
  refine lv_if_ne (tgt := 10) hx hb dX10_rest_4 (by decide) (fun c2 => ?_) (fun c2 => ?_)
  · replace hw := hw.1 c2
    refine lv_aload_n hx hb dX10_rest_10 rfl (lv_at hl 0 rfl) ?_
    refine fX10_7 E hP mw_953 dX10_rest_11 ?_
    refine lv_iload_n hx hb dX10_rest_14 rfl (lv_at hl 1 rfl) ?_
    obtain ⟨h3, hw⟩ := hw
    refine aM7 E hP h3 dX10_rest_15 ?_
    refine lv_iconst (v := 3) hx hb dX10_rest_16 (by decide) ?_
    refine lv_icmp_eq (tgt := 38) hx hb dX10_rest_17 (by decide) (fun c4 => ?_) (fun c4 => ?_)
    · replace hw := hw.1 c4
      refine lv_iload_n hx hb dX10_rest_38 rfl (lv_at hl 2 rfl) ?_
      refine lv_if_ne (tgt := 47) hx hb dX10_rest_39 (by decide) (fun c5 => ?_) (fun c5 => ?_)
      · replace hw := hw.1 c5
        refine lv_aload_n hx hb dX10_rest_47 rfl (lv_at hl 0 rfl) ?_
        refine fX10_8 E hP mw_954 dX10_rest_48 ?_
        refine lv_iload_n hx hb dX10_rest_51 rfl (lv_at hl 1 rfl) ?_
        obtain ⟨h6, hw⟩ := hw
        refine aM8 E hP h6 dX10_rest_52 ?_
        refine lv_iload_n hx hb dX10_rest_53 rfl (lv_at hl 2 rfl) ?_
        obtain ⟨h7, hw⟩ := hw
        refine lv_irem hx hb dX10_rest_54 h7 ?_
        refine lv_topi (fun v8 ev8 => ?_)
        replace hw := hw v8 ev8
        exact g_iret E hw hP hS dX10_rest_55
      · replace hw := hw.2 c5
        refine g_ldc (v := -1000000002) E mw_1070 dX10_rest_42 ?_
        refine lv_goto (tgt := 55) hx hb dX10_rest_44 (by decide) ?_
        exact g_iret E hw hP hS dX10_rest_55
    · replace hw := hw.2 c4
      refine lv_aload_n hx hb dX10_rest_20 rfl (lv_at hl 0 rfl) ?_
      refine fX10_7 E hP mw_953 dX10_rest_21 ?_
      refine lv_iload_n hx hb dX10_rest_24 rfl (lv_at hl 1 rfl) ?_
      obtain ⟨h9, hw⟩ := hw
      refine aM7 E hP h9 dX10_rest_25 ?_
      refine lv_if_ne (tgt := 35) hx hb dX10_rest_26 (by decide) (fun c10 => ?_) (fun c10 => ?_)
      · replace hw := hw.1 c10
        refine g_ldc (v := -1000000012) E mw_1105 dX10_rest_35 ?_
        exact g_iret E hw hP hS dX10_rest_37
      · replace hw := hw.2 c10
        refine g_ldcw (v := -1000000011) E mw_1371 dX10_rest_29 ?_
        refine lv_goto (tgt := 37) hx hb dX10_rest_32 (by decide) ?_
        exact g_iret E hw hP hS dX10_rest_37
  · replace hw := hw.2 c2
    refine g_ldc (v := -1000000001) E mw_1063 dX10_rest_7 ?_
    exact g_iret E hw hP hS dX10_rest_9
theorem c_X10_rest (l : Launch) (D : va_G) (cy : Nat → ClassId) (ad : Nat → Nat → Nat) (ha : Apart regsM ad) {post : Int32 → St → Prop} {σ : St} {x1 : Int32} {x2 : Int32} (hw : w_X10_rest post σ x1 x2) (sz : Nat) : MetI l yX10_rest cX10_rest 3 .int rm_X10_rest [.ref (ad 0 0), .int x1, .int x2] D cy (cellM cy ad) regsM ad σ sz post :=
  Met_inI ok_X10_rest.2.2.2.2.2 (Nat.le_of_ble_eq_true rfl) (fun p e s m below meth c ls E hP hl => B_X10_rest_0 E ha hw hP va_S.rf hl)
-- RoofWarModel.tell(I)I
theorem dX10_tell_0 : decode cX10_tell 0 = .ok (.aload_n 0, 1) := by decide +kernel
theorem dX10_tell_1 : decode cX10_tell 1 = .ok (.getfield 351, 3) := by decide +kernel
theorem dX10_tell_4 : decode cX10_tell 4 = .ok (.bipush 60, 2) := by decide +kernel
theorem dX10_tell_6 : decode cX10_tell 6 = .ok (.if_icmp .ne 6, 3) := by decide +kernel
theorem dX10_tell_9 : decode cX10_tell 9 = .ok (.ldc 102, 2) := by decide +kernel
theorem dX10_tell_11 : decode cX10_tell 11 = .ok (.ireturn, 1) := by decide +kernel
theorem dX10_tell_12 : decode cX10_tell 12 = .ok (.aload_n 0, 1) := by decide +kernel
theorem dX10_tell_13 : decode cX10_tell 13 = .ok (.getfield 64, 3) := by decide +kernel
theorem dX10_tell_16 : decode cX10_tell 16 = .ok (.aload_n 0, 1) := by decide +kernel
theorem dX10_tell_17 : decode cX10_tell 17 = .ok (.getfield 351, 3) := by decide +kernel
theorem dX10_tell_20 : decode cX10_tell 20 = .ok (.iload_n 1, 1) := by decide +kernel
theorem dX10_tell_21 : decode cX10_tell 21 = .ok (.iastore, 1) := by decide +kernel
theorem dX10_tell_22 : decode cX10_tell 22 = .ok (.aload_n 0, 1) := by decide +kernel
theorem dX10_tell_23 : decode cX10_tell 23 = .ok (.dup, 1) := by decide +kernel
theorem dX10_tell_24 : decode cX10_tell 24 = .ok (.getfield 351, 3) := by decide +kernel
theorem dX10_tell_27 : decode cX10_tell 27 = .ok (.iconst 1, 1) := by decide +kernel
theorem dX10_tell_28 : decode cX10_tell 28 = .ok (.iadd, 1) := by decide +kernel
theorem dX10_tell_29 : decode cX10_tell 29 = .ok (.putfield 351, 3) := by decide +kernel
theorem dX10_tell_32 : decode cX10_tell 32 = .ok (.aload_n 0, 1) := by decide +kernel
theorem dX10_tell_33 : decode cX10_tell 33 = .ok (.getfield 351, 3) := by decide +kernel
theorem dX10_tell_36 : decode cX10_tell 36 = .ok (.ireturn, 1) := by decide +kernel
theorem ok_X10_tell : okV yX10_tell cX10_tell 2 (some .int) 1 := ⟨mw_1415, mw_1416, mw_83, mw_1417, by decide +kernel, by decide +kernel⟩
abbrev rm_X10_tell : Room := { frames := 0, cells := 0, slots := 0, locals := 0 }
def w_X10_tell (post : Int32 → St → Prop) (σ : St) (x1 : Int32) : Prop := ((¬ (σ 0 0 13) = 60 → (vp_in (σ 0 0 13) 60 ∧ (∀ s3 : St, s3 = wr σ 19 0 (σ 0 0 13).toNatClampNeg x1 → (∀ s4 : St, s4 = wr s3 0 0 13 ((s3 0 0 13) + 1) → (post (s4 0 0 13) s4))))) ∧ ((σ 0 0 13) = 60 → (post ((-1000000003)) σ)))
theorem B_X10_tell_0 (E : EnvW p s m args meth c D cy regsM ad "RoofWarModel" cX10_tell 2 (some .int)) (ha : Apart regsM ad) {post : Int32 → St → Prop} {σ : St} {x1 : Int32} (hw : w_X10_tell post σ x1) {H : Heap} {locs : List Loc} {ls : Array Slot} (hP : va_P D CLS (wM cy ad σ) H) (hS : va_S (AM ad s.heap.size) s.heap H locs) (hl : lv_has ls 2 [(0, .ref (ad 0 0)), (1, .int x1)]) : W p l e rm_X10_tell s m args below meth c H locs 0 0 (MQ below (QI D cy (cellM cy ad) regsM ad s.heap.size post) args s 0 0 (AM ad s.heap.size)) (F0 m 0 ls []) := by
  obtain ⟨hx, hb, -⟩ := id E
  unfold w_X10_tell at hw
  refine lv_aload_n hx hb dX10_tell_0 rfl (lv_at hl 0 rfl) ?_
  refine fX10_32 E hP mw_978 dX10_tell_1 ?_
  refine lv_bipush (v := 60) hx hb dX10_tell_4 (by decide) ?_
  refine lv_icmp_ne (tgt := 12) hx hb dX10_tell_6 (by decide) (fun c1 => ?_) (fun c1 => ?_)
  · replace hw := hw.1 c1
    refine lv_aload_n hx hb dX10_tell_12 rfl (lv_at hl 0 rfl) ?_
    refine fX10_31 E hP mw_977 dX10_tell_13 ?_
    refine lv_aload_n hx hb dX10_tell_16 rfl (lv_at hl 0 rfl) ?_
    refine fX10_32 E hP mw_978 dX10_tell_17 ?_
    refine lv_iload_n hx hb dX10_tell_20 rfl (lv_at hl 1 rfl) ?_
    obtain ⟨h2, hw⟩ := hw
    refine tM19 E ha h2 dX10_tell_21 hP hS (fun s3 es3 H locs hP hS => ?_)
    replace hw := hw s3 es3
    refine lv_aload_n hx hb dX10_tell_22 rfl (lv_at hl 0 rfl) ?_
    refine lv_dup hx hb dX10_tell_23 rfl ?_
    refine fX10_32 E hP mw_978 dX10_tell_24 ?_
    refine lv_iconst (v := 1) hx hb dX10_tell_27 (by decide) ?_
    refine lv_iadd hx hb dX10_tell_28 ?_
    refine uX10_32 E ha mw_978 dX10_tell_29 hP hS (fun s4 es4 H locs hP hS => ?_)
    replace hw := hw s4 es4
    refine lv_aload_n hx hb dX10_tell_32 rfl (lv_at hl 0 rfl) ?_
    refine fX10_32 E hP mw_978 dX10_tell_33 ?_
    exact g_iret E hw hP hS dX10_tell_36
  · replace hw := hw.2 c1
    refine g_ldc (v := -1000000003) E mw_1071 dX10_tell_9 ?_
    exact g_iret E hw hP hS dX10_tell_11
theorem c_X10_tell (l : Launch) (D : va_G) (cy : Nat → ClassId) (ad : Nat → Nat → Nat) (ha : Apart regsM ad) {post : Int32 → St → Prop} {σ : St} {x1 : Int32} (hw : w_X10_tell post σ x1) (sz : Nat) : MetI l yX10_tell cX10_tell 2 .int rm_X10_tell [.ref (ad 0 0), .int x1] D cy (cellM cy ad) regsM ad σ sz post :=
  Met_inI ok_X10_tell.2.2.2.2.2 (Nat.le_of_ble_eq_true rfl) (fun p e s m below meth c ls E hP hl => B_X10_tell_0 E ha hw hP va_S.rf hl)
-- RoofWarModel.setAside([I[I)V
theorem dX10_setAside_0 : decode cX10_setAside 0 = .ok (.iconst 0, 1) := by decide +kernel
theorem dX10_setAside_1 : decode cX10_setAside 1 = .ok (.istore_n 3, 1) := by decide +kernel
theorem dX10_setAside_2 : decode cX10_setAside 2 = .ok (.iload_n 3, 1) := by decide +kernel
theorem dX10_setAside_3 : decode cX10_setAside 3 = .ok (.sipush 2882, 3) := by decide +kernel
theorem dX10_setAside_6 : decode cX10_setAside 6 = .ok (.if_icmp .ge 15, 3) := by decide +kernel
theorem dX10_setAside_9 : decode cX10_setAside 9 = .ok (.aload_n 2, 1) := by decide +kernel
theorem dX10_setAside_10 : decode cX10_setAside 10 = .ok (.iload_n 3, 1) := by decide +kernel
theorem dX10_setAside_11 : decode cX10_setAside 11 = .ok (.aload_n 1, 1) := by decide +kernel
theorem dX10_setAside_12 : decode cX10_setAside 12 = .ok (.iload_n 3, 1) := by decide +kernel
theorem dX10_setAside_13 : decode cX10_setAside 13 = .ok (.iaload, 1) := by decide +kernel
theorem dX10_setAside_14 : decode cX10_setAside 14 = .ok (.iastore, 1) := by decide +kernel
theorem dX10_setAside_15 : decode cX10_setAside 15 = .ok (.iinc 3 1, 3) := by decide +kernel
theorem dX10_setAside_18 : decode cX10_setAside 18 = .ok (.goto (-16), 3) := by decide +kernel
theorem dX10_setAside_21 : decode cX10_setAside 21 = .ok (.return_, 1) := by decide +kernel
theorem ok_X10_setAside : okV yX10_setAside cX10_setAside 4 none 2 := ⟨mw_1424, mw_72, mw_83, mw_1425, by decide +kernel, by decide +kernel⟩
abbrev rm_X10_setAside_1_3 : Room := { frames := 0, cells := 0, slots := 0, locals := 0 }
def b_X10_setAside_1_3_2 (K2 : St → Int32 → Prop) (post : St → Prop) (σ : St) (x3 : Int32) : Prop := ((2882 ≤ x3 → (post σ)) ∧ (¬ 2882 ≤ x3 → (vp_in x3 3082 ∧ (vp_in x3 3082 ∧ (∀ s4 : St, s4 = wr σ 3 0 x3.toNatClampNeg (σ 1 0 x3.toNatClampNeg) → (∀ v5 : Int32, v5 = x3 + 1 → (K2 s4 v5)))))))
noncomputable def l_X10_setAside_1_3_2 (post : St → Prop) : Nat → St → Int32 → Prop := fun n => Nat.rec (motive := fun _ => St → Int32 → Prop) (fun _ _ => False) (fun _ ih => b_X10_setAside_1_3_2 ih post) n
theorem L_X10_setAside_1_3_2 (E : EnvW p s m args meth c D cy regsM ad "RoofWarModel" cX10_setAside 4 none) (ha : Apart regsM ad) {post : St → Prop} : ∀ (n : Nat), ∀ (σ : St) (x3 : Int32), l_X10_setAside_1_3_2 post n σ x3 → ∀ (H : Heap) (locs : List Loc) (ls : Array Slot), va_P D CLS (wM cy ad σ) H → va_S (AM ad s.heap.size) s.heap H locs → lv_has ls 4 [(1, .ref (ad 1 0)), (2, .ref (ad 3 0)), (3, .int x3)] → W p l e rm_X10_setAside_1_3 s m args below meth c H locs 0 0 (MQ below (QV D cy (cellM cy ad) regsM ad s.heap.size post) args s 0 0 (AM ad s.heap.size)) (F0 m 2 ls []) := by
  obtain ⟨hx, hb, -⟩ := id E
  intro n
  induction n with
  | zero => intro σ x3 hw; exact hw.elim
  | succ n hk2 =>
    intro σ x3 hw H locs ls hP hS hl
    replace hw : b_X10_setAside_1_3_2 (l_X10_setAside_1_3_2 post n) post σ x3 := hw
    unfold b_X10_setAside_1_3_2 at hw
    refine lv_iload_n hx hb dX10_setAside_2 rfl (lv_at hl 2 rfl) ?_
    refine lv_sipush (v := 2882) hx hb dX10_setAside_3 (by decide) ?_
    refine lv_icmp_ge (tgt := 21) hx hb dX10_setAside_6 (by decide) (fun c1 => ?_) (fun c1 => ?_)
    · replace hw := hw.1 c1
      exact g_vret E hw hP hS dX10_setAside_21
    · replace hw := hw.2 c1
      refine lv_aload_n hx hb dX10_setAside_9 rfl (lv_at hl 1 rfl) ?_
      refine lv_iload_n hx hb dX10_setAside_10 rfl (lv_at hl 2 rfl) ?_
      refine lv_aload_n hx hb dX10_setAside_11 rfl (lv_at hl 0 rfl) ?_
      refine lv_iload_n hx hb dX10_setAside_12 rfl (lv_at hl 2 rfl) ?_
      obtain ⟨h2, hw⟩ := hw
      refine aM1 E hP h2 dX10_setAside_13 ?_
      obtain ⟨h3, hw⟩ := hw
      refine tM3 E ha h3 dX10_setAside_14 hP hS (fun s4 es4 H locs hP hS => ?_)
      replace hw := hw s4 es4
      obtain ⟨v5, ev5⟩ : ∃ y : Int32, y = x3 + 1 := ⟨_, rfl⟩
      replace hw := hw v5 ev5
      refine lv_iinc (v := v5) (lv' := [(3, .int v5), (1, .ref (ad 1 0)), (2, .ref (ad 3 0))]) hx hb dX10_setAside_15 hl (k := 2) rfl (by rw [ev5]; rfl) (by decide) rfl (fun ls hl => ?_)
      refine lv_goto (tgt := 2) hx hb dX10_setAside_18 (by decide) ?_
      exact hk2 s4 v5 hw _ _ _ hP hS (lv_sub hl [1, 2, 0] rfl)
def w_X10_setAside_1_3 (post : St → Prop) (σ : St) : Prop := ∃ n1 : Nat, l_X10_setAside_1_3_2 post n1 σ (0 : Int32)
theorem B_X10_setAside_1_3_0 (E : EnvW p s m args meth c D cy regsM ad "RoofWarModel" cX10_setAside 4 none) (ha : Apart regsM ad) {post : St → Prop} {σ : St} (hw : w_X10_setAside_1_3 post σ) {H : Heap} {locs : List Loc} {ls : Array Slot} (hP : va_P D CLS (wM cy ad σ) H) (hS : va_S (AM ad s.heap.size) s.heap H locs) (hl : lv_has ls 4 [(0, .ref (ad 0 0)), (1, .ref (ad 1 0)), (2, .ref (ad 3 0))]) : W p l e rm_X10_setAside_1_3 s m args below meth c H locs 0 0 (MQ below (QV D cy (cellM cy ad) regsM ad s.heap.size post) args s 0 0 (AM ad s.heap.size)) (F0 m 0 ls []) := by
  obtain ⟨hx, hb, -⟩ := id E
  unfold w_X10_setAside_1_3 at hw
  refine lv_iconst (v := 0) hx hb dX10_setAside_0 (by decide) ?_
  refine lv_istore_n (lv' := [(3, .int 0), (0, .ref (ad 0 0)), (1, .ref (ad 1 0)), (2, .ref (ad 3 0))]) hx hb dX10_setAside_1 rfl hl (by decide) rfl (fun ls hl => ?_)
  obtain ⟨n1, hw⟩ := hw
  exact L_X10_setAside_1_3_2 E ha n1 σ (0 : Int32) hw _ _ _ hP hS (lv_sub hl [2, 3, 0] rfl)
theorem c_X10_setAside_1_3 (l : Launch) (D : va_G) (cy : Nat → ClassId) (ad : Nat → Nat → Nat) (ha : Apart regsM ad) {post : St → Prop} {σ : St} (hw : w_X10_setAside_1_3 post σ) (sz : Nat) : MetV l yX10_setAside cX10_setAside 4 rm_X10_setAside_1_3 [.ref (ad 0 0), .ref (ad 1 0), .ref (ad 3 0)] D cy (cellM cy ad) regsM ad σ sz post :=
  Met_inV ok_X10_setAside.2.2.2.2.2 (Nat.le_of_ble_eq_true rfl) (fun p e s m below meth c ls E hP hl => B_X10_setAside_1_3_0 E ha hw hP va_S.rf hl)
-- RoofWarModel.setAside([I[I)V
abbrev rm_X10_setAside_2_1 : Room := { frames := 0, cells := 0, slots := 0, locals := 0 }
def b_X10_setAside_2_1_2 (K2 : St → Int32 → Prop) (post : St → Prop) (σ : St) (x3 : Int32) : Prop := ((2882 ≤ x3 → (post σ)) ∧ (¬ 2882 ≤ x3 → (vp_in x3 3082 ∧ (vp_in x3 3082 ∧ (∀ s4 : St, s4 = wr σ 1 0 x3.toNatClampNeg (σ 2 0 x3.toNatClampNeg) → (∀ v5 : Int32, v5 = x3 + 1 → (K2 s4 v5)))))))
noncomputable def l_X10_setAside_2_1_2 (post : St → Prop) : Nat → St → Int32 → Prop := fun n => Nat.rec (motive := fun _ => St → Int32 → Prop) (fun _ _ => False) (fun _ ih => b_X10_setAside_2_1_2 ih post) n
theorem L_X10_setAside_2_1_2 (E : EnvW p s m args meth c D cy regsM ad "RoofWarModel" cX10_setAside 4 none) (ha : Apart regsM ad) {post : St → Prop} : ∀ (n : Nat), ∀ (σ : St) (x3 : Int32), l_X10_setAside_2_1_2 post n σ x3 → ∀ (H : Heap) (locs : List Loc) (ls : Array Slot), va_P D CLS (wM cy ad σ) H → va_S (AM ad s.heap.size) s.heap H locs → lv_has ls 4 [(1, .ref (ad 2 0)), (2, .ref (ad 1 0)), (3, .int x3)] → W p l e rm_X10_setAside_2_1 s m args below meth c H locs 0 0 (MQ below (QV D cy (cellM cy ad) regsM ad s.heap.size post) args s 0 0 (AM ad s.heap.size)) (F0 m 2 ls []) := by
  obtain ⟨hx, hb, -⟩ := id E
  intro n
  induction n with
  | zero => intro σ x3 hw; exact hw.elim
  | succ n hk2 =>
    intro σ x3 hw H locs ls hP hS hl
    replace hw : b_X10_setAside_2_1_2 (l_X10_setAside_2_1_2 post n) post σ x3 := hw
    unfold b_X10_setAside_2_1_2 at hw
    refine lv_iload_n hx hb dX10_setAside_2 rfl (lv_at hl 2 rfl) ?_
    refine lv_sipush (v := 2882) hx hb dX10_setAside_3 (by decide) ?_
    refine lv_icmp_ge (tgt := 21) hx hb dX10_setAside_6 (by decide) (fun c1 => ?_) (fun c1 => ?_)
    · replace hw := hw.1 c1
      exact g_vret E hw hP hS dX10_setAside_21
    · replace hw := hw.2 c1
      refine lv_aload_n hx hb dX10_setAside_9 rfl (lv_at hl 1 rfl) ?_
      refine lv_iload_n hx hb dX10_setAside_10 rfl (lv_at hl 2 rfl) ?_
      refine lv_aload_n hx hb dX10_setAside_11 rfl (lv_at hl 0 rfl) ?_
      refine lv_iload_n hx hb dX10_setAside_12 rfl (lv_at hl 2 rfl) ?_
      obtain ⟨h2, hw⟩ := hw
      refine aM2 E hP h2 dX10_setAside_13 ?_
      obtain ⟨h3, hw⟩ := hw
      refine tM1 E ha h3 dX10_setAside_14 hP hS (fun s4 es4 H locs hP hS => ?_)
      replace hw := hw s4 es4
      obtain ⟨v5, ev5⟩ : ∃ y : Int32, y = x3 + 1 := ⟨_, rfl⟩
      replace hw := hw v5 ev5
      refine lv_iinc (v := v5) (lv' := [(3, .int v5), (1, .ref (ad 2 0)), (2, .ref (ad 1 0))]) hx hb dX10_setAside_15 hl (k := 2) rfl (by rw [ev5]; rfl) (by decide) rfl (fun ls hl => ?_)
      refine lv_goto (tgt := 2) hx hb dX10_setAside_18 (by decide) ?_
      exact hk2 s4 v5 hw _ _ _ hP hS (lv_sub hl [1, 2, 0] rfl)
def w_X10_setAside_2_1 (post : St → Prop) (σ : St) : Prop := ∃ n1 : Nat, l_X10_setAside_2_1_2 post n1 σ (0 : Int32)
theorem B_X10_setAside_2_1_0 (E : EnvW p s m args meth c D cy regsM ad "RoofWarModel" cX10_setAside 4 none) (ha : Apart regsM ad) {post : St → Prop} {σ : St} (hw : w_X10_setAside_2_1 post σ) {H : Heap} {locs : List Loc} {ls : Array Slot} (hP : va_P D CLS (wM cy ad σ) H) (hS : va_S (AM ad s.heap.size) s.heap H locs) (hl : lv_has ls 4 [(0, .ref (ad 0 0)), (1, .ref (ad 2 0)), (2, .ref (ad 1 0))]) : W p l e rm_X10_setAside_2_1 s m args below meth c H locs 0 0 (MQ below (QV D cy (cellM cy ad) regsM ad s.heap.size post) args s 0 0 (AM ad s.heap.size)) (F0 m 0 ls []) := by
  obtain ⟨hx, hb, -⟩ := id E
  unfold w_X10_setAside_2_1 at hw
  refine lv_iconst (v := 0) hx hb dX10_setAside_0 (by decide) ?_
  refine lv_istore_n (lv' := [(3, .int 0), (0, .ref (ad 0 0)), (1, .ref (ad 2 0)), (2, .ref (ad 1 0))]) hx hb dX10_setAside_1 rfl hl (by decide) rfl (fun ls hl => ?_)
  obtain ⟨n1, hw⟩ := hw
  exact L_X10_setAside_2_1_2 E ha n1 σ (0 : Int32) hw _ _ _ hP hS (lv_sub hl [2, 3, 0] rfl)
theorem c_X10_setAside_2_1 (l : Launch) (D : va_G) (cy : Nat → ClassId) (ad : Nat → Nat → Nat) (ha : Apart regsM ad) {post : St → Prop} {σ : St} (hw : w_X10_setAside_2_1 post σ) (sz : Nat) : MetV l yX10_setAside cX10_setAside 4 rm_X10_setAside_2_1 [.ref (ad 0 0), .ref (ad 2 0), .ref (ad 1 0)] D cy (cellM cy ad) regsM ad σ sz post :=
  Met_inV ok_X10_setAside.2.2.2.2.2 (Nat.le_of_ble_eq_true rfl) (fun p e s m below meth c ls E hP hl => B_X10_setAside_2_1_0 E ha hw hP va_S.rf hl)
-- RoofWarModel.setAside([I[I)V
abbrev rm_X10_setAside_3_1 : Room := { frames := 0, cells := 0, slots := 0, locals := 0 }
def b_X10_setAside_3_1_2 (K2 : St → Int32 → Prop) (post : St → Prop) (σ : St) (x3 : Int32) : Prop := ((2882 ≤ x3 → (post σ)) ∧ (¬ 2882 ≤ x3 → (vp_in x3 3082 ∧ (vp_in x3 3082 ∧ (∀ s4 : St, s4 = wr σ 1 0 x3.toNatClampNeg (σ 3 0 x3.toNatClampNeg) → (∀ v5 : Int32, v5 = x3 + 1 → (K2 s4 v5)))))))
noncomputable def l_X10_setAside_3_1_2 (post : St → Prop) : Nat → St → Int32 → Prop := fun n => Nat.rec (motive := fun _ => St → Int32 → Prop) (fun _ _ => False) (fun _ ih => b_X10_setAside_3_1_2 ih post) n
theorem L_X10_setAside_3_1_2 (E : EnvW p s m args meth c D cy regsM ad "RoofWarModel" cX10_setAside 4 none) (ha : Apart regsM ad) {post : St → Prop} : ∀ (n : Nat), ∀ (σ : St) (x3 : Int32), l_X10_setAside_3_1_2 post n σ x3 → ∀ (H : Heap) (locs : List Loc) (ls : Array Slot), va_P D CLS (wM cy ad σ) H → va_S (AM ad s.heap.size) s.heap H locs → lv_has ls 4 [(1, .ref (ad 3 0)), (2, .ref (ad 1 0)), (3, .int x3)] → W p l e rm_X10_setAside_3_1 s m args below meth c H locs 0 0 (MQ below (QV D cy (cellM cy ad) regsM ad s.heap.size post) args s 0 0 (AM ad s.heap.size)) (F0 m 2 ls []) := by
  obtain ⟨hx, hb, -⟩ := id E
  intro n
  induction n with
  | zero => intro σ x3 hw; exact hw.elim
  | succ n hk2 =>
    intro σ x3 hw H locs ls hP hS hl
    replace hw : b_X10_setAside_3_1_2 (l_X10_setAside_3_1_2 post n) post σ x3 := hw
    unfold b_X10_setAside_3_1_2 at hw
    refine lv_iload_n hx hb dX10_setAside_2 rfl (lv_at hl 2 rfl) ?_
    refine lv_sipush (v := 2882) hx hb dX10_setAside_3 (by decide) ?_
    refine lv_icmp_ge (tgt := 21) hx hb dX10_setAside_6 (by decide) (fun c1 => ?_) (fun c1 => ?_)
    · replace hw := hw.1 c1
      exact g_vret E hw hP hS dX10_setAside_21
    · replace hw := hw.2 c1
      refine lv_aload_n hx hb dX10_setAside_9 rfl (lv_at hl 1 rfl) ?_
      refine lv_iload_n hx hb dX10_setAside_10 rfl (lv_at hl 2 rfl) ?_
      refine lv_aload_n hx hb dX10_setAside_11 rfl (lv_at hl 0 rfl) ?_
      refine lv_iload_n hx hb dX10_setAside_12 rfl (lv_at hl 2 rfl) ?_
      obtain ⟨h2, hw⟩ := hw
      refine aM3 E hP h2 dX10_setAside_13 ?_
      obtain ⟨h3, hw⟩ := hw
      refine tM1 E ha h3 dX10_setAside_14 hP hS (fun s4 es4 H locs hP hS => ?_)
      replace hw := hw s4 es4
      obtain ⟨v5, ev5⟩ : ∃ y : Int32, y = x3 + 1 := ⟨_, rfl⟩
      replace hw := hw v5 ev5
      refine lv_iinc (v := v5) (lv' := [(3, .int v5), (1, .ref (ad 3 0)), (2, .ref (ad 1 0))]) hx hb dX10_setAside_15 hl (k := 2) rfl (by rw [ev5]; rfl) (by decide) rfl (fun ls hl => ?_)
      refine lv_goto (tgt := 2) hx hb dX10_setAside_18 (by decide) ?_
      exact hk2 s4 v5 hw _ _ _ hP hS (lv_sub hl [1, 2, 0] rfl)
def w_X10_setAside_3_1 (post : St → Prop) (σ : St) : Prop := ∃ n1 : Nat, l_X10_setAside_3_1_2 post n1 σ (0 : Int32)
theorem B_X10_setAside_3_1_0 (E : EnvW p s m args meth c D cy regsM ad "RoofWarModel" cX10_setAside 4 none) (ha : Apart regsM ad) {post : St → Prop} {σ : St} (hw : w_X10_setAside_3_1 post σ) {H : Heap} {locs : List Loc} {ls : Array Slot} (hP : va_P D CLS (wM cy ad σ) H) (hS : va_S (AM ad s.heap.size) s.heap H locs) (hl : lv_has ls 4 [(0, .ref (ad 0 0)), (1, .ref (ad 3 0)), (2, .ref (ad 1 0))]) : W p l e rm_X10_setAside_3_1 s m args below meth c H locs 0 0 (MQ below (QV D cy (cellM cy ad) regsM ad s.heap.size post) args s 0 0 (AM ad s.heap.size)) (F0 m 0 ls []) := by
  obtain ⟨hx, hb, -⟩ := id E
  unfold w_X10_setAside_3_1 at hw
  refine lv_iconst (v := 0) hx hb dX10_setAside_0 (by decide) ?_
  refine lv_istore_n (lv' := [(3, .int 0), (0, .ref (ad 0 0)), (1, .ref (ad 3 0)), (2, .ref (ad 1 0))]) hx hb dX10_setAside_1 rfl hl (by decide) rfl (fun ls hl => ?_)
  obtain ⟨n1, hw⟩ := hw
  exact L_X10_setAside_3_1_2 E ha n1 σ (0 : Int32) hw _ _ _ hP hS (lv_sub hl [2, 3, 0] rfl)
theorem c_X10_setAside_3_1 (l : Launch) (D : va_G) (cy : Nat → ClassId) (ad : Nat → Nat → Nat) (ha : Apart regsM ad) {post : St → Prop} {σ : St} (hw : w_X10_setAside_3_1 post σ) (sz : Nat) : MetV l yX10_setAside cX10_setAside 4 rm_X10_setAside_3_1 [.ref (ad 0 0), .ref (ad 3 0), .ref (ad 1 0)] D cy (cellM cy ad) regsM ad σ sz post :=
  Met_inV ok_X10_setAside.2.2.2.2.2 (Nat.le_of_ble_eq_true rfl) (fun p e s m below meth c ls E hP hl => B_X10_setAside_3_1_0 E ha hw hP va_S.rf hl)
-- RoofWarModel.check(I)I
theorem dX10_check_0 : decode cX10_check 0 = .ok (.aload_n 0, 1) := by decide +kernel
theorem dX10_check_1 : decode cX10_check 1 = .ok (.getfield 351, 3) := by decide +kernel
theorem dX10_check_4 : decode cX10_check 4 = .ok (.istore_n 2, 1) := by decide +kernel
theorem dX10_check_5 : decode cX10_check 5 = .ok (.aload_n 0, 1) := by decide +kernel
theorem dX10_check_6 : decode cX10_check 6 = .ok (.iconst 0, 1) := by decide +kernel
theorem dX10_check_7 : decode cX10_check 7 = .ok (.putfield 351, 3) := by decide +kernel
theorem dX10_check_10 : decode cX10_check 10 = .ok (.iload_n 1, 1) := by decide +kernel
theorem dX10_check_11 : decode cX10_check 11 = .ok (.i2l, 1) := by decide +kernel
theorem dX10_check_12 : decode cX10_check 12 = .ok (.lconst 1, 1) := by decide +kernel
theorem dX10_check_13 : decode cX10_check 13 = .ok (.ldc2_w 354, 3) := by decide +kernel
theorem dX10_check_16 : decode cX10_check 16 = .ok (.invokestatic 71, 3) := by decide +kernel
theorem dX10_check_19 : decode cX10_check 19 = .ok (.ifCond .ne 6, 3) := by decide +kernel
theorem dX10_check_22 : decode cX10_check 22 = .ok (.ldc 96, 2) := by decide +kernel
theorem dX10_check_24 : decode cX10_check 24 = .ok (.ireturn, 1) := by decide +kernel
theorem dX10_check_25 : decode cX10_check 25 = .ok (.aload_n 0, 1) := by decide +kernel
theorem dX10_check_26 : decode cX10_check 26 = .ok (.getfield 356, 3) := by decide +kernel
theorem dX10_check_29 : decode cX10_check 29 = .ok (.ifCond .ne 6, 3) := by decide +kernel
theorem dX10_check_32 : decode cX10_check 32 = .ok (.ldc 101, 2) := by decide +kernel
theorem dX10_check_34 : decode cX10_check 34 = .ok (.ireturn, 1) := by decide +kernel
theorem dX10_check_35 : decode cX10_check 35 = .ok (.aload_n 0, 1) := by decide +kernel
theorem dX10_check_36 : decode cX10_check 36 = .ok (.aload_n 0, 1) := by decide +kernel
theorem dX10_check_37 : decode cX10_check 37 = .ok (.getfield 7, 3) := by decide +kernel
theorem dX10_check_40 : decode cX10_check 40 = .ok (.aload_n 0, 1) := by decide +kernel
theorem dX10_check_41 : decode cX10_check 41 = .ok (.getfield 16, 3) := by decide +kernel
theorem dX10_check_44 : decode cX10_check 44 = .ok (.invokevirtual 360, 3) := by decide +kernel
theorem dX10_check_47 : decode cX10_check 47 = .ok (.aload_n 0, 1) := by decide +kernel
theorem dX10_check_48 : decode cX10_check 48 = .ok (.aload_n 0, 1) := by decide +kernel
theorem dX10_check_49 : decode cX10_check 49 = .ok (.getfield 13, 3) := by decide +kernel
theorem dX10_check_52 : decode cX10_check 52 = .ok (.aload_n 0, 1) := by decide +kernel
theorem dX10_check_53 : decode cX10_check 53 = .ok (.getfield 7, 3) := by decide +kernel
theorem dX10_check_56 : decode cX10_check 56 = .ok (.invokevirtual 360, 3) := by decide +kernel
theorem dX10_check_59 : decode cX10_check 59 = .ok (.iconst 0, 1) := by decide +kernel
theorem dX10_check_60 : decode cX10_check 60 = .ok (.istore_n 3, 1) := by decide +kernel
theorem dX10_check_61 : decode cX10_check 61 = .ok (.iconst 0, 1) := by decide +kernel
theorem dX10_check_62 : decode cX10_check 62 = .ok (.istore 4, 2) := by decide +kernel
theorem dX10_check_64 : decode cX10_check 64 = .ok (.iload 4, 2) := by decide +kernel
theorem dX10_check_66 : decode cX10_check 66 = .ok (.iload_n 1, 1) := by decide +kernel
theorem dX10_check_67 : decode cX10_check 67 = .ok (.if_icmp .ge 53, 3) := by decide +kernel
theorem dX10_check_70 : decode cX10_check 70 = .ok (.aload_n 0, 1) := by decide +kernel
theorem dX10_check_71 : decode cX10_check 71 = .ok (.getfield 7, 3) := by decide +kernel
theorem dX10_check_74 : decode cX10_check 74 = .ok (.iconst 2, 1) := by decide +kernel
theorem dX10_check_75 : decode cX10_check 75 = .ok (.iaload, 1) := by decide +kernel
theorem dX10_check_76 : decode cX10_check 76 = .ok (.sipush 9999, 3) := by decide +kernel
theorem dX10_check_79 : decode cX10_check 79 = .ok (.if_icmp .ge 41, 3) := by decide +kernel
theorem dX10_check_82 : decode cX10_check 82 = .ok (.aload_n 0, 1) := by decide +kernel
theorem dX10_check_83 : decode cX10_check 83 = .ok (.invokevirtual 191, 3) := by decide +kernel
theorem dX10_check_86 : decode cX10_check 86 = .ok (.aload_n 0, 1) := by decide +kernel
theorem dX10_check_87 : decode cX10_check 87 = .ok (.getfield 67, 3) := by decide +kernel
theorem dX10_check_90 : decode cX10_check 90 = .ok (.iload_n 3, 1) := by decide +kernel
theorem dX10_check_91 : decode cX10_check 91 = .ok (.aload_n 0, 1) := by decide +kernel
theorem dX10_check_92 : decode cX10_check 92 = .ok (.getfield 7, 3) := by decide +kernel
theorem dX10_check_95 : decode cX10_check 95 = .ok (.bipush 6, 2) := by decide +kernel
theorem dX10_check_97 : decode cX10_check 97 = .ok (.iaload, 1) := by decide +kernel
theorem dX10_check_98 : decode cX10_check 98 = .ok (.iastore, 1) := by decide +kernel
theorem dX10_check_99 : decode cX10_check 99 = .ok (.aload_n 0, 1) := by decide +kernel
theorem dX10_check_100 : decode cX10_check 100 = .ok (.getfield 67, 3) := by decide +kernel
theorem dX10_check_103 : decode cX10_check 103 = .ok (.iload_n 3, 1) := by decide +kernel
theorem dX10_check_104 : decode cX10_check 104 = .ok (.iconst 1, 1) := by decide +kernel
theorem dX10_check_105 : decode cX10_check 105 = .ok (.iadd, 1) := by decide +kernel
theorem dX10_check_106 : decode cX10_check 106 = .ok (.aload_n 0, 1) := by decide +kernel
theorem dX10_check_107 : decode cX10_check 107 = .ok (.invokevirtual 200, 3) := by decide +kernel
theorem dX10_check_110 : decode cX10_check 110 = .ok (.iastore, 1) := by decide +kernel
theorem dX10_check_111 : decode cX10_check 111 = .ok (.iinc 3 2, 3) := by decide +kernel
theorem dX10_check_114 : decode cX10_check 114 = .ok (.iinc 4 1, 3) := by decide +kernel
theorem dX10_check_117 : decode cX10_check 117 = .ok (.goto (-53), 3) := by decide +kernel
theorem dX10_check_120 : decode cX10_check 120 = .ok (.aload_n 0, 1) := by decide +kernel
theorem dX10_check_121 : decode cX10_check 121 = .ok (.aload_n 0, 1) := by decide +kernel
theorem dX10_check_122 : decode cX10_check 122 = .ok (.getfield 16, 3) := by decide +kernel
theorem dX10_check_125 : decode cX10_check 125 = .ok (.aload_n 0, 1) := by decide +kernel
theorem dX10_check_126 : decode cX10_check 126 = .ok (.getfield 7, 3) := by decide +kernel
theorem dX10_check_129 : decode cX10_check 129 = .ok (.invokevirtual 360, 3) := by decide +kernel
theorem dX10_check_132 : decode cX10_check 132 = .ok (.iconst 0, 1) := by decide +kernel
theorem dX10_check_133 : decode cX10_check 133 = .ok (.istore 4, 2) := by decide +kernel
theorem dX10_check_135 : decode cX10_check 135 = .ok (.iload 4, 2) := by decide +kernel
theorem dX10_check_137 : decode cX10_check 137 = .ok (.iload_n 2, 1) := by decide +kernel
theorem dX10_check_138 : decode cX10_check 138 = .ok (.if_icmp .ge 32, 3) := by decide +kernel
theorem dX10_check_141 : decode cX10_check 141 = .ok (.iload 4, 2) := by decide +kernel
theorem dX10_check_143 : decode cX10_check 143 = .ok (.iload_n 3, 1) := by decide +kernel
theorem dX10_check_144 : decode cX10_check 144 = .ok (.if_icmp .ge 26, 3) := by decide +kernel
theorem dX10_check_147 : decode cX10_check 147 = .ok (.aload_n 0, 1) := by decide +kernel
theorem dX10_check_148 : decode cX10_check 148 = .ok (.getfield 64, 3) := by decide +kernel
theorem dX10_check_151 : decode cX10_check 151 = .ok (.iload 4, 2) := by decide +kernel
theorem dX10_check_153 : decode cX10_check 153 = .ok (.iaload, 1) := by decide +kernel
theorem dX10_check_154 : decode cX10_check 154 = .ok (.aload_n 0, 1) := by decide +kernel
theorem dX10_check_155 : decode cX10_check 155 = .ok (.getfield 67, 3) := by decide +kernel
theorem dX10_check_158 : decode cX10_check 158 = .ok (.iload 4, 2) := by decide +kernel
theorem dX10_check_160 : decode cX10_check 160 = .ok (.iaload, 1) := by decide +kernel
theorem dX10_check_161 : decode cX10_check 161 = .ok (.if_icmp .ne 9, 3) := by decide +kernel
theorem dX10_check_164 : decode cX10_check 164 = .ok (.iinc 4 1, 3) := by decide +kernel
theorem dX10_check_167 : decode cX10_check 167 = .ok (.goto (-32), 3) := by decide +kernel
theorem dX10_check_170 : decode cX10_check 170 = .ok (.iload 4, 2) := by decide +kernel
theorem dX10_check_172 : decode cX10_check 172 = .ok (.iload_n 2, 1) := by decide +kernel
theorem dX10_check_173 : decode cX10_check 173 = .ok (.if_icmp .ne 13, 3) := by decide +kernel
theorem dX10_check_176 : decode cX10_check 176 = .ok (.iload 4, 2) := by decide +kernel
theorem dX10_check_178 : decode cX10_check 178 = .ok (.iload_n 3, 1) := by decide +kernel
theorem dX10_check_179 : decode cX10_check 179 = .ok (.if_icmp .ne 7, 3) := by decide +kernel
theorem dX10_check_182 : decode cX10_check 182 = .ok (.iconst 0, 1) := by decide +kernel
theorem dX10_check_183 : decode cX10_check 183 = .ok (.goto 7, 3) := by decide +kernel
theorem dX10_check_186 : decode cX10_check 186 = .ok (.iconst 1, 1) := by decide +kernel
theorem dX10_check_187 : decode cX10_check 187 = .ok (.iload 4, 2) := by decide +kernel
theorem dX10_check_189 : decode cX10_check 189 = .ok (.iadd, 1) := by decide +kernel
theorem dX10_check_190 : decode cX10_check 190 = .ok (.ireturn, 1) := by decide +kernel
theorem ok_X10_check : okV yX10_check cX10_check 5 (some .int) 1 := ⟨mw_1419, mw_1420, mw_83, mw_1421, by decide +kernel, by decide +kernel⟩
abbrev rm_X10_check : Room := { frames := 6, cells := 0, slots := 0, locals := 138 }
def b_X10_check_170 (post : Int32 → St → Prop) (σ : St) (x2 : Int32) (x3 : Int32) (x4 : Int32) : Prop := ((¬ x4 = x2 → (post (1 + x4) σ)) ∧ (x4 = x2 → (((¬ x4 = x3 → (post (1 + x4) σ)) ∧ (x4 = x3 → (post 0 σ))))))
theorem B_X10_check_170 (E : EnvW p s m args meth c D cy regsM ad "RoofWarModel" cX10_check 5 (some .int)) (ha : Apart regsM ad) {post : Int32 → St → Prop} {σ : St} {x2 : Int32} {x3 : Int32} {x4 : Int32} (hw : b_X10_check_170 post σ x2 x3 x4) {H : Heap} {locs : List Loc} {ls : Array Slot} (hP : va_P D CLS (wM cy ad σ) H) (hS : va_S (AM ad s.heap.size) s.heap H locs) (hl : lv_has ls 5 [(2, .int x2), (3, .int x3), (4, .int x4)]) : W p l e rm_X10_check s m args below meth c H locs 0 0 (MQ below (QI D cy (cellM cy ad) regsM ad s.heap.size post) args s 0 0 (AM ad s.heap.size)) (F0 m 170 ls []) := by
  obtain ⟨hx, hb, -⟩ := id E
  unfold b_X10_check_170 at hw
  refine lv_iload hx hb dX10_check_170 (lv_at hl 2 rfl) ?_
  refine lv_iload_n hx hb dX10_check_172 rfl (lv_at hl 0 rfl) ?_
  refine lv_icmp_ne (tgt := 186) hx hb dX10_check_173 (by decide) (fun c1 => ?_) (fun c1 => ?_)
  · replace hw := hw.1 c1
    refine lv_iconst (v := 1) hx hb dX10_check_186 (by decide) ?_
    refine lv_iload hx hb dX10_check_187 (lv_at hl 2 rfl) ?_
    refine lv_iadd hx hb dX10_check_189 ?_
    exact g_iret E hw hP hS dX10_check_190
  · replace hw := hw.2 c1
    refine lv_iload hx hb dX10_check_176 (lv_at hl 2 rfl) ?_
    refine lv_iload_n hx hb dX10_check_178 rfl (lv_at hl 1 rfl) ?_
    refine lv_icmp_ne (tgt := 186) hx hb dX10_check_179 (by decide) (fun c2 => ?_) (fun c2 => ?_)
    · replace hw := hw.1 c2
      refine lv_iconst (v := 1) hx hb dX10_check_186 (by decide) ?_
      refine lv_iload hx hb dX10_check_187 (lv_at hl 2 rfl) ?_
      refine lv_iadd hx hb dX10_check_189 ?_
      exact g_iret E hw hP hS dX10_check_190
    · replace hw := hw.2 c2
      refine lv_iconst (v := 0) hx hb dX10_check_182 (by decide) ?_
      refine lv_goto (tgt := 190) hx hb dX10_check_183 (by decide) ?_
      exact g_iret E hw hP hS dX10_check_190
def b_X10_check_135 (K135 : St → Int32 → Int32 → Int32 → Prop) (post : Int32 → St → Prop) (σ : St) (x2 : Int32) (x3 : Int32) (x4 : Int32) : Prop := ((x2 ≤ x4 → (b_X10_check_170 post σ x2 x3 x4)) ∧ (¬ x2 ≤ x4 → (((x3 ≤ x4 → (b_X10_check_170 post σ x2 x3 x4)) ∧ (¬ x3 ≤ x4 → (vp_in x4 60 ∧ (vp_in x4 60 ∧ (((¬ (σ 19 0 x4.toNatClampNeg) = (σ 20 0 x4.toNatClampNeg) → (b_X10_check_170 post σ x2 x3 x4)) ∧ ((σ 19 0 x4.toNatClampNeg) = (σ 20 0 x4.toNatClampNeg) → (∀ v6 : Int32, v6 = x4 + 1 → (K135 σ x2 x3 v6))))))))))))
noncomputable def l_X10_check_135 (post : Int32 → St → Prop) : Nat → St → Int32 → Int32 → Int32 → Prop := fun n => Nat.rec (motive := fun _ => St → Int32 → Int32 → Int32 → Prop) (fun _ _ _ _ => False) (fun _ ih => b_X10_check_135 ih post) n
theorem L_X10_check_135 (E : EnvW p s m args meth c D cy regsM ad "RoofWarModel" cX10_check 5 (some .int)) (ha : Apart regsM ad) {post : Int32 → St → Prop} : ∀ (n : Nat), ∀ (σ : St) (x2 : Int32) (x3 : Int32) (x4 : Int32), l_X10_check_135 post n σ x2 x3 x4 → ∀ (H : Heap) (locs : List Loc) (ls : Array Slot), va_P D CLS (wM cy ad σ) H → va_S (AM ad s.heap.size) s.heap H locs → lv_has ls 5 [(0, .ref (ad 0 0)), (2, .int x2), (3, .int x3), (4, .int x4)] → W p l e rm_X10_check s m args below meth c H locs 0 0 (MQ below (QI D cy (cellM cy ad) regsM ad s.heap.size post) args s 0 0 (AM ad s.heap.size)) (F0 m 135 ls []) := by
  obtain ⟨hx, hb, -⟩ := id E
  intro n
  induction n with
  | zero => intro σ x2 x3 x4 hw; exact hw.elim
  | succ n hk135 =>
    intro σ x2 x3 x4 hw H locs ls hP hS hl
    replace hw : b_X10_check_135 (l_X10_check_135 post n) post σ x2 x3 x4 := hw
    unfold b_X10_check_135 at hw
    refine lv_iload hx hb dX10_check_135 (lv_at hl 3 rfl) ?_
    refine lv_iload_n hx hb dX10_check_137 rfl (lv_at hl 1 rfl) ?_
    refine lv_icmp_ge (tgt := 170) hx hb dX10_check_138 (by decide) (fun c1 => ?_) (fun c1 => ?_)
    · replace hw := hw.1 c1
      exact B_X10_check_170 E ha hw hP hS (lv_sub hl [1, 2, 3] rfl)
    · replace hw := hw.2 c1
      refine lv_iload hx hb dX10_check_141 (lv_at hl 3 rfl) ?_
      refine lv_iload_n hx hb dX10_check_143 rfl (lv_at hl 2 rfl) ?_
      refine lv_icmp_ge (tgt := 170) hx hb dX10_check_144 (by decide) (fun c2 => ?_) (fun c2 => ?_)
      · replace hw := hw.1 c2
        exact B_X10_check_170 E ha hw hP hS (lv_sub hl [1, 2, 3] rfl)
      · replace hw := hw.2 c2
        refine lv_aload_n hx hb dX10_check_147 rfl (lv_at hl 0 rfl) ?_
        refine fX10_31 E hP mw_977 dX10_check_148 ?_
        refine lv_iload hx hb dX10_check_151 (lv_at hl 3 rfl) ?_
        obtain ⟨h3, hw⟩ := hw
        refine aM19 E hP h3 dX10_check_153 ?_
        refine lv_aload_n hx hb dX10_check_154 rfl (lv_at hl 0 rfl) ?_
        refine fX10_33 E hP mw_979 dX10_check_155 ?_
        refine lv_iload hx hb dX10_check_158 (lv_at hl 3 rfl) ?_
        obtain ⟨h4, hw⟩ := hw
        refine aM20 E hP h4 dX10_check_160 ?_
        refine lv_icmp_ne (tgt := 170) hx hb dX10_check_161 (by decide) (fun c5 => ?_) (fun c5 => ?_)
        · replace hw := hw.1 c5
          exact B_X10_check_170 E ha hw hP hS (lv_sub hl [1, 2, 3] rfl)
        · replace hw := hw.2 c5
          obtain ⟨v6, ev6⟩ : ∃ y : Int32, y = x4 + 1 := ⟨_, rfl⟩
          replace hw := hw v6 ev6
          refine lv_iinc (v := v6) (lv' := [(4, .int v6), (0, .ref (ad 0 0)), (2, .int x2), (3, .int x3)]) hx hb dX10_check_164 hl (k := 3) rfl (by rw [ev6]; rfl) (by decide) rfl (fun ls hl => ?_)
          refine lv_goto (tgt := 135) hx hb dX10_check_167 (by decide) ?_
          exact hk135 σ x2 x3 v6 hw _ _ _ hP hS (lv_sub hl [1, 2, 3, 0] rfl)
def b_X10_check_120 (post : Int32 → St → Prop) (σ : St) (x2 : Int32) (x3 : Int32) : Prop := w_X10_setAside_3_1 (fun s1 => ∃ n2 : Nat, l_X10_check_135 post n2 s1 x2 x3 (0 : Int32)) σ
theorem B_X10_check_120 (E : EnvW p s m args meth c D cy regsM ad "RoofWarModel" cX10_check 5 (some .int)) (ha : Apart regsM ad) {post : Int32 → St → Prop} {σ : St} {x2 : Int32} {x3 : Int32} (hw : b_X10_check_120 post σ x2 x3) {H : Heap} {locs : List Loc} {ls : Array Slot} (hP : va_P D CLS (wM cy ad σ) H) (hS : va_S (AM ad s.heap.size) s.heap H locs) (hl : lv_has ls 5 [(0, .ref (ad 0 0)), (2, .int x2), (3, .int x3)]) : W p l e rm_X10_check s m args below meth c H locs 0 0 (MQ below (QI D cy (cellM cy ad) regsM ad s.heap.size post) args s 0 0 (AM ad s.heap.size)) (F0 m 120 ls []) := by
  obtain ⟨hx, hb, -⟩ := id E
  unfold b_X10_check_120 at hw
  refine lv_aload_n hx hb dX10_check_120 rfl (lv_at hl 0 rfl) ?_
  refine lv_aload_n hx hb dX10_check_121 rfl (lv_at hl 0 rfl) ?_
  refine fX10_2 E hP mw_948 dX10_check_122 ?_
  refine lv_aload_n hx hb dX10_check_125 rfl (lv_at hl 0 rfl) ?_
  refine fX10_0 E hP mw_946 dX10_check_126 ?_
  refine g_cVv (As := [.ref (ad 3 0), .ref (ad 1 0)]) (rest := []) E hl.1 (c_X10_setAside_3_1 l D cy ad ha hw _) ok_X10_setAside mw_1423 ⟨(Nat.le_of_ble_eq_true rfl), (Nat.le_of_ble_eq_true rfl)⟩ ⟨rfl, rfl⟩ rM0 rfl rfl rfl rfl rfl (Nat.le_of_ble_eq_true rfl) ⟨Nat.zero_le _, Nat.zero_le _⟩ hP hS dX10_check_129 (fun s1 hw H locs hP hS => ?_)
  refine lv_iconst (v := 0) hx hb dX10_check_132 (by decide) ?_
  refine lv_istore (lv' := [(4, .int 0), (0, .ref (ad 0 0)), (2, .int x2), (3, .int x3)]) hx hb dX10_check_133 hl (by decide) rfl (fun ls hl => ?_)
  obtain ⟨n2, hw⟩ := hw
  exact L_X10_check_135 E ha n2 s1 x2 x3 (0 : Int32) hw _ _ _ hP hS (lv_sub hl [1, 2, 3, 0] rfl)
def b_X10_check_64 (K64 : St → Int32 → Int32 → Int32 → Int32 → Prop) (post : Int32 → St → Prop) (σ : St) (x1 : Int32) (x2 : Int32) (x3 : Int32) (x4 : Int32) : Prop := ((x1 ≤ x4 → (b_X10_check_120 post σ x2 x3)) ∧ (¬ x1 ≤ x4 → (vp_in (2 : Int32) 3082 ∧ (((9999 ≤ (σ 1 0 (2 : Int32).toNatClampNeg) → (b_X10_check_120 post σ x2 x3)) ∧ (¬ 9999 ≤ (σ 1 0 (2 : Int32).toNatClampNeg) → (w_X10_goesOn (fun s4 => vp_in (6 : Int32) 3082 ∧ (vp_in x3 60 ∧ (∀ s7 : St, s7 = wr s4 20 0 x3.toNatClampNeg (s4 1 0 (6 : Int32).toNatClampNeg) → (w_X10_leaks (fun r8 s8 => vp_in (x3 + 1) 60 ∧ (∀ s10 : St, s10 = wr s8 20 0 (x3 + 1).toNatClampNeg r8 → (∀ v11 : Int32, v11 = x3 + 2 → (∀ v12 : Int32, v12 = x4 + 1 → (K64 s10 x1 x2 v11 v12))))) s7)))) σ)))))))
noncomputable def l_X10_check_64 (post : Int32 → St → Prop) : Nat → St → Int32 → Int32 → Int32 → Int32 → Prop := fun n => Nat.rec (motive := fun _ => St → Int32 → Int32 → Int32 → Int32 → Prop) (fun _ _ _ _ _ => False) (fun _ ih => b_X10_check_64 ih post) n
theorem L_X10_check_64 (E : EnvW p s m args meth c D cy regsM ad "RoofWarModel" cX10_check 5 (some .int)) (ha : Apart regsM ad) {post : Int32 → St → Prop} : ∀ (n : Nat), ∀ (σ : St) (x1 : Int32) (x2 : Int32) (x3 : Int32) (x4 : Int32), l_X10_check_64 post n σ x1 x2 x3 x4 → ∀ (H : Heap) (locs : List Loc) (ls : Array Slot), va_P D CLS (wM cy ad σ) H → va_S (AM ad s.heap.size) s.heap H locs → lv_has ls 5 [(0, .ref (ad 0 0)), (1, .int x1), (2, .int x2), (3, .int x3), (4, .int x4)] → W p l e rm_X10_check s m args below meth c H locs 0 0 (MQ below (QI D cy (cellM cy ad) regsM ad s.heap.size post) args s 0 0 (AM ad s.heap.size)) (F0 m 64 ls []) := by
  obtain ⟨hx, hb, -⟩ := id E
  intro n
  induction n with
  | zero => intro σ x1 x2 x3 x4 hw; exact hw.elim
  | succ n hk64 =>
    intro σ x1 x2 x3 x4 hw H locs ls hP hS hl
    replace hw : b_X10_check_64 (l_X10_check_64 post n) post σ x1 x2 x3 x4 := hw
    unfold b_X10_check_64 at hw
    refine lv_iload hx hb dX10_check_64 (lv_at hl 4 rfl) ?_
    refine lv_iload_n hx hb dX10_check_66 rfl (lv_at hl 1 rfl) ?_
    refine lv_icmp_ge (tgt := 120) hx hb dX10_check_67 (by decide) (fun c1 => ?_) (fun c1 => ?_)
    · replace hw := hw.1 c1
      exact B_X10_check_120 E ha hw hP hS (lv_sub hl [0, 2, 3] rfl)
    · replace hw := hw.2 c1
      refine lv_aload_n hx hb dX10_check_70 rfl (lv_at hl 0 rfl) ?_
      refine fX10_0 E hP mw_946 dX10_check_71 ?_
      refine lv_iconst (v := 2) hx hb dX10_check_74 (by decide) ?_
      obtain ⟨h2, hw⟩ := hw
      refine aM1 E hP h2 dX10_check_75 ?_
      refine lv_sipush (v := 9999) hx hb dX10_check_76 (by decide) ?_
      refine lv_icmp_ge (tgt := 120) hx hb dX10_check_79 (by decide) (fun c3 => ?_) (fun c3 => ?_)
      · replace hw := hw.1 c3
        exact B_X10_check_120 E ha hw hP hS (lv_sub hl [0, 2, 3] rfl)
      · replace hw := hw.2 c3
        refine lv_aload_n hx hb dX10_check_82 rfl (lv_at hl 0 rfl) ?_
        refine g_cVv (As := []) (rest := []) E hl.1 (c_X10_goesOn l D cy ad ha hw _) ok_X10_goesOn mw_1166 ⟨(Nat.le_of_ble_eq_true rfl), (Nat.le_of_ble_eq_true rfl)⟩ ⟨rfl, rfl⟩ rM0 rfl rfl rfl rfl rfl (Nat.le_of_ble_eq_true rfl) ⟨Nat.zero_le _, Nat.zero_le _⟩ hP hS dX10_check_83 (fun s4 hw H locs hP hS => ?_)
        refine lv_aload_n hx hb dX10_check_86 rfl (lv_at hl 0 rfl) ?_
        refine fX10_33 E hP mw_979 dX10_check_87 ?_
        refine lv_iload_n hx hb dX10_check_90 rfl (lv_at hl 3 rfl) ?_
        refine lv_aload_n hx hb dX10_check_91 rfl (lv_at hl 0 rfl) ?_
        refine fX10_0 E hP mw_946 dX10_check_92 ?_
        refine lv_bipush (v := 6) hx hb dX10_check_95 (by decide) ?_
        obtain ⟨h5, hw⟩ := hw
        refine aM1 E hP h5 dX10_check_97 ?_
        obtain ⟨h6, hw⟩ := hw
        refine tM20 E ha h6 dX10_check_98 hP hS (fun s7 es7 H locs hP hS => ?_)
        replace hw := hw s7 es7
        refine lv_aload_n hx hb dX10_check_99 rfl (lv_at hl 0 rfl) ?_
        refine fX10_33 E hP mw_979 dX10_check_100 ?_
        refine lv_iload_n hx hb dX10_check_103 rfl (lv_at hl 3 rfl) ?_
        refine lv_iconst (v := 1) hx hb dX10_check_104 (by decide) ?_
        refine lv_iadd hx hb dX10_check_105 ?_
        refine lv_aload_n hx hb dX10_check_106 rfl (lv_at hl 0 rfl) ?_
        refine g_cVi (As := []) (rest := [.int (x3 + 1), .ref (ad 20 0)]) E hl.1 (c_X10_leaks l D cy ad ha hw _) ok_X10_leaks mw_1221 ⟨(Nat.le_of_ble_eq_true rfl), (Nat.le_of_ble_eq_true rfl)⟩ ⟨rfl, rfl⟩ rM0 rfl rfl rfl rfl rfl (Nat.le_of_ble_eq_true rfl) ⟨Nat.zero_le _, Nat.zero_le _⟩ hP hS dX10_check_107 (fun r8 s8 hw H locs hP hS => ?_)
        obtain ⟨h9, hw⟩ := hw
        refine tM20 E ha h9 dX10_check_110 hP hS (fun s10 es10 H locs hP hS => ?_)
        replace hw := hw s10 es10
        obtain ⟨v11, ev11⟩ : ∃ y : Int32, y = x3 + 2 := ⟨_, rfl⟩
        replace hw := hw v11 ev11
        refine lv_iinc (v := v11) (lv' := [(3, .int v11), (0, .ref (ad 0 0)), (1, .int x1), (2, .int x2), (4, .int x4)]) hx hb dX10_check_111 hl (k := 3) rfl (by rw [ev11]; rfl) (by decide) rfl (fun ls hl => ?_)
        obtain ⟨v12, ev12⟩ : ∃ y : Int32, y = x4 + 1 := ⟨_, rfl⟩
        replace hw := hw v12 ev12
        refine lv_iinc (v := v12) (lv' := [(4, .int v12), (3, .int v11), (0, .ref (ad 0 0)), (1, .int x1), (2, .int x2)]) hx hb dX10_check_114 hl (k := 4) rfl (by rw [ev12]; rfl) (by decide) rfl (fun ls hl => ?_)
        refine lv_goto (tgt := 64) hx hb dX10_check_117 (by decide) ?_
        exact hk64 s10 x1 x2 v11 v12 hw _ _ _ hP hS (lv_sub hl [2, 3, 4, 1, 0] rfl)
def w_X10_check (post : Int32 → St → Prop) (σ : St) (x1 : Int32) : Prop := ∀ v1 : Int32, v1 = σ 0 0 13 → (∀ s2 : St, s2 = wr σ 0 0 13 0 → (w_X10_isIn (fun r3 s3 => ((¬ r3 = 0 → (((¬ (s3 0 0 0) = 0 → (w_X10_setAside_1_3 (fun s6 => w_X10_setAside_2_1 (fun s7 => ∃ n8 : Nat, l_X10_check_64 post n8 s7 x1 v1 (0 : Int32) (0 : Int32)) s6) s3)) ∧ ((s3 0 0 0) = 0 → (post ((-1000000002)) s3))))) ∧ (r3 = 0 → (post ((-1000000001)) s3)))) s2 x1.toInt64 ((1 : Int64)) ((30 : Int64))))
theorem B_X10_check_0 (E : EnvW p s m args meth c D cy regsM ad "RoofWarModel" cX10_check 5 (some .int)) (ha : Apart regsM ad) {post : Int32 → St → Prop} {σ : St} {x1 : Int32} (hw : w_X10_check post σ x1) {H : Heap} {locs : List Loc} {ls : Array Slot} (hP : va_P D CLS (wM cy ad σ) H) (hS : va_S (AM ad s.heap.size) s.heap H locs) (hl : lv_has ls 5 [(0, .ref (ad 0 0)), (1, .int x1)]) : W p l e rm_X10_check s m args below meth c H locs 0 0 (MQ below (QI D cy (cellM cy ad) regsM ad s.heap.size post) args s 0 0 (AM ad s.heap.size)) (F0 m 0 ls []) := by
  obtain ⟨hx, hb, -⟩ := id E
  unfold w_X10_check at hw
  refine lv_aload_n hx hb dX10_check_0 rfl (lv_at hl 0 rfl) ?_
  refine fX10_32 E hP mw_978 dX10_check_1 ?_
  refine lv_topi (fun v1 ev1 => ?_)
  replace hw := hw v1 ev1
  refine lv_istore_n (lv' := [(2, .int v1), (0, .ref (ad 0 0)), (1, .int x1)]) hx hb dX10_check_4 rfl hl (by decide) rfl (fun ls hl => ?_)
  refine lv_aload_n hx hb dX10_check_5 rfl (lv_at hl 1 rfl) ?_
  refine lv_iconst (v := 0) hx hb dX10_check_6 (by decide) ?_
  refine uX10_32 E ha mw_978 dX10_check_7 hP hS (fun s2 es2 H locs hP hS => ?_)
  replace hw := hw s2 es2
  refine lv_iload_n hx hb dX10_check_10 rfl (lv_at hl 2 rfl) ?_
  refine lv_i2l (v := x1.toInt64) hx hb dX10_check_11 rfl ?_
  refine lv_lconst (v := 1) hx hb dX10_check_12 (by decide) ?_
  refine g_ldc2 (v := 30) E mw_1422 dX10_check_13 ?_
  refine g_cSi (As := [.long x1.toInt64, .long ((1 : Int64)), .long ((30 : Int64))]) (rest := []) E hl.1 (c_X10_isIn l D cy ad ha hw _) ok_X10_isIn mw_1054 ⟨(Nat.le_of_ble_eq_true rfl), (Nat.le_of_ble_eq_true rfl)⟩ ⟨rfl, rfl⟩ rfl rfl (Nat.le_of_ble_eq_true rfl) ⟨Nat.zero_le _, Nat.zero_le _⟩ hP hS dX10_check_16 (fun r3 s3 hw H locs hP hS => ?_)
  obtain ⟨z3, hw⟩ := hw
  refine lv_if_ne (tgt := 25) hx hb dX10_check_19 (by decide) (fun c4 => ?_) (fun c4 => ?_)
  · replace hw := hw.1 c4
    refine lv_aload_n hx hb dX10_check_25 rfl (lv_at hl 1 rfl) ?_
    refine fX10_3 E hP mw_949 dX10_check_26 ?_
    refine lv_if_ne (tgt := 35) hx hb dX10_check_29 (by decide) (fun c5 => ?_) (fun c5 => ?_)
    · replace hw := hw.1 c5
      refine lv_aload_n hx hb dX10_check_35 rfl (lv_at hl 1 rfl) ?_
      refine lv_aload_n hx hb dX10_check_36 rfl (lv_at hl 1 rfl) ?_
      refine fX10_0 E hP mw_946 dX10_check_37 ?_
      refine lv_aload_n hx hb dX10_check_40 rfl (lv_at hl 1 rfl) ?_
      refine fX10_2 E hP mw_948 dX10_check_41 ?_
      refine g_cVv (As := [.ref (ad 1 0), .ref (ad 3 0)]) (rest := []) E hl.1 (c_X10_setAside_1_3 l D cy ad ha hw _) ok_X10_setAside mw_1423 ⟨(Nat.le_of_ble_eq_true rfl), (Nat.le_of_ble_eq_true rfl)⟩ ⟨rfl, rfl⟩ rM0 rfl rfl rfl rfl rfl (Nat.le_of_ble_eq_true rfl) ⟨Nat.zero_le _, Nat.zero_le _⟩ hP hS dX10_check_44 (fun s6 hw H locs hP hS => ?_)
      refine lv_aload_n hx hb dX10_check_47 rfl (lv_at hl 1 rfl) ?_
      refine lv_aload_n hx hb dX10_check_48 rfl (lv_at hl 1 rfl) ?_
      refine fX10_1 E hP mw_947 dX10_check_49 ?_
      refine lv_aload_n hx hb dX10_check_52 rfl (lv_at hl 1 rfl) ?_
      refine fX10_0 E hP mw_946 dX10_check_53 ?_
      refine g_cVv (As := [.ref (ad 2 0), .ref (ad 1 0)]) (rest := []) E hl.1 (c_X10_setAside_2_1 l D cy ad ha hw _) ok_X10_setAside mw_1423 ⟨(Nat.le_of_ble_eq_true rfl), (Nat.le_of_ble_eq_true rfl)⟩ ⟨rfl, rfl⟩ rM0 rfl rfl rfl rfl rfl (Nat.le_of_ble_eq_true rfl) ⟨Nat.zero_le _, Nat.zero_le _⟩ hP hS dX10_check_56 (fun s7 hw H locs hP hS => ?_)
      refine lv_iconst (v := 0) hx hb dX10_check_59 (by decide) ?_
      refine lv_istore_n (lv' := [(3, .int 0), (2, .int v1), (0, .ref (ad 0 0)), (1, .int x1)]) hx hb dX10_check_60 rfl hl (by decide) rfl (fun ls hl => ?_)
      refine lv_iconst (v := 0) hx hb dX10_check_61 (by decide) ?_
      refine lv_istore (lv' := [(4, .int 0), (3, .int 0), (2, .int v1), (0, .ref (ad 0 0)), (1, .int x1)]) hx hb dX10_check_62 hl (by decide) rfl (fun ls hl => ?_)
      obtain ⟨n8, hw⟩ := hw
      exact L_X10_check_64 E ha n8 s7 x1 v1 (0 : Int32) (0 : Int32) hw _ _ _ hP hS (lv_sub hl [3, 4, 2, 1, 0] rfl)
    · replace hw := hw.2 c5
      refine g_ldc (v := -1000000002) E mw_1070 dX10_check_32 ?_
      exact g_iret E hw hP hS dX10_check_34
  · replace hw := hw.2 c4
    refine g_ldc (v := -1000000001) E mw_1063 dX10_check_22 ?_
    exact g_iret E hw hP hS dX10_check_24
theorem c_X10_check (l : Launch) (D : va_G) (cy : Nat → ClassId) (ad : Nat → Nat → Nat) (ha : Apart regsM ad) {post : Int32 → St → Prop} {σ : St} {x1 : Int32} (hw : w_X10_check post σ x1) (sz : Nat) : MetI l yX10_check cX10_check 5 .int rm_X10_check [.ref (ad 0 0), .int x1] D cy (cellM cy ad) regsM ad σ sz post :=
  Met_inI ok_X10_check.2.2.2.2.2 (Nat.le_of_ble_eq_true rfl) (fun p e s m below meth c ls E hP hl => B_X10_check_0 E ha hw hP va_S.rf hl)
-- RoofWarModel.setAside([I[I)V
abbrev rm_X10_setAside_1_2 : Room := { frames := 0, cells := 0, slots := 0, locals := 0 }
def b_X10_setAside_1_2_2 (K2 : St → Int32 → Prop) (post : St → Prop) (σ : St) (x3 : Int32) : Prop := ((2882 ≤ x3 → (post σ)) ∧ (¬ 2882 ≤ x3 → (vp_in x3 3082 ∧ (vp_in x3 3082 ∧ (∀ s4 : St, s4 = wr σ 2 0 x3.toNatClampNeg (σ 1 0 x3.toNatClampNeg) → (∀ v5 : Int32, v5 = x3 + 1 → (K2 s4 v5)))))))
noncomputable def l_X10_setAside_1_2_2 (post : St → Prop) : Nat → St → Int32 → Prop := fun n => Nat.rec (motive := fun _ => St → Int32 → Prop) (fun _ _ => False) (fun _ ih => b_X10_setAside_1_2_2 ih post) n
theorem L_X10_setAside_1_2_2 (E : EnvW p s m args meth c D cy regsM ad "RoofWarModel" cX10_setAside 4 none) (ha : Apart regsM ad) {post : St → Prop} : ∀ (n : Nat), ∀ (σ : St) (x3 : Int32), l_X10_setAside_1_2_2 post n σ x3 → ∀ (H : Heap) (locs : List Loc) (ls : Array Slot), va_P D CLS (wM cy ad σ) H → va_S (AM ad s.heap.size) s.heap H locs → lv_has ls 4 [(1, .ref (ad 1 0)), (2, .ref (ad 2 0)), (3, .int x3)] → W p l e rm_X10_setAside_1_2 s m args below meth c H locs 0 0 (MQ below (QV D cy (cellM cy ad) regsM ad s.heap.size post) args s 0 0 (AM ad s.heap.size)) (F0 m 2 ls []) := by
  obtain ⟨hx, hb, -⟩ := id E
  intro n
  induction n with
  | zero => intro σ x3 hw; exact hw.elim
  | succ n hk2 =>
    intro σ x3 hw H locs ls hP hS hl
    replace hw : b_X10_setAside_1_2_2 (l_X10_setAside_1_2_2 post n) post σ x3 := hw
    unfold b_X10_setAside_1_2_2 at hw
    refine lv_iload_n hx hb dX10_setAside_2 rfl (lv_at hl 2 rfl) ?_
    refine lv_sipush (v := 2882) hx hb dX10_setAside_3 (by decide) ?_
    refine lv_icmp_ge (tgt := 21) hx hb dX10_setAside_6 (by decide) (fun c1 => ?_) (fun c1 => ?_)
    · replace hw := hw.1 c1
      exact g_vret E hw hP hS dX10_setAside_21
    · replace hw := hw.2 c1
      refine lv_aload_n hx hb dX10_setAside_9 rfl (lv_at hl 1 rfl) ?_
      refine lv_iload_n hx hb dX10_setAside_10 rfl (lv_at hl 2 rfl) ?_
      refine lv_aload_n hx hb dX10_setAside_11 rfl (lv_at hl 0 rfl) ?_
      refine lv_iload_n hx hb dX10_setAside_12 rfl (lv_at hl 2 rfl) ?_
      obtain ⟨h2, hw⟩ := hw
      refine aM1 E hP h2 dX10_setAside_13 ?_
      obtain ⟨h3, hw⟩ := hw
      refine tM2 E ha h3 dX10_setAside_14 hP hS (fun s4 es4 H locs hP hS => ?_)
      replace hw := hw s4 es4
      obtain ⟨v5, ev5⟩ : ∃ y : Int32, y = x3 + 1 := ⟨_, rfl⟩
      replace hw := hw v5 ev5
      refine lv_iinc (v := v5) (lv' := [(3, .int v5), (1, .ref (ad 1 0)), (2, .ref (ad 2 0))]) hx hb dX10_setAside_15 hl (k := 2) rfl (by rw [ev5]; rfl) (by decide) rfl (fun ls hl => ?_)
      refine lv_goto (tgt := 2) hx hb dX10_setAside_18 (by decide) ?_
      exact hk2 s4 v5 hw _ _ _ hP hS (lv_sub hl [1, 2, 0] rfl)
def w_X10_setAside_1_2 (post : St → Prop) (σ : St) : Prop := ∃ n1 : Nat, l_X10_setAside_1_2_2 post n1 σ (0 : Int32)
theorem B_X10_setAside_1_2_0 (E : EnvW p s m args meth c D cy regsM ad "RoofWarModel" cX10_setAside 4 none) (ha : Apart regsM ad) {post : St → Prop} {σ : St} (hw : w_X10_setAside_1_2 post σ) {H : Heap} {locs : List Loc} {ls : Array Slot} (hP : va_P D CLS (wM cy ad σ) H) (hS : va_S (AM ad s.heap.size) s.heap H locs) (hl : lv_has ls 4 [(0, .ref (ad 0 0)), (1, .ref (ad 1 0)), (2, .ref (ad 2 0))]) : W p l e rm_X10_setAside_1_2 s m args below meth c H locs 0 0 (MQ below (QV D cy (cellM cy ad) regsM ad s.heap.size post) args s 0 0 (AM ad s.heap.size)) (F0 m 0 ls []) := by
  obtain ⟨hx, hb, -⟩ := id E
  unfold w_X10_setAside_1_2 at hw
  refine lv_iconst (v := 0) hx hb dX10_setAside_0 (by decide) ?_
  refine lv_istore_n (lv' := [(3, .int 0), (0, .ref (ad 0 0)), (1, .ref (ad 1 0)), (2, .ref (ad 2 0))]) hx hb dX10_setAside_1 rfl hl (by decide) rfl (fun ls hl => ?_)
  obtain ⟨n1, hw⟩ := hw
  exact L_X10_setAside_1_2_2 E ha n1 σ (0 : Int32) hw _ _ _ hP hS (lv_sub hl [2, 3, 0] rfl)
theorem c_X10_setAside_1_2 (l : Launch) (D : va_G) (cy : Nat → ClassId) (ad : Nat → Nat → Nat) (ha : Apart regsM ad) {post : St → Prop} {σ : St} (hw : w_X10_setAside_1_2 post σ) (sz : Nat) : MetV l yX10_setAside cX10_setAside 4 rm_X10_setAside_1_2 [.ref (ad 0 0), .ref (ad 1 0), .ref (ad 2 0)] D cy (cellM cy ad) regsM ad σ sz post :=
  Met_inV ok_X10_setAside.2.2.2.2.2 (Nat.le_of_ble_eq_true rfl) (fun p e s m below meth c ls E hP hl => B_X10_setAside_1_2_0 E ha hw hP va_S.rf hl)
-- RoofWarModel.keep()I
theorem dX10_keep_0 : decode cX10_keep 0 = .ok (.aload_n 0, 1) := by decide +kernel
theorem dX10_keep_1 : decode cX10_keep 1 = .ok (.iconst 1, 1) := by decide +kernel
theorem dX10_keep_2 : decode cX10_keep 2 = .ok (.putfield 356, 3) := by decide +kernel
theorem dX10_keep_5 : decode cX10_keep 5 = .ok (.aload_n 0, 1) := by decide +kernel
theorem dX10_keep_6 : decode cX10_keep 6 = .ok (.aload_n 0, 1) := by decide +kernel
theorem dX10_keep_7 : decode cX10_keep 7 = .ok (.getfield 7, 3) := by decide +kernel
theorem dX10_keep_10 : decode cX10_keep 10 = .ok (.aload_n 0, 1) := by decide +kernel
theorem dX10_keep_11 : decode cX10_keep 11 = .ok (.getfield 13, 3) := by decide +kernel
theorem dX10_keep_14 : decode cX10_keep 14 = .ok (.invokevirtual 360, 3) := by decide +kernel
theorem dX10_keep_17 : decode cX10_keep 17 = .ok (.aload_n 0, 1) := by decide +kernel
theorem dX10_keep_18 : decode cX10_keep 18 = .ok (.getfield 7, 3) := by decide +kernel
theorem dX10_keep_21 : decode cX10_keep 21 = .ok (.iconst 0, 1) := by decide +kernel
theorem dX10_keep_22 : decode cX10_keep 22 = .ok (.iaload, 1) := by decide +kernel
theorem dX10_keep_23 : decode cX10_keep 23 = .ok (.ireturn, 1) := by decide +kernel
theorem ok_X10_keep : okV yX10_keep cX10_keep 1 (some .int) 0 := ⟨mw_1427, mw_1428, mw_83, mw_1429, by decide +kernel, by decide +kernel⟩
abbrev rm_X10_keep : Room := { frames := 1, cells := 0, slots := 0, locals := 23 }
def w_X10_keep (post : Int32 → St → Prop) (σ : St) : Prop := ∀ s1 : St, s1 = wr σ 0 0 0 1 → (w_X10_setAside_1_2 (fun s2 => vp_in (0 : Int32) 3082 ∧ (post (s2 1 0 (0 : Int32).toNatClampNeg) s2)) s1)
theorem B_X10_keep_0 (E : EnvW p s m args meth c D cy regsM ad "RoofWarModel" cX10_keep 1 (some .int)) (ha : Apart regsM ad) {post : Int32 → St → Prop} {σ : St} (hw : w_X10_keep post σ) {H : Heap} {locs : List Loc} {ls : Array Slot} (hP : va_P D CLS (wM cy ad σ) H) (hS : va_S (AM ad s.heap.size) s.heap H locs) (hl : lv_has ls 1 [(0, .ref (ad 0 0))]) : W p l e rm_X10_keep s m args below meth c H locs 0 0 (MQ below (QI D cy (cellM cy ad) regsM ad s.heap.size post) args s 0 0 (AM ad s.heap.size)) (F0 m 0 ls []) := by
  obtain ⟨hx, hb, -⟩ := id E
  unfold w_X10_keep at hw
  refine lv_aload_n hx hb dX10_keep_0 rfl (lv_at hl 0 rfl) ?_
  refine lv_iconst (v := 1) hx hb dX10_keep_1 (by decide) ?_
  refine uX10_3 E ha mw_949 (Or.inr rfl) dX10_keep_2 hP hS (fun s1 es1 H locs hP hS => ?_)
  replace hw := hw s1 es1
  refine lv_aload_n hx hb dX10_keep_5 rfl (lv_at hl 0 rfl) ?_
  refine lv_aload_n hx hb dX10_keep_6 rfl (lv_at hl 0 rfl) ?_
  refine fX10_0 E hP mw_946 dX10_keep_7 ?_
  refine lv_aload_n hx hb dX10_keep_10 rfl (lv_at hl 0 rfl) ?_
  refine fX10_1 E hP mw_947 dX10_keep_11 ?_
  refine g_cVv (As := [.ref (ad 1 0), .ref (ad 2 0)]) (rest := []) E hl.1 (c_X10_setAside_1_2 l D cy ad ha hw _) ok_X10_setAside mw_1423 ⟨(Nat.le_of_ble_eq_true rfl), (Nat.le_of_ble_eq_true rfl)⟩ ⟨rfl, rfl⟩ rM0 rfl rfl rfl rfl rfl (Nat.le_of_ble_eq_true rfl) ⟨Nat.zero_le _, Nat.zero_le _⟩ hP hS dX10_keep_14 (fun s2 hw H locs hP hS => ?_)
  refine lv_aload_n hx hb dX10_keep_17 rfl (lv_at hl 0 rfl) ?_
  refine fX10_0 E hP mw_946 dX10_keep_18 ?_
  refine lv_iconst (v := 0) hx hb dX10_keep_21 (by decide) ?_
  obtain ⟨h3, hw⟩ := hw
  refine aM1 E hP h3 dX10_keep_22 ?_
  exact g_iret E hw hP hS dX10_keep_23
theorem c_X10_keep (l : Launch) (D : va_G) (cy : Nat → ClassId) (ad : Nat → Nat → Nat) (ha : Apart regsM ad) {post : Int32 → St → Prop} {σ : St} (hw : w_X10_keep post σ) (sz : Nat) : MetI l yX10_keep cX10_keep 1 .int rm_X10_keep [.ref (ad 0 0)] D cy (cellM cy ad) regsM ad σ sz post :=
  Met_inI ok_X10_keep.2.2.2.2.2 (Nat.le_of_ble_eq_true rfl) (fun p e s m below meth c ls E hP hl => B_X10_keep_0 E ha hw hP va_S.rf hl)
-- RoofWarModel.back()I
theorem dX10_back_0 : decode cX10_back 0 = .ok (.aload_n 0, 1) := by decide +kernel
theorem dX10_back_1 : decode cX10_back 1 = .ok (.getfield 356, 3) := by decide +kernel
theorem dX10_back_4 : decode cX10_back 4 = .ok (.ifCond .ne 6, 3) := by decide +kernel
theorem dX10_back_7 : decode cX10_back 7 = .ok (.ldc 101, 2) := by decide +kernel
theorem dX10_back_9 : decode cX10_back 9 = .ok (.ireturn, 1) := by decide +kernel
theorem dX10_back_10 : decode cX10_back 10 = .ok (.aload_n 0, 1) := by decide +kernel
theorem dX10_back_11 : decode cX10_back 11 = .ok (.aload_n 0, 1) := by decide +kernel
theorem dX10_back_12 : decode cX10_back 12 = .ok (.getfield 13, 3) := by decide +kernel
theorem dX10_back_15 : decode cX10_back 15 = .ok (.aload_n 0, 1) := by decide +kernel
theorem dX10_back_16 : decode cX10_back 16 = .ok (.getfield 7, 3) := by decide +kernel
theorem dX10_back_19 : decode cX10_back 19 = .ok (.invokevirtual 360, 3) := by decide +kernel
theorem dX10_back_22 : decode cX10_back 22 = .ok (.aload_n 0, 1) := by decide +kernel
theorem dX10_back_23 : decode cX10_back 23 = .ok (.getfield 7, 3) := by decide +kernel
theorem dX10_back_26 : decode cX10_back 26 = .ok (.iconst 0, 1) := by decide +kernel
theorem dX10_back_27 : decode cX10_back 27 = .ok (.iaload, 1) := by decide +kernel
theorem dX10_back_28 : decode cX10_back 28 = .ok (.ireturn, 1) := by decide +kernel
theorem ok_X10_back : okV yX10_back cX10_back 1 (some .int) 0 := ⟨mw_1431, mw_1432, mw_83, mw_1433, by decide +kernel, by decide +kernel⟩
abbrev rm_X10_back : Room := { frames := 1, cells := 0, slots := 0, locals := 23 }
def w_X10_back (post : Int32 → St → Prop) (σ : St) : Prop := ((¬ (σ 0 0 0) = 0 → (w_X10_setAside_2_1 (fun s2 => vp_in (0 : Int32) 3082 ∧ (post (s2 1 0 (0 : Int32).toNatClampNeg) s2)) σ)) ∧ ((σ 0 0 0) = 0 → (post ((-1000000002)) σ)))
theorem B_X10_back_0 (E : EnvW p s m args meth c D cy regsM ad "RoofWarModel" cX10_back 1 (some .int)) (ha : Apart regsM ad) {post : Int32 → St → Prop} {σ : St} (hw : w_X10_back post σ) {H : Heap} {locs : List Loc} {ls : Array Slot} (hP : va_P D CLS (wM cy ad σ) H) (hS : va_S (AM ad s.heap.size) s.heap H locs) (hl : lv_has ls 1 [(0, .ref (ad 0 0))]) : W p l e rm_X10_back s m args below meth c H locs 0 0 (MQ below (QI D cy (cellM cy ad) regsM ad s.heap.size post) args s 0 0 (AM ad s.heap.size)) (F0 m 0 ls []) := by
  obtain ⟨hx, hb, -⟩ := id E
  unfold w_X10_back at hw
  refine lv_aload_n hx hb dX10_back_0 rfl (lv_at hl 0 rfl) ?_
  refine fX10_3 E hP mw_949 dX10_back_1 ?_
  refine lv_if_ne (tgt := 10) hx hb dX10_back_4 (by decide) (fun c1 => ?_) (fun c1 => ?_)
  · replace hw := hw.1 c1
    refine lv_aload_n hx hb dX10_back_10 rfl (lv_at hl 0 rfl) ?_
    refine lv_aload_n hx hb dX10_back_11 rfl (lv_at hl 0 rfl) ?_
    refine fX10_1 E hP mw_947 dX10_back_12 ?_
    refine lv_aload_n hx hb dX10_back_15 rfl (lv_at hl 0 rfl) ?_
    refine fX10_0 E hP mw_946 dX10_back_16 ?_
    refine g_cVv (As := [.ref (ad 2 0), .ref (ad 1 0)]) (rest := []) E hl.1 (c_X10_setAside_2_1 l D cy ad ha hw _) ok_X10_setAside mw_1423 ⟨(Nat.le_of_ble_eq_true rfl), (Nat.le_of_ble_eq_true rfl)⟩ ⟨rfl, rfl⟩ rM0 rfl rfl rfl rfl rfl (Nat.le_of_ble_eq_true rfl) ⟨Nat.zero_le _, Nat.zero_le _⟩ hP hS dX10_back_19 (fun s2 hw H locs hP hS => ?_)
    refine lv_aload_n hx hb dX10_back_22 rfl (lv_at hl 0 rfl) ?_
    refine fX10_0 E hP mw_946 dX10_back_23 ?_
    refine lv_iconst (v := 0) hx hb dX10_back_26 (by decide) ?_
    obtain ⟨h3, hw⟩ := hw
    refine aM1 E hP h3 dX10_back_27 ?_
    exact g_iret E hw hP hS dX10_back_28
  · replace hw := hw.2 c1
    refine g_ldc (v := -1000000002) E mw_1070 dX10_back_7 ?_
    exact g_iret E hw hP hS dX10_back_9
theorem c_X10_back (l : Launch) (D : va_G) (cy : Nat → ClassId) (ad : Nat → Nat → Nat) (ha : Apart regsM ad) {post : Int32 → St → Prop} {σ : St} (hw : w_X10_back post σ) (sz : Nat) : MetI l yX10_back cX10_back 1 .int rm_X10_back [.ref (ad 0 0)] D cy (cellM cy ad) regsM ad σ sz post :=
  Met_inI ok_X10_back.2.2.2.2.2 (Nat.le_of_ble_eq_true rfl) (fun p e s m below meth c ls E hP hl => B_X10_back_0 E ha hw hP va_S.rf hl)
-- RoofWarModel.count(I)I
theorem dX10_count_0 : decode cX10_count 0 = .ok (.iload_n 1, 1) := by decide +kernel
theorem dX10_count_1 : decode cX10_count 1 = .ok (.tableswitch 111 0 8 #[51, 58, 65, 72, 79, 86, 93, 98, 103], 51) := by decide +kernel
theorem dX10_count_52 : decode cX10_count 52 = .ok (.aload_n 0, 1) := by decide +kernel
theorem dX10_count_53 : decode cX10_count 53 = .ok (.getfield 7, 3) := by decide +kernel
theorem dX10_count_56 : decode cX10_count 56 = .ok (.iconst 0, 1) := by decide +kernel
theorem dX10_count_57 : decode cX10_count 57 = .ok (.iaload, 1) := by decide +kernel
theorem dX10_count_58 : decode cX10_count 58 = .ok (.ireturn, 1) := by decide +kernel
theorem dX10_count_59 : decode cX10_count 59 = .ok (.aload_n 0, 1) := by decide +kernel
theorem dX10_count_60 : decode cX10_count 60 = .ok (.getfield 7, 3) := by decide +kernel
theorem dX10_count_63 : decode cX10_count 63 = .ok (.iconst 2, 1) := by decide +kernel
theorem dX10_count_64 : decode cX10_count 64 = .ok (.iaload, 1) := by decide +kernel
theorem dX10_count_65 : decode cX10_count 65 = .ok (.ireturn, 1) := by decide +kernel
theorem dX10_count_66 : decode cX10_count 66 = .ok (.aload_n 0, 1) := by decide +kernel
theorem dX10_count_67 : decode cX10_count 67 = .ok (.getfield 7, 3) := by decide +kernel
theorem dX10_count_70 : decode cX10_count 70 = .ok (.iconst 3, 1) := by decide +kernel
theorem dX10_count_71 : decode cX10_count 71 = .ok (.iaload, 1) := by decide +kernel
theorem dX10_count_72 : decode cX10_count 72 = .ok (.ireturn, 1) := by decide +kernel
theorem dX10_count_73 : decode cX10_count 73 = .ok (.aload_n 0, 1) := by decide +kernel
theorem dX10_count_74 : decode cX10_count 74 = .ok (.getfield 7, 3) := by decide +kernel
theorem dX10_count_77 : decode cX10_count 77 = .ok (.iconst 4, 1) := by decide +kernel
theorem dX10_count_78 : decode cX10_count 78 = .ok (.iaload, 1) := by decide +kernel
theorem dX10_count_79 : decode cX10_count 79 = .ok (.ireturn, 1) := by decide +kernel
theorem dX10_count_80 : decode cX10_count 80 = .ok (.aload_n 0, 1) := by decide +kernel
theorem dX10_count_81 : decode cX10_count 81 = .ok (.getfield 7, 3) := by decide +kernel
theorem dX10_count_84 : decode cX10_count 84 = .ok (.iconst 5, 1) := by decide +kernel
theorem dX10_count_85 : decode cX10_count 85 = .ok (.iaload, 1) := by decide +kernel
theorem dX10_count_86 : decode cX10_count 86 = .ok (.ireturn, 1) := by decide +kernel
theorem dX10_count_87 : decode cX10_count 87 = .ok (.aload_n 0, 1) := by decide +kernel
theorem dX10_count_88 : decode cX10_count 88 = .ok (.getfield 7, 3) := by decide +kernel
theorem dX10_count_91 : decode cX10_count 91 = .ok (.iconst 1, 1) := by decide +kernel
theorem dX10_count_92 : decode cX10_count 92 = .ok (.iaload, 1) := by decide +kernel
theorem dX10_count_93 : decode cX10_count 93 = .ok (.ireturn, 1) := by decide +kernel
theorem dX10_count_94 : decode cX10_count 94 = .ok (.aload_n 0, 1) := by decide +kernel
theorem dX10_count_95 : decode cX10_count 95 = .ok (.getfield 351, 3) := by decide +kernel
theorem dX10_count_98 : decode cX10_count 98 = .ok (.ireturn, 1) := by decide +kernel
theorem dX10_count_99 : decode cX10_count 99 = .ok (.aload_n 0, 1) := by decide +kernel
theorem dX10_count_100 : decode cX10_count 100 = .ok (.getfield 233, 3) := by decide +kernel
theorem dX10_count_103 : decode cX10_count 103 = .ok (.ireturn, 1) := by decide +kernel
theorem dX10_count_104 : decode cX10_count 104 = .ok (.aload_n 0, 1) := by decide +kernel
theorem dX10_count_105 : decode cX10_count 105 = .ok (.getfield 7, 3) := by decide +kernel
theorem dX10_count_108 : decode cX10_count 108 = .ok (.bipush 9, 2) := by decide +kernel
theorem dX10_count_110 : decode cX10_count 110 = .ok (.iaload, 1) := by decide +kernel
theorem dX10_count_111 : decode cX10_count 111 = .ok (.ireturn, 1) := by decide +kernel
theorem dX10_count_112 : decode cX10_count 112 = .ok (.ldc 96, 2) := by decide +kernel
theorem dX10_count_114 : decode cX10_count 114 = .ok (.ireturn, 1) := by decide +kernel
theorem ok_X10_count : okV yX10_count cX10_count 2 (some .int) 1 := ⟨mw_1435, mw_1436, mw_83, mw_1437, by decide +kernel, by decide +kernel⟩
abbrev rm_X10_count : Room := { frames := 0, cells := 0, slots := 0, locals := 0 }
def w_X10_count (post : Int32 → St → Prop) (σ : St) (x1 : Int32) : Prop := ((x1 = 0 → (vp_in (0 : Int32) 3082 ∧ (post (σ 1 0 (0 : Int32).toNatClampNeg) σ))) ∧ (¬ x1 = 0 → (((x1 = 1 → (vp_in (2 : Int32) 3082 ∧ (post (σ 1 0 (2 : Int32).toNatClampNeg) σ))) ∧ (¬ x1 = 1 → (((x1 = 2 → (vp_in (3 : Int32) 3082 ∧ (post (σ 1 0 (3 : Int32).toNatClampNeg) σ))) ∧ (¬ x1 = 2 → (((x1 = 3 → (vp_in (4 : Int32) 3082 ∧ (post (σ 1 0 (4 : Int32).toNatClampNeg) σ))) ∧ (¬ x1 = 3 → (((x1 = 4 → (vp_in (5 : Int32) 3082 ∧ (post (σ 1 0 (5 : Int32).toNatClampNeg) σ))) ∧ (¬ x1 = 4 → (((x1 = 5 → (vp_in (1 : Int32) 3082 ∧ (post (σ 1 0 (1 : Int32).toNatClampNeg) σ))) ∧ (¬ x1 = 5 → (((x1 = 6 → (post (σ 0 0 13) σ)) ∧ (¬ x1 = 6 → (((x1 = 7 → (post (σ 0 0 2) σ)) ∧ (¬ x1 = 7 → (((x1 = 8 → (vp_in (9 : Int32) 3082 ∧ (post (σ 1 0 (9 : Int32).toNatClampNeg) σ))) ∧ (¬ x1 = 8 → (post ((-1000000001)) σ)))))))))))))))))))))))))))
theorem B_X10_count_0 (E : EnvW p s m args meth c D cy regsM ad "RoofWarModel" cX10_count 2 (some .int)) (ha : Apart regsM ad) {post : Int32 → St → Prop} {σ : St} {x1 : Int32} (hw : w_X10_count post σ x1) {H : Heap} {locs : List Loc} {ls : Array Slot} (hP : va_P D CLS (wM cy ad σ) H) (hS : va_S (AM ad s.heap.size) s.heap H locs) (hl : lv_has ls 2 [(0, .ref (ad 0 0)), (1, .int x1)]) : W p l e rm_X10_count s m args below meth c H locs 0 0 (MQ below (QI D cy (cellM cy ad) regsM ad s.heap.size post) args s 0 0 (AM ad s.heap.size)) (F0 m 0 ls []) := by
  obtain ⟨hx, hb, -⟩ := id E
  unfold w_X10_count at hw
  refine lv_iload_n hx hb dX10_count_0 rfl (lv_at hl 1 rfl) ?_
  by_cases c1 : x1 = 0
  · replace hw := hw.1 c1
    refine lv_tableIn (off := 51) (tgt := 52) hx hb dX10_count_1 (by rw [c1]; decide) (by rw [c1]; decide) (by rw [c1]; rfl) (by decide) ?_
    refine lv_aload_n hx hb dX10_count_52 rfl (lv_at hl 0 rfl) ?_
    refine fX10_0 E hP mw_946 dX10_count_53 ?_
    refine lv_iconst (v := 0) hx hb dX10_count_56 (by decide) ?_
    obtain ⟨h2, hw⟩ := hw
    refine aM1 E hP h2 dX10_count_57 ?_
    exact g_iret E hw hP hS dX10_count_58
  · replace hw := hw.2 c1
    by_cases c3 : x1 = 1
    · replace hw := hw.1 c3
      refine lv_tableIn (off := 58) (tgt := 59) hx hb dX10_count_1 (by rw [c3]; decide) (by rw [c3]; decide) (by rw [c3]; rfl) (by decide) ?_
      refine lv_aload_n hx hb dX10_count_59 rfl (lv_at hl 0 rfl) ?_
      refine fX10_0 E hP mw_946 dX10_count_60 ?_
      refine lv_iconst (v := 2) hx hb dX10_count_63 (by decide) ?_
      obtain ⟨h4, hw⟩ := hw
      refine aM1 E hP h4 dX10_count_64 ?_
      exact g_iret E hw hP hS dX10_count_65
    · replace hw := hw.2 c3
      by_cases c5 : x1 = 2
      · replace hw := hw.1 c5
        refine lv_tableIn (off := 65) (tgt := 66) hx hb dX10_count_1 (by rw [c5]; decide) (by rw [c5]; decide) (by rw [c5]; rfl) (by decide) ?_
        refine lv_aload_n hx hb dX10_count_66 rfl (lv_at hl 0 rfl) ?_
        refine fX10_0 E hP mw_946 dX10_count_67 ?_
        refine lv_iconst (v := 3) hx hb dX10_count_70 (by decide) ?_
        obtain ⟨h6, hw⟩ := hw
        refine aM1 E hP h6 dX10_count_71 ?_
        exact g_iret E hw hP hS dX10_count_72
      · replace hw := hw.2 c5
        by_cases c7 : x1 = 3
        · replace hw := hw.1 c7
          refine lv_tableIn (off := 72) (tgt := 73) hx hb dX10_count_1 (by rw [c7]; decide) (by rw [c7]; decide) (by rw [c7]; rfl) (by decide) ?_
          refine lv_aload_n hx hb dX10_count_73 rfl (lv_at hl 0 rfl) ?_
          refine fX10_0 E hP mw_946 dX10_count_74 ?_
          refine lv_iconst (v := 4) hx hb dX10_count_77 (by decide) ?_
          obtain ⟨h8, hw⟩ := hw
          refine aM1 E hP h8 dX10_count_78 ?_
          exact g_iret E hw hP hS dX10_count_79
        · replace hw := hw.2 c7
          by_cases c9 : x1 = 4
          · replace hw := hw.1 c9
            refine lv_tableIn (off := 79) (tgt := 80) hx hb dX10_count_1 (by rw [c9]; decide) (by rw [c9]; decide) (by rw [c9]; rfl) (by decide) ?_
            refine lv_aload_n hx hb dX10_count_80 rfl (lv_at hl 0 rfl) ?_
            refine fX10_0 E hP mw_946 dX10_count_81 ?_
            refine lv_iconst (v := 5) hx hb dX10_count_84 (by decide) ?_
            obtain ⟨h10, hw⟩ := hw
            refine aM1 E hP h10 dX10_count_85 ?_
            exact g_iret E hw hP hS dX10_count_86
          · replace hw := hw.2 c9
            by_cases c11 : x1 = 5
            · replace hw := hw.1 c11
              refine lv_tableIn (off := 86) (tgt := 87) hx hb dX10_count_1 (by rw [c11]; decide) (by rw [c11]; decide) (by rw [c11]; rfl) (by decide) ?_
              refine lv_aload_n hx hb dX10_count_87 rfl (lv_at hl 0 rfl) ?_
              refine fX10_0 E hP mw_946 dX10_count_88 ?_
              refine lv_iconst (v := 1) hx hb dX10_count_91 (by decide) ?_
              obtain ⟨h12, hw⟩ := hw
              refine aM1 E hP h12 dX10_count_92 ?_
              exact g_iret E hw hP hS dX10_count_93
            · replace hw := hw.2 c11
              by_cases c13 : x1 = 6
              · replace hw := hw.1 c13
                refine lv_tableIn (off := 93) (tgt := 94) hx hb dX10_count_1 (by rw [c13]; decide) (by rw [c13]; decide) (by rw [c13]; rfl) (by decide) ?_
                refine lv_aload_n hx hb dX10_count_94 rfl (lv_at hl 0 rfl) ?_
                refine fX10_32 E hP mw_978 dX10_count_95 ?_
                exact g_iret E hw hP hS dX10_count_98
              · replace hw := hw.2 c13
                by_cases c14 : x1 = 7
                · replace hw := hw.1 c14
                  refine lv_tableIn (off := 98) (tgt := 99) hx hb dX10_count_1 (by rw [c14]; decide) (by rw [c14]; decide) (by rw [c14]; rfl) (by decide) ?_
                  refine lv_aload_n hx hb dX10_count_99 rfl (lv_at hl 0 rfl) ?_
                  refine fX10_17 E hP mw_963 dX10_count_100 ?_
                  exact g_iret E hw hP hS dX10_count_103
                · replace hw := hw.2 c14
                  by_cases c15 : x1 = 8
                  · replace hw := hw.1 c15
                    refine lv_tableIn (off := 103) (tgt := 104) hx hb dX10_count_1 (by rw [c15]; decide) (by rw [c15]; decide) (by rw [c15]; rfl) (by decide) ?_
                    refine lv_aload_n hx hb dX10_count_104 rfl (lv_at hl 0 rfl) ?_
                    refine fX10_0 E hP mw_946 dX10_count_105 ?_
                    refine lv_bipush (v := 9) hx hb dX10_count_108 (by decide) ?_
                    obtain ⟨h16, hw⟩ := hw
                    refine aM1 E hP h16 dX10_count_110 ?_
                    exact g_iret E hw hP hS dX10_count_111
                  · replace hw := hw.2 c15
                    have e1 := ne_toI c1 (n := 0) (k := 0) (by decide)
                    have e3 := ne_toI c3 (n := 1) (k := 1) (by decide)
                    have e5 := ne_toI c5 (n := 2) (k := 2) (by decide)
                    have e7 := ne_toI c7 (n := 3) (k := 3) (by decide)
                    have e9 := ne_toI c9 (n := 4) (k := 4) (by decide)
                    have e11 := ne_toI c11 (n := 5) (k := 5) (by decide)
                    have e13 := ne_toI c13 (n := 6) (k := 6) (by decide)
                    have e14 := ne_toI c14 (n := 7) (k := 7) (by decide)
                    have e15 := ne_toI c15 (n := 8) (k := 8) (by decide)
                    refine lv_tableOut (tgt := 112) hx hb dX10_count_1 (by omega) (by decide) ?_
                    refine g_ldc (v := -1000000001) E mw_1063 dX10_count_112 ?_
                    exact g_iret E hw hP hS dX10_count_114
theorem c_X10_count (l : Launch) (D : va_G) (cy : Nat → ClassId) (ad : Nat → Nat → Nat) (ha : Apart regsM ad) {post : Int32 → St → Prop} {σ : St} {x1 : Int32} (hw : w_X10_count post σ x1) (sz : Nat) : MetI l yX10_count cX10_count 2 .int rm_X10_count [.ref (ad 0 0), .int x1] D cy (cellM cy ad) regsM ad σ sz post :=
  Met_inI ok_X10_count.2.2.2.2.2 (Nat.le_of_ble_eq_true rfl) (fun p e s m below meth c ls E hP hl => B_X10_count_0 E ha hw hP va_S.rf hl)
end WalkM2
