section WalkM1
variable {p : Program} {l : Launch} {e : Env} {s : State} {m : MethodId} {args : Array Value} {below : List Frame} {meth : Method} {c : Code} {D : va_G} {cy : Nat → ClassId} {ad : Nat → Nat → Nat}
-- RoofWarModel.isIn(JJJ)Z
theorem dX10_isIn_0 : decode cX10_isIn 0 = .ok (.lload_n 0, 1) := by decide +kernel
theorem dX10_isIn_1 : decode cX10_isIn 1 = .ok (.lload_n 2, 1) := by decide +kernel
theorem dX10_isIn_2 : decode cX10_isIn 2 = .ok (.lcmp, 1) := by decide +kernel
theorem dX10_isIn_3 : decode cX10_isIn 3 = .ok (.ifCond .lt 14, 3) := by decide +kernel
theorem dX10_isIn_6 : decode cX10_isIn 6 = .ok (.lload_n 0, 1) := by decide +kernel
theorem dX10_isIn_7 : decode cX10_isIn 7 = .ok (.lload 4, 2) := by decide +kernel
theorem dX10_isIn_9 : decode cX10_isIn 9 = .ok (.lcmp, 1) := by decide +kernel
theorem dX10_isIn_10 : decode cX10_isIn 10 = .ok (.ifCond .gt 7, 3) := by decide +kernel
theorem dX10_isIn_13 : decode cX10_isIn 13 = .ok (.iconst 1, 1) := by decide +kernel
theorem dX10_isIn_14 : decode cX10_isIn 14 = .ok (.goto 4, 3) := by decide +kernel
theorem dX10_isIn_17 : decode cX10_isIn 17 = .ok (.iconst 0, 1) := by decide +kernel
theorem dX10_isIn_18 : decode cX10_isIn 18 = .ok (.ireturn, 1) := by decide +kernel
theorem ok_X10_isIn : okS yX10_isIn cX10_isIn 6 (some .boolean) 3 := ⟨mw_1055, mw_83, mw_1056, by decide +kernel, by decide +kernel⟩
abbrev rm_X10_isIn : Room := { frames := 0, cells := 0, slots := 0, locals := 0 }
def w_X10_isIn (post : Int32 → St → Prop) (σ : St) (x0 : Int64) (x2 : Int64) (x4 : Int64) : Prop := (((lg_cmp x0 x2) < 0 → (post 0 σ)) ∧ (¬ (lg_cmp x0 x2) < 0 → (((0 < (lg_cmp x0 x4) → (post 0 σ)) ∧ (¬ 0 < (lg_cmp x0 x4) → (post 1 σ))))))
theorem B_X10_isIn_0 (E : EnvW p s m args meth c D cy regsM ad "RoofWarModel" cX10_isIn 6 (some .boolean)) (ha : Apart regsM ad) {post : Int32 → St → Prop} {σ : St} {x0 : Int64} {x2 : Int64} {x4 : Int64} (hw : w_X10_isIn post σ x0 x2 x4) {H : Heap} {locs : List Loc} {ls : Array Slot} (hP : va_P D CLS (wM cy ad σ) H) (hS : va_S (AM ad s.heap.size) s.heap H locs) (hl : lv_has ls 6 [(0, .long x0), (2, .long x2), (4, .long x4)]) : W p l e rm_X10_isIn s m args below meth c H locs 0 0 (MQ below (QI D cy (cellM cy ad) regsM ad s.heap.size (fun r u => (r = 0 ∨ r = 1) ∧ post r u)) args s 0 0 (AM ad s.heap.size)) (F0 m 0 ls []) := by
  obtain ⟨hx, hb, -⟩ := id E
  unfold w_X10_isIn at hw
  refine lv_lload_n hx hb dX10_isIn_0 rfl (lv_at hl 0 rfl) ?_
  refine lv_lload_n hx hb dX10_isIn_1 rfl (lv_at hl 1 rfl) ?_
  refine W.lcmp hx hb dX10_isIn_2 ?_
  refine lv_if_lt (tgt := 17) hx hb dX10_isIn_3 (by decide) (fun c1 => ?_) (fun c1 => ?_)
  · replace hw := hw.1 c1
    refine lv_iconst (v := 0) hx hb dX10_isIn_17 (by decide) ?_
    exact g_zret E (Or.inl rfl) hw hP hS dX10_isIn_18
  · replace hw := hw.2 c1
    refine lv_lload_n hx hb dX10_isIn_6 rfl (lv_at hl 0 rfl) ?_
    refine lv_lload hx hb dX10_isIn_7 (lv_at hl 2 rfl) ?_
    refine W.lcmp hx hb dX10_isIn_9 ?_
    refine lv_if_gt (tgt := 17) hx hb dX10_isIn_10 (by decide) (fun c2 => ?_) (fun c2 => ?_)
    · replace hw := hw.1 c2
      refine lv_iconst (v := 0) hx hb dX10_isIn_17 (by decide) ?_
      exact g_zret E (Or.inl rfl) hw hP hS dX10_isIn_18
    · replace hw := hw.2 c2
      refine lv_iconst (v := 1) hx hb dX10_isIn_13 (by decide) ?_
      refine lv_goto (tgt := 18) hx hb dX10_isIn_14 (by decide) ?_
      exact g_zret E (Or.inr rfl) hw hP hS dX10_isIn_18
theorem c_X10_isIn (l : Launch) (D : va_G) (cy : Nat → ClassId) (ad : Nat → Nat → Nat) (ha : Apart regsM ad) {post : Int32 → St → Prop} {σ : St} {x0 : Int64} {x2 : Int64} {x4 : Int64} (hw : w_X10_isIn post σ x0 x2 x4) (sz : Nat) : MetI l yX10_isIn cX10_isIn 6 .boolean rm_X10_isIn [.long x0, .long x2, .long x4] D cy (cellM cy ad) regsM ad σ sz (fun r u => (r = 0 ∨ r = 1) ∧ post r u) :=
  Met_inI ok_X10_isIn.2.2.2.2 (Nat.le_of_ble_eq_true rfl) (fun p e s m below meth c ls E hP hl => B_X10_isIn_0 E ha hw hP va_S.rf hl)
-- RoofWarModel.orNone(I)I
theorem dX10_orNone_0 : decode cX10_orNone 0 = .ok (.iload_n 0, 1) := by decide +kernel
theorem dX10_orNone_1 : decode cX10_orNone 1 = .ok (.ifCond .ge 8, 3) := by decide +kernel
theorem dX10_orNone_4 : decode cX10_orNone 4 = .ok (.ldc 70, 2) := by decide +kernel
theorem dX10_orNone_6 : decode cX10_orNone 6 = .ok (.goto 4, 3) := by decide +kernel
theorem dX10_orNone_9 : decode cX10_orNone 9 = .ok (.iload_n 0, 1) := by decide +kernel
theorem dX10_orNone_10 : decode cX10_orNone 10 = .ok (.ireturn, 1) := by decide +kernel
theorem ok_X10_orNone : okS yX10_orNone cX10_orNone 1 (some .int) 1 := ⟨mw_1128, mw_83, mw_1129, by decide +kernel, by decide +kernel⟩
abbrev rm_X10_orNone : Room := { frames := 0, cells := 0, slots := 0, locals := 0 }
def w_X10_orNone (post : Int32 → St → Prop) (σ : St) (x0 : Int32) : Prop := ((0 ≤ x0 → (post x0 σ)) ∧ (¬ 0 ≤ x0 → (post ((-1000000005)) σ)))
theorem B_X10_orNone_0 (E : EnvW p s m args meth c D cy regsM ad "RoofWarModel" cX10_orNone 1 (some .int)) (ha : Apart regsM ad) {post : Int32 → St → Prop} {σ : St} {x0 : Int32} (hw : w_X10_orNone post σ x0) {H : Heap} {locs : List Loc} {ls : Array Slot} (hP : va_P D CLS (wM cy ad σ) H) (hS : va_S (AM ad s.heap.size) s.heap H locs) (hl : lv_has ls 1 [(0, .int x0)]) : W p l e rm_X10_orNone s m args below meth c H locs 0 0 (MQ below (QI D cy (cellM cy ad) regsM ad s.heap.size post) args s 0 0 (AM ad s.heap.size)) (F0 m 0 ls []) := by
  obtain ⟨hx, hb, -⟩ := id E
  unfold w_X10_orNone at hw
  refine lv_iload_n hx hb dX10_orNone_0 rfl (lv_at hl 0 rfl) ?_
  refine lv_if_ge (tgt := 9) hx hb dX10_orNone_1 (by decide) (fun c1 => ?_) (fun c1 => ?_)
  · replace hw := hw.1 c1
    refine lv_iload_n hx hb dX10_orNone_9 rfl (lv_at hl 0 rfl) ?_
    exact g_iret E hw hP hS dX10_orNone_10
  · replace hw := hw.2 c1
    refine g_ldc (v := -1000000005) E mw_1130 dX10_orNone_4 ?_
    refine lv_goto (tgt := 10) hx hb dX10_orNone_6 (by decide) ?_
    exact g_iret E hw hP hS dX10_orNone_10
theorem c_X10_orNone (l : Launch) (D : va_G) (cy : Nat → ClassId) (ad : Nat → Nat → Nat) (ha : Apart regsM ad) {post : Int32 → St → Prop} {σ : St} {x0 : Int32} (hw : w_X10_orNone post σ x0) (sz : Nat) : MetI l yX10_orNone cX10_orNone 1 .int rm_X10_orNone [.int x0] D cy (cellM cy ad) regsM ad σ sz post :=
  Met_inI ok_X10_orNone.2.2.2.2 (Nat.le_of_ble_eq_true rfl) (fun p e s m below meth c ls E hP hl => B_X10_orNone_0 E ha hw hP va_S.rf hl)
-- RoofWarModel.within(II)I
theorem dX10_within_0 : decode cX10_within 0 = .ok (.iload_n 0, 1) := by decide +kernel
theorem dX10_within_1 : decode cX10_within 1 = .ok (.ifCond .ge 7, 3) := by decide +kernel
theorem dX10_within_4 : decode cX10_within 4 = .ok (.iconst 0, 1) := by decide +kernel
theorem dX10_within_5 : decode cX10_within 5 = .ok (.goto 13, 3) := by decide +kernel
theorem dX10_within_8 : decode cX10_within 8 = .ok (.iload_n 0, 1) := by decide +kernel
theorem dX10_within_9 : decode cX10_within 9 = .ok (.iload_n 1, 1) := by decide +kernel
theorem dX10_within_10 : decode cX10_within 10 = .ok (.if_icmp .le 7, 3) := by decide +kernel
theorem dX10_within_13 : decode cX10_within 13 = .ok (.iload_n 1, 1) := by decide +kernel
theorem dX10_within_14 : decode cX10_within 14 = .ok (.goto 4, 3) := by decide +kernel
theorem dX10_within_17 : decode cX10_within 17 = .ok (.iload_n 0, 1) := by decide +kernel
theorem dX10_within_18 : decode cX10_within 18 = .ok (.ireturn, 1) := by decide +kernel
theorem ok_X10_within : okS yX10_within cX10_within 2 (some .int) 2 := ⟨mw_1206, mw_83, mw_1207, by decide +kernel, by decide +kernel⟩
abbrev rm_X10_within : Room := { frames := 0, cells := 0, slots := 0, locals := 0 }
def w_X10_within (post : Int32 → St → Prop) (σ : St) (x0 : Int32) (x1 : Int32) : Prop := ((0 ≤ x0 → (((x0 ≤ x1 → (post x0 σ)) ∧ (¬ x0 ≤ x1 → (post x1 σ))))) ∧ (¬ 0 ≤ x0 → (post 0 σ)))
theorem B_X10_within_0 (E : EnvW p s m args meth c D cy regsM ad "RoofWarModel" cX10_within 2 (some .int)) (ha : Apart regsM ad) {post : Int32 → St → Prop} {σ : St} {x0 : Int32} {x1 : Int32} (hw : w_X10_within post σ x0 x1) {H : Heap} {locs : List Loc} {ls : Array Slot} (hP : va_P D CLS (wM cy ad σ) H) (hS : va_S (AM ad s.heap.size) s.heap H locs) (hl : lv_has ls 2 [(0, .int x0), (1, .int x1)]) : W p l e rm_X10_within s m args below meth c H locs 0 0 (MQ below (QI D cy (cellM cy ad) regsM ad s.heap.size post) args s 0 0 (AM ad s.heap.size)) (F0 m 0 ls []) := by
  obtain ⟨hx, hb, -⟩ := id E
  unfold w_X10_within at hw
  refine lv_iload_n hx hb dX10_within_0 rfl (lv_at hl 0 rfl) ?_
  refine lv_if_ge (tgt := 8) hx hb dX10_within_1 (by decide) (fun c1 => ?_) (fun c1 => ?_)
  · replace hw := hw.1 c1
    refine lv_iload_n hx hb dX10_within_8 rfl (lv_at hl 0 rfl) ?_
    refine lv_iload_n hx hb dX10_within_9 rfl (lv_at hl 1 rfl) ?_
    refine lv_icmp_le (tgt := 17) hx hb dX10_within_10 (by decide) (fun c2 => ?_) (fun c2 => ?_)
    · replace hw := hw.1 c2
      refine lv_iload_n hx hb dX10_within_17 rfl (lv_at hl 0 rfl) ?_
      exact g_iret E hw hP hS dX10_within_18
    · replace hw := hw.2 c2
      refine lv_iload_n hx hb dX10_within_13 rfl (lv_at hl 1 rfl) ?_
      refine lv_goto (tgt := 18) hx hb dX10_within_14 (by decide) ?_
      exact g_iret E hw hP hS dX10_within_18
  · replace hw := hw.2 c1
    refine lv_iconst (v := 0) hx hb dX10_within_4 (by decide) ?_
    refine lv_goto (tgt := 18) hx hb dX10_within_5 (by decide) ?_
    exact g_iret E hw hP hS dX10_within_18
theorem c_X10_within (l : Launch) (D : va_G) (cy : Nat → ClassId) (ad : Nat → Nat → Nat) (ha : Apart regsM ad) {post : Int32 → St → Prop} {σ : St} {x0 : Int32} {x1 : Int32} (hw : w_X10_within post σ x0 x1) (sz : Nat) : MetI l yX10_within cX10_within 2 .int rm_X10_within [.int x0, .int x1] D cy (cellM cy ad) regsM ad σ sz post :=
  Met_inI ok_X10_within.2.2.2.2 (Nat.le_of_ble_eq_true rfl) (fun p e s m below meth c ls E hP hl => B_X10_within_0 E ha hw hP va_S.rf hl)
-- RoofWarModel.changes(II)I
theorem dX10_changes_0 : decode cX10_changes 0 = .ok (.aload_n 0, 1) := by decide +kernel
theorem dX10_changes_1 : decode cX10_changes 1 = .ok (.getfield 7, 3) := by decide +kernel
theorem dX10_changes_4 : decode cX10_changes 4 = .ok (.iload_n 1, 1) := by decide +kernel
theorem dX10_changes_5 : decode cX10_changes 5 = .ok (.iaload, 1) := by decide +kernel
theorem dX10_changes_6 : decode cX10_changes 6 = .ok (.istore_n 3, 1) := by decide +kernel
theorem dX10_changes_7 : decode cX10_changes 7 = .ok (.aload_n 0, 1) := by decide +kernel
theorem dX10_changes_8 : decode cX10_changes 8 = .ok (.getfield 7, 3) := by decide +kernel
theorem dX10_changes_11 : decode cX10_changes 11 = .ok (.iload_n 1, 1) := by decide +kernel
theorem dX10_changes_12 : decode cX10_changes 12 = .ok (.iload_n 2, 1) := by decide +kernel
theorem dX10_changes_13 : decode cX10_changes 13 = .ok (.iastore, 1) := by decide +kernel
theorem dX10_changes_14 : decode cX10_changes 14 = .ok (.iload_n 3, 1) := by decide +kernel
theorem dX10_changes_15 : decode cX10_changes 15 = .ok (.ireturn, 1) := by decide +kernel
theorem ok_X10_changes : okV yX10_changes cX10_changes 4 (some .int) 2 := ⟨mw_1111, mw_31, mw_83, mw_1112, by decide +kernel, by decide +kernel⟩
abbrev rm_X10_changes : Room := { frames := 0, cells := 0, slots := 0, locals := 0 }
def w_X10_changes (post : Int32 → St → Prop) (σ : St) (x1 : Int32) (x2 : Int32) : Prop := vp_in x1 3082 ∧ (∀ v2 : Int32, v2 = σ 1 0 x1.toNatClampNeg → (vp_in x1 3082 ∧ (∀ s4 : St, s4 = wr σ 1 0 x1.toNatClampNeg x2 → (post v2 s4))))
theorem B_X10_changes_0 (E : EnvW p s m args meth c D cy regsM ad "RoofWarModel" cX10_changes 4 (some .int)) (ha : Apart regsM ad) {post : Int32 → St → Prop} {σ : St} {x1 : Int32} {x2 : Int32} (hw : w_X10_changes post σ x1 x2) {H : Heap} {locs : List Loc} {ls : Array Slot} (hP : va_P D CLS (wM cy ad σ) H) (hS : va_S (AM ad s.heap.size) s.heap H locs) (hl : lv_has ls 4 [(0, .ref (ad 0 0)), (1, .int x1), (2, .int x2)]) : W p l e rm_X10_changes s m args below meth c H locs 0 0 (MQ below (QI D cy (cellM cy ad) regsM ad s.heap.size post) args s 0 0 (AM ad s.heap.size)) (F0 m 0 ls []) := by
  obtain ⟨hx, hb, -⟩ := id E
  unfold w_X10_changes at hw
  refine lv_aload_n hx hb dX10_changes_0 rfl (lv_at hl 0 rfl) ?_
  refine fX10_0 E hP mw_946 dX10_changes_1 ?_
  refine lv_iload_n hx hb dX10_changes_4 rfl (lv_at hl 1 rfl) ?_
  obtain ⟨h1, hw⟩ := hw
  refine aM1 E hP h1 dX10_changes_5 ?_
  refine lv_topi (fun v2 ev2 => ?_)
  replace hw := hw v2 ev2
  refine lv_istore_n (lv' := [(3, .int v2), (0, .ref (ad 0 0)), (1, .int x1), (2, .int x2)]) hx hb dX10_changes_6 rfl hl (by decide) rfl (fun ls hl => ?_)
  refine lv_aload_n hx hb dX10_changes_7 rfl (lv_at hl 1 rfl) ?_
  refine fX10_0 E hP mw_946 dX10_changes_8 ?_
  refine lv_iload_n hx hb dX10_changes_11 rfl (lv_at hl 2 rfl) ?_
  refine lv_iload_n hx hb dX10_changes_12 rfl (lv_at hl 3 rfl) ?_
  obtain ⟨h3, hw⟩ := hw
  refine tM1 E ha h3 dX10_changes_13 hP hS (fun s4 es4 H locs hP hS => ?_)
  replace hw := hw s4 es4
  refine lv_iload_n hx hb dX10_changes_14 rfl (lv_at hl 0 rfl) ?_
  exact g_iret E hw hP hS dX10_changes_15
theorem c_X10_changes (l : Launch) (D : va_G) (cy : Nat → ClassId) (ad : Nat → Nat → Nat) (ha : Apart regsM ad) {post : Int32 → St → Prop} {σ : St} {x1 : Int32} {x2 : Int32} (hw : w_X10_changes post σ x1 x2) (sz : Nat) : MetI l yX10_changes cX10_changes 4 .int rm_X10_changes [.ref (ad 0 0), .int x1, .int x2] D cy (cellM cy ad) regsM ad σ sz post :=
  Met_inI ok_X10_changes.2.2.2.2.2 (Nat.le_of_ble_eq_true rfl) (fun p e s m below meth c ls E hP hl => B_X10_changes_0 E ha hw hP va_S.rf hl)
-- RoofWarModel.textAt(I)I
theorem dX10_textAt_0 : decode cX10_textAt 0 = .ok (.bipush 82, 2) := by decide +kernel
theorem dX10_textAt_2 : decode cX10_textAt 2 = .ok (.sipush 200, 3) := by decide +kernel
theorem dX10_textAt_5 : decode cX10_textAt 5 = .ok (.iload_n 1, 1) := by decide +kernel
theorem dX10_textAt_6 : decode cX10_textAt 6 = .ok (.imul, 1) := by decide +kernel
theorem dX10_textAt_7 : decode cX10_textAt 7 = .ok (.iadd, 1) := by decide +kernel
theorem dX10_textAt_8 : decode cX10_textAt 8 = .ok (.ireturn, 1) := by decide +kernel
theorem ok_X10_textAt : okV yX10_textAt cX10_textAt 2 (some .int) 1 := ⟨mw_1197, mw_45, mw_83, mw_1198, by decide +kernel, by decide +kernel⟩
abbrev rm_X10_textAt : Room := { frames := 0, cells := 0, slots := 0, locals := 0 }
def w_X10_textAt (post : Int32 → St → Prop) (σ : St) (x1 : Int32) : Prop := post (82 + (200 * x1)) σ
theorem B_X10_textAt_0 (E : EnvW p s m args meth c D cy regsM ad "RoofWarModel" cX10_textAt 2 (some .int)) (ha : Apart regsM ad) {post : Int32 → St → Prop} {σ : St} {x1 : Int32} (hw : w_X10_textAt post σ x1) {H : Heap} {locs : List Loc} {ls : Array Slot} (hP : va_P D CLS (wM cy ad σ) H) (hS : va_S (AM ad s.heap.size) s.heap H locs) (hl : lv_has ls 2 [(0, .ref (ad 0 0)), (1, .int x1)]) : W p l e rm_X10_textAt s m args below meth c H locs 0 0 (MQ below (QI D cy (cellM cy ad) regsM ad s.heap.size post) args s 0 0 (AM ad s.heap.size)) (F0 m 0 ls []) := by
  obtain ⟨hx, hb, -⟩ := id E
  unfold w_X10_textAt at hw
  refine lv_bipush (v := 82) hx hb dX10_textAt_0 (by decide) ?_
  refine lv_sipush (v := 200) hx hb dX10_textAt_2 (by decide) ?_
  refine lv_iload_n hx hb dX10_textAt_5 rfl (lv_at hl 1 rfl) ?_
  refine lv_imul hx hb dX10_textAt_6 ?_
  refine lv_iadd hx hb dX10_textAt_7 ?_
  exact g_iret E hw hP hS dX10_textAt_8
theorem c_X10_textAt (l : Launch) (D : va_G) (cy : Nat → ClassId) (ad : Nat → Nat → Nat) (ha : Apart regsM ad) {post : Int32 → St → Prop} {σ : St} {x1 : Int32} (hw : w_X10_textAt post σ x1) (sz : Nat) : MetI l yX10_textAt cX10_textAt 2 .int rm_X10_textAt [.ref (ad 0 0), .int x1] D cy (cellM cy ad) regsM ad σ sz post :=
  Met_inI ok_X10_textAt.2.2.2.2.2 (Nat.le_of_ble_eq_true rfl) (fun p e s m below meth c ls E hP hl => B_X10_textAt_0 E ha hw hP va_S.rf hl)
-- RoofWarModel.of(II)I
theorem dX10_of_0 : decode cX10_of 0 = .ok (.aload_n 0, 1) := by decide +kernel
theorem dX10_of_1 : decode cX10_of 1 = .ok (.getfield 7, 3) := by decide +kernel
theorem dX10_of_4 : decode cX10_of 4 = .ok (.bipush 10, 2) := by decide +kernel
theorem dX10_of_6 : decode cX10_of 6 = .ok (.iconst 4, 1) := by decide +kernel
theorem dX10_of_7 : decode cX10_of 7 = .ok (.iload_n 1, 1) := by decide +kernel
theorem dX10_of_8 : decode cX10_of 8 = .ok (.imul, 1) := by decide +kernel
theorem dX10_of_9 : decode cX10_of 9 = .ok (.iadd, 1) := by decide +kernel
theorem dX10_of_10 : decode cX10_of 10 = .ok (.iload_n 2, 1) := by decide +kernel
theorem dX10_of_11 : decode cX10_of 11 = .ok (.iadd, 1) := by decide +kernel
theorem dX10_of_12 : decode cX10_of 12 = .ok (.iaload, 1) := by decide +kernel
theorem dX10_of_13 : decode cX10_of 13 = .ok (.ireturn, 1) := by decide +kernel
theorem ok_X10_of : okV yX10_of cX10_of 3 (some .int) 2 := ⟨mw_1068, mw_23, mw_83, mw_1069, by decide +kernel, by decide +kernel⟩
abbrev rm_X10_of : Room := { frames := 0, cells := 0, slots := 0, locals := 0 }
def w_X10_of (post : Int32 → St → Prop) (σ : St) (x1 : Int32) (x2 : Int32) : Prop := vp_in ((10 + (4 * x1)) + x2) 3082 ∧ (post (σ 1 0 ((10 + (4 * x1)) + x2).toNatClampNeg) σ)
theorem B_X10_of_0 (E : EnvW p s m args meth c D cy regsM ad "RoofWarModel" cX10_of 3 (some .int)) (ha : Apart regsM ad) {post : Int32 → St → Prop} {σ : St} {x1 : Int32} {x2 : Int32} (hw : w_X10_of post σ x1 x2) {H : Heap} {locs : List Loc} {ls : Array Slot} (hP : va_P D CLS (wM cy ad σ) H) (hS : va_S (AM ad s.heap.size) s.heap H locs) (hl : lv_has ls 3 [(0, .ref (ad 0 0)), (1, .int x1), (2, .int x2)]) : W p l e rm_X10_of s m args below meth c H locs 0 0 (MQ below (QI D cy (cellM cy ad) regsM ad s.heap.size post) args s 0 0 (AM ad s.heap.size)) (F0 m 0 ls []) := by
  obtain ⟨hx, hb, -⟩ := id E
  unfold w_X10_of at hw
  refine lv_aload_n hx hb dX10_of_0 rfl (lv_at hl 0 rfl) ?_
  refine fX10_0 E hP mw_946 dX10_of_1 ?_
  refine lv_bipush (v := 10) hx hb dX10_of_4 (by decide) ?_
  refine lv_iconst (v := 4) hx hb dX10_of_6 (by decide) ?_
  refine lv_iload_n hx hb dX10_of_7 rfl (lv_at hl 1 rfl) ?_
  refine lv_imul hx hb dX10_of_8 ?_
  refine lv_iadd hx hb dX10_of_9 ?_
  refine lv_iload_n hx hb dX10_of_10 rfl (lv_at hl 2 rfl) ?_
  refine lv_iadd hx hb dX10_of_11 ?_
  obtain ⟨h1, hw⟩ := hw
  refine aM1 E hP h1 dX10_of_12 ?_
  exact g_iret E hw hP hS dX10_of_13
theorem c_X10_of (l : Launch) (D : va_G) (cy : Nat → ClassId) (ad : Nat → Nat → Nat) (ha : Apart regsM ad) {post : Int32 → St → Prop} {σ : St} {x1 : Int32} {x2 : Int32} (hw : w_X10_of post σ x1 x2) (sz : Nat) : MetI l yX10_of cX10_of 3 .int rm_X10_of [.ref (ad 0 0), .int x1, .int x2] D cy (cellM cy ad) regsM ad σ sz post :=
  Met_inI ok_X10_of.2.2.2.2.2 (Nat.le_of_ble_eq_true rfl) (fun p e s m below meth c ls E hP hl => B_X10_of_0 E ha hw hP va_S.rf hl)
-- RoofWarModel.sets(III)V
theorem dX10_sets_0 : decode cX10_sets 0 = .ok (.aload_n 0, 1) := by decide +kernel
theorem dX10_sets_1 : decode cX10_sets 1 = .ok (.getfield 7, 3) := by decide +kernel
theorem dX10_sets_4 : decode cX10_sets 4 = .ok (.bipush 10, 2) := by decide +kernel
theorem dX10_sets_6 : decode cX10_sets 6 = .ok (.iconst 4, 1) := by decide +kernel
theorem dX10_sets_7 : decode cX10_sets 7 = .ok (.iload_n 1, 1) := by decide +kernel
theorem dX10_sets_8 : decode cX10_sets 8 = .ok (.imul, 1) := by decide +kernel
theorem dX10_sets_9 : decode cX10_sets 9 = .ok (.iadd, 1) := by decide +kernel
theorem dX10_sets_10 : decode cX10_sets 10 = .ok (.iload_n 2, 1) := by decide +kernel
theorem dX10_sets_11 : decode cX10_sets 11 = .ok (.iadd, 1) := by decide +kernel
theorem dX10_sets_12 : decode cX10_sets 12 = .ok (.iload_n 3, 1) := by decide +kernel
theorem dX10_sets_13 : decode cX10_sets 13 = .ok (.iastore, 1) := by decide +kernel
theorem dX10_sets_14 : decode cX10_sets 14 = .ok (.return_, 1) := by decide +kernel
theorem ok_X10_sets : okV yX10_sets cX10_sets 4 none 3 := ⟨mw_1076, mw_25, mw_83, mw_1077, by decide +kernel, by decide +kernel⟩
abbrev rm_X10_sets : Room := { frames := 0, cells := 0, slots := 0, locals := 0 }
def w_X10_sets (post : St → Prop) (σ : St) (x1 : Int32) (x2 : Int32) (x3 : Int32) : Prop := vp_in ((10 + (4 * x1)) + x2) 3082 ∧ (∀ s2 : St, s2 = wr σ 1 0 ((10 + (4 * x1)) + x2).toNatClampNeg x3 → (post s2))
theorem B_X10_sets_0 (E : EnvW p s m args meth c D cy regsM ad "RoofWarModel" cX10_sets 4 none) (ha : Apart regsM ad) {post : St → Prop} {σ : St} {x1 : Int32} {x2 : Int32} {x3 : Int32} (hw : w_X10_sets post σ x1 x2 x3) {H : Heap} {locs : List Loc} {ls : Array Slot} (hP : va_P D CLS (wM cy ad σ) H) (hS : va_S (AM ad s.heap.size) s.heap H locs) (hl : lv_has ls 4 [(0, .ref (ad 0 0)), (1, .int x1), (2, .int x2), (3, .int x3)]) : W p l e rm_X10_sets s m args below meth c H locs 0 0 (MQ below (QV D cy (cellM cy ad) regsM ad s.heap.size post) args s 0 0 (AM ad s.heap.size)) (F0 m 0 ls []) := by
  obtain ⟨hx, hb, -⟩ := id E
  unfold w_X10_sets at hw
  refine lv_aload_n hx hb dX10_sets_0 rfl (lv_at hl 0 rfl) ?_
  refine fX10_0 E hP mw_946 dX10_sets_1 ?_
  refine lv_bipush (v := 10) hx hb dX10_sets_4 (by decide) ?_
  refine lv_iconst (v := 4) hx hb dX10_sets_6 (by decide) ?_
  refine lv_iload_n hx hb dX10_sets_7 rfl (lv_at hl 1 rfl) ?_
  refine lv_imul hx hb dX10_sets_8 ?_
  refine lv_iadd hx hb dX10_sets_9 ?_
  refine lv_iload_n hx hb dX10_sets_10 rfl (lv_at hl 2 rfl) ?_
  refine lv_iadd hx hb dX10_sets_11 ?_
  refine lv_iload_n hx hb dX10_sets_12 rfl (lv_at hl 3 rfl) ?_
  obtain ⟨h1, hw⟩ := hw
  refine tM1 E ha h1 dX10_sets_13 hP hS (fun s2 es2 H locs hP hS => ?_)
  replace hw := hw s2 es2
  exact g_vret E hw hP hS dX10_sets_14
theorem c_X10_sets (l : Launch) (D : va_G) (cy : Nat → ClassId) (ad : Nat → Nat → Nat) (ha : Apart regsM ad) {post : St → Prop} {σ : St} {x1 : Int32} {x2 : Int32} {x3 : Int32} (hw : w_X10_sets post σ x1 x2 x3) (sz : Nat) : MetV l yX10_sets cX10_sets 4 rm_X10_sets [.ref (ad 0 0), .int x1, .int x2, .int x3] D cy (cellM cy ad) regsM ad σ sz post :=
  Met_inV ok_X10_sets.2.2.2.2.2 (Nat.le_of_ble_eq_true rfl) (fun p e s m below meth c ls E hP hl => B_X10_sets_0 E ha hw hP va_S.rf hl)
-- RoofWarModel.isRoof(I)Z
theorem dX10_isRoof_0 : decode cX10_isRoof 0 = .ok (.iload_n 1, 1) := by decide +kernel
theorem dX10_isRoof_1 : decode cX10_isRoof 1 = .ok (.i2l, 1) := by decide +kernel
theorem dX10_isRoof_2 : decode cX10_isRoof 2 = .ok (.lconst 0, 1) := by decide +kernel
theorem dX10_isRoof_3 : decode cX10_isRoof 3 = .ok (.aload_n 0, 1) := by decide +kernel
theorem dX10_isRoof_4 : decode cX10_isRoof 4 = .ok (.getfield 7, 3) := by decide +kernel
theorem dX10_isRoof_7 : decode cX10_isRoof 7 = .ok (.iconst 0, 1) := by decide +kernel
theorem dX10_isRoof_8 : decode cX10_isRoof 8 = .ok (.iaload, 1) := by decide +kernel
theorem dX10_isRoof_9 : decode cX10_isRoof 9 = .ok (.iconst 1, 1) := by decide +kernel
theorem dX10_isRoof_10 : decode cX10_isRoof 10 = .ok (.isub, 1) := by decide +kernel
theorem dX10_isRoof_11 : decode cX10_isRoof 11 = .ok (.i2l, 1) := by decide +kernel
theorem dX10_isRoof_12 : decode cX10_isRoof 12 = .ok (.invokestatic 71, 3) := by decide +kernel
theorem dX10_isRoof_15 : decode cX10_isRoof 15 = .ok (.ireturn, 1) := by decide +kernel
theorem ok_X10_isRoof : okV yX10_isRoof cX10_isRoof 2 (some .boolean) 1 := ⟨mw_1083, mw_26, mw_83, mw_1084, by decide +kernel, by decide +kernel⟩
abbrev rm_X10_isRoof : Room := { frames := 1, cells := 0, slots := 0, locals := 25 }
def w_X10_isRoof (post : Int32 → St → Prop) (σ : St) (x1 : Int32) : Prop := vp_in (0 : Int32) 3082 ∧ (w_X10_isIn (fun r2 s2 => post r2 s2) σ x1.toInt64 ((0 : Int64)) (((σ 1 0 (0 : Int32).toNatClampNeg) - 1).toInt64))
theorem B_X10_isRoof_0 (E : EnvW p s m args meth c D cy regsM ad "RoofWarModel" cX10_isRoof 2 (some .boolean)) (ha : Apart regsM ad) {post : Int32 → St → Prop} {σ : St} {x1 : Int32} (hw : w_X10_isRoof post σ x1) {H : Heap} {locs : List Loc} {ls : Array Slot} (hP : va_P D CLS (wM cy ad σ) H) (hS : va_S (AM ad s.heap.size) s.heap H locs) (hl : lv_has ls 2 [(0, .ref (ad 0 0)), (1, .int x1)]) : W p l e rm_X10_isRoof s m args below meth c H locs 0 0 (MQ below (QI D cy (cellM cy ad) regsM ad s.heap.size (fun r u => (r = 0 ∨ r = 1) ∧ post r u)) args s 0 0 (AM ad s.heap.size)) (F0 m 0 ls []) := by
  obtain ⟨hx, hb, -⟩ := id E
  unfold w_X10_isRoof at hw
  refine lv_iload_n hx hb dX10_isRoof_0 rfl (lv_at hl 1 rfl) ?_
  refine lv_i2l (v := x1.toInt64) hx hb dX10_isRoof_1 rfl ?_
  refine lv_lconst (v := 0) hx hb dX10_isRoof_2 (by decide) ?_
  refine lv_aload_n hx hb dX10_isRoof_3 rfl (lv_at hl 0 rfl) ?_
  refine fX10_0 E hP mw_946 dX10_isRoof_4 ?_
  refine lv_iconst (v := 0) hx hb dX10_isRoof_7 (by decide) ?_
  obtain ⟨h1, hw⟩ := hw
  refine aM1 E hP h1 dX10_isRoof_8 ?_
  refine lv_iconst (v := 1) hx hb dX10_isRoof_9 (by decide) ?_
  refine lv_isub hx hb dX10_isRoof_10 ?_
  refine lv_i2l (v := ((σ 1 0 (0 : Int32).toNatClampNeg) - 1).toInt64) hx hb dX10_isRoof_11 rfl ?_
  refine g_cSi (As := [.long x1.toInt64, .long ((0 : Int64)), .long (((σ 1 0 (0 : Int32).toNatClampNeg) - 1).toInt64)]) (rest := []) E hl.1 (c_X10_isIn l D cy ad ha hw _) ok_X10_isIn mw_1054 ⟨(Nat.le_of_ble_eq_true rfl), (Nat.le_of_ble_eq_true rfl)⟩ ⟨rfl, rfl⟩ rfl rfl (Nat.le_of_ble_eq_true rfl) ⟨Nat.zero_le _, Nat.zero_le _⟩ hP hS dX10_isRoof_12 (fun r2 s2 hw H locs hP hS => ?_)
  obtain ⟨z2, hw⟩ := hw
  exact g_zret E z2 hw hP hS dX10_isRoof_15
theorem c_X10_isRoof (l : Launch) (D : va_G) (cy : Nat → ClassId) (ad : Nat → Nat → Nat) (ha : Apart regsM ad) {post : Int32 → St → Prop} {σ : St} {x1 : Int32} (hw : w_X10_isRoof post σ x1) (sz : Nat) : MetI l yX10_isRoof cX10_isRoof 2 .boolean rm_X10_isRoof [.ref (ad 0 0), .int x1] D cy (cellM cy ad) regsM ad σ sz (fun r u => (r = 0 ∨ r = 1) ∧ post r u) :=
  Met_inI ok_X10_isRoof.2.2.2.2.2 (Nat.le_of_ble_eq_true rfl) (fun p e s m below meth c ls E hP hl => B_X10_isRoof_0 E ha hw hP va_S.rf hl)
-- RoofWarModel.isText(I)Z
theorem dX10_isText_0 : decode cX10_isText 0 = .ok (.iload_n 1, 1) := by decide +kernel
theorem dX10_isText_1 : decode cX10_isText 1 = .ok (.i2l, 1) := by decide +kernel
theorem dX10_isText_2 : decode cX10_isText 2 = .ok (.lconst 0, 1) := by decide +kernel
theorem dX10_isText_3 : decode cX10_isText 3 = .ok (.aload_n 0, 1) := by decide +kernel
theorem dX10_isText_4 : decode cX10_isText 4 = .ok (.getfield 7, 3) := by decide +kernel
theorem dX10_isText_7 : decode cX10_isText 7 = .ok (.iconst 1, 1) := by decide +kernel
theorem dX10_isText_8 : decode cX10_isText 8 = .ok (.iaload, 1) := by decide +kernel
theorem dX10_isText_9 : decode cX10_isText 9 = .ok (.iconst 1, 1) := by decide +kernel
theorem dX10_isText_10 : decode cX10_isText 10 = .ok (.isub, 1) := by decide +kernel
theorem dX10_isText_11 : decode cX10_isText 11 = .ok (.i2l, 1) := by decide +kernel
theorem dX10_isText_12 : decode cX10_isText 12 = .ok (.invokestatic 71, 3) := by decide +kernel
theorem dX10_isText_15 : decode cX10_isText 15 = .ok (.ireturn, 1) := by decide +kernel
theorem ok_X10_isText : okV yX10_isText cX10_isText 2 (some .boolean) 1 := ⟨mw_1353, mw_70, mw_83, mw_1354, by decide +kernel, by decide +kernel⟩
abbrev rm_X10_isText : Room := { frames := 1, cells := 0, slots := 0, locals := 25 }
def w_X10_isText (post : Int32 → St → Prop) (σ : St) (x1 : Int32) : Prop := vp_in (1 : Int32) 3082 ∧ (w_X10_isIn (fun r2 s2 => post r2 s2) σ x1.toInt64 ((0 : Int64)) (((σ 1 0 (1 : Int32).toNatClampNeg) - 1).toInt64))
theorem B_X10_isText_0 (E : EnvW p s m args meth c D cy regsM ad "RoofWarModel" cX10_isText 2 (some .boolean)) (ha : Apart regsM ad) {post : Int32 → St → Prop} {σ : St} {x1 : Int32} (hw : w_X10_isText post σ x1) {H : Heap} {locs : List Loc} {ls : Array Slot} (hP : va_P D CLS (wM cy ad σ) H) (hS : va_S (AM ad s.heap.size) s.heap H locs) (hl : lv_has ls 2 [(0, .ref (ad 0 0)), (1, .int x1)]) : W p l e rm_X10_isText s m args below meth c H locs 0 0 (MQ below (QI D cy (cellM cy ad) regsM ad s.heap.size (fun r u => (r = 0 ∨ r = 1) ∧ post r u)) args s 0 0 (AM ad s.heap.size)) (F0 m 0 ls []) := by
  obtain ⟨hx, hb, -⟩ := id E
  unfold w_X10_isText at hw
  refine lv_iload_n hx hb dX10_isText_0 rfl (lv_at hl 1 rfl) ?_
  refine lv_i2l (v := x1.toInt64) hx hb dX10_isText_1 rfl ?_
  refine lv_lconst (v := 0) hx hb dX10_isText_2 (by decide) ?_
  refine lv_aload_n hx hb dX10_isText_3 rfl (lv_at hl 0 rfl) ?_
  refine fX10_0 E hP mw_946 dX10_isText_4 ?_
  refine lv_iconst (v := 1) hx hb dX10_isText_7 (by decide) ?_
  obtain ⟨h1, hw⟩ := hw
  refine aM1 E hP h1 dX10_isText_8 ?_
  refine lv_iconst (v := 1) hx hb dX10_isText_9 (by decide) ?_
  refine lv_isub hx hb dX10_isText_10 ?_
  refine lv_i2l (v := ((σ 1 0 (1 : Int32).toNatClampNeg) - 1).toInt64) hx hb dX10_isText_11 rfl ?_
  refine g_cSi (As := [.long x1.toInt64, .long ((0 : Int64)), .long (((σ 1 0 (1 : Int32).toNatClampNeg) - 1).toInt64)]) (rest := []) E hl.1 (c_X10_isIn l D cy ad ha hw _) ok_X10_isIn mw_1054 ⟨(Nat.le_of_ble_eq_true rfl), (Nat.le_of_ble_eq_true rfl)⟩ ⟨rfl, rfl⟩ rfl rfl (Nat.le_of_ble_eq_true rfl) ⟨Nat.zero_le _, Nat.zero_le _⟩ hP hS dX10_isText_12 (fun r2 s2 hw H locs hP hS => ?_)
  obtain ⟨z2, hw⟩ := hw
  exact g_zret E z2 hw hP hS dX10_isText_15
theorem c_X10_isText (l : Launch) (D : va_G) (cy : Nat → ClassId) (ad : Nat → Nat → Nat) (ha : Apart regsM ad) {post : Int32 → St → Prop} {σ : St} {x1 : Int32} (hw : w_X10_isText post σ x1) (sz : Nat) : MetI l yX10_isText cX10_isText 2 .boolean rm_X10_isText [.ref (ad 0 0), .int x1] D cy (cellM cy ad) regsM ad σ sz (fun r u => (r = 0 ∨ r = 1) ∧ post r u) :=
  Met_inI ok_X10_isText.2.2.2.2.2 (Nat.le_of_ble_eq_true rfl) (fun p e s m below meth c ls E hP hl => B_X10_isText_0 E ha hw hP va_S.rf hl)
-- RoofWarModel.drawn()I
theorem dX10_drawn_0 : decode cX10_drawn 0 = .ok (.aload_n 0, 1) := by decide +kernel
theorem dX10_drawn_1 : decode cX10_drawn 1 = .ok (.getfield 7, 3) := by decide +kernel
theorem dX10_drawn_4 : decode cX10_drawn 4 = .ok (.bipush 9, 2) := by decide +kernel
theorem dX10_drawn_6 : decode cX10_drawn 6 = .ok (.aload_n 0, 1) := by decide +kernel
theorem dX10_drawn_7 : decode cX10_drawn 7 = .ok (.getfield 7, 3) := by decide +kernel
theorem dX10_drawn_10 : decode cX10_drawn 10 = .ok (.bipush 9, 2) := by decide +kernel
theorem dX10_drawn_12 : decode cX10_drawn 12 = .ok (.iaload, 1) := by decide +kernel
theorem dX10_drawn_13 : decode cX10_drawn 13 = .ok (.ldc 75, 2) := by decide +kernel
theorem dX10_drawn_15 : decode cX10_drawn 15 = .ok (.imul, 1) := by decide +kernel
theorem dX10_drawn_16 : decode cX10_drawn 16 = .ok (.sipush 12345, 3) := by decide +kernel
theorem dX10_drawn_19 : decode cX10_drawn 19 = .ok (.iadd, 1) := by decide +kernel
theorem dX10_drawn_20 : decode cX10_drawn 20 = .ok (.iastore, 1) := by decide +kernel
theorem dX10_drawn_21 : decode cX10_drawn 21 = .ok (.aload_n 0, 1) := by decide +kernel
theorem dX10_drawn_22 : decode cX10_drawn 22 = .ok (.getfield 7, 3) := by decide +kernel
theorem dX10_drawn_25 : decode cX10_drawn 25 = .ok (.bipush 9, 2) := by decide +kernel
theorem dX10_drawn_27 : decode cX10_drawn 27 = .ok (.iaload, 1) := by decide +kernel
theorem dX10_drawn_28 : decode cX10_drawn 28 = .ok (.bipush 8, 2) := by decide +kernel
theorem dX10_drawn_30 : decode cX10_drawn 30 = .ok (.iushr, 1) := by decide +kernel
theorem dX10_drawn_31 : decode cX10_drawn 31 = .ok (.ireturn, 1) := by decide +kernel
theorem ok_X10_drawn : okV yX10_drawn cX10_drawn 1 (some .int) 0 := ⟨mw_1152, mw_34, mw_83, mw_1153, by decide +kernel, by decide +kernel⟩
abbrev rm_X10_drawn : Room := { frames := 0, cells := 0, slots := 0, locals := 0 }
def w_X10_drawn (post : Int32 → St → Prop) (σ : St) : Prop := vp_in (9 : Int32) 3082 ∧ (vp_in (9 : Int32) 3082 ∧ (∀ s3 : St, s3 = wr σ 1 0 (9 : Int32).toNatClampNeg (((σ 1 0 (9 : Int32).toNatClampNeg) * 1103515245) + 12345) → (vp_in (9 : Int32) 3082 ∧ (post (jushr (s3 1 0 (9 : Int32).toNatClampNeg) 8) s3))))
theorem B_X10_drawn_0 (E : EnvW p s m args meth c D cy regsM ad "RoofWarModel" cX10_drawn 1 (some .int)) (ha : Apart regsM ad) {post : Int32 → St → Prop} {σ : St} (hw : w_X10_drawn post σ) {H : Heap} {locs : List Loc} {ls : Array Slot} (hP : va_P D CLS (wM cy ad σ) H) (hS : va_S (AM ad s.heap.size) s.heap H locs) (hl : lv_has ls 1 [(0, .ref (ad 0 0))]) : W p l e rm_X10_drawn s m args below meth c H locs 0 0 (MQ below (QI D cy (cellM cy ad) regsM ad s.heap.size post) args s 0 0 (AM ad s.heap.size)) (F0 m 0 ls []) := by
  obtain ⟨hx, hb, -⟩ := id E
  unfold w_X10_drawn at hw
  refine lv_aload_n hx hb dX10_drawn_0 rfl (lv_at hl 0 rfl) ?_
  refine fX10_0 E hP mw_946 dX10_drawn_1 ?_
  refine lv_bipush (v := 9) hx hb dX10_drawn_4 (by decide) ?_
  refine lv_aload_n hx hb dX10_drawn_6 rfl (lv_at hl 0 rfl) ?_
  refine fX10_0 E hP mw_946 dX10_drawn_7 ?_
  refine lv_bipush (v := 9) hx hb dX10_drawn_10 (by decide) ?_
  obtain ⟨h1, hw⟩ := hw
  refine aM1 E hP h1 dX10_drawn_12 ?_
  refine g_ldc (v := 1103515245) E mw_1154 dX10_drawn_13 ?_
  refine lv_imul hx hb dX10_drawn_15 ?_
  refine lv_sipush (v := 12345) hx hb dX10_drawn_16 (by decide) ?_
  refine lv_iadd hx hb dX10_drawn_19 ?_
  obtain ⟨h2, hw⟩ := hw
  refine tM1 E ha h2 dX10_drawn_20 hP hS (fun s3 es3 H locs hP hS => ?_)
  replace hw := hw s3 es3
  refine lv_aload_n hx hb dX10_drawn_21 rfl (lv_at hl 0 rfl) ?_
  refine fX10_0 E hP mw_946 dX10_drawn_22 ?_
  refine lv_bipush (v := 9) hx hb dX10_drawn_25 (by decide) ?_
  obtain ⟨h4, hw⟩ := hw
  refine aM1 E hP h4 dX10_drawn_27 ?_
  refine lv_bipush (v := 8) hx hb dX10_drawn_28 (by decide) ?_
  refine lv_iushr (v := jushr (s3 1 0 (9 : Int32).toNatClampNeg) 8) hx hb dX10_drawn_30 rfl ?_
  exact g_iret E hw hP hS dX10_drawn_31
theorem c_X10_drawn (l : Launch) (D : va_G) (cy : Nat → ClassId) (ad : Nat → Nat → Nat) (ha : Apart regsM ad) {post : Int32 → St → Prop} {σ : St} (hw : w_X10_drawn post σ) (sz : Nat) : MetI l yX10_drawn cX10_drawn 1 .int rm_X10_drawn [.ref (ad 0 0)] D cy (cellM cy ad) regsM ad σ sz post :=
  Met_inI ok_X10_drawn.2.2.2.2.2 (Nat.le_of_ble_eq_true rfl) (fun p e s m below meth c ls E hP hl => B_X10_drawn_0 E ha hw hP va_S.rf hl)
-- RoofWarModel.isOf(II)Z
theorem dX10_isOf_0 : decode cX10_isOf 0 = .ok (.iload_n 0, 1) := by decide +kernel
theorem dX10_isOf_1 : decode cX10_isOf 1 = .ok (.iload_n 1, 1) := by decide +kernel
theorem dX10_isOf_2 : decode cX10_isOf 2 = .ok (.if_icmp .eq 27, 3) := by decide +kernel
theorem dX10_isOf_5 : decode cX10_isOf 5 = .ok (.iload_n 1, 1) := by decide +kernel
theorem dX10_isOf_6 : decode cX10_isOf 6 = .ok (.ifCond .eq 23, 3) := by decide +kernel
theorem dX10_isOf_9 : decode cX10_isOf 9 = .ok (.iload_n 1, 1) := by decide +kernel
theorem dX10_isOf_10 : decode cX10_isOf 10 = .ok (.iconst 1, 1) := by decide +kernel
theorem dX10_isOf_11 : decode cX10_isOf 11 = .ok (.if_icmp .ne 8, 3) := by decide +kernel
theorem dX10_isOf_14 : decode cX10_isOf 14 = .ok (.iload_n 0, 1) := by decide +kernel
theorem dX10_isOf_15 : decode cX10_isOf 15 = .ok (.iconst 3, 1) := by decide +kernel
theorem dX10_isOf_16 : decode cX10_isOf 16 = .ok (.if_icmp .eq 13, 3) := by decide +kernel
theorem dX10_isOf_19 : decode cX10_isOf 19 = .ok (.iload_n 1, 1) := by decide +kernel
theorem dX10_isOf_20 : decode cX10_isOf 20 = .ok (.iconst 2, 1) := by decide +kernel
theorem dX10_isOf_21 : decode cX10_isOf 21 = .ok (.if_icmp .ne 12, 3) := by decide +kernel
theorem dX10_isOf_24 : decode cX10_isOf 24 = .ok (.iload_n 0, 1) := by decide +kernel
theorem dX10_isOf_25 : decode cX10_isOf 25 = .ok (.iconst 4, 1) := by decide +kernel
theorem dX10_isOf_26 : decode cX10_isOf 26 = .ok (.if_icmp .ne 7, 3) := by decide +kernel
theorem dX10_isOf_29 : decode cX10_isOf 29 = .ok (.iconst 1, 1) := by decide +kernel
theorem dX10_isOf_30 : decode cX10_isOf 30 = .ok (.goto 4, 3) := by decide +kernel
theorem dX10_isOf_33 : decode cX10_isOf 33 = .ok (.iconst 0, 1) := by decide +kernel
theorem dX10_isOf_34 : decode cX10_isOf 34 = .ok (.ireturn, 1) := by decide +kernel
theorem ok_X10_isOf : okS yX10_isOf cX10_isOf 2 (some .boolean) 2 := ⟨mw_1103, mw_83, mw_1104, by decide +kernel, by decide +kernel⟩
abbrev rm_X10_isOf : Room := { frames := 0, cells := 0, slots := 0, locals := 0 }
def b_X10_isOf_19 (post : Int32 → St → Prop) (σ : St) (x0 : Int32) (x1 : Int32) : Prop := ((¬ x1 = 2 → (post 0 σ)) ∧ (x1 = 2 → (((¬ x0 = 4 → (post 0 σ)) ∧ (x0 = 4 → (post 1 σ))))))
theorem B_X10_isOf_19 (E : EnvW p s m args meth c D cy regsM ad "RoofWarModel" cX10_isOf 2 (some .boolean)) (ha : Apart regsM ad) {post : Int32 → St → Prop} {σ : St} {x0 : Int32} {x1 : Int32} (hw : b_X10_isOf_19 post σ x0 x1) {H : Heap} {locs : List Loc} {ls : Array Slot} (hP : va_P D CLS (wM cy ad σ) H) (hS : va_S (AM ad s.heap.size) s.heap H locs) (hl : lv_has ls 2 [(0, .int x0), (1, .int x1)]) : W p l e rm_X10_isOf s m args below meth c H locs 0 0 (MQ below (QI D cy (cellM cy ad) regsM ad s.heap.size (fun r u => (r = 0 ∨ r = 1) ∧ post r u)) args s 0 0 (AM ad s.heap.size)) (F0 m 19 ls []) := by
  obtain ⟨hx, hb, -⟩ := id E
  unfold b_X10_isOf_19 at hw
  refine lv_iload_n hx hb dX10_isOf_19 rfl (lv_at hl 1 rfl) ?_
  refine lv_iconst (v := 2) hx hb dX10_isOf_20 (by decide) ?_
  refine lv_icmp_ne (tgt := 33) hx hb dX10_isOf_21 (by decide) (fun c1 => ?_) (fun c1 => ?_)
  · replace hw := hw.1 c1
    refine lv_iconst (v := 0) hx hb dX10_isOf_33 (by decide) ?_
    exact g_zret E (Or.inl rfl) hw hP hS dX10_isOf_34
  · replace hw := hw.2 c1
    refine lv_iload_n hx hb dX10_isOf_24 rfl (lv_at hl 0 rfl) ?_
    refine lv_iconst (v := 4) hx hb dX10_isOf_25 (by decide) ?_
    refine lv_icmp_ne (tgt := 33) hx hb dX10_isOf_26 (by decide) (fun c2 => ?_) (fun c2 => ?_)
    · replace hw := hw.1 c2
      refine lv_iconst (v := 0) hx hb dX10_isOf_33 (by decide) ?_
      exact g_zret E (Or.inl rfl) hw hP hS dX10_isOf_34
    · replace hw := hw.2 c2
      refine lv_iconst (v := 1) hx hb dX10_isOf_29 (by decide) ?_
      refine lv_goto (tgt := 34) hx hb dX10_isOf_30 (by decide) ?_
      exact g_zret E (Or.inr rfl) hw hP hS dX10_isOf_34
def w_X10_isOf (post : Int32 → St → Prop) (σ : St) (x0 : Int32) (x1 : Int32) : Prop := ((x0 = x1 → (post 1 σ)) ∧ (¬ x0 = x1 → (((x1 = 0 → (post 1 σ)) ∧ (¬ x1 = 0 → (((¬ x1 = 1 → (b_X10_isOf_19 post σ x0 x1)) ∧ (x1 = 1 → (((x0 = 3 → (post 1 σ)) ∧ (¬ x0 = 3 → (b_X10_isOf_19 post σ x0 x1))))))))))))
theorem B_X10_isOf_0 (E : EnvW p s m args meth c D cy regsM ad "RoofWarModel" cX10_isOf 2 (some .boolean)) (ha : Apart regsM ad) {post : Int32 → St → Prop} {σ : St} {x0 : Int32} {x1 : Int32} (hw : w_X10_isOf post σ x0 x1) {H : Heap} {locs : List Loc} {ls : Array Slot} (hP : va_P D CLS (wM cy ad σ) H) (hS : va_S (AM ad s.heap.size) s.heap H locs) (hl : lv_has ls 2 [(0, .int x0), (1, .int x1)]) : W p l e rm_X10_isOf s m args below meth c H locs 0 0 (MQ below (QI D cy (cellM cy ad) regsM ad s.heap.size (fun r u => (r = 0 ∨ r = 1) ∧ post r u)) args s 0 0 (AM ad s.heap.size)) (F0 m 0 ls []) := by
  obtain ⟨hx, hb, -⟩ := id E
  unfold w_X10_isOf at hw
  refine lv_iload_n hx hb dX10_isOf_0 rfl (lv_at hl 0 rfl) ?_
  refine lv_iload_n hx hb dX10_isOf_1 rfl (lv_at hl 1 rfl) ?_
  refine lv_icmp_eq (tgt := 29) hx hb dX10_isOf_2 (by decide) (fun c1 => ?_) (fun c1 => ?_)
  · replace hw := hw.1 c1
    refine lv_iconst (v := 1) hx hb dX10_isOf_29 (by decide) ?_
    refine lv_goto (tgt := 34) hx hb dX10_isOf_30 (by decide) ?_
    exact g_zret E (Or.inr rfl) hw hP hS dX10_isOf_34
  · replace hw := hw.2 c1
    refine lv_iload_n hx hb dX10_isOf_5 rfl (lv_at hl 1 rfl) ?_
    refine lv_if_eq (tgt := 29) hx hb dX10_isOf_6 (by decide) (fun c2 => ?_) (fun c2 => ?_)
    · replace hw := hw.1 c2
      refine lv_iconst (v := 1) hx hb dX10_isOf_29 (by decide) ?_
      refine lv_goto (tgt := 34) hx hb dX10_isOf_30 (by decide) ?_
      exact g_zret E (Or.inr rfl) hw hP hS dX10_isOf_34
    · replace hw := hw.2 c2
      refine lv_iload_n hx hb dX10_isOf_9 rfl (lv_at hl 1 rfl) ?_
      refine lv_iconst (v := 1) hx hb dX10_isOf_10 (by decide) ?_
      refine lv_icmp_ne (tgt := 19) hx hb dX10_isOf_11 (by decide) (fun c3 => ?_) (fun c3 => ?_)
      · replace hw := hw.1 c3
        exact B_X10_isOf_19 E ha hw hP hS (lv_sub hl [0, 1] rfl)
      · replace hw := hw.2 c3
        refine lv_iload_n hx hb dX10_isOf_14 rfl (lv_at hl 0 rfl) ?_
        refine lv_iconst (v := 3) hx hb dX10_isOf_15 (by decide) ?_
        refine lv_icmp_eq (tgt := 29) hx hb dX10_isOf_16 (by decide) (fun c4 => ?_) (fun c4 => ?_)
        · replace hw := hw.1 c4
          refine lv_iconst (v := 1) hx hb dX10_isOf_29 (by decide) ?_
          refine lv_goto (tgt := 34) hx hb dX10_isOf_30 (by decide) ?_
          exact g_zret E (Or.inr rfl) hw hP hS dX10_isOf_34
        · replace hw := hw.2 c4
          exact B_X10_isOf_19 E ha hw hP hS (lv_sub hl [0, 1] rfl)
theorem c_X10_isOf (l : Launch) (D : va_G) (cy : Nat → ClassId) (ad : Nat → Nat → Nat) (ha : Apart regsM ad) {post : Int32 → St → Prop} {σ : St} {x0 : Int32} {x1 : Int32} (hw : w_X10_isOf post σ x0 x1) (sz : Nat) : MetI l yX10_isOf cX10_isOf 2 .boolean rm_X10_isOf [.int x0, .int x1] D cy (cellM cy ad) regsM ad σ sz (fun r u => (r = 0 ∨ r = 1) ∧ post r u) :=
  Met_inI ok_X10_isOf.2.2.2.2 (Nat.le_of_ble_eq_true rfl) (fun p e s m below meth c ls E hP hl => B_X10_isOf_0 E ha hw hP va_S.rf hl)
-- RoofWarModel.isHouse(I)Z
theorem dX10_isHouse_0 : decode cX10_isHouse 0 = .ok (.iload_n 0, 1) := by decide +kernel
theorem dX10_isHouse_1 : decode cX10_isHouse 1 = .ok (.i2l, 1) := by decide +kernel
theorem dX10_isHouse_2 : decode cX10_isHouse 2 = .ok (.lconst 0, 1) := by decide +kernel
theorem dX10_isHouse_3 : decode cX10_isHouse 3 = .ok (.ldc2_w 76, 3) := by decide +kernel
theorem dX10_isHouse_6 : decode cX10_isHouse 6 = .ok (.invokestatic 71, 3) := by decide +kernel
theorem dX10_isHouse_9 : decode cX10_isHouse 9 = .ok (.ireturn, 1) := by decide +kernel
theorem ok_X10_isHouse : okS yX10_isHouse cX10_isHouse 1 (some .boolean) 1 := ⟨mw_1060, mw_83, mw_1061, by decide +kernel, by decide +kernel⟩
abbrev rm_X10_isHouse : Room := { frames := 1, cells := 0, slots := 0, locals := 25 }
def w_X10_isHouse (post : Int32 → St → Prop) (σ : St) (x0 : Int32) : Prop := w_X10_isIn (fun r1 s1 => post r1 s1) σ x0.toInt64 ((0 : Int64)) ((11 : Int64))
theorem B_X10_isHouse_0 (E : EnvW p s m args meth c D cy regsM ad "RoofWarModel" cX10_isHouse 1 (some .boolean)) (ha : Apart regsM ad) {post : Int32 → St → Prop} {σ : St} {x0 : Int32} (hw : w_X10_isHouse post σ x0) {H : Heap} {locs : List Loc} {ls : Array Slot} (hP : va_P D CLS (wM cy ad σ) H) (hS : va_S (AM ad s.heap.size) s.heap H locs) (hl : lv_has ls 1 [(0, .int x0)]) : W p l e rm_X10_isHouse s m args below meth c H locs 0 0 (MQ below (QI D cy (cellM cy ad) regsM ad s.heap.size (fun r u => (r = 0 ∨ r = 1) ∧ post r u)) args s 0 0 (AM ad s.heap.size)) (F0 m 0 ls []) := by
  obtain ⟨hx, hb, -⟩ := id E
  unfold w_X10_isHouse at hw
  refine lv_iload_n hx hb dX10_isHouse_0 rfl (lv_at hl 0 rfl) ?_
  refine lv_i2l (v := x0.toInt64) hx hb dX10_isHouse_1 rfl ?_
  refine lv_lconst (v := 0) hx hb dX10_isHouse_2 (by decide) ?_
  refine g_ldc2 (v := 11) E mw_1062 dX10_isHouse_3 ?_
  refine g_cSi (As := [.long x0.toInt64, .long ((0 : Int64)), .long ((11 : Int64))]) (rest := []) E hl.1 (c_X10_isIn l D cy ad ha hw _) ok_X10_isIn mw_1054 ⟨(Nat.le_of_ble_eq_true rfl), (Nat.le_of_ble_eq_true rfl)⟩ ⟨rfl, rfl⟩ rfl rfl (Nat.le_of_ble_eq_true rfl) ⟨Nat.zero_le _, Nat.zero_le _⟩ hP hS dX10_isHouse_6 (fun r1 s1 hw H locs hP hS => ?_)
  obtain ⟨z1, hw⟩ := hw
  exact g_zret E z1 hw hP hS dX10_isHouse_9
theorem c_X10_isHouse (l : Launch) (D : va_G) (cy : Nat → ClassId) (ad : Nat → Nat → Nat) (ha : Apart regsM ad) {post : Int32 → St → Prop} {σ : St} {x0 : Int32} (hw : w_X10_isHouse post σ x0) (sz : Nat) : MetI l yX10_isHouse cX10_isHouse 1 .boolean rm_X10_isHouse [.int x0] D cy (cellM cy ad) regsM ad σ sz (fun r u => (r = 0 ∨ r = 1) ∧ post r u) :=
  Met_inI ok_X10_isHouse.2.2.2.2 (Nat.le_of_ble_eq_true rfl) (fun p e s m below meth c ls E hP hl => B_X10_isHouse_0 E ha hw hP va_S.rf hl)
-- RoofWarModel.isTown(I)Z
theorem dX10_isTown_0 : decode cX10_isTown 0 = .ok (.iload_n 0, 1) := by decide +kernel
theorem dX10_isTown_1 : decode cX10_isTown 1 = .ok (.i2l, 1) := by decide +kernel
theorem dX10_isTown_2 : decode cX10_isTown 2 = .ok (.lconst 0, 1) := by decide +kernel
theorem dX10_isTown_3 : decode cX10_isTown 3 = .ok (.lconst 1, 1) := by decide +kernel
theorem dX10_isTown_4 : decode cX10_isTown 4 = .ok (.invokestatic 71, 3) := by decide +kernel
theorem dX10_isTown_7 : decode cX10_isTown 7 = .ok (.ireturn, 1) := by decide +kernel
theorem ok_X10_isTown : okS yX10_isTown cX10_isTown 1 (some .boolean) 1 := ⟨mw_1229, mw_83, mw_1230, by decide +kernel, by decide +kernel⟩
abbrev rm_X10_isTown : Room := { frames := 1, cells := 0, slots := 0, locals := 25 }
def w_X10_isTown (post : Int32 → St → Prop) (σ : St) (x0 : Int32) : Prop := w_X10_isIn (fun r1 s1 => post r1 s1) σ x0.toInt64 ((0 : Int64)) ((1 : Int64))
theorem B_X10_isTown_0 (E : EnvW p s m args meth c D cy regsM ad "RoofWarModel" cX10_isTown 1 (some .boolean)) (ha : Apart regsM ad) {post : Int32 → St → Prop} {σ : St} {x0 : Int32} (hw : w_X10_isTown post σ x0) {H : Heap} {locs : List Loc} {ls : Array Slot} (hP : va_P D CLS (wM cy ad σ) H) (hS : va_S (AM ad s.heap.size) s.heap H locs) (hl : lv_has ls 1 [(0, .int x0)]) : W p l e rm_X10_isTown s m args below meth c H locs 0 0 (MQ below (QI D cy (cellM cy ad) regsM ad s.heap.size (fun r u => (r = 0 ∨ r = 1) ∧ post r u)) args s 0 0 (AM ad s.heap.size)) (F0 m 0 ls []) := by
  obtain ⟨hx, hb, -⟩ := id E
  unfold w_X10_isTown at hw
  refine lv_iload_n hx hb dX10_isTown_0 rfl (lv_at hl 0 rfl) ?_
  refine lv_i2l (v := x0.toInt64) hx hb dX10_isTown_1 rfl ?_
  refine lv_lconst (v := 0) hx hb dX10_isTown_2 (by decide) ?_
  refine lv_lconst (v := 1) hx hb dX10_isTown_3 (by decide) ?_
  refine g_cSi (As := [.long x0.toInt64, .long ((0 : Int64)), .long ((1 : Int64))]) (rest := []) E hl.1 (c_X10_isIn l D cy ad ha hw _) ok_X10_isIn mw_1054 ⟨(Nat.le_of_ble_eq_true rfl), (Nat.le_of_ble_eq_true rfl)⟩ ⟨rfl, rfl⟩ rfl rfl (Nat.le_of_ble_eq_true rfl) ⟨Nat.zero_le _, Nat.zero_le _⟩ hP hS dX10_isTown_4 (fun r1 s1 hw H locs hP hS => ?_)
  obtain ⟨z1, hw⟩ := hw
  exact g_zret E z1 hw hP hS dX10_isTown_7
theorem c_X10_isTown (l : Launch) (D : va_G) (cy : Nat → ClassId) (ad : Nat → Nat → Nat) (ha : Apart regsM ad) {post : Int32 → St → Prop} {σ : St} {x0 : Int32} (hw : w_X10_isTown post σ x0) (sz : Nat) : MetI l yX10_isTown cX10_isTown 1 .boolean rm_X10_isTown [.int x0] D cy (cellM cy ad) regsM ad σ sz (fun r u => (r = 0 ∨ r = 1) ∧ post r u) :=
  Met_inI ok_X10_isTown.2.2.2.2 (Nat.le_of_ble_eq_true rfl) (fun p e s m below meth c ls E hP hl => B_X10_isTown_0 E ha hw hP va_S.rf hl)
-- RoofWarModel.over(I)I
theorem dX10_over_0 : decode cX10_over 0 = .ok (.iconst 0, 1) := by decide +kernel
theorem dX10_over_1 : decode cX10_over 1 = .ok (.istore_n 2, 1) := by decide +kernel
theorem dX10_over_2 : decode cX10_over 2 = .ok (.iload_n 2, 1) := by decide +kernel
theorem dX10_over_3 : decode cX10_over 3 = .ok (.aload_n 0, 1) := by decide +kernel
theorem dX10_over_4 : decode cX10_over 4 = .ok (.getfield 7, 3) := by decide +kernel
theorem dX10_over_7 : decode cX10_over 7 = .ok (.iconst 0, 1) := by decide +kernel
theorem dX10_over_8 : decode cX10_over 8 = .ok (.iaload, 1) := by decide +kernel
theorem dX10_over_9 : decode cX10_over 9 = .ok (.if_icmp .ge 19, 3) := by decide +kernel
theorem dX10_over_12 : decode cX10_over 12 = .ok (.aload_n 0, 1) := by decide +kernel
theorem dX10_over_13 : decode cX10_over 13 = .ok (.iload_n 2, 1) := by decide +kernel
theorem dX10_over_14 : decode cX10_over 14 = .ok (.iconst 3, 1) := by decide +kernel
theorem dX10_over_15 : decode cX10_over 15 = .ok (.invokevirtual 78, 3) := by decide +kernel
theorem dX10_over_18 : decode cX10_over 18 = .ok (.iload_n 1, 1) := by decide +kernel
theorem dX10_over_19 : decode cX10_over 19 = .ok (.if_icmp .eq 9, 3) := by decide +kernel
theorem dX10_over_22 : decode cX10_over 22 = .ok (.iinc 2 1, 3) := by decide +kernel
theorem dX10_over_25 : decode cX10_over 25 = .ok (.goto (-23), 3) := by decide +kernel
theorem dX10_over_28 : decode cX10_over 28 = .ok (.iload_n 2, 1) := by decide +kernel
theorem dX10_over_29 : decode cX10_over 29 = .ok (.aload_n 0, 1) := by decide +kernel
theorem dX10_over_30 : decode cX10_over 30 = .ok (.getfield 7, 3) := by decide +kernel
theorem dX10_over_33 : decode cX10_over 33 = .ok (.iconst 0, 1) := by decide +kernel
theorem dX10_over_34 : decode cX10_over 34 = .ok (.iaload, 1) := by decide +kernel
theorem dX10_over_35 : decode cX10_over 35 = .ok (.if_icmp .ge 7, 3) := by decide +kernel
theorem dX10_over_38 : decode cX10_over 38 = .ok (.iload_n 2, 1) := by decide +kernel
theorem dX10_over_39 : decode cX10_over 39 = .ok (.goto 4, 3) := by decide +kernel
theorem dX10_over_42 : decode cX10_over 42 = .ok (.iconst (-1), 1) := by decide +kernel
theorem dX10_over_43 : decode cX10_over 43 = .ok (.ireturn, 1) := by decide +kernel
theorem ok_X10_over : okV yX10_over cX10_over 3 (some .int) 1 := ⟨mw_1065, mw_22, mw_83, mw_1066, by decide +kernel, by decide +kernel⟩
abbrev rm_X10_over : Room := { frames := 1, cells := 0, slots := 0, locals := 22 }
def b_X10_over_28 (post : Int32 → St → Prop) (σ : St) (x2 : Int32) : Prop := vp_in (0 : Int32) 3082 ∧ ((((σ 1 0 (0 : Int32).toNatClampNeg) ≤ x2 → (post ((-1)) σ)) ∧ (¬ (σ 1 0 (0 : Int32).toNatClampNeg) ≤ x2 → (post x2 σ))))
theorem B_X10_over_28 (E : EnvW p s m args meth c D cy regsM ad "RoofWarModel" cX10_over 3 (some .int)) (ha : Apart regsM ad) {post : Int32 → St → Prop} {σ : St} {x2 : Int32} (hw : b_X10_over_28 post σ x2) {H : Heap} {locs : List Loc} {ls : Array Slot} (hP : va_P D CLS (wM cy ad σ) H) (hS : va_S (AM ad s.heap.size) s.heap H locs) (hl : lv_has ls 3 [(0, .ref (ad 0 0)), (2, .int x2)]) : W p l e rm_X10_over s m args below meth c H locs 0 0 (MQ below (QI D cy (cellM cy ad) regsM ad s.heap.size post) args s 0 0 (AM ad s.heap.size)) (F0 m 28 ls []) := by
  obtain ⟨hx, hb, -⟩ := id E
  unfold b_X10_over_28 at hw
  refine lv_iload_n hx hb dX10_over_28 rfl (lv_at hl 1 rfl) ?_
  refine lv_aload_n hx hb dX10_over_29 rfl (lv_at hl 0 rfl) ?_
  refine fX10_0 E hP mw_946 dX10_over_30 ?_
  refine lv_iconst (v := 0) hx hb dX10_over_33 (by decide) ?_
  obtain ⟨h1, hw⟩ := hw
  refine aM1 E hP h1 dX10_over_34 ?_
  refine lv_icmp_ge (tgt := 42) hx hb dX10_over_35 (by decide) (fun c2 => ?_) (fun c2 => ?_)
  · replace hw := hw.1 c2
    refine lv_iconst (v := -1) hx hb dX10_over_42 (by decide) ?_
    exact g_iret E hw hP hS dX10_over_43
  · replace hw := hw.2 c2
    refine lv_iload_n hx hb dX10_over_38 rfl (lv_at hl 1 rfl) ?_
    refine lv_goto (tgt := 43) hx hb dX10_over_39 (by decide) ?_
    exact g_iret E hw hP hS dX10_over_43
def b_X10_over_2 (K2 : St → Int32 → Int32 → Prop) (post : Int32 → St → Prop) (σ : St) (x1 : Int32) (x2 : Int32) : Prop := vp_in (0 : Int32) 3082 ∧ ((((σ 1 0 (0 : Int32).toNatClampNeg) ≤ x2 → (b_X10_over_28 post σ x2)) ∧ (¬ (σ 1 0 (0 : Int32).toNatClampNeg) ≤ x2 → (w_X10_of (fun r3 s3 => ((r3 = x1 → (b_X10_over_28 post s3 x2)) ∧ (¬ r3 = x1 → (∀ v5 : Int32, v5 = x2 + 1 → (K2 s3 x1 v5))))) σ x2 (3 : Int32)))))
noncomputable def l_X10_over_2 (post : Int32 → St → Prop) : Nat → St → Int32 → Int32 → Prop := fun n => Nat.rec (motive := fun _ => St → Int32 → Int32 → Prop) (fun _ _ _ => False) (fun _ ih => b_X10_over_2 ih post) n
theorem L_X10_over_2 (E : EnvW p s m args meth c D cy regsM ad "RoofWarModel" cX10_over 3 (some .int)) (ha : Apart regsM ad) {post : Int32 → St → Prop} : ∀ (n : Nat), ∀ (σ : St) (x1 : Int32) (x2 : Int32), l_X10_over_2 post n σ x1 x2 → ∀ (H : Heap) (locs : List Loc) (ls : Array Slot), va_P D CLS (wM cy ad σ) H → va_S (AM ad s.heap.size) s.heap H locs → lv_has ls 3 [(0, .ref (ad 0 0)), (1, .int x1), (2, .int x2)] → W p l e rm_X10_over s m args below meth c H locs 0 0 (MQ below (QI D cy (cellM cy ad) regsM ad s.heap.size post) args s 0 0 (AM ad s.heap.size)) (F0 m 2 ls []) := by
  obtain ⟨hx, hb, -⟩ := id E
  intro n
  induction n with
  | zero => intro σ x1 x2 hw; exact hw.elim
  | succ n hk2 =>
    intro σ x1 x2 hw H locs ls hP hS hl
    replace hw : b_X10_over_2 (l_X10_over_2 post n) post σ x1 x2 := hw
    unfold b_X10_over_2 at hw
    refine lv_iload_n hx hb dX10_over_2 rfl (lv_at hl 2 rfl) ?_
    refine lv_aload_n hx hb dX10_over_3 rfl (lv_at hl 0 rfl) ?_
    refine fX10_0 E hP mw_946 dX10_over_4 ?_
    refine lv_iconst (v := 0) hx hb dX10_over_7 (by decide) ?_
    obtain ⟨h1, hw⟩ := hw
    refine aM1 E hP h1 dX10_over_8 ?_
    refine lv_icmp_ge (tgt := 28) hx hb dX10_over_9 (by decide) (fun c2 => ?_) (fun c2 => ?_)
    · replace hw := hw.1 c2
      exact B_X10_over_28 E ha hw hP hS (lv_sub hl [0, 2] rfl)
    · replace hw := hw.2 c2
      refine lv_aload_n hx hb dX10_over_12 rfl (lv_at hl 0 rfl) ?_
      refine lv_iload_n hx hb dX10_over_13 rfl (lv_at hl 2 rfl) ?_
      refine lv_iconst (v := 3) hx hb dX10_over_14 (by decide) ?_
      refine g_cVi (As := [.int x2, .int 3]) (rest := []) E hl.1 (c_X10_of l D cy ad ha hw _) ok_X10_of mw_1067 ⟨(Nat.le_of_ble_eq_true rfl), (Nat.le_of_ble_eq_true rfl)⟩ ⟨rfl, rfl⟩ rM0 rfl rfl rfl rfl rfl (Nat.le_of_ble_eq_true rfl) ⟨Nat.zero_le _, Nat.zero_le _⟩ hP hS dX10_over_15 (fun r3 s3 hw H locs hP hS => ?_)
      refine lv_iload_n hx hb dX10_over_18 rfl (lv_at hl 1 rfl) ?_
      refine lv_icmp_eq (tgt := 28) hx hb dX10_over_19 (by decide) (fun c4 => ?_) (fun c4 => ?_)
      · replace hw := hw.1 c4
        exact B_X10_over_28 E ha hw hP hS (lv_sub hl [0, 2] rfl)
      · replace hw := hw.2 c4
        obtain ⟨v5, ev5⟩ : ∃ y : Int32, y = x2 + 1 := ⟨_, rfl⟩
        replace hw := hw v5 ev5
        refine lv_iinc (v := v5) (lv' := [(2, .int v5), (0, .ref (ad 0 0)), (1, .int x1)]) hx hb dX10_over_22 hl (k := 2) rfl (by rw [ev5]; rfl) (by decide) rfl (fun ls hl => ?_)
        refine lv_goto (tgt := 2) hx hb dX10_over_25 (by decide) ?_
        exact hk2 s3 x1 v5 hw _ _ _ hP hS (lv_sub hl [1, 2, 0] rfl)
def w_X10_over (post : Int32 → St → Prop) (σ : St) (x1 : Int32) : Prop := ∃ n1 : Nat, l_X10_over_2 post n1 σ x1 (0 : Int32)
theorem B_X10_over_0 (E : EnvW p s m args meth c D cy regsM ad "RoofWarModel" cX10_over 3 (some .int)) (ha : Apart regsM ad) {post : Int32 → St → Prop} {σ : St} {x1 : Int32} (hw : w_X10_over post σ x1) {H : Heap} {locs : List Loc} {ls : Array Slot} (hP : va_P D CLS (wM cy ad σ) H) (hS : va_S (AM ad s.heap.size) s.heap H locs) (hl : lv_has ls 3 [(0, .ref (ad 0 0)), (1, .int x1)]) : W p l e rm_X10_over s m args below meth c H locs 0 0 (MQ below (QI D cy (cellM cy ad) regsM ad s.heap.size post) args s 0 0 (AM ad s.heap.size)) (F0 m 0 ls []) := by
  obtain ⟨hx, hb, -⟩ := id E
  unfold w_X10_over at hw
  refine lv_iconst (v := 0) hx hb dX10_over_0 (by decide) ?_
  refine lv_istore_n (lv' := [(2, .int 0), (0, .ref (ad 0 0)), (1, .int x1)]) hx hb dX10_over_1 rfl hl (by decide) rfl (fun ls hl => ?_)
  obtain ⟨n1, hw⟩ := hw
  exact L_X10_over_2 E ha n1 σ x1 (0 : Int32) hw _ _ _ hP hS (lv_sub hl [1, 2, 0] rfl)
theorem c_X10_over (l : Launch) (D : va_G) (cy : Nat → ClassId) (ad : Nat → Nat → Nat) (ha : Apart regsM ad) {post : Int32 → St → Prop} {σ : St} {x1 : Int32} (hw : w_X10_over post σ x1) (sz : Nat) : MetI l yX10_over cX10_over 3 .int rm_X10_over [.ref (ad 0 0), .int x1] D cy (cellM cy ad) regsM ad σ sz post :=
  Met_inI ok_X10_over.2.2.2.2.2 (Nat.le_of_ble_eq_true rfl) (fun p e s m below meth c ls E hP hl => B_X10_over_0 E ha hw hP va_S.rf hl)
-- RoofWarModel.townOf(I)I
theorem dX10_townOf_0 : decode cX10_townOf 0 = .ok (.aload_n 0, 1) := by decide +kernel
theorem dX10_townOf_1 : decode cX10_townOf 1 = .ok (.iload_n 1, 1) := by decide +kernel
theorem dX10_townOf_2 : decode cX10_townOf 2 = .ok (.iconst 3, 1) := by decide +kernel
theorem dX10_townOf_3 : decode cX10_townOf 3 = .ok (.invokevirtual 78, 3) := by decide +kernel
theorem dX10_townOf_6 : decode cX10_townOf 6 = .ok (.bipush 6, 2) := by decide +kernel
theorem dX10_townOf_8 : decode cX10_townOf 8 = .ok (.idiv, 1) := by decide +kernel
theorem dX10_townOf_9 : decode cX10_townOf 9 = .ok (.ireturn, 1) := by decide +kernel
theorem ok_X10_townOf : okV yX10_townOf cX10_townOf 2 (some .int) 1 := ⟨mw_1179, mw_40, mw_83, mw_1180, by decide +kernel, by decide +kernel⟩
abbrev rm_X10_townOf : Room := { frames := 1, cells := 0, slots := 0, locals := 22 }
def w_X10_townOf (post : Int32 → St → Prop) (σ : St) (x1 : Int32) : Prop := w_X10_of (fun r1 s1 => ¬ (6 : Int32) = 0 ∧ (post (r1 / 6) s1)) σ x1 (3 : Int32)
theorem B_X10_townOf_0 (E : EnvW p s m args meth c D cy regsM ad "RoofWarModel" cX10_townOf 2 (some .int)) (ha : Apart regsM ad) {post : Int32 → St → Prop} {σ : St} {x1 : Int32} (hw : w_X10_townOf post σ x1) {H : Heap} {locs : List Loc} {ls : Array Slot} (hP : va_P D CLS (wM cy ad σ) H) (hS : va_S (AM ad s.heap.size) s.heap H locs) (hl : lv_has ls 2 [(0, .ref (ad 0 0)), (1, .int x1)]) : W p l e rm_X10_townOf s m args below meth c H locs 0 0 (MQ below (QI D cy (cellM cy ad) regsM ad s.heap.size post) args s 0 0 (AM ad s.heap.size)) (F0 m 0 ls []) := by
  obtain ⟨hx, hb, -⟩ := id E
  unfold w_X10_townOf at hw
  refine lv_aload_n hx hb dX10_townOf_0 rfl (lv_at hl 0 rfl) ?_
  refine lv_iload_n hx hb dX10_townOf_1 rfl (lv_at hl 1 rfl) ?_
  refine lv_iconst (v := 3) hx hb dX10_townOf_2 (by decide) ?_
  refine g_cVi (As := [.int x1, .int 3]) (rest := []) E hl.1 (c_X10_of l D cy ad ha hw _) ok_X10_of mw_1067 ⟨(Nat.le_of_ble_eq_true rfl), (Nat.le_of_ble_eq_true rfl)⟩ ⟨rfl, rfl⟩ rM0 rfl rfl rfl rfl rfl (Nat.le_of_ble_eq_true rfl) ⟨Nat.zero_le _, Nat.zero_le _⟩ hP hS dX10_townOf_3 (fun r1 s1 hw H locs hP hS => ?_)
  refine lv_bipush (v := 6) hx hb dX10_townOf_6 (by decide) ?_
  obtain ⟨h2, hw⟩ := hw
  refine lv_idiv hx hb dX10_townOf_8 h2 ?_
  exact g_iret E hw hP hS dX10_townOf_9
theorem c_X10_townOf (l : Launch) (D : va_G) (cy : Nat → ClassId) (ad : Nat → Nat → Nat) (ha : Apart regsM ad) {post : Int32 → St → Prop} {σ : St} {x1 : Int32} (hw : w_X10_townOf post σ x1) (sz : Nat) : MetI l yX10_townOf cX10_townOf 2 .int rm_X10_townOf [.ref (ad 0 0), .int x1] D cy (cellM cy ad) regsM ad σ sz post :=
  Met_inI ok_X10_townOf.2.2.2.2.2 (Nat.le_of_ble_eq_true rfl) (fun p e s m below meth c ls E hP hl => B_X10_townOf_0 E ha hw hP va_S.rf hl)
-- RoofWarModel.weighs(I)I
theorem dX10_weighs_0 : decode cX10_weighs 0 = .ok (.iconst 2, 1) := by decide +kernel
theorem dX10_weighs_1 : decode cX10_weighs 1 = .ok (.aload_n 0, 1) := by decide +kernel
theorem dX10_weighs_2 : decode cX10_weighs 2 = .ok (.iload_n 1, 1) := by decide +kernel
theorem dX10_weighs_3 : decode cX10_weighs 3 = .ok (.iconst 1, 1) := by decide +kernel
theorem dX10_weighs_4 : decode cX10_weighs 4 = .ok (.invokevirtual 78, 3) := by decide +kernel
theorem dX10_weighs_7 : decode cX10_weighs 7 = .ok (.imul, 1) := by decide +kernel
theorem dX10_weighs_8 : decode cX10_weighs 8 = .ok (.istore_n 2, 1) := by decide +kernel
theorem dX10_weighs_9 : decode cX10_weighs 9 = .ok (.aload_n 0, 1) := by decide +kernel
theorem dX10_weighs_10 : decode cX10_weighs 10 = .ok (.iload_n 1, 1) := by decide +kernel
theorem dX10_weighs_11 : decode cX10_weighs 11 = .ok (.iconst 0, 1) := by decide +kernel
theorem dX10_weighs_12 : decode cX10_weighs 12 = .ok (.invokevirtual 78, 3) := by decide +kernel
theorem dX10_weighs_15 : decode cX10_weighs 15 = .ok (.tableswitch 49 1 5 #[33, 37, 33, 41, 47], 33) := by decide +kernel
theorem dX10_weighs_48 : decode cX10_weighs 48 = .ok (.iload_n 2, 1) := by decide +kernel
theorem dX10_weighs_49 : decode cX10_weighs 49 = .ok (.iconst 2, 1) := by decide +kernel
theorem dX10_weighs_50 : decode cX10_weighs 50 = .ok (.idiv, 1) := by decide +kernel
theorem dX10_weighs_51 : decode cX10_weighs 51 = .ok (.ireturn, 1) := by decide +kernel
theorem dX10_weighs_52 : decode cX10_weighs 52 = .ok (.iconst 2, 1) := by decide +kernel
theorem dX10_weighs_53 : decode cX10_weighs 53 = .ok (.iload_n 2, 1) := by decide +kernel
theorem dX10_weighs_54 : decode cX10_weighs 54 = .ok (.imul, 1) := by decide +kernel
theorem dX10_weighs_55 : decode cX10_weighs 55 = .ok (.ireturn, 1) := by decide +kernel
theorem dX10_weighs_56 : decode cX10_weighs 56 = .ok (.iconst 2, 1) := by decide +kernel
theorem dX10_weighs_57 : decode cX10_weighs 57 = .ok (.iload_n 2, 1) := by decide +kernel
theorem dX10_weighs_58 : decode cX10_weighs 58 = .ok (.imul, 1) := by decide +kernel
theorem dX10_weighs_59 : decode cX10_weighs 59 = .ok (.iconst 2, 1) := by decide +kernel
theorem dX10_weighs_60 : decode cX10_weighs 60 = .ok (.isub, 1) := by decide +kernel
theorem dX10_weighs_61 : decode cX10_weighs 61 = .ok (.ireturn, 1) := by decide +kernel
theorem dX10_weighs_62 : decode cX10_weighs 62 = .ok (.iconst 1, 1) := by decide +kernel
theorem dX10_weighs_63 : decode cX10_weighs 63 = .ok (.ireturn, 1) := by decide +kernel
theorem dX10_weighs_64 : decode cX10_weighs 64 = .ok (.iload_n 2, 1) := by decide +kernel
theorem dX10_weighs_65 : decode cX10_weighs 65 = .ok (.ireturn, 1) := by decide +kernel
theorem ok_X10_weighs : okV yX10_weighs cX10_weighs 3 (some .int) 1 := ⟨mw_1087, mw_27, mw_83, mw_1088, by decide +kernel, by decide +kernel⟩
abbrev rm_X10_weighs : Room := { frames := 1, cells := 0, slots := 0, locals := 22 }
def w_X10_weighs (post : Int32 → St → Prop) (σ : St) (x1 : Int32) : Prop := w_X10_of (fun r1 s1 => ∀ v2 : Int32, v2 = 2 * r1 → (w_X10_of (fun r3 s3 => ((r3 = 1 → (¬ (2 : Int32) = 0 ∧ (post (v2 / 2) s3))) ∧ (¬ r3 = 1 → (((r3 = 2 → (post (2 * v2) s3)) ∧ (¬ r3 = 2 → (((r3 = 3 → (¬ (2 : Int32) = 0 ∧ (post (v2 / 2) s3))) ∧ (¬ r3 = 3 → (((r3 = 4 → (post ((2 * v2) - 2) s3)) ∧ (¬ r3 = 4 → (((r3 = 5 → (post 1 s3)) ∧ (¬ r3 = 5 → (post v2 s3)))))))))))))))) s1 x1 (0 : Int32))) σ x1 (1 : Int32)
theorem B_X10_weighs_0 (E : EnvW p s m args meth c D cy regsM ad "RoofWarModel" cX10_weighs 3 (some .int)) (ha : Apart regsM ad) {post : Int32 → St → Prop} {σ : St} {x1 : Int32} (hw : w_X10_weighs post σ x1) {H : Heap} {locs : List Loc} {ls : Array Slot} (hP : va_P D CLS (wM cy ad σ) H) (hS : va_S (AM ad s.heap.size) s.heap H locs) (hl : lv_has ls 3 [(0, .ref (ad 0 0)), (1, .int x1)]) : W p l e rm_X10_weighs s m args below meth c H locs 0 0 (MQ below (QI D cy (cellM cy ad) regsM ad s.heap.size post) args s 0 0 (AM ad s.heap.size)) (F0 m 0 ls []) := by
  obtain ⟨hx, hb, -⟩ := id E
  unfold w_X10_weighs at hw
  refine lv_iconst (v := 2) hx hb dX10_weighs_0 (by decide) ?_
  refine lv_aload_n hx hb dX10_weighs_1 rfl (lv_at hl 0 rfl) ?_
  refine lv_iload_n hx hb dX10_weighs_2 rfl (lv_at hl 1 rfl) ?_
  refine lv_iconst (v := 1) hx hb dX10_weighs_3 (by decide) ?_
  refine g_cVi (As := [.int x1, .int 1]) (rest := [.int 2]) E hl.1 (c_X10_of l D cy ad ha hw _) ok_X10_of mw_1067 ⟨(Nat.le_of_ble_eq_true rfl), (Nat.le_of_ble_eq_true rfl)⟩ ⟨rfl, rfl⟩ rM0 rfl rfl rfl rfl rfl (Nat.le_of_ble_eq_true rfl) ⟨Nat.zero_le _, Nat.zero_le _⟩ hP hS dX10_weighs_4 (fun r1 s1 hw H locs hP hS => ?_)
  refine lv_imul hx hb dX10_weighs_7 ?_
  refine lv_topi (fun v2 ev2 => ?_)
  replace hw := hw v2 ev2
  refine lv_istore_n (lv' := [(2, .int v2), (0, .ref (ad 0 0)), (1, .int x1)]) hx hb dX10_weighs_8 rfl hl (by decide) rfl (fun ls hl => ?_)
  refine lv_aload_n hx hb dX10_weighs_9 rfl (lv_at hl 1 rfl) ?_
  refine lv_iload_n hx hb dX10_weighs_10 rfl (lv_at hl 2 rfl) ?_
  refine lv_iconst (v := 0) hx hb dX10_weighs_11 (by decide) ?_
  refine g_cVi (As := [.int x1, .int 0]) (rest := []) E hl.1 (c_X10_of l D cy ad ha hw _) ok_X10_of mw_1067 ⟨(Nat.le_of_ble_eq_true rfl), (Nat.le_of_ble_eq_true rfl)⟩ ⟨rfl, rfl⟩ rM0 rfl rfl rfl rfl rfl (Nat.le_of_ble_eq_true rfl) ⟨Nat.zero_le _, Nat.zero_le _⟩ hP hS dX10_weighs_12 (fun r3 s3 hw H locs hP hS => ?_)
  by_cases c4 : r3 = 1
  · replace hw := hw.1 c4
    refine lv_tableIn (off := 33) (tgt := 48) hx hb dX10_weighs_15 (by rw [c4]; decide) (by rw [c4]; decide) (by rw [c4]; rfl) (by decide) ?_
    refine lv_iload_n hx hb dX10_weighs_48 rfl (lv_at hl 0 rfl) ?_
    refine lv_iconst (v := 2) hx hb dX10_weighs_49 (by decide) ?_
    obtain ⟨h5, hw⟩ := hw
    refine lv_idiv hx hb dX10_weighs_50 h5 ?_
    exact g_iret E hw hP hS dX10_weighs_51
  · replace hw := hw.2 c4
    by_cases c6 : r3 = 2
    · replace hw := hw.1 c6
      refine lv_tableIn (off := 37) (tgt := 52) hx hb dX10_weighs_15 (by rw [c6]; decide) (by rw [c6]; decide) (by rw [c6]; rfl) (by decide) ?_
      refine lv_iconst (v := 2) hx hb dX10_weighs_52 (by decide) ?_
      refine lv_iload_n hx hb dX10_weighs_53 rfl (lv_at hl 0 rfl) ?_
      refine lv_imul hx hb dX10_weighs_54 ?_
      exact g_iret E hw hP hS dX10_weighs_55
    · replace hw := hw.2 c6
      by_cases c7 : r3 = 3
      · replace hw := hw.1 c7
        refine lv_tableIn (off := 33) (tgt := 48) hx hb dX10_weighs_15 (by rw [c7]; decide) (by rw [c7]; decide) (by rw [c7]; rfl) (by decide) ?_
        refine lv_iload_n hx hb dX10_weighs_48 rfl (lv_at hl 0 rfl) ?_
        refine lv_iconst (v := 2) hx hb dX10_weighs_49 (by decide) ?_
        obtain ⟨h8, hw⟩ := hw
        refine lv_idiv hx hb dX10_weighs_50 h8 ?_
        exact g_iret E hw hP hS dX10_weighs_51
      · replace hw := hw.2 c7
        by_cases c9 : r3 = 4
        · replace hw := hw.1 c9
          refine lv_tableIn (off := 41) (tgt := 56) hx hb dX10_weighs_15 (by rw [c9]; decide) (by rw [c9]; decide) (by rw [c9]; rfl) (by decide) ?_
          refine lv_iconst (v := 2) hx hb dX10_weighs_56 (by decide) ?_
          refine lv_iload_n hx hb dX10_weighs_57 rfl (lv_at hl 0 rfl) ?_
          refine lv_imul hx hb dX10_weighs_58 ?_
          refine lv_iconst (v := 2) hx hb dX10_weighs_59 (by decide) ?_
          refine lv_isub hx hb dX10_weighs_60 ?_
          exact g_iret E hw hP hS dX10_weighs_61
        · replace hw := hw.2 c9
          by_cases c10 : r3 = 5
          · replace hw := hw.1 c10
            refine lv_tableIn (off := 47) (tgt := 62) hx hb dX10_weighs_15 (by rw [c10]; decide) (by rw [c10]; decide) (by rw [c10]; rfl) (by decide) ?_
            refine lv_iconst (v := 1) hx hb dX10_weighs_62 (by decide) ?_
            exact g_iret E hw hP hS dX10_weighs_63
          · replace hw := hw.2 c10
            have e4 := ne_toI c4 (n := 1) (k := 1) (by decide)
            have e6 := ne_toI c6 (n := 2) (k := 2) (by decide)
            have e7 := ne_toI c7 (n := 3) (k := 3) (by decide)
            have e9 := ne_toI c9 (n := 4) (k := 4) (by decide)
            have e10 := ne_toI c10 (n := 5) (k := 5) (by decide)
            refine lv_tableOut (tgt := 64) hx hb dX10_weighs_15 (by omega) (by decide) ?_
            refine lv_iload_n hx hb dX10_weighs_64 rfl (lv_at hl 0 rfl) ?_
            exact g_iret E hw hP hS dX10_weighs_65
theorem c_X10_weighs (l : Launch) (D : va_G) (cy : Nat → ClassId) (ad : Nat → Nat → Nat) (ha : Apart regsM ad) {post : Int32 → St → Prop} {σ : St} {x1 : Int32} (hw : w_X10_weighs post σ x1) (sz : Nat) : MetI l yX10_weighs cX10_weighs 3 .int rm_X10_weighs [.ref (ad 0 0), .int x1] D cy (cellM cy ad) regsM ad σ sz post :=
  Met_inI ok_X10_weighs.2.2.2.2.2 (Nat.le_of_ble_eq_true rfl) (fun p e s m below meth c ls E hP hl => B_X10_weighs_0 E ha hw hP va_S.rf hl)
-- RoofWarModel.covers(I)I
theorem dX10_covers_0 : decode cX10_covers 0 = .ok (.aload_n 0, 1) := by decide +kernel
theorem dX10_covers_1 : decode cX10_covers 1 = .ok (.iload_n 1, 1) := by decide +kernel
theorem dX10_covers_2 : decode cX10_covers 2 = .ok (.iconst 1, 1) := by decide +kernel
theorem dX10_covers_3 : decode cX10_covers 3 = .ok (.invokevirtual 78, 3) := by decide +kernel
theorem dX10_covers_6 : decode cX10_covers 6 = .ok (.istore_n 2, 1) := by decide +kernel
theorem dX10_covers_7 : decode cX10_covers 7 = .ok (.aload_n 0, 1) := by decide +kernel
theorem dX10_covers_8 : decode cX10_covers 8 = .ok (.iload_n 1, 1) := by decide +kernel
theorem dX10_covers_9 : decode cX10_covers 9 = .ok (.iconst 0, 1) := by decide +kernel
theorem dX10_covers_10 : decode cX10_covers 10 = .ok (.invokevirtual 78, 3) := by decide +kernel
theorem dX10_covers_13 : decode cX10_covers 13 = .ok (.tableswitch 41 2 5 #[35, 31, 35, 39], 31) := by decide +kernel
theorem dX10_covers_44 : decode cX10_covers 44 = .ok (.iload_n 2, 1) := by decide +kernel
theorem dX10_covers_45 : decode cX10_covers 45 = .ok (.iconst 2, 1) := by decide +kernel
theorem dX10_covers_46 : decode cX10_covers 46 = .ok (.idiv, 1) := by decide +kernel
theorem dX10_covers_47 : decode cX10_covers 47 = .ok (.ireturn, 1) := by decide +kernel
theorem dX10_covers_48 : decode cX10_covers 48 = .ok (.iload_n 2, 1) := by decide +kernel
theorem dX10_covers_49 : decode cX10_covers 49 = .ok (.iconst 3, 1) := by decide +kernel
theorem dX10_covers_50 : decode cX10_covers 50 = .ok (.iadd, 1) := by decide +kernel
theorem dX10_covers_51 : decode cX10_covers 51 = .ok (.ireturn, 1) := by decide +kernel
theorem dX10_covers_52 : decode cX10_covers 52 = .ok (.iconst 0, 1) := by decide +kernel
theorem dX10_covers_53 : decode cX10_covers 53 = .ok (.ireturn, 1) := by decide +kernel
theorem dX10_covers_54 : decode cX10_covers 54 = .ok (.iload_n 2, 1) := by decide +kernel
theorem dX10_covers_55 : decode cX10_covers 55 = .ok (.ireturn, 1) := by decide +kernel
theorem ok_X10_covers : okV yX10_covers cX10_covers 3 (some .int) 1 := ⟨mw_1090, mw_28, mw_83, mw_1091, by decide +kernel, by decide +kernel⟩
abbrev rm_X10_covers : Room := { frames := 1, cells := 0, slots := 0, locals := 22 }
def w_X10_covers (post : Int32 → St → Prop) (σ : St) (x1 : Int32) : Prop := w_X10_of (fun r1 s1 => w_X10_of (fun r2 s2 => ((r2 = 2 → (post (r1 + 3) s2)) ∧ (¬ r2 = 2 → (((r2 = 3 → (¬ (2 : Int32) = 0 ∧ (post (r1 / 2) s2))) ∧ (¬ r2 = 3 → (((r2 = 4 → (post (r1 + 3) s2)) ∧ (¬ r2 = 4 → (((r2 = 5 → (post 0 s2)) ∧ (¬ r2 = 5 → (post r1 s2))))))))))))) s1 x1 (0 : Int32)) σ x1 (1 : Int32)
theorem B_X10_covers_0 (E : EnvW p s m args meth c D cy regsM ad "RoofWarModel" cX10_covers 3 (some .int)) (ha : Apart regsM ad) {post : Int32 → St → Prop} {σ : St} {x1 : Int32} (hw : w_X10_covers post σ x1) {H : Heap} {locs : List Loc} {ls : Array Slot} (hP : va_P D CLS (wM cy ad σ) H) (hS : va_S (AM ad s.heap.size) s.heap H locs) (hl : lv_has ls 3 [(0, .ref (ad 0 0)), (1, .int x1)]) : W p l e rm_X10_covers s m args below meth c H locs 0 0 (MQ below (QI D cy (cellM cy ad) regsM ad s.heap.size post) args s 0 0 (AM ad s.heap.size)) (F0 m 0 ls []) := by
  obtain ⟨hx, hb, -⟩ := id E
  unfold w_X10_covers at hw
  refine lv_aload_n hx hb dX10_covers_0 rfl (lv_at hl 0 rfl) ?_
  refine lv_iload_n hx hb dX10_covers_1 rfl (lv_at hl 1 rfl) ?_
  refine lv_iconst (v := 1) hx hb dX10_covers_2 (by decide) ?_
  refine g_cVi (As := [.int x1, .int 1]) (rest := []) E hl.1 (c_X10_of l D cy ad ha hw _) ok_X10_of mw_1067 ⟨(Nat.le_of_ble_eq_true rfl), (Nat.le_of_ble_eq_true rfl)⟩ ⟨rfl, rfl⟩ rM0 rfl rfl rfl rfl rfl (Nat.le_of_ble_eq_true rfl) ⟨Nat.zero_le _, Nat.zero_le _⟩ hP hS dX10_covers_3 (fun r1 s1 hw H locs hP hS => ?_)
  refine lv_istore_n (lv' := [(2, .int r1), (0, .ref (ad 0 0)), (1, .int x1)]) hx hb dX10_covers_6 rfl hl (by decide) rfl (fun ls hl => ?_)
  refine lv_aload_n hx hb dX10_covers_7 rfl (lv_at hl 1 rfl) ?_
  refine lv_iload_n hx hb dX10_covers_8 rfl (lv_at hl 2 rfl) ?_
  refine lv_iconst (v := 0) hx hb dX10_covers_9 (by decide) ?_
  refine g_cVi (As := [.int x1, .int 0]) (rest := []) E hl.1 (c_X10_of l D cy ad ha hw _) ok_X10_of mw_1067 ⟨(Nat.le_of_ble_eq_true rfl), (Nat.le_of_ble_eq_true rfl)⟩ ⟨rfl, rfl⟩ rM0 rfl rfl rfl rfl rfl (Nat.le_of_ble_eq_true rfl) ⟨Nat.zero_le _, Nat.zero_le _⟩ hP hS dX10_covers_10 (fun r2 s2 hw H locs hP hS => ?_)
  by_cases c3 : r2 = 2
  · replace hw := hw.1 c3
    refine lv_tableIn (off := 35) (tgt := 48) hx hb dX10_covers_13 (by rw [c3]; decide) (by rw [c3]; decide) (by rw [c3]; rfl) (by decide) ?_
    refine lv_iload_n hx hb dX10_covers_48 rfl (lv_at hl 0 rfl) ?_
    refine lv_iconst (v := 3) hx hb dX10_covers_49 (by decide) ?_
    refine lv_iadd hx hb dX10_covers_50 ?_
    exact g_iret E hw hP hS dX10_covers_51
  · replace hw := hw.2 c3
    by_cases c4 : r2 = 3
    · replace hw := hw.1 c4
      refine lv_tableIn (off := 31) (tgt := 44) hx hb dX10_covers_13 (by rw [c4]; decide) (by rw [c4]; decide) (by rw [c4]; rfl) (by decide) ?_
      refine lv_iload_n hx hb dX10_covers_44 rfl (lv_at hl 0 rfl) ?_
      refine lv_iconst (v := 2) hx hb dX10_covers_45 (by decide) ?_
      obtain ⟨h5, hw⟩ := hw
      refine lv_idiv hx hb dX10_covers_46 h5 ?_
      exact g_iret E hw hP hS dX10_covers_47
    · replace hw := hw.2 c4
      by_cases c6 : r2 = 4
      · replace hw := hw.1 c6
        refine lv_tableIn (off := 35) (tgt := 48) hx hb dX10_covers_13 (by rw [c6]; decide) (by rw [c6]; decide) (by rw [c6]; rfl) (by decide) ?_
        refine lv_iload_n hx hb dX10_covers_48 rfl (lv_at hl 0 rfl) ?_
        refine lv_iconst (v := 3) hx hb dX10_covers_49 (by decide) ?_
        refine lv_iadd hx hb dX10_covers_50 ?_
        exact g_iret E hw hP hS dX10_covers_51
      · replace hw := hw.2 c6
        by_cases c7 : r2 = 5
        · replace hw := hw.1 c7
          refine lv_tableIn (off := 39) (tgt := 52) hx hb dX10_covers_13 (by rw [c7]; decide) (by rw [c7]; decide) (by rw [c7]; rfl) (by decide) ?_
          refine lv_iconst (v := 0) hx hb dX10_covers_52 (by decide) ?_
          exact g_iret E hw hP hS dX10_covers_53
        · replace hw := hw.2 c7
          have e3 := ne_toI c3 (n := 2) (k := 2) (by decide)
          have e4 := ne_toI c4 (n := 3) (k := 3) (by decide)
          have e6 := ne_toI c6 (n := 4) (k := 4) (by decide)
          have e7 := ne_toI c7 (n := 5) (k := 5) (by decide)
          refine lv_tableOut (tgt := 54) hx hb dX10_covers_13 (by omega) (by decide) ?_
          refine lv_iload_n hx hb dX10_covers_54 rfl (lv_at hl 0 rfl) ?_
          exact g_iret E hw hP hS dX10_covers_55
theorem c_X10_covers (l : Launch) (D : va_G) (cy : Nat → ClassId) (ad : Nat → Nat → Nat) (ha : Apart regsM ad) {post : Int32 → St → Prop} {σ : St} {x1 : Int32} (hw : w_X10_covers post σ x1) (sz : Nat) : MetI l yX10_covers cX10_covers 3 .int rm_X10_covers [.ref (ad 0 0), .int x1] D cy (cellM cy ad) regsM ad σ sz post :=
  Met_inI ok_X10_covers.2.2.2.2.2 (Nat.le_of_ble_eq_true rfl) (fun p e s m below meth c ls E hP hl => B_X10_covers_0 E ha hw hP va_S.rf hl)
-- RoofWarModel.drips(I)I
theorem dX10_drips_0 : decode cX10_drips 0 = .ok (.aload_n 0, 1) := by decide +kernel
theorem dX10_drips_1 : decode cX10_drips 1 = .ok (.iload_n 1, 1) := by decide +kernel
theorem dX10_drips_2 : decode cX10_drips 2 = .ok (.iconst 2, 1) := by decide +kernel
theorem dX10_drips_3 : decode cX10_drips 3 = .ok (.invokevirtual 78, 3) := by decide +kernel
theorem dX10_drips_6 : decode cX10_drips 6 = .ok (.bipush 10, 2) := by decide +kernel
theorem dX10_drips_8 : decode cX10_drips 8 = .ok (.idiv, 1) := by decide +kernel
theorem dX10_drips_9 : decode cX10_drips 9 = .ok (.istore_n 2, 1) := by decide +kernel
theorem dX10_drips_10 : decode cX10_drips 10 = .ok (.aload_n 0, 1) := by decide +kernel
theorem dX10_drips_11 : decode cX10_drips 11 = .ok (.iload_n 1, 1) := by decide +kernel
theorem dX10_drips_12 : decode cX10_drips 12 = .ok (.iconst 0, 1) := by decide +kernel
theorem dX10_drips_13 : decode cX10_drips 13 = .ok (.invokevirtual 78, 3) := by decide +kernel
theorem dX10_drips_16 : decode cX10_drips 16 = .ok (.tableswitch 44 1 4 #[32, 44, 36, 42], 32) := by decide +kernel
theorem dX10_drips_48 : decode cX10_drips 48 = .ok (.iload_n 2, 1) := by decide +kernel
theorem dX10_drips_49 : decode cX10_drips 49 = .ok (.iconst 2, 1) := by decide +kernel
theorem dX10_drips_50 : decode cX10_drips 50 = .ok (.iadd, 1) := by decide +kernel
theorem dX10_drips_51 : decode cX10_drips 51 = .ok (.ireturn, 1) := by decide +kernel
theorem dX10_drips_52 : decode cX10_drips 52 = .ok (.iconst 2, 1) := by decide +kernel
theorem dX10_drips_53 : decode cX10_drips 53 = .ok (.iload_n 2, 1) := by decide +kernel
theorem dX10_drips_54 : decode cX10_drips 54 = .ok (.iconst 2, 1) := by decide +kernel
theorem dX10_drips_55 : decode cX10_drips 55 = .ok (.iadd, 1) := by decide +kernel
theorem dX10_drips_56 : decode cX10_drips 56 = .ok (.imul, 1) := by decide +kernel
theorem dX10_drips_57 : decode cX10_drips 57 = .ok (.ireturn, 1) := by decide +kernel
theorem dX10_drips_58 : decode cX10_drips 58 = .ok (.iconst 1, 1) := by decide +kernel
theorem dX10_drips_59 : decode cX10_drips 59 = .ok (.ireturn, 1) := by decide +kernel
theorem dX10_drips_60 : decode cX10_drips 60 = .ok (.iload_n 2, 1) := by decide +kernel
theorem dX10_drips_61 : decode cX10_drips 61 = .ok (.ireturn, 1) := by decide +kernel
theorem ok_X10_drips : okV yX10_drips cX10_drips 3 (some .int) 1 := ⟨mw_1093, mw_29, mw_83, mw_1094, by decide +kernel, by decide +kernel⟩
abbrev rm_X10_drips : Room := { frames := 1, cells := 0, slots := 0, locals := 22 }
def w_X10_drips (post : Int32 → St → Prop) (σ : St) (x1 : Int32) : Prop := w_X10_of (fun r1 s1 => ¬ (10 : Int32) = 0 ∧ (∀ v3 : Int32, v3 = r1 / 10 → (w_X10_of (fun r4 s4 => ((r4 = 1 → (post (v3 + 2) s4)) ∧ (¬ r4 = 1 → (((r4 = 2 → (post v3 s4)) ∧ (¬ r4 = 2 → (((r4 = 3 → (post (2 * (v3 + 2)) s4)) ∧ (¬ r4 = 3 → (((r4 = 4 → (post 1 s4)) ∧ (¬ r4 = 4 → (post v3 s4))))))))))))) s1 x1 (0 : Int32)))) σ x1 (2 : Int32)
theorem B_X10_drips_0 (E : EnvW p s m args meth c D cy regsM ad "RoofWarModel" cX10_drips 3 (some .int)) (ha : Apart regsM ad) {post : Int32 → St → Prop} {σ : St} {x1 : Int32} (hw : w_X10_drips post σ x1) {H : Heap} {locs : List Loc} {ls : Array Slot} (hP : va_P D CLS (wM cy ad σ) H) (hS : va_S (AM ad s.heap.size) s.heap H locs) (hl : lv_has ls 3 [(0, .ref (ad 0 0)), (1, .int x1)]) : W p l e rm_X10_drips s m args below meth c H locs 0 0 (MQ below (QI D cy (cellM cy ad) regsM ad s.heap.size post) args s 0 0 (AM ad s.heap.size)) (F0 m 0 ls []) := by
  obtain ⟨hx, hb, -⟩ := id E
  unfold w_X10_drips at hw
  refine lv_aload_n hx hb dX10_drips_0 rfl (lv_at hl 0 rfl) ?_
  refine lv_iload_n hx hb dX10_drips_1 rfl (lv_at hl 1 rfl) ?_
  refine lv_iconst (v := 2) hx hb dX10_drips_2 (by decide) ?_
  refine g_cVi (As := [.int x1, .int 2]) (rest := []) E hl.1 (c_X10_of l D cy ad ha hw _) ok_X10_of mw_1067 ⟨(Nat.le_of_ble_eq_true rfl), (Nat.le_of_ble_eq_true rfl)⟩ ⟨rfl, rfl⟩ rM0 rfl rfl rfl rfl rfl (Nat.le_of_ble_eq_true rfl) ⟨Nat.zero_le _, Nat.zero_le _⟩ hP hS dX10_drips_3 (fun r1 s1 hw H locs hP hS => ?_)
  refine lv_bipush (v := 10) hx hb dX10_drips_6 (by decide) ?_
  obtain ⟨h2, hw⟩ := hw
  refine lv_idiv hx hb dX10_drips_8 h2 ?_
  refine lv_topi (fun v3 ev3 => ?_)
  replace hw := hw v3 ev3
  refine lv_istore_n (lv' := [(2, .int v3), (0, .ref (ad 0 0)), (1, .int x1)]) hx hb dX10_drips_9 rfl hl (by decide) rfl (fun ls hl => ?_)
  refine lv_aload_n hx hb dX10_drips_10 rfl (lv_at hl 1 rfl) ?_
  refine lv_iload_n hx hb dX10_drips_11 rfl (lv_at hl 2 rfl) ?_
  refine lv_iconst (v := 0) hx hb dX10_drips_12 (by decide) ?_
  refine g_cVi (As := [.int x1, .int 0]) (rest := []) E hl.1 (c_X10_of l D cy ad ha hw _) ok_X10_of mw_1067 ⟨(Nat.le_of_ble_eq_true rfl), (Nat.le_of_ble_eq_true rfl)⟩ ⟨rfl, rfl⟩ rM0 rfl rfl rfl rfl rfl (Nat.le_of_ble_eq_true rfl) ⟨Nat.zero_le _, Nat.zero_le _⟩ hP hS dX10_drips_13 (fun r4 s4 hw H locs hP hS => ?_)
  by_cases c5 : r4 = 1
  · replace hw := hw.1 c5
    refine lv_tableIn (off := 32) (tgt := 48) hx hb dX10_drips_16 (by rw [c5]; decide) (by rw [c5]; decide) (by rw [c5]; rfl) (by decide) ?_
    refine lv_iload_n hx hb dX10_drips_48 rfl (lv_at hl 0 rfl) ?_
    refine lv_iconst (v := 2) hx hb dX10_drips_49 (by decide) ?_
    refine lv_iadd hx hb dX10_drips_50 ?_
    exact g_iret E hw hP hS dX10_drips_51
  · replace hw := hw.2 c5
    by_cases c6 : r4 = 2
    · replace hw := hw.1 c6
      refine lv_tableIn (off := 44) (tgt := 60) hx hb dX10_drips_16 (by rw [c6]; decide) (by rw [c6]; decide) (by rw [c6]; rfl) (by decide) ?_
      refine lv_iload_n hx hb dX10_drips_60 rfl (lv_at hl 0 rfl) ?_
      exact g_iret E hw hP hS dX10_drips_61
    · replace hw := hw.2 c6
      by_cases c7 : r4 = 3
      · replace hw := hw.1 c7
        refine lv_tableIn (off := 36) (tgt := 52) hx hb dX10_drips_16 (by rw [c7]; decide) (by rw [c7]; decide) (by rw [c7]; rfl) (by decide) ?_
        refine lv_iconst (v := 2) hx hb dX10_drips_52 (by decide) ?_
        refine lv_iload_n hx hb dX10_drips_53 rfl (lv_at hl 0 rfl) ?_
        refine lv_iconst (v := 2) hx hb dX10_drips_54 (by decide) ?_
        refine lv_iadd hx hb dX10_drips_55 ?_
        refine lv_imul hx hb dX10_drips_56 ?_
        exact g_iret E hw hP hS dX10_drips_57
      · replace hw := hw.2 c7
        by_cases c8 : r4 = 4
        · replace hw := hw.1 c8
          refine lv_tableIn (off := 42) (tgt := 58) hx hb dX10_drips_16 (by rw [c8]; decide) (by rw [c8]; decide) (by rw [c8]; rfl) (by decide) ?_
          refine lv_iconst (v := 1) hx hb dX10_drips_58 (by decide) ?_
          exact g_iret E hw hP hS dX10_drips_59
        · replace hw := hw.2 c8
          have e5 := ne_toI c5 (n := 1) (k := 1) (by decide)
          have e6 := ne_toI c6 (n := 2) (k := 2) (by decide)
          have e7 := ne_toI c7 (n := 3) (k := 3) (by decide)
          have e8 := ne_toI c8 (n := 4) (k := 4) (by decide)
          refine lv_tableOut (tgt := 60) hx hb dX10_drips_16 (by omega) (by decide) ?_
          refine lv_iload_n hx hb dX10_drips_60 rfl (lv_at hl 0 rfl) ?_
          exact g_iret E hw hP hS dX10_drips_61
theorem c_X10_drips (l : Launch) (D : va_G) (cy : Nat → ClassId) (ad : Nat → Nat → Nat) (ha : Apart regsM ad) {post : Int32 → St → Prop} {σ : St} {x1 : Int32} (hw : w_X10_drips post σ x1) (sz : Nat) : MetI l yX10_drips cX10_drips 3 .int rm_X10_drips [.ref (ad 0 0), .int x1] D cy (cellM cy ad) regsM ad σ sz post :=
  Met_inI ok_X10_drips.2.2.2.2.2 (Nat.le_of_ble_eq_true rfl) (fun p e s m below meth c ls E hP hl => B_X10_drips_0 E ha hw hP va_S.rf hl)
-- RoofWarModel.worth(I)I
theorem dX10_worth_0 : decode cX10_worth 0 = .ok (.aload_n 0, 1) := by decide +kernel
theorem dX10_worth_1 : decode cX10_worth 1 = .ok (.iload_n 1, 1) := by decide +kernel
theorem dX10_worth_2 : decode cX10_worth 2 = .ok (.iconst 1, 1) := by decide +kernel
theorem dX10_worth_3 : decode cX10_worth 3 = .ok (.invokevirtual 78, 3) := by decide +kernel
theorem dX10_worth_6 : decode cX10_worth 6 = .ok (.istore_n 2, 1) := by decide +kernel
theorem dX10_worth_7 : decode cX10_worth 7 = .ok (.aload_n 0, 1) := by decide +kernel
theorem dX10_worth_8 : decode cX10_worth 8 = .ok (.iload_n 1, 1) := by decide +kernel
theorem dX10_worth_9 : decode cX10_worth 9 = .ok (.iconst 0, 1) := by decide +kernel
theorem dX10_worth_10 : decode cX10_worth 10 = .ok (.invokevirtual 78, 3) := by decide +kernel
theorem dX10_worth_13 : decode cX10_worth 13 = .ok (.tableswitch 57 1 5 #[35, 39, 44, 50, 55], 35) := by decide +kernel
theorem dX10_worth_48 : decode cX10_worth 48 = .ok (.iload_n 2, 1) := by decide +kernel
theorem dX10_worth_49 : decode cX10_worth 49 = .ok (.iconst 4, 1) := by decide +kernel
theorem dX10_worth_50 : decode cX10_worth 50 = .ok (.iadd, 1) := by decide +kernel
theorem dX10_worth_51 : decode cX10_worth 51 = .ok (.ireturn, 1) := by decide +kernel
theorem dX10_worth_52 : decode cX10_worth 52 = .ok (.bipush 30, 2) := by decide +kernel
theorem dX10_worth_54 : decode cX10_worth 54 = .ok (.iload_n 2, 1) := by decide +kernel
theorem dX10_worth_55 : decode cX10_worth 55 = .ok (.isub, 1) := by decide +kernel
theorem dX10_worth_56 : decode cX10_worth 56 = .ok (.ireturn, 1) := by decide +kernel
theorem dX10_worth_57 : decode cX10_worth 57 = .ok (.iconst 2, 1) := by decide +kernel
theorem dX10_worth_58 : decode cX10_worth 58 = .ok (.iload_n 2, 1) := by decide +kernel
theorem dX10_worth_59 : decode cX10_worth 59 = .ok (.iconst 4, 1) := by decide +kernel
theorem dX10_worth_60 : decode cX10_worth 60 = .ok (.iadd, 1) := by decide +kernel
theorem dX10_worth_61 : decode cX10_worth 61 = .ok (.imul, 1) := by decide +kernel
theorem dX10_worth_62 : decode cX10_worth 62 = .ok (.ireturn, 1) := by decide +kernel
theorem dX10_worth_63 : decode cX10_worth 63 = .ok (.bipush 24, 2) := by decide +kernel
theorem dX10_worth_65 : decode cX10_worth 65 = .ok (.iload_n 2, 1) := by decide +kernel
theorem dX10_worth_66 : decode cX10_worth 66 = .ok (.isub, 1) := by decide +kernel
theorem dX10_worth_67 : decode cX10_worth 67 = .ok (.ireturn, 1) := by decide +kernel
theorem dX10_worth_68 : decode cX10_worth 68 = .ok (.iconst 2, 1) := by decide +kernel
theorem dX10_worth_69 : decode cX10_worth 69 = .ok (.ireturn, 1) := by decide +kernel
theorem dX10_worth_70 : decode cX10_worth 70 = .ok (.iload_n 2, 1) := by decide +kernel
theorem dX10_worth_71 : decode cX10_worth 71 = .ok (.ireturn, 1) := by decide +kernel
theorem ok_X10_worth : okV yX10_worth cX10_worth 3 (some .int) 1 := ⟨mw_1096, mw_30, mw_83, mw_1097, by decide +kernel, by decide +kernel⟩
abbrev rm_X10_worth : Room := { frames := 1, cells := 0, slots := 0, locals := 22 }
def w_X10_worth (post : Int32 → St → Prop) (σ : St) (x1 : Int32) : Prop := w_X10_of (fun r1 s1 => w_X10_of (fun r2 s2 => ((r2 = 1 → (post (r1 + 4) s2)) ∧ (¬ r2 = 1 → (((r2 = 2 → (post (30 - r1) s2)) ∧ (¬ r2 = 2 → (((r2 = 3 → (post (2 * (r1 + 4)) s2)) ∧ (¬ r2 = 3 → (((r2 = 4 → (post (24 - r1) s2)) ∧ (¬ r2 = 4 → (((r2 = 5 → (post 2 s2)) ∧ (¬ r2 = 5 → (post r1 s2)))))))))))))))) s1 x1 (0 : Int32)) σ x1 (1 : Int32)
theorem B_X10_worth_0 (E : EnvW p s m args meth c D cy regsM ad "RoofWarModel" cX10_worth 3 (some .int)) (ha : Apart regsM ad) {post : Int32 → St → Prop} {σ : St} {x1 : Int32} (hw : w_X10_worth post σ x1) {H : Heap} {locs : List Loc} {ls : Array Slot} (hP : va_P D CLS (wM cy ad σ) H) (hS : va_S (AM ad s.heap.size) s.heap H locs) (hl : lv_has ls 3 [(0, .ref (ad 0 0)), (1, .int x1)]) : W p l e rm_X10_worth s m args below meth c H locs 0 0 (MQ below (QI D cy (cellM cy ad) regsM ad s.heap.size post) args s 0 0 (AM ad s.heap.size)) (F0 m 0 ls []) := by
  obtain ⟨hx, hb, -⟩ := id E
  unfold w_X10_worth at hw
  refine lv_aload_n hx hb dX10_worth_0 rfl (lv_at hl 0 rfl) ?_
  refine lv_iload_n hx hb dX10_worth_1 rfl (lv_at hl 1 rfl) ?_
  refine lv_iconst (v := 1) hx hb dX10_worth_2 (by decide) ?_
  refine g_cVi (As := [.int x1, .int 1]) (rest := []) E hl.1 (c_X10_of l D cy ad ha hw _) ok_X10_of mw_1067 ⟨(Nat.le_of_ble_eq_true rfl), (Nat.le_of_ble_eq_true rfl)⟩ ⟨rfl, rfl⟩ rM0 rfl rfl rfl rfl rfl (Nat.le_of_ble_eq_true rfl) ⟨Nat.zero_le _, Nat.zero_le _⟩ hP hS dX10_worth_3 (fun r1 s1 hw H locs hP hS => ?_)
  refine lv_istore_n (lv' := [(2, .int r1), (0, .ref (ad 0 0)), (1, .int x1)]) hx hb dX10_worth_6 rfl hl (by decide) rfl (fun ls hl => ?_)
  refine lv_aload_n hx hb dX10_worth_7 rfl (lv_at hl 1 rfl) ?_
  refine lv_iload_n hx hb dX10_worth_8 rfl (lv_at hl 2 rfl) ?_
  refine lv_iconst (v := 0) hx hb dX10_worth_9 (by decide) ?_
  refine g_cVi (As := [.int x1, .int 0]) (rest := []) E hl.1 (c_X10_of l D cy ad ha hw _) ok_X10_of mw_1067 ⟨(Nat.le_of_ble_eq_true rfl), (Nat.le_of_ble_eq_true rfl)⟩ ⟨rfl, rfl⟩ rM0 rfl rfl rfl rfl rfl (Nat.le_of_ble_eq_true rfl) ⟨Nat.zero_le _, Nat.zero_le _⟩ hP hS dX10_worth_10 (fun r2 s2 hw H locs hP hS => ?_)
  by_cases c3 : r2 = 1
  · replace hw := hw.1 c3
    refine lv_tableIn (off := 35) (tgt := 48) hx hb dX10_worth_13 (by rw [c3]; decide) (by rw [c3]; decide) (by rw [c3]; rfl) (by decide) ?_
    refine lv_iload_n hx hb dX10_worth_48 rfl (lv_at hl 0 rfl) ?_
    refine lv_iconst (v := 4) hx hb dX10_worth_49 (by decide) ?_
    refine lv_iadd hx hb dX10_worth_50 ?_
    exact g_iret E hw hP hS dX10_worth_51
  · replace hw := hw.2 c3
    by_cases c4 : r2 = 2
    · replace hw := hw.1 c4
      refine lv_tableIn (off := 39) (tgt := 52) hx hb dX10_worth_13 (by rw [c4]; decide) (by rw [c4]; decide) (by rw [c4]; rfl) (by decide) ?_
      refine lv_bipush (v := 30) hx hb dX10_worth_52 (by decide) ?_
      refine lv_iload_n hx hb dX10_worth_54 rfl (lv_at hl 0 rfl) ?_
      refine lv_isub hx hb dX10_worth_55 ?_
      exact g_iret E hw hP hS dX10_worth_56
    · replace hw := hw.2 c4
      by_cases c5 : r2 = 3
      · replace hw := hw.1 c5
        refine lv_tableIn (off := 44) (tgt := 57) hx hb dX10_worth_13 (by rw [c5]; decide) (by rw [c5]; decide) (by rw [c5]; rfl) (by decide) ?_
        refine lv_iconst (v := 2) hx hb dX10_worth_57 (by decide) ?_
        refine lv_iload_n hx hb dX10_worth_58 rfl (lv_at hl 0 rfl) ?_
        refine lv_iconst (v := 4) hx hb dX10_worth_59 (by decide) ?_
        refine lv_iadd hx hb dX10_worth_60 ?_
        refine lv_imul hx hb dX10_worth_61 ?_
        exact g_iret E hw hP hS dX10_worth_62
      · replace hw := hw.2 c5
        by_cases c6 : r2 = 4
        · replace hw := hw.1 c6
          refine lv_tableIn (off := 50) (tgt := 63) hx hb dX10_worth_13 (by rw [c6]; decide) (by rw [c6]; decide) (by rw [c6]; rfl) (by decide) ?_
          refine lv_bipush (v := 24) hx hb dX10_worth_63 (by decide) ?_
          refine lv_iload_n hx hb dX10_worth_65 rfl (lv_at hl 0 rfl) ?_
          refine lv_isub hx hb dX10_worth_66 ?_
          exact g_iret E hw hP hS dX10_worth_67
        · replace hw := hw.2 c6
          by_cases c7 : r2 = 5
          · replace hw := hw.1 c7
            refine lv_tableIn (off := 55) (tgt := 68) hx hb dX10_worth_13 (by rw [c7]; decide) (by rw [c7]; decide) (by rw [c7]; rfl) (by decide) ?_
            refine lv_iconst (v := 2) hx hb dX10_worth_68 (by decide) ?_
            exact g_iret E hw hP hS dX10_worth_69
          · replace hw := hw.2 c7
            have e3 := ne_toI c3 (n := 1) (k := 1) (by decide)
            have e4 := ne_toI c4 (n := 2) (k := 2) (by decide)
            have e5 := ne_toI c5 (n := 3) (k := 3) (by decide)
            have e6 := ne_toI c6 (n := 4) (k := 4) (by decide)
            have e7 := ne_toI c7 (n := 5) (k := 5) (by decide)
            refine lv_tableOut (tgt := 70) hx hb dX10_worth_13 (by omega) (by decide) ?_
            refine lv_iload_n hx hb dX10_worth_70 rfl (lv_at hl 0 rfl) ?_
            exact g_iret E hw hP hS dX10_worth_71
theorem c_X10_worth (l : Launch) (D : va_G) (cy : Nat → ClassId) (ad : Nat → Nat → Nat) (ha : Apart regsM ad) {post : Int32 → St → Prop} {σ : St} {x1 : Int32} (hw : w_X10_worth post σ x1) (sz : Nat) : MetI l yX10_worth cX10_worth 3 .int rm_X10_worth [.ref (ad 0 0), .int x1] D cy (cellM cy ad) regsM ad σ sz post :=
  Met_inI ok_X10_worth.2.2.2.2.2 (Nat.le_of_ble_eq_true rfl) (fun p e s m below meth c ls E hP hl => B_X10_worth_0 E ha hw hP va_S.rf hl)
-- RoofWarModel.comes(IIII)V
theorem dX10_comes_0 : decode cX10_comes 0 = .ok (.aload_n 0, 1) := by decide +kernel
theorem dX10_comes_1 : decode cX10_comes 1 = .ok (.getfield 7, 3) := by decide +kernel
theorem dX10_comes_4 : decode cX10_comes 4 = .ok (.iconst 0, 1) := by decide +kernel
theorem dX10_comes_5 : decode cX10_comes 5 = .ok (.iaload, 1) := by decide +kernel
theorem dX10_comes_6 : decode cX10_comes 6 = .ok (.istore 5, 2) := by decide +kernel
theorem dX10_comes_8 : decode cX10_comes 8 = .ok (.aload_n 0, 1) := by decide +kernel
theorem dX10_comes_9 : decode cX10_comes 9 = .ok (.getfield 7, 3) := by decide +kernel
theorem dX10_comes_12 : decode cX10_comes 12 = .ok (.iconst 0, 1) := by decide +kernel
theorem dX10_comes_13 : decode cX10_comes 13 = .ok (.dup2, 1) := by decide +kernel
theorem dX10_comes_14 : decode cX10_comes 14 = .ok (.iaload, 1) := by decide +kernel
theorem dX10_comes_15 : decode cX10_comes 15 = .ok (.iconst 1, 1) := by decide +kernel
theorem dX10_comes_16 : decode cX10_comes 16 = .ok (.iadd, 1) := by decide +kernel
theorem dX10_comes_17 : decode cX10_comes 17 = .ok (.iastore, 1) := by decide +kernel
theorem dX10_comes_18 : decode cX10_comes 18 = .ok (.aload_n 0, 1) := by decide +kernel
theorem dX10_comes_19 : decode cX10_comes 19 = .ok (.iload 5, 2) := by decide +kernel
theorem dX10_comes_21 : decode cX10_comes 21 = .ok (.iconst 0, 1) := by decide +kernel
theorem dX10_comes_22 : decode cX10_comes 22 = .ok (.iload_n 1, 1) := by decide +kernel
theorem dX10_comes_23 : decode cX10_comes 23 = .ok (.invokevirtual 82, 3) := by decide +kernel
theorem dX10_comes_26 : decode cX10_comes 26 = .ok (.aload_n 0, 1) := by decide +kernel
theorem dX10_comes_27 : decode cX10_comes 27 = .ok (.iload 5, 2) := by decide +kernel
theorem dX10_comes_29 : decode cX10_comes 29 = .ok (.iconst 1, 1) := by decide +kernel
theorem dX10_comes_30 : decode cX10_comes 30 = .ok (.iload_n 2, 1) := by decide +kernel
theorem dX10_comes_31 : decode cX10_comes 31 = .ok (.invokevirtual 82, 3) := by decide +kernel
theorem dX10_comes_34 : decode cX10_comes 34 = .ok (.aload_n 0, 1) := by decide +kernel
theorem dX10_comes_35 : decode cX10_comes 35 = .ok (.iload 5, 2) := by decide +kernel
theorem dX10_comes_37 : decode cX10_comes 37 = .ok (.iconst 2, 1) := by decide +kernel
theorem dX10_comes_38 : decode cX10_comes 38 = .ok (.iload_n 3, 1) := by decide +kernel
theorem dX10_comes_39 : decode cX10_comes 39 = .ok (.invokevirtual 82, 3) := by decide +kernel
theorem dX10_comes_42 : decode cX10_comes 42 = .ok (.aload_n 0, 1) := by decide +kernel
theorem dX10_comes_43 : decode cX10_comes 43 = .ok (.iload 5, 2) := by decide +kernel
theorem dX10_comes_45 : decode cX10_comes 45 = .ok (.iconst 3, 1) := by decide +kernel
theorem dX10_comes_46 : decode cX10_comes 46 = .ok (.iload 4, 2) := by decide +kernel
theorem dX10_comes_48 : decode cX10_comes 48 = .ok (.invokevirtual 82, 3) := by decide +kernel
theorem dX10_comes_51 : decode cX10_comes 51 = .ok (.return_, 1) := by decide +kernel
theorem ok_X10_comes : okV yX10_comes cX10_comes 6 none 4 := ⟨mw_1073, mw_24, mw_83, mw_1074, by decide +kernel, by decide +kernel⟩
abbrev rm_X10_comes : Room := { frames := 1, cells := 0, slots := 0, locals := 23 }
def w_X10_comes (post : St → Prop) (σ : St) (x1 : Int32) (x2 : Int32) (x3 : Int32) (x4 : Int32) : Prop := vp_in (0 : Int32) 3082 ∧ (∀ v2 : Int32, v2 = σ 1 0 (0 : Int32).toNatClampNeg → (vp_in (0 : Int32) 3082 ∧ (vp_in (0 : Int32) 3082 ∧ (∀ s5 : St, s5 = wr σ 1 0 (0 : Int32).toNatClampNeg ((σ 1 0 (0 : Int32).toNatClampNeg) + 1) → (w_X10_sets (fun s6 => w_X10_sets (fun s7 => w_X10_sets (fun s8 => w_X10_sets (fun s9 => post s9) s8 v2 (3 : Int32) x4) s7 v2 (2 : Int32) x3) s6 v2 (1 : Int32) x2) s5 v2 (0 : Int32) x1)))))
theorem B_X10_comes_0 (E : EnvW p s m args meth c D cy regsM ad "RoofWarModel" cX10_comes 6 none) (ha : Apart regsM ad) {post : St → Prop} {σ : St} {x1 : Int32} {x2 : Int32} {x3 : Int32} {x4 : Int32} (hw : w_X10_comes post σ x1 x2 x3 x4) {H : Heap} {locs : List Loc} {ls : Array Slot} (hP : va_P D CLS (wM cy ad σ) H) (hS : va_S (AM ad s.heap.size) s.heap H locs) (hl : lv_has ls 6 [(0, .ref (ad 0 0)), (1, .int x1), (2, .int x2), (3, .int x3), (4, .int x4)]) : W p l e rm_X10_comes s m args below meth c H locs 0 0 (MQ below (QV D cy (cellM cy ad) regsM ad s.heap.size post) args s 0 0 (AM ad s.heap.size)) (F0 m 0 ls []) := by
  obtain ⟨hx, hb, -⟩ := id E
  unfold w_X10_comes at hw
  refine lv_aload_n hx hb dX10_comes_0 rfl (lv_at hl 0 rfl) ?_
  refine fX10_0 E hP mw_946 dX10_comes_1 ?_
  refine lv_iconst (v := 0) hx hb dX10_comes_4 (by decide) ?_
  obtain ⟨h1, hw⟩ := hw
  refine aM1 E hP h1 dX10_comes_5 ?_
  refine lv_topi (fun v2 ev2 => ?_)
  replace hw := hw v2 ev2
  refine lv_istore (lv' := [(5, .int v2), (0, .ref (ad 0 0)), (1, .int x1), (2, .int x2), (3, .int x3), (4, .int x4)]) hx hb dX10_comes_6 hl (by decide) rfl (fun ls hl => ?_)
  refine lv_aload_n hx hb dX10_comes_8 rfl (lv_at hl 1 rfl) ?_
  refine fX10_0 E hP mw_946 dX10_comes_9 ?_
  refine lv_iconst (v := 0) hx hb dX10_comes_12 (by decide) ?_
  refine lv_dup2_11 hx hb dX10_comes_13 rfl rfl ?_
  obtain ⟨h3, hw⟩ := hw
  refine aM1 E hP h3 dX10_comes_14 ?_
  refine lv_iconst (v := 1) hx hb dX10_comes_15 (by decide) ?_
  refine lv_iadd hx hb dX10_comes_16 ?_
  obtain ⟨h4, hw⟩ := hw
  refine tM1 E ha h4 dX10_comes_17 hP hS (fun s5 es5 H locs hP hS => ?_)
  replace hw := hw s5 es5
  refine lv_aload_n hx hb dX10_comes_18 rfl (lv_at hl 1 rfl) ?_
  refine lv_iload hx hb dX10_comes_19 (lv_at hl 0 rfl) ?_
  refine lv_iconst (v := 0) hx hb dX10_comes_21 (by decide) ?_
  refine lv_iload_n hx hb dX10_comes_22 rfl (lv_at hl 2 rfl) ?_
  refine g_cVv (As := [.int v2, .int 0, .int x1]) (rest := []) E hl.1 (c_X10_sets l D cy ad ha hw _) ok_X10_sets mw_1075 ⟨(Nat.le_of_ble_eq_true rfl), (Nat.le_of_ble_eq_true rfl)⟩ ⟨rfl, rfl⟩ rM0 rfl rfl rfl rfl rfl (Nat.le_of_ble_eq_true rfl) ⟨Nat.zero_le _, Nat.zero_le _⟩ hP hS dX10_comes_23 (fun s6 hw H locs hP hS => ?_)
  refine lv_aload_n hx hb dX10_comes_26 rfl (lv_at hl 1 rfl) ?_
  refine lv_iload hx hb dX10_comes_27 (lv_at hl 0 rfl) ?_
  refine lv_iconst (v := 1) hx hb dX10_comes_29 (by decide) ?_
  refine lv_iload_n hx hb dX10_comes_30 rfl (lv_at hl 3 rfl) ?_
  refine g_cVv (As := [.int v2, .int 1, .int x2]) (rest := []) E hl.1 (c_X10_sets l D cy ad ha hw _) ok_X10_sets mw_1075 ⟨(Nat.le_of_ble_eq_true rfl), (Nat.le_of_ble_eq_true rfl)⟩ ⟨rfl, rfl⟩ rM0 rfl rfl rfl rfl rfl (Nat.le_of_ble_eq_true rfl) ⟨Nat.zero_le _, Nat.zero_le _⟩ hP hS dX10_comes_31 (fun s7 hw H locs hP hS => ?_)
  refine lv_aload_n hx hb dX10_comes_34 rfl (lv_at hl 1 rfl) ?_
  refine lv_iload hx hb dX10_comes_35 (lv_at hl 0 rfl) ?_
  refine lv_iconst (v := 2) hx hb dX10_comes_37 (by decide) ?_
  refine lv_iload_n hx hb dX10_comes_38 rfl (lv_at hl 4 rfl) ?_
  refine g_cVv (As := [.int v2, .int 2, .int x3]) (rest := []) E hl.1 (c_X10_sets l D cy ad ha hw _) ok_X10_sets mw_1075 ⟨(Nat.le_of_ble_eq_true rfl), (Nat.le_of_ble_eq_true rfl)⟩ ⟨rfl, rfl⟩ rM0 rfl rfl rfl rfl rfl (Nat.le_of_ble_eq_true rfl) ⟨Nat.zero_le _, Nat.zero_le _⟩ hP hS dX10_comes_39 (fun s8 hw H locs hP hS => ?_)
  refine lv_aload_n hx hb dX10_comes_42 rfl (lv_at hl 1 rfl) ?_
  refine lv_iload hx hb dX10_comes_43 (lv_at hl 0 rfl) ?_
  refine lv_iconst (v := 3) hx hb dX10_comes_45 (by decide) ?_
  refine lv_iload hx hb dX10_comes_46 (lv_at hl 5 rfl) ?_
  refine g_cVv (As := [.int v2, .int 3, .int x4]) (rest := []) E hl.1 (c_X10_sets l D cy ad ha hw _) ok_X10_sets mw_1075 ⟨(Nat.le_of_ble_eq_true rfl), (Nat.le_of_ble_eq_true rfl)⟩ ⟨rfl, rfl⟩ rM0 rfl rfl rfl rfl rfl (Nat.le_of_ble_eq_true rfl) ⟨Nat.zero_le _, Nat.zero_le _⟩ hP hS dX10_comes_48 (fun s9 hw H locs hP hS => ?_)
  exact g_vret E hw hP hS dX10_comes_51
theorem c_X10_comes (l : Launch) (D : va_G) (cy : Nat → ClassId) (ad : Nat → Nat → Nat) (ha : Apart regsM ad) {post : St → Prop} {σ : St} {x1 : Int32} {x2 : Int32} {x3 : Int32} {x4 : Int32} (hw : w_X10_comes post σ x1 x2 x3 x4) (sz : Nat) : MetV l yX10_comes cX10_comes 6 rm_X10_comes [.ref (ad 0 0), .int x1, .int x2, .int x3, .int x4] D cy (cellM cy ad) regsM ad σ sz post :=
  Met_inV ok_X10_comes.2.2.2.2.2 (Nat.le_of_ble_eq_true rfl) (fun p e s m below meth c ls E hP hl => B_X10_comes_0 E ha hw hP va_S.rf hl)
-- RoofWarModel.roof(IIII)I
theorem dX10_roof_0 : decode cX10_roof 0 = .ok (.iload_n 1, 1) := by decide +kernel
theorem dX10_roof_1 : decode cX10_roof 1 = .ok (.i2l, 1) := by decide +kernel
theorem dX10_roof_2 : decode cX10_roof 2 = .ok (.lconst 0, 1) := by decide +kernel
theorem dX10_roof_3 : decode cX10_roof 3 = .ok (.ldc2_w 86, 3) := by decide +kernel
theorem dX10_roof_6 : decode cX10_roof 6 = .ok (.invokestatic 71, 3) := by decide +kernel
theorem dX10_roof_9 : decode cX10_roof 9 = .ok (.ifCond .eq 35, 3) := by decide +kernel
theorem dX10_roof_12 : decode cX10_roof 12 = .ok (.iload_n 2, 1) := by decide +kernel
theorem dX10_roof_13 : decode cX10_roof 13 = .ok (.i2l, 1) := by decide +kernel
theorem dX10_roof_14 : decode cX10_roof 14 = .ok (.lconst 1, 1) := by decide +kernel
theorem dX10_roof_15 : decode cX10_roof 15 = .ok (.ldc2_w 88, 3) := by decide +kernel
theorem dX10_roof_18 : decode cX10_roof 18 = .ok (.invokestatic 71, 3) := by decide +kernel
theorem dX10_roof_21 : decode cX10_roof 21 = .ok (.ifCond .eq 23, 3) := by decide +kernel
theorem dX10_roof_24 : decode cX10_roof 24 = .ok (.iload_n 3, 1) := by decide +kernel
theorem dX10_roof_25 : decode cX10_roof 25 = .ok (.i2l, 1) := by decide +kernel
theorem dX10_roof_26 : decode cX10_roof 26 = .ok (.lconst 0, 1) := by decide +kernel
theorem dX10_roof_27 : decode cX10_roof 27 = .ok (.ldc2_w 90, 3) := by decide +kernel
theorem dX10_roof_30 : decode cX10_roof 30 = .ok (.invokestatic 71, 3) := by decide +kernel
theorem dX10_roof_33 : decode cX10_roof 33 = .ok (.ifCond .eq 11, 3) := by decide +kernel
theorem dX10_roof_36 : decode cX10_roof 36 = .ok (.iload 4, 2) := by decide +kernel
theorem dX10_roof_38 : decode cX10_roof 38 = .ok (.invokestatic 92, 3) := by decide +kernel
theorem dX10_roof_41 : decode cX10_roof 41 = .ok (.ifCond .ne 6, 3) := by decide +kernel
theorem dX10_roof_44 : decode cX10_roof 44 = .ok (.ldc 96, 2) := by decide +kernel
theorem dX10_roof_46 : decode cX10_roof 46 = .ok (.ireturn, 1) := by decide +kernel
theorem dX10_roof_47 : decode cX10_roof 47 = .ok (.aload_n 0, 1) := by decide +kernel
theorem dX10_roof_48 : decode cX10_roof 48 = .ok (.iload 4, 2) := by decide +kernel
theorem dX10_roof_50 : decode cX10_roof 50 = .ok (.invokevirtual 97, 3) := by decide +kernel
theorem dX10_roof_53 : decode cX10_roof 53 = .ok (.ifCond .lt 6, 3) := by decide +kernel
theorem dX10_roof_56 : decode cX10_roof 56 = .ok (.ldc 101, 2) := by decide +kernel
theorem dX10_roof_58 : decode cX10_roof 58 = .ok (.ireturn, 1) := by decide +kernel
theorem dX10_roof_59 : decode cX10_roof 59 = .ok (.aload_n 0, 1) := by decide +kernel
theorem dX10_roof_60 : decode cX10_roof 60 = .ok (.getfield 7, 3) := by decide +kernel
theorem dX10_roof_63 : decode cX10_roof 63 = .ok (.iconst 0, 1) := by decide +kernel
theorem dX10_roof_64 : decode cX10_roof 64 = .ok (.iaload, 1) := by decide +kernel
theorem dX10_roof_65 : decode cX10_roof 65 = .ok (.bipush 12, 2) := by decide +kernel
theorem dX10_roof_67 : decode cX10_roof 67 = .ok (.if_icmp .ne 6, 3) := by decide +kernel
theorem dX10_roof_70 : decode cX10_roof 70 = .ok (.ldc 102, 2) := by decide +kernel
theorem dX10_roof_72 : decode cX10_roof 72 = .ok (.ireturn, 1) := by decide +kernel
theorem dX10_roof_73 : decode cX10_roof 73 = .ok (.aload_n 0, 1) := by decide +kernel
theorem dX10_roof_74 : decode cX10_roof 74 = .ok (.iload_n 1, 1) := by decide +kernel
theorem dX10_roof_75 : decode cX10_roof 75 = .ok (.iload_n 2, 1) := by decide +kernel
theorem dX10_roof_76 : decode cX10_roof 76 = .ok (.iload_n 3, 1) := by decide +kernel
theorem dX10_roof_77 : decode cX10_roof 77 = .ok (.iload 4, 2) := by decide +kernel
theorem dX10_roof_79 : decode cX10_roof 79 = .ok (.invokevirtual 103, 3) := by decide +kernel
theorem dX10_roof_82 : decode cX10_roof 82 = .ok (.aload_n 0, 1) := by decide +kernel
theorem dX10_roof_83 : decode cX10_roof 83 = .ok (.getfield 7, 3) := by decide +kernel
theorem dX10_roof_86 : decode cX10_roof 86 = .ok (.iconst 0, 1) := by decide +kernel
theorem dX10_roof_87 : decode cX10_roof 87 = .ok (.iaload, 1) := by decide +kernel
theorem dX10_roof_88 : decode cX10_roof 88 = .ok (.iconst 1, 1) := by decide +kernel
theorem dX10_roof_89 : decode cX10_roof 89 = .ok (.isub, 1) := by decide +kernel
theorem dX10_roof_90 : decode cX10_roof 90 = .ok (.ireturn, 1) := by decide +kernel
theorem ok_X10_roof : okV yX10_roof cX10_roof 5 (some .int) 4 := ⟨mw_1050, mw_1051, mw_83, mw_1052, by decide +kernel, by decide +kernel⟩
abbrev rm_X10_roof : Room := { frames := 2, cells := 0, slots := 0, locals := 48 }
def w_X10_roof (post : Int32 → St → Prop) (σ : St) (x1 : Int32) (x2 : Int32) (x3 : Int32) (x4 : Int32) : Prop := w_X10_isIn (fun r1 s1 => ((r1 = 0 → (post ((-1000000001)) s1)) ∧ (¬ r1 = 0 → (w_X10_isIn (fun r3 s3 => ((r3 = 0 → (post ((-1000000001)) s3)) ∧ (¬ r3 = 0 → (w_X10_isIn (fun r5 s5 => ((r5 = 0 → (post ((-1000000001)) s5)) ∧ (¬ r5 = 0 → (w_X10_isHouse (fun r7 s7 => ((¬ r7 = 0 → (w_X10_over (fun r9 s9 => ((r9 < 0 → (vp_in (0 : Int32) 3082 ∧ (((¬ (s9 1 0 (0 : Int32).toNatClampNeg) = 12 → (w_X10_comes (fun s13 => vp_in (0 : Int32) 3082 ∧ (post ((s13 1 0 (0 : Int32).toNatClampNeg) - 1) s13)) s9 x1 x2 x3 x4)) ∧ ((s9 1 0 (0 : Int32).toNatClampNeg) = 12 → (post ((-1000000003)) s9)))))) ∧ (¬ r9 < 0 → (post ((-1000000002)) s9)))) s7 x4)) ∧ (r7 = 0 → (post ((-1000000001)) s7)))) s5 x4)))) s3 x3.toInt64 ((0 : Int64)) ((99 : Int64)))))) s1 x2.toInt64 ((1 : Int64)) ((9 : Int64)))))) σ x1.toInt64 ((0 : Int64)) ((5 : Int64))
theorem B_X10_roof_0 (E : EnvW p s m args meth c D cy regsM ad "RoofWarModel" cX10_roof 5 (some .int)) (ha : Apart regsM ad) {post : Int32 → St → Prop} {σ : St} {x1 : Int32} {x2 : Int32} {x3 : Int32} {x4 : Int32} (hw : w_X10_roof post σ x1 x2 x3 x4) {H : Heap} {locs : List Loc} {ls : Array Slot} (hP : va_P D CLS (wM cy ad σ) H) (hS : va_S (AM ad s.heap.size) s.heap H locs) (hl : lv_has ls 5 [(0, .ref (ad 0 0)), (1, .int x1), (2, .int x2), (3, .int x3), (4, .int x4)]) : W p l e rm_X10_roof s m args below meth c H locs 0 0 (MQ below (QI D cy (cellM cy ad) regsM ad s.heap.size post) args s 0 0 (AM ad s.heap.size)) (F0 m 0 ls []) := by
  obtain ⟨hx, hb, -⟩ := id E
  unfold w_X10_roof at hw
  refine lv_iload_n hx hb dX10_roof_0 rfl (lv_at hl 1 rfl) ?_
  refine lv_i2l (v := x1.toInt64) hx hb dX10_roof_1 rfl ?_
  refine lv_lconst (v := 0) hx hb dX10_roof_2 (by decide) ?_
  refine g_ldc2 (v := 5) E mw_1053 dX10_roof_3 ?_
  refine g_cSi (As := [.long x1.toInt64, .long ((0 : Int64)), .long ((5 : Int64))]) (rest := []) E hl.1 (c_X10_isIn l D cy ad ha hw _) ok_X10_isIn mw_1054 ⟨(Nat.le_of_ble_eq_true rfl), (Nat.le_of_ble_eq_true rfl)⟩ ⟨rfl, rfl⟩ rfl rfl (Nat.le_of_ble_eq_true rfl) ⟨Nat.zero_le _, Nat.zero_le _⟩ hP hS dX10_roof_6 (fun r1 s1 hw H locs hP hS => ?_)
  obtain ⟨z1, hw⟩ := hw
  refine lv_if_eq (tgt := 44) hx hb dX10_roof_9 (by decide) (fun c2 => ?_) (fun c2 => ?_)
  · replace hw := hw.1 c2
    refine g_ldc (v := -1000000001) E mw_1063 dX10_roof_44 ?_
    exact g_iret E hw hP hS dX10_roof_46
  · replace hw := hw.2 c2
    refine lv_iload_n hx hb dX10_roof_12 rfl (lv_at hl 2 rfl) ?_
    refine lv_i2l (v := x2.toInt64) hx hb dX10_roof_13 rfl ?_
    refine lv_lconst (v := 1) hx hb dX10_roof_14 (by decide) ?_
    refine g_ldc2 (v := 9) E mw_1057 dX10_roof_15 ?_
    refine g_cSi (As := [.long x2.toInt64, .long ((1 : Int64)), .long ((9 : Int64))]) (rest := []) E hl.1 (c_X10_isIn l D cy ad ha hw _) ok_X10_isIn mw_1054 ⟨(Nat.le_of_ble_eq_true rfl), (Nat.le_of_ble_eq_true rfl)⟩ ⟨rfl, rfl⟩ rfl rfl (Nat.le_of_ble_eq_true rfl) ⟨Nat.zero_le _, Nat.zero_le _⟩ hP hS dX10_roof_18 (fun r3 s3 hw H locs hP hS => ?_)
    obtain ⟨z3, hw⟩ := hw
    refine lv_if_eq (tgt := 44) hx hb dX10_roof_21 (by decide) (fun c4 => ?_) (fun c4 => ?_)
    · replace hw := hw.1 c4
      refine g_ldc (v := -1000000001) E mw_1063 dX10_roof_44 ?_
      exact g_iret E hw hP hS dX10_roof_46
    · replace hw := hw.2 c4
      refine lv_iload_n hx hb dX10_roof_24 rfl (lv_at hl 3 rfl) ?_
      refine lv_i2l (v := x3.toInt64) hx hb dX10_roof_25 rfl ?_
      refine lv_lconst (v := 0) hx hb dX10_roof_26 (by decide) ?_
      refine g_ldc2 (v := 99) E mw_1058 dX10_roof_27 ?_
      refine g_cSi (As := [.long x3.toInt64, .long ((0 : Int64)), .long ((99 : Int64))]) (rest := []) E hl.1 (c_X10_isIn l D cy ad ha hw _) ok_X10_isIn mw_1054 ⟨(Nat.le_of_ble_eq_true rfl), (Nat.le_of_ble_eq_true rfl)⟩ ⟨rfl, rfl⟩ rfl rfl (Nat.le_of_ble_eq_true rfl) ⟨Nat.zero_le _, Nat.zero_le _⟩ hP hS dX10_roof_30 (fun r5 s5 hw H locs hP hS => ?_)
      obtain ⟨z5, hw⟩ := hw
      refine lv_if_eq (tgt := 44) hx hb dX10_roof_33 (by decide) (fun c6 => ?_) (fun c6 => ?_)
      · replace hw := hw.1 c6
        refine g_ldc (v := -1000000001) E mw_1063 dX10_roof_44 ?_
        exact g_iret E hw hP hS dX10_roof_46
      · replace hw := hw.2 c6
        refine lv_iload hx hb dX10_roof_36 (lv_at hl 4 rfl) ?_
        refine g_cSi (As := [.int x4]) (rest := []) E hl.1 (c_X10_isHouse l D cy ad ha hw _) ok_X10_isHouse mw_1059 ⟨(Nat.le_of_ble_eq_true rfl), (Nat.le_of_ble_eq_true rfl)⟩ ⟨rfl, rfl⟩ rfl rfl (Nat.le_of_ble_eq_true rfl) ⟨Nat.zero_le _, Nat.zero_le _⟩ hP hS dX10_roof_38 (fun r7 s7 hw H locs hP hS => ?_)
        obtain ⟨z7, hw⟩ := hw
        refine lv_if_ne (tgt := 47) hx hb dX10_roof_41 (by decide) (fun c8 => ?_) (fun c8 => ?_)
        · replace hw := hw.1 c8
          refine lv_aload_n hx hb dX10_roof_47 rfl (lv_at hl 0 rfl) ?_
          refine lv_iload hx hb dX10_roof_48 (lv_at hl 4 rfl) ?_
          refine g_cVi (As := [.int x4]) (rest := []) E hl.1 (c_X10_over l D cy ad ha hw _) ok_X10_over mw_1064 ⟨(Nat.le_of_ble_eq_true rfl), (Nat.le_of_ble_eq_true rfl)⟩ ⟨rfl, rfl⟩ rM0 rfl rfl rfl rfl rfl (Nat.le_of_ble_eq_true rfl) ⟨Nat.zero_le _, Nat.zero_le _⟩ hP hS dX10_roof_50 (fun r9 s9 hw H locs hP hS => ?_)
          refine lv_if_lt (tgt := 59) hx hb dX10_roof_53 (by decide) (fun c10 => ?_) (fun c10 => ?_)
          · replace hw := hw.1 c10
            refine lv_aload_n hx hb dX10_roof_59 rfl (lv_at hl 0 rfl) ?_
            refine fX10_0 E hP mw_946 dX10_roof_60 ?_
            refine lv_iconst (v := 0) hx hb dX10_roof_63 (by decide) ?_
            obtain ⟨h11, hw⟩ := hw
            refine aM1 E hP h11 dX10_roof_64 ?_
            refine lv_bipush (v := 12) hx hb dX10_roof_65 (by decide) ?_
            refine lv_icmp_ne (tgt := 73) hx hb dX10_roof_67 (by decide) (fun c12 => ?_) (fun c12 => ?_)
            · replace hw := hw.1 c12
              refine lv_aload_n hx hb dX10_roof_73 rfl (lv_at hl 0 rfl) ?_
              refine lv_iload_n hx hb dX10_roof_74 rfl (lv_at hl 1 rfl) ?_
              refine lv_iload_n hx hb dX10_roof_75 rfl (lv_at hl 2 rfl) ?_
              refine lv_iload_n hx hb dX10_roof_76 rfl (lv_at hl 3 rfl) ?_
              refine lv_iload hx hb dX10_roof_77 (lv_at hl 4 rfl) ?_
              refine g_cVv (As := [.int x1, .int x2, .int x3, .int x4]) (rest := []) E hl.1 (c_X10_comes l D cy ad ha hw _) ok_X10_comes mw_1072 ⟨(Nat.le_of_ble_eq_true rfl), (Nat.le_of_ble_eq_true rfl)⟩ ⟨rfl, rfl⟩ rM0 rfl rfl rfl rfl rfl (Nat.le_of_ble_eq_true rfl) ⟨Nat.zero_le _, Nat.zero_le _⟩ hP hS dX10_roof_79 (fun s13 hw H locs hP hS => ?_)
              refine lv_aload_n hx hb dX10_roof_82 rfl (lv_at hl 0 rfl) ?_
              refine fX10_0 E hP mw_946 dX10_roof_83 ?_
              refine lv_iconst (v := 0) hx hb dX10_roof_86 (by decide) ?_
              obtain ⟨h14, hw⟩ := hw
              refine aM1 E hP h14 dX10_roof_87 ?_
              refine lv_iconst (v := 1) hx hb dX10_roof_88 (by decide) ?_
              refine lv_isub hx hb dX10_roof_89 ?_
              exact g_iret E hw hP hS dX10_roof_90
            · replace hw := hw.2 c12
              refine g_ldc (v := -1000000003) E mw_1071 dX10_roof_70 ?_
              exact g_iret E hw hP hS dX10_roof_72
          · replace hw := hw.2 c10
            refine g_ldc (v := -1000000002) E mw_1070 dX10_roof_56 ?_
            exact g_iret E hw hP hS dX10_roof_58
        · replace hw := hw.2 c8
          refine g_ldc (v := -1000000001) E mw_1063 dX10_roof_44 ?_
          exact g_iret E hw hP hS dX10_roof_46
theorem c_X10_roof (l : Launch) (D : va_G) (cy : Nat → ClassId) (ad : Nat → Nat → Nat) (ha : Apart regsM ad) {post : Int32 → St → Prop} {σ : St} {x1 : Int32} {x2 : Int32} {x3 : Int32} {x4 : Int32} (hw : w_X10_roof post σ x1 x2 x3 x4) (sz : Nat) : MetI l yX10_roof cX10_roof 5 .int rm_X10_roof [.ref (ad 0 0), .int x1, .int x2, .int x3, .int x4] D cy (cellM cy ad) regsM ad σ sz post :=
  Met_inI ok_X10_roof.2.2.2.2.2 (Nat.le_of_ble_eq_true rfl) (fun p e s m below meth c ls E hP hl => B_X10_roof_0 E ha hw hP va_S.rf hl)
-- RoofWarModel.told(II)I
theorem dX10_told_0 : decode cX10_told 0 = .ok (.aload_n 0, 1) := by decide +kernel
theorem dX10_told_1 : decode cX10_told 1 = .ok (.iload_n 1, 1) := by decide +kernel
theorem dX10_told_2 : decode cX10_told 2 = .ok (.invokevirtual 107, 3) := by decide +kernel
theorem dX10_told_5 : decode cX10_told 5 = .ok (.ifCond .eq 15, 3) := by decide +kernel
theorem dX10_told_8 : decode cX10_told 8 = .ok (.iload_n 2, 1) := by decide +kernel
theorem dX10_told_9 : decode cX10_told 9 = .ok (.i2l, 1) := by decide +kernel
theorem dX10_told_10 : decode cX10_told 10 = .ok (.lconst 0, 1) := by decide +kernel
theorem dX10_told_11 : decode cX10_told 11 = .ok (.ldc2_w 110, 3) := by decide +kernel
theorem dX10_told_14 : decode cX10_told 14 = .ok (.invokestatic 71, 3) := by decide +kernel
theorem dX10_told_17 : decode cX10_told 17 = .ok (.ifCond .ne 6, 3) := by decide +kernel
theorem dX10_told_20 : decode cX10_told 20 = .ok (.ldc 96, 2) := by decide +kernel
theorem dX10_told_22 : decode cX10_told 22 = .ok (.ireturn, 1) := by decide +kernel
theorem dX10_told_23 : decode cX10_told 23 = .ok (.iload_n 2, 1) := by decide +kernel
theorem dX10_told_24 : decode cX10_told 24 = .ok (.tableswitch 56 4 7 #[32, 38, 44, 50], 32) := by decide +kernel
theorem dX10_told_56 : decode cX10_told 56 = .ok (.aload_n 0, 1) := by decide +kernel
theorem dX10_told_57 : decode cX10_told 57 = .ok (.iload_n 1, 1) := by decide +kernel
theorem dX10_told_58 : decode cX10_told 58 = .ok (.invokevirtual 112, 3) := by decide +kernel
theorem dX10_told_61 : decode cX10_told 61 = .ok (.ireturn, 1) := by decide +kernel
theorem dX10_told_62 : decode cX10_told 62 = .ok (.aload_n 0, 1) := by decide +kernel
theorem dX10_told_63 : decode cX10_told 63 = .ok (.iload_n 1, 1) := by decide +kernel
theorem dX10_told_64 : decode cX10_told 64 = .ok (.invokevirtual 115, 3) := by decide +kernel
theorem dX10_told_67 : decode cX10_told 67 = .ok (.ireturn, 1) := by decide +kernel
theorem dX10_told_68 : decode cX10_told 68 = .ok (.aload_n 0, 1) := by decide +kernel
theorem dX10_told_69 : decode cX10_told 69 = .ok (.iload_n 1, 1) := by decide +kernel
theorem dX10_told_70 : decode cX10_told 70 = .ok (.invokevirtual 118, 3) := by decide +kernel
theorem dX10_told_73 : decode cX10_told 73 = .ok (.ireturn, 1) := by decide +kernel
theorem dX10_told_74 : decode cX10_told 74 = .ok (.aload_n 0, 1) := by decide +kernel
theorem dX10_told_75 : decode cX10_told 75 = .ok (.iload_n 1, 1) := by decide +kernel
theorem dX10_told_76 : decode cX10_told 76 = .ok (.invokevirtual 121, 3) := by decide +kernel
theorem dX10_told_79 : decode cX10_told 79 = .ok (.ireturn, 1) := by decide +kernel
theorem dX10_told_80 : decode cX10_told 80 = .ok (.aload_n 0, 1) := by decide +kernel
theorem dX10_told_81 : decode cX10_told 81 = .ok (.iload_n 1, 1) := by decide +kernel
theorem dX10_told_82 : decode cX10_told 82 = .ok (.iload_n 2, 1) := by decide +kernel
theorem dX10_told_83 : decode cX10_told 83 = .ok (.invokevirtual 78, 3) := by decide +kernel
theorem dX10_told_86 : decode cX10_told 86 = .ok (.ireturn, 1) := by decide +kernel
theorem ok_X10_told : okV yX10_told cX10_told 3 (some .int) 2 := ⟨mw_1079, mw_1080, mw_83, mw_1081, by decide +kernel, by decide +kernel⟩
abbrev rm_X10_told : Room := { frames := 2, cells := 0, slots := 0, locals := 46 }
def w_X10_told (post : Int32 → St → Prop) (σ : St) (x1 : Int32) (x2 : Int32) : Prop := w_X10_isRoof (fun r1 s1 => ((r1 = 0 → (post ((-1000000001)) s1)) ∧ (¬ r1 = 0 → (w_X10_isIn (fun r3 s3 => ((¬ r3 = 0 → (((x2 = 4 → (w_X10_weighs (fun r6 s6 => post r6 s6) s3 x1)) ∧ (¬ x2 = 4 → (((x2 = 5 → (w_X10_covers (fun r8 s8 => post r8 s8) s3 x1)) ∧ (¬ x2 = 5 → (((x2 = 6 → (w_X10_drips (fun r10 s10 => post r10 s10) s3 x1)) ∧ (¬ x2 = 6 → (((x2 = 7 → (w_X10_worth (fun r12 s12 => post r12 s12) s3 x1)) ∧ (¬ x2 = 7 → (w_X10_of (fun r13 s13 => post r13 s13) s3 x1 x2)))))))))))))) ∧ (r3 = 0 → (post ((-1000000001)) s3)))) s1 x2.toInt64 ((0 : Int64)) ((7 : Int64)))))) σ x1
theorem B_X10_told_0 (E : EnvW p s m args meth c D cy regsM ad "RoofWarModel" cX10_told 3 (some .int)) (ha : Apart regsM ad) {post : Int32 → St → Prop} {σ : St} {x1 : Int32} {x2 : Int32} (hw : w_X10_told post σ x1 x2) {H : Heap} {locs : List Loc} {ls : Array Slot} (hP : va_P D CLS (wM cy ad σ) H) (hS : va_S (AM ad s.heap.size) s.heap H locs) (hl : lv_has ls 3 [(0, .ref (ad 0 0)), (1, .int x1), (2, .int x2)]) : W p l e rm_X10_told s m args below meth c H locs 0 0 (MQ below (QI D cy (cellM cy ad) regsM ad s.heap.size post) args s 0 0 (AM ad s.heap.size)) (F0 m 0 ls []) := by
  obtain ⟨hx, hb, -⟩ := id E
  unfold w_X10_told at hw
  refine lv_aload_n hx hb dX10_told_0 rfl (lv_at hl 0 rfl) ?_
  refine lv_iload_n hx hb dX10_told_1 rfl (lv_at hl 1 rfl) ?_
  refine g_cVi (As := [.int x1]) (rest := []) E hl.1 (c_X10_isRoof l D cy ad ha hw _) ok_X10_isRoof mw_1082 ⟨(Nat.le_of_ble_eq_true rfl), (Nat.le_of_ble_eq_true rfl)⟩ ⟨rfl, rfl⟩ rM0 rfl rfl rfl rfl rfl (Nat.le_of_ble_eq_true rfl) ⟨Nat.zero_le _, Nat.zero_le _⟩ hP hS dX10_told_2 (fun r1 s1 hw H locs hP hS => ?_)
  obtain ⟨z1, hw⟩ := hw
  refine lv_if_eq (tgt := 20) hx hb dX10_told_5 (by decide) (fun c2 => ?_) (fun c2 => ?_)
  · replace hw := hw.1 c2
    refine g_ldc (v := -1000000001) E mw_1063 dX10_told_20 ?_
    exact g_iret E hw hP hS dX10_told_22
  · replace hw := hw.2 c2
    refine lv_iload_n hx hb dX10_told_8 rfl (lv_at hl 2 rfl) ?_
    refine lv_i2l (v := x2.toInt64) hx hb dX10_told_9 rfl ?_
    refine lv_lconst (v := 0) hx hb dX10_told_10 (by decide) ?_
    refine g_ldc2 (v := 7) E mw_1085 dX10_told_11 ?_
    refine g_cSi (As := [.long x2.toInt64, .long ((0 : Int64)), .long ((7 : Int64))]) (rest := []) E hl.1 (c_X10_isIn l D cy ad ha hw _) ok_X10_isIn mw_1054 ⟨(Nat.le_of_ble_eq_true rfl), (Nat.le_of_ble_eq_true rfl)⟩ ⟨rfl, rfl⟩ rfl rfl (Nat.le_of_ble_eq_true rfl) ⟨Nat.zero_le _, Nat.zero_le _⟩ hP hS dX10_told_14 (fun r3 s3 hw H locs hP hS => ?_)
    obtain ⟨z3, hw⟩ := hw
    refine lv_if_ne (tgt := 23) hx hb dX10_told_17 (by decide) (fun c4 => ?_) (fun c4 => ?_)
    · replace hw := hw.1 c4
      refine lv_iload_n hx hb dX10_told_23 rfl (lv_at hl 2 rfl) ?_
      by_cases c5 : x2 = 4
      · replace hw := hw.1 c5
        refine lv_tableIn (off := 32) (tgt := 56) hx hb dX10_told_24 (by rw [c5]; decide) (by rw [c5]; decide) (by rw [c5]; rfl) (by decide) ?_
        refine lv_aload_n hx hb dX10_told_56 rfl (lv_at hl 0 rfl) ?_
        refine lv_iload_n hx hb dX10_told_57 rfl (lv_at hl 1 rfl) ?_
        refine g_cVi (As := [.int x1]) (rest := []) E hl.1 (c_X10_weighs l D cy ad ha hw _) ok_X10_weighs mw_1086 ⟨(Nat.le_of_ble_eq_true rfl), (Nat.le_of_ble_eq_true rfl)⟩ ⟨rfl, rfl⟩ rM0 rfl rfl rfl rfl rfl (Nat.le_of_ble_eq_true rfl) ⟨Nat.zero_le _, Nat.zero_le _⟩ hP hS dX10_told_58 (fun r6 s6 hw H locs hP hS => ?_)
        exact g_iret E hw hP hS dX10_told_61
      · replace hw := hw.2 c5
        by_cases c7 : x2 = 5
        · replace hw := hw.1 c7
          refine lv_tableIn (off := 38) (tgt := 62) hx hb dX10_told_24 (by rw [c7]; decide) (by rw [c7]; decide) (by rw [c7]; rfl) (by decide) ?_
          refine lv_aload_n hx hb dX10_told_62 rfl (lv_at hl 0 rfl) ?_
          refine lv_iload_n hx hb dX10_told_63 rfl (lv_at hl 1 rfl) ?_
          refine g_cVi (As := [.int x1]) (rest := []) E hl.1 (c_X10_covers l D cy ad ha hw _) ok_X10_covers mw_1089 ⟨(Nat.le_of_ble_eq_true rfl), (Nat.le_of_ble_eq_true rfl)⟩ ⟨rfl, rfl⟩ rM0 rfl rfl rfl rfl rfl (Nat.le_of_ble_eq_true rfl) ⟨Nat.zero_le _, Nat.zero_le _⟩ hP hS dX10_told_64 (fun r8 s8 hw H locs hP hS => ?_)
          exact g_iret E hw hP hS dX10_told_67
        · replace hw := hw.2 c7
          by_cases c9 : x2 = 6
          · replace hw := hw.1 c9
            refine lv_tableIn (off := 44) (tgt := 68) hx hb dX10_told_24 (by rw [c9]; decide) (by rw [c9]; decide) (by rw [c9]; rfl) (by decide) ?_
            refine lv_aload_n hx hb dX10_told_68 rfl (lv_at hl 0 rfl) ?_
            refine lv_iload_n hx hb dX10_told_69 rfl (lv_at hl 1 rfl) ?_
            refine g_cVi (As := [.int x1]) (rest := []) E hl.1 (c_X10_drips l D cy ad ha hw _) ok_X10_drips mw_1092 ⟨(Nat.le_of_ble_eq_true rfl), (Nat.le_of_ble_eq_true rfl)⟩ ⟨rfl, rfl⟩ rM0 rfl rfl rfl rfl rfl (Nat.le_of_ble_eq_true rfl) ⟨Nat.zero_le _, Nat.zero_le _⟩ hP hS dX10_told_70 (fun r10 s10 hw H locs hP hS => ?_)
            exact g_iret E hw hP hS dX10_told_73
          · replace hw := hw.2 c9
            by_cases c11 : x2 = 7
            · replace hw := hw.1 c11
              refine lv_tableIn (off := 50) (tgt := 74) hx hb dX10_told_24 (by rw [c11]; decide) (by rw [c11]; decide) (by rw [c11]; rfl) (by decide) ?_
              refine lv_aload_n hx hb dX10_told_74 rfl (lv_at hl 0 rfl) ?_
              refine lv_iload_n hx hb dX10_told_75 rfl (lv_at hl 1 rfl) ?_
              refine g_cVi (As := [.int x1]) (rest := []) E hl.1 (c_X10_worth l D cy ad ha hw _) ok_X10_worth mw_1095 ⟨(Nat.le_of_ble_eq_true rfl), (Nat.le_of_ble_eq_true rfl)⟩ ⟨rfl, rfl⟩ rM0 rfl rfl rfl rfl rfl (Nat.le_of_ble_eq_true rfl) ⟨Nat.zero_le _, Nat.zero_le _⟩ hP hS dX10_told_76 (fun r12 s12 hw H locs hP hS => ?_)
              exact g_iret E hw hP hS dX10_told_79
            · replace hw := hw.2 c11
              have e5 := ne_toI c5 (n := 4) (k := 4) (by decide)
              have e7 := ne_toI c7 (n := 5) (k := 5) (by decide)
              have e9 := ne_toI c9 (n := 6) (k := 6) (by decide)
              have e11 := ne_toI c11 (n := 7) (k := 7) (by decide)
              refine lv_tableOut (tgt := 80) hx hb dX10_told_24 (by omega) (by decide) ?_
              refine lv_aload_n hx hb dX10_told_80 rfl (lv_at hl 0 rfl) ?_
              refine lv_iload_n hx hb dX10_told_81 rfl (lv_at hl 1 rfl) ?_
              refine lv_iload_n hx hb dX10_told_82 rfl (lv_at hl 2 rfl) ?_
              refine g_cVi (As := [.int x1, .int x2]) (rest := []) E hl.1 (c_X10_of l D cy ad ha hw _) ok_X10_of mw_1067 ⟨(Nat.le_of_ble_eq_true rfl), (Nat.le_of_ble_eq_true rfl)⟩ ⟨rfl, rfl⟩ rM0 rfl rfl rfl rfl rfl (Nat.le_of_ble_eq_true rfl) ⟨Nat.zero_le _, Nat.zero_le _⟩ hP hS dX10_told_83 (fun r13 s13 hw H locs hP hS => ?_)
              exact g_iret E hw hP hS dX10_told_86
    · replace hw := hw.2 c4
      refine g_ldc (v := -1000000001) E mw_1063 dX10_told_20 ?_
      exact g_iret E hw hP hS dX10_told_22
theorem c_X10_told (l : Launch) (D : va_G) (cy : Nat → ClassId) (ad : Nat → Nat → Nat) (ha : Apart regsM ad) {post : Int32 → St → Prop} {σ : St} {x1 : Int32} {x2 : Int32} (hw : w_X10_told post σ x1 x2) (sz : Nat) : MetI l yX10_told cX10_told 3 .int rm_X10_told [.ref (ad 0 0), .int x1, .int x2] D cy (cellM cy ad) regsM ad σ sz post :=
  Met_inI ok_X10_told.2.2.2.2.2 (Nat.le_of_ble_eq_true rfl) (fun p e s m below meth c ls E hP hl => B_X10_told_0 E ha hw hP va_S.rf hl)
-- RoofWarModel.as(II)I
theorem dX10_as_0 : decode cX10_as 0 = .ok (.aload_n 0, 1) := by decide +kernel
theorem dX10_as_1 : decode cX10_as 1 = .ok (.iload_n 1, 1) := by decide +kernel
theorem dX10_as_2 : decode cX10_as 2 = .ok (.invokevirtual 107, 3) := by decide +kernel
theorem dX10_as_5 : decode cX10_as 5 = .ok (.ifCond .eq 15, 3) := by decide +kernel
theorem dX10_as_8 : decode cX10_as 8 = .ok (.iload_n 2, 1) := by decide +kernel
theorem dX10_as_9 : decode cX10_as 9 = .ok (.i2l, 1) := by decide +kernel
theorem dX10_as_10 : decode cX10_as 10 = .ok (.lconst 0, 1) := by decide +kernel
theorem dX10_as_11 : decode cX10_as 11 = .ok (.ldc2_w 86, 3) := by decide +kernel
theorem dX10_as_14 : decode cX10_as 14 = .ok (.invokestatic 71, 3) := by decide +kernel
theorem dX10_as_17 : decode cX10_as 17 = .ok (.ifCond .ne 6, 3) := by decide +kernel
theorem dX10_as_20 : decode cX10_as 20 = .ok (.ldc 96, 2) := by decide +kernel
theorem dX10_as_22 : decode cX10_as 22 = .ok (.ireturn, 1) := by decide +kernel
theorem dX10_as_23 : decode cX10_as 23 = .ok (.aload_n 0, 1) := by decide +kernel
theorem dX10_as_24 : decode cX10_as 24 = .ok (.iload_n 1, 1) := by decide +kernel
theorem dX10_as_25 : decode cX10_as 25 = .ok (.iconst 0, 1) := by decide +kernel
theorem dX10_as_26 : decode cX10_as 26 = .ok (.invokevirtual 78, 3) := by decide +kernel
theorem dX10_as_29 : decode cX10_as 29 = .ok (.iload_n 2, 1) := by decide +kernel
theorem dX10_as_30 : decode cX10_as 30 = .ok (.invokestatic 124, 3) := by decide +kernel
theorem dX10_as_33 : decode cX10_as 33 = .ok (.ifCond .eq 12, 3) := by decide +kernel
theorem dX10_as_36 : decode cX10_as 36 = .ok (.aload_n 0, 1) := by decide +kernel
theorem dX10_as_37 : decode cX10_as 37 = .ok (.iload_n 1, 1) := by decide +kernel
theorem dX10_as_38 : decode cX10_as 38 = .ok (.iconst 3, 1) := by decide +kernel
theorem dX10_as_39 : decode cX10_as 39 = .ok (.invokevirtual 78, 3) := by decide +kernel
theorem dX10_as_42 : decode cX10_as 42 = .ok (.goto 5, 3) := by decide +kernel
theorem dX10_as_45 : decode cX10_as 45 = .ok (.ldc 128, 2) := by decide +kernel
theorem dX10_as_47 : decode cX10_as 47 = .ok (.ireturn, 1) := by decide +kernel
theorem ok_X10_as : okV yX10_as cX10_as 3 (some .int) 2 := ⟨mw_1099, mw_1100, mw_83, mw_1101, by decide +kernel, by decide +kernel⟩
abbrev rm_X10_as : Room := { frames := 2, cells := 0, slots := 0, locals := 46 }
def w_X10_as (post : Int32 → St → Prop) (σ : St) (x1 : Int32) (x2 : Int32) : Prop := w_X10_isRoof (fun r1 s1 => ((r1 = 0 → (post ((-1000000001)) s1)) ∧ (¬ r1 = 0 → (w_X10_isIn (fun r3 s3 => ((¬ r3 = 0 → (w_X10_of (fun r5 s5 => w_X10_isOf (fun r6 s6 => ((r6 = 0 → (post ((-1000000012)) s6)) ∧ (¬ r6 = 0 → (w_X10_of (fun r8 s8 => post r8 s8) s6 x1 (3 : Int32))))) s5 r5 x2) s3 x1 (0 : Int32))) ∧ (r3 = 0 → (post ((-1000000001)) s3)))) s1 x2.toInt64 ((0 : Int64)) ((5 : Int64)))))) σ x1
theorem B_X10_as_0 (E : EnvW p s m args meth c D cy regsM ad "RoofWarModel" cX10_as 3 (some .int)) (ha : Apart regsM ad) {post : Int32 → St → Prop} {σ : St} {x1 : Int32} {x2 : Int32} (hw : w_X10_as post σ x1 x2) {H : Heap} {locs : List Loc} {ls : Array Slot} (hP : va_P D CLS (wM cy ad σ) H) (hS : va_S (AM ad s.heap.size) s.heap H locs) (hl : lv_has ls 3 [(0, .ref (ad 0 0)), (1, .int x1), (2, .int x2)]) : W p l e rm_X10_as s m args below meth c H locs 0 0 (MQ below (QI D cy (cellM cy ad) regsM ad s.heap.size post) args s 0 0 (AM ad s.heap.size)) (F0 m 0 ls []) := by
  obtain ⟨hx, hb, -⟩ := id E
  unfold w_X10_as at hw
  refine lv_aload_n hx hb dX10_as_0 rfl (lv_at hl 0 rfl) ?_
  refine lv_iload_n hx hb dX10_as_1 rfl (lv_at hl 1 rfl) ?_
  refine g_cVi (As := [.int x1]) (rest := []) E hl.1 (c_X10_isRoof l D cy ad ha hw _) ok_X10_isRoof mw_1082 ⟨(Nat.le_of_ble_eq_true rfl), (Nat.le_of_ble_eq_true rfl)⟩ ⟨rfl, rfl⟩ rM0 rfl rfl rfl rfl rfl (Nat.le_of_ble_eq_true rfl) ⟨Nat.zero_le _, Nat.zero_le _⟩ hP hS dX10_as_2 (fun r1 s1 hw H locs hP hS => ?_)
  obtain ⟨z1, hw⟩ := hw
  refine lv_if_eq (tgt := 20) hx hb dX10_as_5 (by decide) (fun c2 => ?_) (fun c2 => ?_)
  · replace hw := hw.1 c2
    refine g_ldc (v := -1000000001) E mw_1063 dX10_as_20 ?_
    exact g_iret E hw hP hS dX10_as_22
  · replace hw := hw.2 c2
    refine lv_iload_n hx hb dX10_as_8 rfl (lv_at hl 2 rfl) ?_
    refine lv_i2l (v := x2.toInt64) hx hb dX10_as_9 rfl ?_
    refine lv_lconst (v := 0) hx hb dX10_as_10 (by decide) ?_
    refine g_ldc2 (v := 5) E mw_1053 dX10_as_11 ?_
    refine g_cSi (As := [.long x2.toInt64, .long ((0 : Int64)), .long ((5 : Int64))]) (rest := []) E hl.1 (c_X10_isIn l D cy ad ha hw _) ok_X10_isIn mw_1054 ⟨(Nat.le_of_ble_eq_true rfl), (Nat.le_of_ble_eq_true rfl)⟩ ⟨rfl, rfl⟩ rfl rfl (Nat.le_of_ble_eq_true rfl) ⟨Nat.zero_le _, Nat.zero_le _⟩ hP hS dX10_as_14 (fun r3 s3 hw H locs hP hS => ?_)
    obtain ⟨z3, hw⟩ := hw
    refine lv_if_ne (tgt := 23) hx hb dX10_as_17 (by decide) (fun c4 => ?_) (fun c4 => ?_)
    · replace hw := hw.1 c4
      refine lv_aload_n hx hb dX10_as_23 rfl (lv_at hl 0 rfl) ?_
      refine lv_iload_n hx hb dX10_as_24 rfl (lv_at hl 1 rfl) ?_
      refine lv_iconst (v := 0) hx hb dX10_as_25 (by decide) ?_
      refine g_cVi (As := [.int x1, .int 0]) (rest := []) E hl.1 (c_X10_of l D cy ad ha hw _) ok_X10_of mw_1067 ⟨(Nat.le_of_ble_eq_true rfl), (Nat.le_of_ble_eq_true rfl)⟩ ⟨rfl, rfl⟩ rM0 rfl rfl rfl rfl rfl (Nat.le_of_ble_eq_true rfl) ⟨Nat.zero_le _, Nat.zero_le _⟩ hP hS dX10_as_26 (fun r5 s5 hw H locs hP hS => ?_)
      refine lv_iload_n hx hb dX10_as_29 rfl (lv_at hl 2 rfl) ?_
      refine g_cSi (As := [.int r5, .int x2]) (rest := []) E hl.1 (c_X10_isOf l D cy ad ha hw _) ok_X10_isOf mw_1102 ⟨(Nat.le_of_ble_eq_true rfl), (Nat.le_of_ble_eq_true rfl)⟩ ⟨rfl, rfl⟩ rfl rfl (Nat.le_of_ble_eq_true rfl) ⟨Nat.zero_le _, Nat.zero_le _⟩ hP hS dX10_as_30 (fun r6 s6 hw H locs hP hS => ?_)
      obtain ⟨z6, hw⟩ := hw
      refine lv_if_eq (tgt := 45) hx hb dX10_as_33 (by decide) (fun c7 => ?_) (fun c7 => ?_)
      · replace hw := hw.1 c7
        refine g_ldc (v := -1000000012) E mw_1105 dX10_as_45 ?_
        exact g_iret E hw hP hS dX10_as_47
      · replace hw := hw.2 c7
        refine lv_aload_n hx hb dX10_as_36 rfl (lv_at hl 0 rfl) ?_
        refine lv_iload_n hx hb dX10_as_37 rfl (lv_at hl 1 rfl) ?_
        refine lv_iconst (v := 3) hx hb dX10_as_38 (by decide) ?_
        refine g_cVi (As := [.int x1, .int 3]) (rest := []) E hl.1 (c_X10_of l D cy ad ha hw _) ok_X10_of mw_1067 ⟨(Nat.le_of_ble_eq_true rfl), (Nat.le_of_ble_eq_true rfl)⟩ ⟨rfl, rfl⟩ rM0 rfl rfl rfl rfl rfl (Nat.le_of_ble_eq_true rfl) ⟨Nat.zero_le _, Nat.zero_le _⟩ hP hS dX10_as_39 (fun r8 s8 hw H locs hP hS => ?_)
        refine lv_goto (tgt := 47) hx hb dX10_as_42 (by decide) ?_
        exact g_iret E hw hP hS dX10_as_47
    · replace hw := hw.2 c4
      refine g_ldc (v := -1000000001) E mw_1063 dX10_as_20 ?_
      exact g_iret E hw hP hS dX10_as_22
theorem c_X10_as (l : Launch) (D : va_G) (cy : Nat → ClassId) (ad : Nat → Nat → Nat) (ha : Apart regsM ad) {post : Int32 → St → Prop} {σ : St} {x1 : Int32} {x2 : Int32} (hw : w_X10_as post σ x1 x2) (sz : Nat) : MetI l yX10_as cX10_as 3 .int rm_X10_as [.ref (ad 0 0), .int x1, .int x2] D cy (cellM cy ad) regsM ad σ sz post :=
  Met_inI ok_X10_as.2.2.2.2.2 (Nat.le_of_ble_eq_true rfl) (fun p e s m below meth c ls E hP hl => B_X10_as_0 E ha hw hP va_S.rf hl)
-- RoofWarModel.turns(II)I
theorem dX10_turns_0 : decode cX10_turns 0 = .ok (.aload_n 0, 1) := by decide +kernel
theorem dX10_turns_1 : decode cX10_turns 1 = .ok (.iload_n 1, 1) := by decide +kernel
theorem dX10_turns_2 : decode cX10_turns 2 = .ok (.invokevirtual 107, 3) := by decide +kernel
theorem dX10_turns_5 : decode cX10_turns 5 = .ok (.ifCond .eq 29, 3) := by decide +kernel
theorem dX10_turns_8 : decode cX10_turns 8 = .ok (.iload_n 2, 1) := by decide +kernel
theorem dX10_turns_9 : decode cX10_turns 9 = .ok (.i2l, 1) := by decide +kernel
theorem dX10_turns_10 : decode cX10_turns 10 = .ok (.lconst 0, 1) := by decide +kernel
theorem dX10_turns_11 : decode cX10_turns 11 = .ok (.ldc2_w 86, 3) := by decide +kernel
theorem dX10_turns_14 : decode cX10_turns 14 = .ok (.invokestatic 71, 3) := by decide +kernel
theorem dX10_turns_17 : decode cX10_turns 17 = .ok (.ifCond .eq 17, 3) := by decide +kernel
theorem dX10_turns_20 : decode cX10_turns 20 = .ok (.aload_n 0, 1) := by decide +kernel
theorem dX10_turns_21 : decode cX10_turns 21 = .ok (.bipush 10, 2) := by decide +kernel
theorem dX10_turns_23 : decode cX10_turns 23 = .ok (.iconst 4, 1) := by decide +kernel
theorem dX10_turns_24 : decode cX10_turns 24 = .ok (.iload_n 1, 1) := by decide +kernel
theorem dX10_turns_25 : decode cX10_turns 25 = .ok (.imul, 1) := by decide +kernel
theorem dX10_turns_26 : decode cX10_turns 26 = .ok (.iadd, 1) := by decide +kernel
theorem dX10_turns_27 : decode cX10_turns 27 = .ok (.iload_n 2, 1) := by decide +kernel
theorem dX10_turns_28 : decode cX10_turns 28 = .ok (.invokevirtual 129, 3) := by decide +kernel
theorem dX10_turns_31 : decode cX10_turns 31 = .ok (.goto 5, 3) := by decide +kernel
theorem dX10_turns_34 : decode cX10_turns 34 = .ok (.ldc 96, 2) := by decide +kernel
theorem dX10_turns_36 : decode cX10_turns 36 = .ok (.ireturn, 1) := by decide +kernel
theorem ok_X10_turns : okV yX10_turns cX10_turns 3 (some .int) 2 := ⟨mw_1107, mw_1108, mw_83, mw_1109, by decide +kernel, by decide +kernel⟩
abbrev rm_X10_turns : Room := { frames := 2, cells := 0, slots := 0, locals := 46 }
def w_X10_turns (post : Int32 → St → Prop) (σ : St) (x1 : Int32) (x2 : Int32) : Prop := w_X10_isRoof (fun r1 s1 => ((r1 = 0 → (post ((-1000000001)) s1)) ∧ (¬ r1 = 0 → (w_X10_isIn (fun r3 s3 => ((r3 = 0 → (post ((-1000000001)) s3)) ∧ (¬ r3 = 0 → (w_X10_changes (fun r5 s5 => post r5 s5) s3 (10 + (4 * x1)) x2)))) s1 x2.toInt64 ((0 : Int64)) ((5 : Int64)))))) σ x1
theorem B_X10_turns_0 (E : EnvW p s m args meth c D cy regsM ad "RoofWarModel" cX10_turns 3 (some .int)) (ha : Apart regsM ad) {post : Int32 → St → Prop} {σ : St} {x1 : Int32} {x2 : Int32} (hw : w_X10_turns post σ x1 x2) {H : Heap} {locs : List Loc} {ls : Array Slot} (hP : va_P D CLS (wM cy ad σ) H) (hS : va_S (AM ad s.heap.size) s.heap H locs) (hl : lv_has ls 3 [(0, .ref (ad 0 0)), (1, .int x1), (2, .int x2)]) : W p l e rm_X10_turns s m args below meth c H locs 0 0 (MQ below (QI D cy (cellM cy ad) regsM ad s.heap.size post) args s 0 0 (AM ad s.heap.size)) (F0 m 0 ls []) := by
  obtain ⟨hx, hb, -⟩ := id E
  unfold w_X10_turns at hw
  refine lv_aload_n hx hb dX10_turns_0 rfl (lv_at hl 0 rfl) ?_
  refine lv_iload_n hx hb dX10_turns_1 rfl (lv_at hl 1 rfl) ?_
  refine g_cVi (As := [.int x1]) (rest := []) E hl.1 (c_X10_isRoof l D cy ad ha hw _) ok_X10_isRoof mw_1082 ⟨(Nat.le_of_ble_eq_true rfl), (Nat.le_of_ble_eq_true rfl)⟩ ⟨rfl, rfl⟩ rM0 rfl rfl rfl rfl rfl (Nat.le_of_ble_eq_true rfl) ⟨Nat.zero_le _, Nat.zero_le _⟩ hP hS dX10_turns_2 (fun r1 s1 hw H locs hP hS => ?_)
  obtain ⟨z1, hw⟩ := hw
  refine lv_if_eq (tgt := 34) hx hb dX10_turns_5 (by decide) (fun c2 => ?_) (fun c2 => ?_)
  · replace hw := hw.1 c2
    refine g_ldc (v := -1000000001) E mw_1063 dX10_turns_34 ?_
    exact g_iret E hw hP hS dX10_turns_36
  · replace hw := hw.2 c2
    refine lv_iload_n hx hb dX10_turns_8 rfl (lv_at hl 2 rfl) ?_
    refine lv_i2l (v := x2.toInt64) hx hb dX10_turns_9 rfl ?_
    refine lv_lconst (v := 0) hx hb dX10_turns_10 (by decide) ?_
    refine g_ldc2 (v := 5) E mw_1053 dX10_turns_11 ?_
    refine g_cSi (As := [.long x2.toInt64, .long ((0 : Int64)), .long ((5 : Int64))]) (rest := []) E hl.1 (c_X10_isIn l D cy ad ha hw _) ok_X10_isIn mw_1054 ⟨(Nat.le_of_ble_eq_true rfl), (Nat.le_of_ble_eq_true rfl)⟩ ⟨rfl, rfl⟩ rfl rfl (Nat.le_of_ble_eq_true rfl) ⟨Nat.zero_le _, Nat.zero_le _⟩ hP hS dX10_turns_14 (fun r3 s3 hw H locs hP hS => ?_)
    obtain ⟨z3, hw⟩ := hw
    refine lv_if_eq (tgt := 34) hx hb dX10_turns_17 (by decide) (fun c4 => ?_) (fun c4 => ?_)
    · replace hw := hw.1 c4
      refine g_ldc (v := -1000000001) E mw_1063 dX10_turns_34 ?_
      exact g_iret E hw hP hS dX10_turns_36
    · replace hw := hw.2 c4
      refine lv_aload_n hx hb dX10_turns_20 rfl (lv_at hl 0 rfl) ?_
      refine lv_bipush (v := 10) hx hb dX10_turns_21 (by decide) ?_
      refine lv_iconst (v := 4) hx hb dX10_turns_23 (by decide) ?_
      refine lv_iload_n hx hb dX10_turns_24 rfl (lv_at hl 1 rfl) ?_
      refine lv_imul hx hb dX10_turns_25 ?_
      refine lv_iadd hx hb dX10_turns_26 ?_
      refine lv_iload_n hx hb dX10_turns_27 rfl (lv_at hl 2 rfl) ?_
      refine g_cVi (As := [.int (10 + (4 * x1)), .int x2]) (rest := []) E hl.1 (c_X10_changes l D cy ad ha hw _) ok_X10_changes mw_1110 ⟨(Nat.le_of_ble_eq_true rfl), (Nat.le_of_ble_eq_true rfl)⟩ ⟨rfl, rfl⟩ rM0 rfl rfl rfl rfl rfl (Nat.le_of_ble_eq_true rfl) ⟨Nat.zero_le _, Nat.zero_le _⟩ hP hS dX10_turns_28 (fun r5 s5 hw H locs hP hS => ?_)
      refine lv_goto (tgt := 36) hx hb dX10_turns_31 (by decide) ?_
      exact g_iret E hw hP hS dX10_turns_36
theorem c_X10_turns (l : Launch) (D : va_G) (cy : Nat → ClassId) (ad : Nat → Nat → Nat) (ha : Apart regsM ad) {post : Int32 → St → Prop} {σ : St} {x1 : Int32} {x2 : Int32} (hw : w_X10_turns post σ x1 x2) (sz : Nat) : MetI l yX10_turns cX10_turns 3 .int rm_X10_turns [.ref (ad 0 0), .int x1, .int x2] D cy (cellM cy ad) regsM ad σ sz post :=
  Met_inI ok_X10_turns.2.2.2.2.2 (Nat.le_of_ble_eq_true rfl) (fun p e s m below meth c ls E hP hl => B_X10_turns_0 E ha hw hP va_S.rf hl)
-- RoofWarModel.set(III)I
theorem dX10_set_0 : decode cX10_set 0 = .ok (.aload_n 0, 1) := by decide +kernel
theorem dX10_set_1 : decode cX10_set 1 = .ok (.iload_n 1, 1) := by decide +kernel
theorem dX10_set_2 : decode cX10_set 2 = .ok (.invokevirtual 107, 3) := by decide +kernel
theorem dX10_set_5 : decode cX10_set 5 = .ok (.ifCond .eq 47, 3) := by decide +kernel
theorem dX10_set_8 : decode cX10_set 8 = .ok (.iload_n 2, 1) := by decide +kernel
theorem dX10_set_9 : decode cX10_set 9 = .ok (.i2l, 1) := by decide +kernel
theorem dX10_set_10 : decode cX10_set 10 = .ok (.lconst 1, 1) := by decide +kernel
theorem dX10_set_11 : decode cX10_set 11 = .ok (.ldc2_w 132, 3) := by decide +kernel
theorem dX10_set_14 : decode cX10_set 14 = .ok (.invokestatic 71, 3) := by decide +kernel
theorem dX10_set_17 : decode cX10_set 17 = .ok (.ifCond .eq 35, 3) := by decide +kernel
theorem dX10_set_20 : decode cX10_set 20 = .ok (.iload_n 2, 1) := by decide +kernel
theorem dX10_set_21 : decode cX10_set 21 = .ok (.iconst 1, 1) := by decide +kernel
theorem dX10_set_22 : decode cX10_set 22 = .ok (.if_icmp .ne 18, 3) := by decide +kernel
theorem dX10_set_25 : decode cX10_set 25 = .ok (.iload_n 3, 1) := by decide +kernel
theorem dX10_set_26 : decode cX10_set 26 = .ok (.i2l, 1) := by decide +kernel
theorem dX10_set_27 : decode cX10_set 27 = .ok (.lconst 1, 1) := by decide +kernel
theorem dX10_set_28 : decode cX10_set 28 = .ok (.ldc2_w 88, 3) := by decide +kernel
theorem dX10_set_31 : decode cX10_set 31 = .ok (.invokestatic 71, 3) := by decide +kernel
theorem dX10_set_34 : decode cX10_set 34 = .ok (.ifCond .eq 18, 3) := by decide +kernel
theorem dX10_set_37 : decode cX10_set 37 = .ok (.goto 18, 3) := by decide +kernel
theorem dX10_set_40 : decode cX10_set 40 = .ok (.iload_n 3, 1) := by decide +kernel
theorem dX10_set_41 : decode cX10_set 41 = .ok (.i2l, 1) := by decide +kernel
theorem dX10_set_42 : decode cX10_set 42 = .ok (.lconst 0, 1) := by decide +kernel
theorem dX10_set_43 : decode cX10_set 43 = .ok (.ldc2_w 90, 3) := by decide +kernel
theorem dX10_set_46 : decode cX10_set 46 = .ok (.invokestatic 71, 3) := by decide +kernel
theorem dX10_set_49 : decode cX10_set 49 = .ok (.ifCond .ne 6, 3) := by decide +kernel
theorem dX10_set_52 : decode cX10_set 52 = .ok (.ldc 96, 2) := by decide +kernel
theorem dX10_set_54 : decode cX10_set 54 = .ok (.ireturn, 1) := by decide +kernel
theorem dX10_set_55 : decode cX10_set 55 = .ok (.aload_n 0, 1) := by decide +kernel
theorem dX10_set_56 : decode cX10_set 56 = .ok (.bipush 10, 2) := by decide +kernel
theorem dX10_set_58 : decode cX10_set 58 = .ok (.iconst 4, 1) := by decide +kernel
theorem dX10_set_59 : decode cX10_set 59 = .ok (.iload_n 1, 1) := by decide +kernel
theorem dX10_set_60 : decode cX10_set 60 = .ok (.imul, 1) := by decide +kernel
theorem dX10_set_61 : decode cX10_set 61 = .ok (.iadd, 1) := by decide +kernel
theorem dX10_set_62 : decode cX10_set 62 = .ok (.iload_n 2, 1) := by decide +kernel
theorem dX10_set_63 : decode cX10_set 63 = .ok (.iadd, 1) := by decide +kernel
theorem dX10_set_64 : decode cX10_set 64 = .ok (.iload_n 3, 1) := by decide +kernel
theorem dX10_set_65 : decode cX10_set 65 = .ok (.invokevirtual 129, 3) := by decide +kernel
theorem dX10_set_68 : decode cX10_set 68 = .ok (.ireturn, 1) := by decide +kernel
theorem ok_X10_set : okV yX10_set cX10_set 4 (some .int) 3 := ⟨mw_1114, mw_1115, mw_83, mw_1116, by decide +kernel, by decide +kernel⟩
abbrev rm_X10_set : Room := { frames := 2, cells := 0, slots := 0, locals := 46 }
def b_X10_set_55 (post : Int32 → St → Prop) (σ : St) (x1 : Int32) (x2 : Int32) (x3 : Int32) : Prop := w_X10_changes (fun r1 s1 => post r1 s1) σ ((10 + (4 * x1)) + x2) x3
theorem B_X10_set_55 (E : EnvW p s m args meth c D cy regsM ad "RoofWarModel" cX10_set 4 (some .int)) (ha : Apart regsM ad) {post : Int32 → St → Prop} {σ : St} {x1 : Int32} {x2 : Int32} {x3 : Int32} (hw : b_X10_set_55 post σ x1 x2 x3) {H : Heap} {locs : List Loc} {ls : Array Slot} (hP : va_P D CLS (wM cy ad σ) H) (hS : va_S (AM ad s.heap.size) s.heap H locs) (hl : lv_has ls 4 [(0, .ref (ad 0 0)), (1, .int x1), (2, .int x2), (3, .int x3)]) : W p l e rm_X10_set s m args below meth c H locs 0 0 (MQ below (QI D cy (cellM cy ad) regsM ad s.heap.size post) args s 0 0 (AM ad s.heap.size)) (F0 m 55 ls []) := by
  obtain ⟨hx, hb, -⟩ := id E
  unfold b_X10_set_55 at hw
  refine lv_aload_n hx hb dX10_set_55 rfl (lv_at hl 0 rfl) ?_
  refine lv_bipush (v := 10) hx hb dX10_set_56 (by decide) ?_
  refine lv_iconst (v := 4) hx hb dX10_set_58 (by decide) ?_
  refine lv_iload_n hx hb dX10_set_59 rfl (lv_at hl 1 rfl) ?_
  refine lv_imul hx hb dX10_set_60 ?_
  refine lv_iadd hx hb dX10_set_61 ?_
  refine lv_iload_n hx hb dX10_set_62 rfl (lv_at hl 2 rfl) ?_
  refine lv_iadd hx hb dX10_set_63 ?_
  refine lv_iload_n hx hb dX10_set_64 rfl (lv_at hl 3 rfl) ?_
  refine g_cVi (As := [.int ((10 + (4 * x1)) + x2), .int x3]) (rest := []) E hl.1 (c_X10_changes l D cy ad ha hw _) ok_X10_changes mw_1110 ⟨(Nat.le_of_ble_eq_true rfl), (Nat.le_of_ble_eq_true rfl)⟩ ⟨rfl, rfl⟩ rM0 rfl rfl rfl rfl rfl (Nat.le_of_ble_eq_true rfl) ⟨Nat.zero_le _, Nat.zero_le _⟩ hP hS dX10_set_65 (fun r1 s1 hw H locs hP hS => ?_)
  exact g_iret E hw hP hS dX10_set_68
def w_X10_set (post : Int32 → St → Prop) (σ : St) (x1 : Int32) (x2 : Int32) (x3 : Int32) : Prop := w_X10_isRoof (fun r1 s1 => ((r1 = 0 → (post ((-1000000001)) s1)) ∧ (¬ r1 = 0 → (w_X10_isIn (fun r3 s3 => ((r3 = 0 → (post ((-1000000001)) s3)) ∧ (¬ r3 = 0 → (((¬ x2 = 1 → (w_X10_isIn (fun r6 s6 => ((¬ r6 = 0 → (b_X10_set_55 post s6 x1 x2 x3)) ∧ (r6 = 0 → (post ((-1000000001)) s6)))) s3 x3.toInt64 ((0 : Int64)) ((99 : Int64)))) ∧ (x2 = 1 → (w_X10_isIn (fun r8 s8 => ((r8 = 0 → (post ((-1000000001)) s8)) ∧ (¬ r8 = 0 → (b_X10_set_55 post s8 x1 x2 x3)))) s3 x3.toInt64 ((1 : Int64)) ((9 : Int64))))))))) s1 x2.toInt64 ((1 : Int64)) ((2 : Int64)))))) σ x1
theorem B_X10_set_0 (E : EnvW p s m args meth c D cy regsM ad "RoofWarModel" cX10_set 4 (some .int)) (ha : Apart regsM ad) {post : Int32 → St → Prop} {σ : St} {x1 : Int32} {x2 : Int32} {x3 : Int32} (hw : w_X10_set post σ x1 x2 x3) {H : Heap} {locs : List Loc} {ls : Array Slot} (hP : va_P D CLS (wM cy ad σ) H) (hS : va_S (AM ad s.heap.size) s.heap H locs) (hl : lv_has ls 4 [(0, .ref (ad 0 0)), (1, .int x1), (2, .int x2), (3, .int x3)]) : W p l e rm_X10_set s m args below meth c H locs 0 0 (MQ below (QI D cy (cellM cy ad) regsM ad s.heap.size post) args s 0 0 (AM ad s.heap.size)) (F0 m 0 ls []) := by
  obtain ⟨hx, hb, -⟩ := id E
  unfold w_X10_set at hw
  refine lv_aload_n hx hb dX10_set_0 rfl (lv_at hl 0 rfl) ?_
  refine lv_iload_n hx hb dX10_set_1 rfl (lv_at hl 1 rfl) ?_
  refine g_cVi (As := [.int x1]) (rest := []) E hl.1 (c_X10_isRoof l D cy ad ha hw _) ok_X10_isRoof mw_1082 ⟨(Nat.le_of_ble_eq_true rfl), (Nat.le_of_ble_eq_true rfl)⟩ ⟨rfl, rfl⟩ rM0 rfl rfl rfl rfl rfl (Nat.le_of_ble_eq_true rfl) ⟨Nat.zero_le _, Nat.zero_le _⟩ hP hS dX10_set_2 (fun r1 s1 hw H locs hP hS => ?_)
  obtain ⟨z1, hw⟩ := hw
  refine lv_if_eq (tgt := 52) hx hb dX10_set_5 (by decide) (fun c2 => ?_) (fun c2 => ?_)
  · replace hw := hw.1 c2
    refine g_ldc (v := -1000000001) E mw_1063 dX10_set_52 ?_
    exact g_iret E hw hP hS dX10_set_54
  · replace hw := hw.2 c2
    refine lv_iload_n hx hb dX10_set_8 rfl (lv_at hl 2 rfl) ?_
    refine lv_i2l (v := x2.toInt64) hx hb dX10_set_9 rfl ?_
    refine lv_lconst (v := 1) hx hb dX10_set_10 (by decide) ?_
    refine g_ldc2 (v := 2) E mw_1117 dX10_set_11 ?_
    refine g_cSi (As := [.long x2.toInt64, .long ((1 : Int64)), .long ((2 : Int64))]) (rest := []) E hl.1 (c_X10_isIn l D cy ad ha hw _) ok_X10_isIn mw_1054 ⟨(Nat.le_of_ble_eq_true rfl), (Nat.le_of_ble_eq_true rfl)⟩ ⟨rfl, rfl⟩ rfl rfl (Nat.le_of_ble_eq_true rfl) ⟨Nat.zero_le _, Nat.zero_le _⟩ hP hS dX10_set_14 (fun r3 s3 hw H locs hP hS => ?_)
    obtain ⟨z3, hw⟩ := hw
    refine lv_if_eq (tgt := 52) hx hb dX10_set_17 (by decide) (fun c4 => ?_) (fun c4 => ?_)
    · replace hw := hw.1 c4
      refine g_ldc (v := -1000000001) E mw_1063 dX10_set_52 ?_
      exact g_iret E hw hP hS dX10_set_54
    · replace hw := hw.2 c4
      refine lv_iload_n hx hb dX10_set_20 rfl (lv_at hl 2 rfl) ?_
      refine lv_iconst (v := 1) hx hb dX10_set_21 (by decide) ?_
      refine lv_icmp_ne (tgt := 40) hx hb dX10_set_22 (by decide) (fun c5 => ?_) (fun c5 => ?_)
      · replace hw := hw.1 c5
        refine lv_iload_n hx hb dX10_set_40 rfl (lv_at hl 3 rfl) ?_
        refine lv_i2l (v := x3.toInt64) hx hb dX10_set_41 rfl ?_
        refine lv_lconst (v := 0) hx hb dX10_set_42 (by decide) ?_
        refine g_ldc2 (v := 99) E mw_1058 dX10_set_43 ?_
        refine g_cSi (As := [.long x3.toInt64, .long ((0 : Int64)), .long ((99 : Int64))]) (rest := []) E hl.1 (c_X10_isIn l D cy ad ha hw _) ok_X10_isIn mw_1054 ⟨(Nat.le_of_ble_eq_true rfl), (Nat.le_of_ble_eq_true rfl)⟩ ⟨rfl, rfl⟩ rfl rfl (Nat.le_of_ble_eq_true rfl) ⟨Nat.zero_le _, Nat.zero_le _⟩ hP hS dX10_set_46 (fun r6 s6 hw H locs hP hS => ?_)
        obtain ⟨z6, hw⟩ := hw
        refine lv_if_ne (tgt := 55) hx hb dX10_set_49 (by decide) (fun c7 => ?_) (fun c7 => ?_)
        · replace hw := hw.1 c7
          exact B_X10_set_55 E ha hw hP hS (lv_sub hl [0, 1, 2, 3] rfl)
        · replace hw := hw.2 c7
          refine g_ldc (v := -1000000001) E mw_1063 dX10_set_52 ?_
          exact g_iret E hw hP hS dX10_set_54
      · replace hw := hw.2 c5
        refine lv_iload_n hx hb dX10_set_25 rfl (lv_at hl 3 rfl) ?_
        refine lv_i2l (v := x3.toInt64) hx hb dX10_set_26 rfl ?_
        refine lv_lconst (v := 1) hx hb dX10_set_27 (by decide) ?_
        refine g_ldc2 (v := 9) E mw_1057 dX10_set_28 ?_
        refine g_cSi (As := [.long x3.toInt64, .long ((1 : Int64)), .long ((9 : Int64))]) (rest := []) E hl.1 (c_X10_isIn l D cy ad ha hw _) ok_X10_isIn mw_1054 ⟨(Nat.le_of_ble_eq_true rfl), (Nat.le_of_ble_eq_true rfl)⟩ ⟨rfl, rfl⟩ rfl rfl (Nat.le_of_ble_eq_true rfl) ⟨Nat.zero_le _, Nat.zero_le _⟩ hP hS dX10_set_31 (fun r8 s8 hw H locs hP hS => ?_)
        obtain ⟨z8, hw⟩ := hw
        refine lv_if_eq (tgt := 52) hx hb dX10_set_34 (by decide) (fun c9 => ?_) (fun c9 => ?_)
        · replace hw := hw.1 c9
          refine g_ldc (v := -1000000001) E mw_1063 dX10_set_52 ?_
          exact g_iret E hw hP hS dX10_set_54
        · replace hw := hw.2 c9
          refine lv_goto (tgt := 55) hx hb dX10_set_37 (by decide) ?_
          exact B_X10_set_55 E ha hw hP hS (lv_sub hl [0, 1, 2, 3] rfl)
theorem c_X10_set (l : Launch) (D : va_G) (cy : Nat → ClassId) (ad : Nat → Nat → Nat) (ha : Apart regsM ad) {post : Int32 → St → Prop} {σ : St} {x1 : Int32} {x2 : Int32} {x3 : Int32} (hw : w_X10_set post σ x1 x2 x3) (sz : Nat) : MetI l yX10_set cX10_set 4 .int rm_X10_set [.ref (ad 0 0), .int x1, .int x2, .int x3] D cy (cellM cy ad) regsM ad σ sz post :=
  Met_inI ok_X10_set.2.2.2.2.2 (Nat.le_of_ble_eq_true rfl) (fun p e s m below meth c ls E hP hl => B_X10_set_0 E ha hw hP va_S.rf hl)
-- RoofWarModel.moves(II)I
theorem dX10_moves_0 : decode cX10_moves 0 = .ok (.aload_n 0, 1) := by decide +kernel
theorem dX10_moves_1 : decode cX10_moves 1 = .ok (.iload_n 1, 1) := by decide +kernel
theorem dX10_moves_2 : decode cX10_moves 2 = .ok (.invokevirtual 107, 3) := by decide +kernel
theorem dX10_moves_5 : decode cX10_moves 5 = .ok (.ifCond .eq 10, 3) := by decide +kernel
theorem dX10_moves_8 : decode cX10_moves 8 = .ok (.iload_n 2, 1) := by decide +kernel
theorem dX10_moves_9 : decode cX10_moves 9 = .ok (.invokestatic 92, 3) := by decide +kernel
theorem dX10_moves_12 : decode cX10_moves 12 = .ok (.ifCond .ne 6, 3) := by decide +kernel
theorem dX10_moves_15 : decode cX10_moves 15 = .ok (.ldc 96, 2) := by decide +kernel
theorem dX10_moves_17 : decode cX10_moves 17 = .ok (.ireturn, 1) := by decide +kernel
theorem dX10_moves_18 : decode cX10_moves 18 = .ok (.aload_n 0, 1) := by decide +kernel
theorem dX10_moves_19 : decode cX10_moves 19 = .ok (.iload_n 2, 1) := by decide +kernel
theorem dX10_moves_20 : decode cX10_moves 20 = .ok (.invokevirtual 97, 3) := by decide +kernel
theorem dX10_moves_23 : decode cX10_moves 23 = .ok (.ifCond .ge 19, 3) := by decide +kernel
theorem dX10_moves_26 : decode cX10_moves 26 = .ok (.aload_n 0, 1) := by decide +kernel
theorem dX10_moves_27 : decode cX10_moves 27 = .ok (.bipush 10, 2) := by decide +kernel
theorem dX10_moves_29 : decode cX10_moves 29 = .ok (.iconst 4, 1) := by decide +kernel
theorem dX10_moves_30 : decode cX10_moves 30 = .ok (.iload_n 1, 1) := by decide +kernel
theorem dX10_moves_31 : decode cX10_moves 31 = .ok (.imul, 1) := by decide +kernel
theorem dX10_moves_32 : decode cX10_moves 32 = .ok (.iadd, 1) := by decide +kernel
theorem dX10_moves_33 : decode cX10_moves 33 = .ok (.iconst 3, 1) := by decide +kernel
theorem dX10_moves_34 : decode cX10_moves 34 = .ok (.iadd, 1) := by decide +kernel
theorem dX10_moves_35 : decode cX10_moves 35 = .ok (.iload_n 2, 1) := by decide +kernel
theorem dX10_moves_36 : decode cX10_moves 36 = .ok (.invokevirtual 129, 3) := by decide +kernel
theorem dX10_moves_39 : decode cX10_moves 39 = .ok (.goto 5, 3) := by decide +kernel
theorem dX10_moves_42 : decode cX10_moves 42 = .ok (.ldc 101, 2) := by decide +kernel
theorem dX10_moves_44 : decode cX10_moves 44 = .ok (.ireturn, 1) := by decide +kernel
theorem ok_X10_moves : okV yX10_moves cX10_moves 3 (some .int) 2 := ⟨mw_1119, mw_1120, mw_83, mw_1121, by decide +kernel, by decide +kernel⟩
abbrev rm_X10_moves : Room := { frames := 2, cells := 0, slots := 0, locals := 46 }
def w_X10_moves (post : Int32 → St → Prop) (σ : St) (x1 : Int32) (x2 : Int32) : Prop := w_X10_isRoof (fun r1 s1 => ((r1 = 0 → (post ((-1000000001)) s1)) ∧ (¬ r1 = 0 → (w_X10_isHouse (fun r3 s3 => ((¬ r3 = 0 → (w_X10_over (fun r5 s5 => ((0 ≤ r5 → (post ((-1000000002)) s5)) ∧ (¬ 0 ≤ r5 → (w_X10_changes (fun r7 s7 => post r7 s7) s5 ((10 + (4 * x1)) + 3) x2)))) s3 x2)) ∧ (r3 = 0 → (post ((-1000000001)) s3)))) s1 x2)))) σ x1
theorem B_X10_moves_0 (E : EnvW p s m args meth c D cy regsM ad "RoofWarModel" cX10_moves 3 (some .int)) (ha : Apart regsM ad) {post : Int32 → St → Prop} {σ : St} {x1 : Int32} {x2 : Int32} (hw : w_X10_moves post σ x1 x2) {H : Heap} {locs : List Loc} {ls : Array Slot} (hP : va_P D CLS (wM cy ad σ) H) (hS : va_S (AM ad s.heap.size) s.heap H locs) (hl : lv_has ls 3 [(0, .ref (ad 0 0)), (1, .int x1), (2, .int x2)]) : W p l e rm_X10_moves s m args below meth c H locs 0 0 (MQ below (QI D cy (cellM cy ad) regsM ad s.heap.size post) args s 0 0 (AM ad s.heap.size)) (F0 m 0 ls []) := by
  obtain ⟨hx, hb, -⟩ := id E
  unfold w_X10_moves at hw
  refine lv_aload_n hx hb dX10_moves_0 rfl (lv_at hl 0 rfl) ?_
  refine lv_iload_n hx hb dX10_moves_1 rfl (lv_at hl 1 rfl) ?_
  refine g_cVi (As := [.int x1]) (rest := []) E hl.1 (c_X10_isRoof l D cy ad ha hw _) ok_X10_isRoof mw_1082 ⟨(Nat.le_of_ble_eq_true rfl), (Nat.le_of_ble_eq_true rfl)⟩ ⟨rfl, rfl⟩ rM0 rfl rfl rfl rfl rfl (Nat.le_of_ble_eq_true rfl) ⟨Nat.zero_le _, Nat.zero_le _⟩ hP hS dX10_moves_2 (fun r1 s1 hw H locs hP hS => ?_)
  obtain ⟨z1, hw⟩ := hw
  refine lv_if_eq (tgt := 15) hx hb dX10_moves_5 (by decide) (fun c2 => ?_) (fun c2 => ?_)
  · replace hw := hw.1 c2
    refine g_ldc (v := -1000000001) E mw_1063 dX10_moves_15 ?_
    exact g_iret E hw hP hS dX10_moves_17
  · replace hw := hw.2 c2
    refine lv_iload_n hx hb dX10_moves_8 rfl (lv_at hl 2 rfl) ?_
    refine g_cSi (As := [.int x2]) (rest := []) E hl.1 (c_X10_isHouse l D cy ad ha hw _) ok_X10_isHouse mw_1059 ⟨(Nat.le_of_ble_eq_true rfl), (Nat.le_of_ble_eq_true rfl)⟩ ⟨rfl, rfl⟩ rfl rfl (Nat.le_of_ble_eq_true rfl) ⟨Nat.zero_le _, Nat.zero_le _⟩ hP hS dX10_moves_9 (fun r3 s3 hw H locs hP hS => ?_)
    obtain ⟨z3, hw⟩ := hw
    refine lv_if_ne (tgt := 18) hx hb dX10_moves_12 (by decide) (fun c4 => ?_) (fun c4 => ?_)
    · replace hw := hw.1 c4
      refine lv_aload_n hx hb dX10_moves_18 rfl (lv_at hl 0 rfl) ?_
      refine lv_iload_n hx hb dX10_moves_19 rfl (lv_at hl 2 rfl) ?_
      refine g_cVi (As := [.int x2]) (rest := []) E hl.1 (c_X10_over l D cy ad ha hw _) ok_X10_over mw_1064 ⟨(Nat.le_of_ble_eq_true rfl), (Nat.le_of_ble_eq_true rfl)⟩ ⟨rfl, rfl⟩ rM0 rfl rfl rfl rfl rfl (Nat.le_of_ble_eq_true rfl) ⟨Nat.zero_le _, Nat.zero_le _⟩ hP hS dX10_moves_20 (fun r5 s5 hw H locs hP hS => ?_)
      refine lv_if_ge (tgt := 42) hx hb dX10_moves_23 (by decide) (fun c6 => ?_) (fun c6 => ?_)
      · replace hw := hw.1 c6
        refine g_ldc (v := -1000000002) E mw_1070 dX10_moves_42 ?_
        exact g_iret E hw hP hS dX10_moves_44
      · replace hw := hw.2 c6
        refine lv_aload_n hx hb dX10_moves_26 rfl (lv_at hl 0 rfl) ?_
        refine lv_bipush (v := 10) hx hb dX10_moves_27 (by decide) ?_
        refine lv_iconst (v := 4) hx hb dX10_moves_29 (by decide) ?_
        refine lv_iload_n hx hb dX10_moves_30 rfl (lv_at hl 1 rfl) ?_
        refine lv_imul hx hb dX10_moves_31 ?_
        refine lv_iadd hx hb dX10_moves_32 ?_
        refine lv_iconst (v := 3) hx hb dX10_moves_33 (by decide) ?_
        refine lv_iadd hx hb dX10_moves_34 ?_
        refine lv_iload_n hx hb dX10_moves_35 rfl (lv_at hl 2 rfl) ?_
        refine g_cVi (As := [.int ((10 + (4 * x1)) + 3), .int x2]) (rest := []) E hl.1 (c_X10_changes l D cy ad ha hw _) ok_X10_changes mw_1110 ⟨(Nat.le_of_ble_eq_true rfl), (Nat.le_of_ble_eq_true rfl)⟩ ⟨rfl, rfl⟩ rM0 rfl rfl rfl rfl rfl (Nat.le_of_ble_eq_true rfl) ⟨Nat.zero_le _, Nat.zero_le _⟩ hP hS dX10_moves_36 (fun r7 s7 hw H locs hP hS => ?_)
        refine lv_goto (tgt := 44) hx hb dX10_moves_39 (by decide) ?_
        exact g_iret E hw hP hS dX10_moves_44
    · replace hw := hw.2 c4
      refine g_ldc (v := -1000000001) E mw_1063 dX10_moves_15 ?_
      exact g_iret E hw hP hS dX10_moves_17
theorem c_X10_moves (l : Launch) (D : va_G) (cy : Nat → ClassId) (ad : Nat → Nat → Nat) (ha : Apart regsM ad) {post : Int32 → St → Prop} {σ : St} {x1 : Int32} {x2 : Int32} (hw : w_X10_moves post σ x1 x2) (sz : Nat) : MetI l yX10_moves cX10_moves 3 .int rm_X10_moves [.ref (ad 0 0), .int x1, .int x2] D cy (cellM cy ad) regsM ad σ sz post :=
  Met_inI ok_X10_moves.2.2.2.2.2 (Nat.le_of_ble_eq_true rfl) (fun p e s m below meth c ls E hP hl => B_X10_moves_0 E ha hw hP va_S.rf hl)
-- RoofWarModel.least(II)I
theorem dX10_least_0 : decode cX10_least 0 = .ok (.iload_n 1, 1) := by decide +kernel
theorem dX10_least_1 : decode cX10_least 1 = .ok (.iload_n 2, 1) := by decide +kernel
theorem dX10_least_2 : decode cX10_least 2 = .ok (.if_icmp .ge 7, 3) := by decide +kernel
theorem dX10_least_5 : decode cX10_least 5 = .ok (.iload_n 1, 1) := by decide +kernel
theorem dX10_least_6 : decode cX10_least 6 = .ok (.goto 4, 3) := by decide +kernel
theorem dX10_least_9 : decode cX10_least 9 = .ok (.iload_n 2, 1) := by decide +kernel
theorem dX10_least_10 : decode cX10_least 10 = .ok (.ireturn, 1) := by decide +kernel
theorem ok_X10_least : okV yX10_least cX10_least 3 (some .int) 2 := ⟨mw_1135, mw_33, mw_83, mw_1136, by decide +kernel, by decide +kernel⟩
abbrev rm_X10_least : Room := { frames := 0, cells := 0, slots := 0, locals := 0 }
def w_X10_least (post : Int32 → St → Prop) (σ : St) (x1 : Int32) (x2 : Int32) : Prop := ((x2 ≤ x1 → (post x2 σ)) ∧ (¬ x2 ≤ x1 → (post x1 σ)))
theorem B_X10_least_0 (E : EnvW p s m args meth c D cy regsM ad "RoofWarModel" cX10_least 3 (some .int)) (ha : Apart regsM ad) {post : Int32 → St → Prop} {σ : St} {x1 : Int32} {x2 : Int32} (hw : w_X10_least post σ x1 x2) {H : Heap} {locs : List Loc} {ls : Array Slot} (hP : va_P D CLS (wM cy ad σ) H) (hS : va_S (AM ad s.heap.size) s.heap H locs) (hl : lv_has ls 3 [(0, .ref (ad 0 0)), (1, .int x1), (2, .int x2)]) : W p l e rm_X10_least s m args below meth c H locs 0 0 (MQ below (QI D cy (cellM cy ad) regsM ad s.heap.size post) args s 0 0 (AM ad s.heap.size)) (F0 m 0 ls []) := by
  obtain ⟨hx, hb, -⟩ := id E
  unfold w_X10_least at hw
  refine lv_iload_n hx hb dX10_least_0 rfl (lv_at hl 1 rfl) ?_
  refine lv_iload_n hx hb dX10_least_1 rfl (lv_at hl 2 rfl) ?_
  refine lv_icmp_ge (tgt := 9) hx hb dX10_least_2 (by decide) (fun c1 => ?_) (fun c1 => ?_)
  · replace hw := hw.1 c1
    refine lv_iload_n hx hb dX10_least_9 rfl (lv_at hl 2 rfl) ?_
    exact g_iret E hw hP hS dX10_least_10
  · replace hw := hw.2 c1
    refine lv_iload_n hx hb dX10_least_5 rfl (lv_at hl 1 rfl) ?_
    refine lv_goto (tgt := 10) hx hb dX10_least_6 (by decide) ?_
    exact g_iret E hw hP hS dX10_least_10
theorem c_X10_least (l : Launch) (D : va_G) (cy : Nat → ClassId) (ad : Nat → Nat → Nat) (ha : Apart regsM ad) {post : Int32 → St → Prop} {σ : St} {x1 : Int32} {x2 : Int32} (hw : w_X10_least post σ x1 x2) (sz : Nat) : MetI l yX10_least cX10_least 3 .int rm_X10_least [.ref (ad 0 0), .int x1, .int x2] D cy (cellM cy ad) regsM ad σ sz post :=
  Met_inI ok_X10_least.2.2.2.2.2 (Nat.le_of_ble_eq_true rfl) (fun p e s m below meth c ls E hP hl => B_X10_least_0 E ha hw hP va_S.rf hl)
-- RoofWarModel.dryIn(I)I
theorem dX10_dryIn_0 : decode cX10_dryIn 0 = .ok (.aload_n 0, 1) := by decide +kernel
theorem dX10_dryIn_1 : decode cX10_dryIn 1 = .ok (.iload_n 1, 1) := by decide +kernel
theorem dX10_dryIn_2 : decode cX10_dryIn 2 = .ok (.invokevirtual 97, 3) := by decide +kernel
theorem dX10_dryIn_5 : decode cX10_dryIn 5 = .ok (.istore_n 2, 1) := by decide +kernel
theorem dX10_dryIn_6 : decode cX10_dryIn 6 = .ok (.iload_n 2, 1) := by decide +kernel
theorem dX10_dryIn_7 : decode cX10_dryIn 7 = .ok (.ifCond .ge 7, 3) := by decide +kernel
theorem dX10_dryIn_10 : decode cX10_dryIn 10 = .ok (.iconst 0, 1) := by decide +kernel
theorem dX10_dryIn_11 : decode cX10_dryIn 11 = .ok (.goto 21, 3) := by decide +kernel
theorem dX10_dryIn_14 : decode cX10_dryIn 14 = .ok (.aload_n 0, 1) := by decide +kernel
theorem dX10_dryIn_15 : decode cX10_dryIn 15 = .ok (.aload_n 0, 1) := by decide +kernel
theorem dX10_dryIn_16 : decode cX10_dryIn 16 = .ok (.getfield 7, 3) := by decide +kernel
theorem dX10_dryIn_19 : decode cX10_dryIn 19 = .ok (.bipush 58, 2) := by decide +kernel
theorem dX10_dryIn_21 : decode cX10_dryIn 21 = .ok (.iload_n 1, 1) := by decide +kernel
theorem dX10_dryIn_22 : decode cX10_dryIn 22 = .ok (.iadd, 1) := by decide +kernel
theorem dX10_dryIn_23 : decode cX10_dryIn 23 = .ok (.iaload, 1) := by decide +kernel
theorem dX10_dryIn_24 : decode cX10_dryIn 24 = .ok (.aload_n 0, 1) := by decide +kernel
theorem dX10_dryIn_25 : decode cX10_dryIn 25 = .ok (.iload_n 2, 1) := by decide +kernel
theorem dX10_dryIn_26 : decode cX10_dryIn 26 = .ok (.invokevirtual 115, 3) := by decide +kernel
theorem dX10_dryIn_29 : decode cX10_dryIn 29 = .ok (.invokevirtual 134, 3) := by decide +kernel
theorem dX10_dryIn_32 : decode cX10_dryIn 32 = .ok (.ireturn, 1) := by decide +kernel
theorem ok_X10_dryIn : okV yX10_dryIn cX10_dryIn 3 (some .int) 1 := ⟨mw_1132, mw_32, mw_83, mw_1133, by decide +kernel, by decide +kernel⟩
abbrev rm_X10_dryIn : Room := { frames := 2, cells := 0, slots := 0, locals := 44 }
def w_X10_dryIn (post : Int32 → St → Prop) (σ : St) (x1 : Int32) : Prop := w_X10_over (fun r1 s1 => ((0 ≤ r1 → (vp_in (58 + x1) 3082 ∧ (w_X10_covers (fun r4 s4 => w_X10_least (fun r5 s5 => post r5 s5) s4 (s1 1 0 (58 + x1).toNatClampNeg) r4) s1 r1))) ∧ (¬ 0 ≤ r1 → (post 0 s1)))) σ x1
theorem B_X10_dryIn_0 (E : EnvW p s m args meth c D cy regsM ad "RoofWarModel" cX10_dryIn 3 (some .int)) (ha : Apart regsM ad) {post : Int32 → St → Prop} {σ : St} {x1 : Int32} (hw : w_X10_dryIn post σ x1) {H : Heap} {locs : List Loc} {ls : Array Slot} (hP : va_P D CLS (wM cy ad σ) H) (hS : va_S (AM ad s.heap.size) s.heap H locs) (hl : lv_has ls 3 [(0, .ref (ad 0 0)), (1, .int x1)]) : W p l e rm_X10_dryIn s m args below meth c H locs 0 0 (MQ below (QI D cy (cellM cy ad) regsM ad s.heap.size post) args s 0 0 (AM ad s.heap.size)) (F0 m 0 ls []) := by
  obtain ⟨hx, hb, -⟩ := id E
  unfold w_X10_dryIn at hw
  refine lv_aload_n hx hb dX10_dryIn_0 rfl (lv_at hl 0 rfl) ?_
  refine lv_iload_n hx hb dX10_dryIn_1 rfl (lv_at hl 1 rfl) ?_
  refine g_cVi (As := [.int x1]) (rest := []) E hl.1 (c_X10_over l D cy ad ha hw _) ok_X10_over mw_1064 ⟨(Nat.le_of_ble_eq_true rfl), (Nat.le_of_ble_eq_true rfl)⟩ ⟨rfl, rfl⟩ rM0 rfl rfl rfl rfl rfl (Nat.le_of_ble_eq_true rfl) ⟨Nat.zero_le _, Nat.zero_le _⟩ hP hS dX10_dryIn_2 (fun r1 s1 hw H locs hP hS => ?_)
  refine lv_istore_n (lv' := [(2, .int r1), (0, .ref (ad 0 0)), (1, .int x1)]) hx hb dX10_dryIn_5 rfl hl (by decide) rfl (fun ls hl => ?_)
  refine lv_iload_n hx hb dX10_dryIn_6 rfl (lv_at hl 0 rfl) ?_
  refine lv_if_ge (tgt := 14) hx hb dX10_dryIn_7 (by decide) (fun c2 => ?_) (fun c2 => ?_)
  · replace hw := hw.1 c2
    refine lv_aload_n hx hb dX10_dryIn_14 rfl (lv_at hl 1 rfl) ?_
    refine lv_aload_n hx hb dX10_dryIn_15 rfl (lv_at hl 1 rfl) ?_
    refine fX10_0 E hP mw_946 dX10_dryIn_16 ?_
    refine lv_bipush (v := 58) hx hb dX10_dryIn_19 (by decide) ?_
    refine lv_iload_n hx hb dX10_dryIn_21 rfl (lv_at hl 2 rfl) ?_
    refine lv_iadd hx hb dX10_dryIn_22 ?_
    obtain ⟨h3, hw⟩ := hw
    refine aM1 E hP h3 dX10_dryIn_23 ?_
    refine lv_aload_n hx hb dX10_dryIn_24 rfl (lv_at hl 1 rfl) ?_
    refine lv_iload_n hx hb dX10_dryIn_25 rfl (lv_at hl 0 rfl) ?_
    refine g_cVi (As := [.int r1]) (rest := [.int (s1 1 0 (58 + x1).toNatClampNeg), .ref (ad 0 0)]) E hl.1 (c_X10_covers l D cy ad ha hw _) ok_X10_covers mw_1089 ⟨(Nat.le_of_ble_eq_true rfl), (Nat.le_of_ble_eq_true rfl)⟩ ⟨rfl, rfl⟩ rM0 rfl rfl rfl rfl rfl (Nat.le_of_ble_eq_true rfl) ⟨Nat.zero_le _, Nat.zero_le _⟩ hP hS dX10_dryIn_26 (fun r4 s4 hw H locs hP hS => ?_)
    refine g_cVi (As := [.int (s1 1 0 (58 + x1).toNatClampNeg), .int r4]) (rest := []) E hl.1 (c_X10_least l D cy ad ha hw _) ok_X10_least mw_1134 ⟨(Nat.le_of_ble_eq_true rfl), (Nat.le_of_ble_eq_true rfl)⟩ ⟨rfl, rfl⟩ rM0 rfl rfl rfl rfl rfl (Nat.le_of_ble_eq_true rfl) ⟨Nat.zero_le _, Nat.zero_le _⟩ hP hS dX10_dryIn_29 (fun r5 s5 hw H locs hP hS => ?_)
    exact g_iret E hw hP hS dX10_dryIn_32
  · replace hw := hw.2 c2
    refine lv_iconst (v := 0) hx hb dX10_dryIn_10 (by decide) ?_
    refine lv_goto (tgt := 32) hx hb dX10_dryIn_11 (by decide) ?_
    exact g_iret E hw hP hS dX10_dryIn_32
theorem c_X10_dryIn (l : Launch) (D : va_G) (cy : Nat → ClassId) (ad : Nat → Nat → Nat) (ha : Apart regsM ad) {post : Int32 → St → Prop} {σ : St} {x1 : Int32} (hw : w_X10_dryIn post σ x1) (sz : Nat) : MetI l yX10_dryIn cX10_dryIn 3 .int rm_X10_dryIn [.ref (ad 0 0), .int x1] D cy (cellM cy ad) regsM ad σ sz post :=
  Met_inI ok_X10_dryIn.2.2.2.2.2 (Nat.le_of_ble_eq_true rfl) (fun p e s m below meth c ls E hP hl => B_X10_dryIn_0 E ha hw hP va_S.rf hl)
-- RoofWarModel.dryOf(I)I
theorem dX10_dryOf_0 : decode cX10_dryOf 0 = .ok (.iconst 0, 1) := by decide +kernel
theorem dX10_dryOf_1 : decode cX10_dryOf 1 = .ok (.istore_n 2, 1) := by decide +kernel
theorem dX10_dryOf_2 : decode cX10_dryOf 2 = .ok (.bipush 6, 2) := by decide +kernel
theorem dX10_dryOf_4 : decode cX10_dryOf 4 = .ok (.iload_n 1, 1) := by decide +kernel
theorem dX10_dryOf_5 : decode cX10_dryOf 5 = .ok (.imul, 1) := by decide +kernel
theorem dX10_dryOf_6 : decode cX10_dryOf 6 = .ok (.istore_n 3, 1) := by decide +kernel
theorem dX10_dryOf_7 : decode cX10_dryOf 7 = .ok (.iload_n 3, 1) := by decide +kernel
theorem dX10_dryOf_8 : decode cX10_dryOf 8 = .ok (.bipush 6, 2) := by decide +kernel
theorem dX10_dryOf_10 : decode cX10_dryOf 10 = .ok (.iload_n 1, 1) := by decide +kernel
theorem dX10_dryOf_11 : decode cX10_dryOf 11 = .ok (.imul, 1) := by decide +kernel
theorem dX10_dryOf_12 : decode cX10_dryOf 12 = .ok (.bipush 6, 2) := by decide +kernel
theorem dX10_dryOf_14 : decode cX10_dryOf 14 = .ok (.iadd, 1) := by decide +kernel
theorem dX10_dryOf_15 : decode cX10_dryOf 15 = .ok (.if_icmp .ge 17, 3) := by decide +kernel
theorem dX10_dryOf_18 : decode cX10_dryOf 18 = .ok (.iload_n 2, 1) := by decide +kernel
theorem dX10_dryOf_19 : decode cX10_dryOf 19 = .ok (.aload_n 0, 1) := by decide +kernel
theorem dX10_dryOf_20 : decode cX10_dryOf 20 = .ok (.iload_n 3, 1) := by decide +kernel
theorem dX10_dryOf_21 : decode cX10_dryOf 21 = .ok (.invokevirtual 137, 3) := by decide +kernel
theorem dX10_dryOf_24 : decode cX10_dryOf 24 = .ok (.iadd, 1) := by decide +kernel
theorem dX10_dryOf_25 : decode cX10_dryOf 25 = .ok (.istore_n 2, 1) := by decide +kernel
theorem dX10_dryOf_26 : decode cX10_dryOf 26 = .ok (.iinc 3 1, 3) := by decide +kernel
theorem dX10_dryOf_29 : decode cX10_dryOf 29 = .ok (.goto (-22), 3) := by decide +kernel
theorem dX10_dryOf_32 : decode cX10_dryOf 32 = .ok (.iload_n 2, 1) := by decide +kernel
theorem dX10_dryOf_33 : decode cX10_dryOf 33 = .ok (.ireturn, 1) := by decide +kernel
theorem ok_X10_dryOf : okV yX10_dryOf cX10_dryOf 4 (some .int) 1 := ⟨mw_1219, mw_49, mw_83, mw_1220, by decide +kernel, by decide +kernel⟩
abbrev rm_X10_dryOf : Room := { frames := 3, cells := 0, slots := 0, locals := 66 }
def b_X10_dryOf_7 (K7 : St → Int32 → Int32 → Int32 → Prop) (post : Int32 → St → Prop) (σ : St) (x1 : Int32) (x2 : Int32) (x3 : Int32) : Prop := ((((6 * x1) + 6) ≤ x3 → (post x2 σ)) ∧ (¬ ((6 * x1) + 6) ≤ x3 → (w_X10_dryIn (fun r2 s2 => ∀ v3 : Int32, v3 = x2 + r2 → (∀ v4 : Int32, v4 = x3 + 1 → (K7 s2 x1 v3 v4))) σ x3)))
noncomputable def l_X10_dryOf_7 (post : Int32 → St → Prop) : Nat → St → Int32 → Int32 → Int32 → Prop := fun n => Nat.rec (motive := fun _ => St → Int32 → Int32 → Int32 → Prop) (fun _ _ _ _ => False) (fun _ ih => b_X10_dryOf_7 ih post) n
theorem L_X10_dryOf_7 (E : EnvW p s m args meth c D cy regsM ad "RoofWarModel" cX10_dryOf 4 (some .int)) (ha : Apart regsM ad) {post : Int32 → St → Prop} : ∀ (n : Nat), ∀ (σ : St) (x1 : Int32) (x2 : Int32) (x3 : Int32), l_X10_dryOf_7 post n σ x1 x2 x3 → ∀ (H : Heap) (locs : List Loc) (ls : Array Slot), va_P D CLS (wM cy ad σ) H → va_S (AM ad s.heap.size) s.heap H locs → lv_has ls 4 [(0, .ref (ad 0 0)), (1, .int x1), (2, .int x2), (3, .int x3)] → W p l e rm_X10_dryOf s m args below meth c H locs 0 0 (MQ below (QI D cy (cellM cy ad) regsM ad s.heap.size post) args s 0 0 (AM ad s.heap.size)) (F0 m 7 ls []) := by
  obtain ⟨hx, hb, -⟩ := id E
  intro n
  induction n with
  | zero => intro σ x1 x2 x3 hw; exact hw.elim
  | succ n hk7 =>
    intro σ x1 x2 x3 hw H locs ls hP hS hl
    replace hw : b_X10_dryOf_7 (l_X10_dryOf_7 post n) post σ x1 x2 x3 := hw
    unfold b_X10_dryOf_7 at hw
    refine lv_iload_n hx hb dX10_dryOf_7 rfl (lv_at hl 3 rfl) ?_
    refine lv_bipush (v := 6) hx hb dX10_dryOf_8 (by decide) ?_
    refine lv_iload_n hx hb dX10_dryOf_10 rfl (lv_at hl 1 rfl) ?_
    refine lv_imul hx hb dX10_dryOf_11 ?_
    refine lv_bipush (v := 6) hx hb dX10_dryOf_12 (by decide) ?_
    refine lv_iadd hx hb dX10_dryOf_14 ?_
    refine lv_icmp_ge (tgt := 32) hx hb dX10_dryOf_15 (by decide) (fun c1 => ?_) (fun c1 => ?_)
    · replace hw := hw.1 c1
      refine lv_iload_n hx hb dX10_dryOf_32 rfl (lv_at hl 2 rfl) ?_
      exact g_iret E hw hP hS dX10_dryOf_33
    · replace hw := hw.2 c1
      refine lv_iload_n hx hb dX10_dryOf_18 rfl (lv_at hl 2 rfl) ?_
      refine lv_aload_n hx hb dX10_dryOf_19 rfl (lv_at hl 0 rfl) ?_
      refine lv_iload_n hx hb dX10_dryOf_20 rfl (lv_at hl 3 rfl) ?_
      refine g_cVi (As := [.int x3]) (rest := [.int x2]) E hl.1 (c_X10_dryIn l D cy ad ha hw _) ok_X10_dryIn mw_1131 ⟨(Nat.le_of_ble_eq_true rfl), (Nat.le_of_ble_eq_true rfl)⟩ ⟨rfl, rfl⟩ rM0 rfl rfl rfl rfl rfl (Nat.le_of_ble_eq_true rfl) ⟨Nat.zero_le _, Nat.zero_le _⟩ hP hS dX10_dryOf_21 (fun r2 s2 hw H locs hP hS => ?_)
      refine lv_iadd hx hb dX10_dryOf_24 ?_
      refine lv_topi (fun v3 ev3 => ?_)
      replace hw := hw v3 ev3
      refine lv_istore_n (lv' := [(2, .int v3), (0, .ref (ad 0 0)), (1, .int x1), (3, .int x3)]) hx hb dX10_dryOf_25 rfl hl (by decide) rfl (fun ls hl => ?_)
      obtain ⟨v4, ev4⟩ : ∃ y : Int32, y = x3 + 1 := ⟨_, rfl⟩
      replace hw := hw v4 ev4
      refine lv_iinc (v := v4) (lv' := [(3, .int v4), (2, .int v3), (0, .ref (ad 0 0)), (1, .int x1)]) hx hb dX10_dryOf_26 hl (k := 3) rfl (by rw [ev4]; rfl) (by decide) rfl (fun ls hl => ?_)
      refine lv_goto (tgt := 7) hx hb dX10_dryOf_29 (by decide) ?_
      exact hk7 s2 x1 v3 v4 hw _ _ _ hP hS (lv_sub hl [2, 3, 1, 0] rfl)
def w_X10_dryOf (post : Int32 → St → Prop) (σ : St) (x1 : Int32) : Prop := ∀ v1 : Int32, v1 = 6 * x1 → (∃ n2 : Nat, l_X10_dryOf_7 post n2 σ x1 (0 : Int32) v1)
theorem B_X10_dryOf_0 (E : EnvW p s m args meth c D cy regsM ad "RoofWarModel" cX10_dryOf 4 (some .int)) (ha : Apart regsM ad) {post : Int32 → St → Prop} {σ : St} {x1 : Int32} (hw : w_X10_dryOf post σ x1) {H : Heap} {locs : List Loc} {ls : Array Slot} (hP : va_P D CLS (wM cy ad σ) H) (hS : va_S (AM ad s.heap.size) s.heap H locs) (hl : lv_has ls 4 [(0, .ref (ad 0 0)), (1, .int x1)]) : W p l e rm_X10_dryOf s m args below meth c H locs 0 0 (MQ below (QI D cy (cellM cy ad) regsM ad s.heap.size post) args s 0 0 (AM ad s.heap.size)) (F0 m 0 ls []) := by
  obtain ⟨hx, hb, -⟩ := id E
  unfold w_X10_dryOf at hw
  refine lv_iconst (v := 0) hx hb dX10_dryOf_0 (by decide) ?_
  refine lv_istore_n (lv' := [(2, .int 0), (0, .ref (ad 0 0)), (1, .int x1)]) hx hb dX10_dryOf_1 rfl hl (by decide) rfl (fun ls hl => ?_)
  refine lv_bipush (v := 6) hx hb dX10_dryOf_2 (by decide) ?_
  refine lv_iload_n hx hb dX10_dryOf_4 rfl (lv_at hl 2 rfl) ?_
  refine lv_imul hx hb dX10_dryOf_5 ?_
  refine lv_topi (fun v1 ev1 => ?_)
  replace hw := hw v1 ev1
  refine lv_istore_n (lv' := [(3, .int v1), (2, .int 0), (0, .ref (ad 0 0)), (1, .int x1)]) hx hb dX10_dryOf_6 rfl hl (by decide) rfl (fun ls hl => ?_)
  obtain ⟨n2, hw⟩ := hw
  exact L_X10_dryOf_7 E ha n2 σ x1 (0 : Int32) v1 hw _ _ _ hP hS (lv_sub hl [2, 3, 1, 0] rfl)
theorem c_X10_dryOf (l : Launch) (D : va_G) (cy : Nat → ClassId) (ad : Nat → Nat → Nat) (ha : Apart regsM ad) {post : Int32 → St → Prop} {σ : St} {x1 : Int32} (hw : w_X10_dryOf post σ x1) (sz : Nat) : MetI l yX10_dryOf cX10_dryOf 4 .int rm_X10_dryOf [.ref (ad 0 0), .int x1] D cy (cellM cy ad) regsM ad σ sz post :=
  Met_inI ok_X10_dryOf.2.2.2.2.2 (Nat.le_of_ble_eq_true rfl) (fun p e s m below meth c ls E hP hl => B_X10_dryOf_0 E ha hw hP va_S.rf hl)
-- RoofWarModel.house(II)I
theorem dX10_house_0 : decode cX10_house 0 = .ok (.iload_n 1, 1) := by decide +kernel
theorem dX10_house_1 : decode cX10_house 1 = .ok (.invokestatic 92, 3) := by decide +kernel
theorem dX10_house_4 : decode cX10_house 4 = .ok (.ifCond .eq 15, 3) := by decide +kernel
theorem dX10_house_7 : decode cX10_house 7 = .ok (.iload_n 2, 1) := by decide +kernel
theorem dX10_house_8 : decode cX10_house 8 = .ok (.i2l, 1) := by decide +kernel
theorem dX10_house_9 : decode cX10_house 9 = .ok (.lconst 0, 1) := by decide +kernel
theorem dX10_house_10 : decode cX10_house 10 = .ok (.ldc2_w 140, 3) := by decide +kernel
theorem dX10_house_13 : decode cX10_house 13 = .ok (.invokestatic 71, 3) := by decide +kernel
theorem dX10_house_16 : decode cX10_house 16 = .ok (.ifCond .ne 6, 3) := by decide +kernel
theorem dX10_house_19 : decode cX10_house 19 = .ok (.ldc 96, 2) := by decide +kernel
theorem dX10_house_21 : decode cX10_house 21 = .ok (.ireturn, 1) := by decide +kernel
theorem dX10_house_22 : decode cX10_house 22 = .ok (.iload_n 2, 1) := by decide +kernel
theorem dX10_house_23 : decode cX10_house 23 = .ok (.ifCond .ne 15, 3) := by decide +kernel
theorem dX10_house_26 : decode cX10_house 26 = .ok (.aload_n 0, 1) := by decide +kernel
theorem dX10_house_27 : decode cX10_house 27 = .ok (.getfield 7, 3) := by decide +kernel
theorem dX10_house_30 : decode cX10_house 30 = .ok (.bipush 58, 2) := by decide +kernel
theorem dX10_house_32 : decode cX10_house 32 = .ok (.iload_n 1, 1) := by decide +kernel
theorem dX10_house_33 : decode cX10_house 33 = .ok (.iadd, 1) := by decide +kernel
theorem dX10_house_34 : decode cX10_house 34 = .ok (.iaload, 1) := by decide +kernel
theorem dX10_house_35 : decode cX10_house 35 = .ok (.goto 41, 3) := by decide +kernel
theorem dX10_house_38 : decode cX10_house 38 = .ok (.iload_n 2, 1) := by decide +kernel
theorem dX10_house_39 : decode cX10_house 39 = .ok (.iconst 1, 1) := by decide +kernel
theorem dX10_house_40 : decode cX10_house 40 = .ok (.if_icmp .ne 15, 3) := by decide +kernel
theorem dX10_house_43 : decode cX10_house 43 = .ok (.aload_n 0, 1) := by decide +kernel
theorem dX10_house_44 : decode cX10_house 44 = .ok (.getfield 7, 3) := by decide +kernel
theorem dX10_house_47 : decode cX10_house 47 = .ok (.bipush 70, 2) := by decide +kernel
theorem dX10_house_49 : decode cX10_house 49 = .ok (.iload_n 1, 1) := by decide +kernel
theorem dX10_house_50 : decode cX10_house 50 = .ok (.iadd, 1) := by decide +kernel
theorem dX10_house_51 : decode cX10_house 51 = .ok (.iaload, 1) := by decide +kernel
theorem dX10_house_52 : decode cX10_house 52 = .ok (.goto 24, 3) := by decide +kernel
theorem dX10_house_55 : decode cX10_house 55 = .ok (.iload_n 2, 1) := by decide +kernel
theorem dX10_house_56 : decode cX10_house 56 = .ok (.iconst 2, 1) := by decide +kernel
theorem dX10_house_57 : decode cX10_house 57 = .ok (.if_icmp .ne 14, 3) := by decide +kernel
theorem dX10_house_60 : decode cX10_house 60 = .ok (.aload_n 0, 1) := by decide +kernel
theorem dX10_house_61 : decode cX10_house 61 = .ok (.iload_n 1, 1) := by decide +kernel
theorem dX10_house_62 : decode cX10_house 62 = .ok (.invokevirtual 97, 3) := by decide +kernel
theorem dX10_house_65 : decode cX10_house 65 = .ok (.invokestatic 142, 3) := by decide +kernel
theorem dX10_house_68 : decode cX10_house 68 = .ok (.goto 8, 3) := by decide +kernel
theorem dX10_house_71 : decode cX10_house 71 = .ok (.aload_n 0, 1) := by decide +kernel
theorem dX10_house_72 : decode cX10_house 72 = .ok (.iload_n 1, 1) := by decide +kernel
theorem dX10_house_73 : decode cX10_house 73 = .ok (.invokevirtual 137, 3) := by decide +kernel
theorem dX10_house_76 : decode cX10_house 76 = .ok (.ireturn, 1) := by decide +kernel
theorem ok_X10_house : okV yX10_house cX10_house 3 (some .int) 2 := ⟨mw_1123, mw_1124, mw_83, mw_1125, by decide +kernel, by decide +kernel⟩
abbrev rm_X10_house : Room := { frames := 3, cells := 0, slots := 0, locals := 66 }
def w_X10_house (post : Int32 → St → Prop) (σ : St) (x1 : Int32) (x2 : Int32) : Prop := w_X10_isHouse (fun r1 s1 => ((r1 = 0 → (post ((-1000000001)) s1)) ∧ (¬ r1 = 0 → (w_X10_isIn (fun r3 s3 => ((¬ r3 = 0 → (((¬ x2 = 0 → (((¬ x2 = 1 → (((¬ x2 = 2 → (w_X10_dryIn (fun r8 s8 => post r8 s8) s3 x1)) ∧ (x2 = 2 → (w_X10_over (fun r9 s9 => w_X10_orNone (fun r10 s10 => post r10 s10) s9 r9) s3 x1))))) ∧ (x2 = 1 → (vp_in (70 + x1) 3082 ∧ (post (s3 1 0 (70 + x1).toNatClampNeg) s3)))))) ∧ (x2 = 0 → (vp_in (58 + x1) 3082 ∧ (post (s3 1 0 (58 + x1).toNatClampNeg) s3)))))) ∧ (r3 = 0 → (post ((-1000000001)) s3)))) s1 x2.toInt64 ((0 : Int64)) ((3 : Int64)))))) σ x1
theorem B_X10_house_0 (E : EnvW p s m args meth c D cy regsM ad "RoofWarModel" cX10_house 3 (some .int)) (ha : Apart regsM ad) {post : Int32 → St → Prop} {σ : St} {x1 : Int32} {x2 : Int32} (hw : w_X10_house post σ x1 x2) {H : Heap} {locs : List Loc} {ls : Array Slot} (hP : va_P D CLS (wM cy ad σ) H) (hS : va_S (AM ad s.heap.size) s.heap H locs) (hl : lv_has ls 3 [(0, .ref (ad 0 0)), (1, .int x1), (2, .int x2)]) : W p l e rm_X10_house s m args below meth c H locs 0 0 (MQ below (QI D cy (cellM cy ad) regsM ad s.heap.size post) args s 0 0 (AM ad s.heap.size)) (F0 m 0 ls []) := by
  obtain ⟨hx, hb, -⟩ := id E
  unfold w_X10_house at hw
  refine lv_iload_n hx hb dX10_house_0 rfl (lv_at hl 1 rfl) ?_
  refine g_cSi (As := [.int x1]) (rest := []) E hl.1 (c_X10_isHouse l D cy ad ha hw _) ok_X10_isHouse mw_1059 ⟨(Nat.le_of_ble_eq_true rfl), (Nat.le_of_ble_eq_true rfl)⟩ ⟨rfl, rfl⟩ rfl rfl (Nat.le_of_ble_eq_true rfl) ⟨Nat.zero_le _, Nat.zero_le _⟩ hP hS dX10_house_1 (fun r1 s1 hw H locs hP hS => ?_)
  obtain ⟨z1, hw⟩ := hw
  refine lv_if_eq (tgt := 19) hx hb dX10_house_4 (by decide) (fun c2 => ?_) (fun c2 => ?_)
  · replace hw := hw.1 c2
    refine g_ldc (v := -1000000001) E mw_1063 dX10_house_19 ?_
    exact g_iret E hw hP hS dX10_house_21
  · replace hw := hw.2 c2
    refine lv_iload_n hx hb dX10_house_7 rfl (lv_at hl 2 rfl) ?_
    refine lv_i2l (v := x2.toInt64) hx hb dX10_house_8 rfl ?_
    refine lv_lconst (v := 0) hx hb dX10_house_9 (by decide) ?_
    refine g_ldc2 (v := 3) E mw_1126 dX10_house_10 ?_
    refine g_cSi (As := [.long x2.toInt64, .long ((0 : Int64)), .long ((3 : Int64))]) (rest := []) E hl.1 (c_X10_isIn l D cy ad ha hw _) ok_X10_isIn mw_1054 ⟨(Nat.le_of_ble_eq_true rfl), (Nat.le_of_ble_eq_true rfl)⟩ ⟨rfl, rfl⟩ rfl rfl (Nat.le_of_ble_eq_true rfl) ⟨Nat.zero_le _, Nat.zero_le _⟩ hP hS dX10_house_13 (fun r3 s3 hw H locs hP hS => ?_)
    obtain ⟨z3, hw⟩ := hw
    refine lv_if_ne (tgt := 22) hx hb dX10_house_16 (by decide) (fun c4 => ?_) (fun c4 => ?_)
    · replace hw := hw.1 c4
      refine lv_iload_n hx hb dX10_house_22 rfl (lv_at hl 2 rfl) ?_
      refine lv_if_ne (tgt := 38) hx hb dX10_house_23 (by decide) (fun c5 => ?_) (fun c5 => ?_)
      · replace hw := hw.1 c5
        refine lv_iload_n hx hb dX10_house_38 rfl (lv_at hl 2 rfl) ?_
        refine lv_iconst (v := 1) hx hb dX10_house_39 (by decide) ?_
        refine lv_icmp_ne (tgt := 55) hx hb dX10_house_40 (by decide) (fun c6 => ?_) (fun c6 => ?_)
        · replace hw := hw.1 c6
          refine lv_iload_n hx hb dX10_house_55 rfl (lv_at hl 2 rfl) ?_
          refine lv_iconst (v := 2) hx hb dX10_house_56 (by decide) ?_
          refine lv_icmp_ne (tgt := 71) hx hb dX10_house_57 (by decide) (fun c7 => ?_) (fun c7 => ?_)
          · replace hw := hw.1 c7
            refine lv_aload_n hx hb dX10_house_71 rfl (lv_at hl 0 rfl) ?_
            refine lv_iload_n hx hb dX10_house_72 rfl (lv_at hl 1 rfl) ?_
            refine g_cVi (As := [.int x1]) (rest := []) E hl.1 (c_X10_dryIn l D cy ad ha hw _) ok_X10_dryIn mw_1131 ⟨(Nat.le_of_ble_eq_true rfl), (Nat.le_of_ble_eq_true rfl)⟩ ⟨rfl, rfl⟩ rM0 rfl rfl rfl rfl rfl (Nat.le_of_ble_eq_true rfl) ⟨Nat.zero_le _, Nat.zero_le _⟩ hP hS dX10_house_73 (fun r8 s8 hw H locs hP hS => ?_)
            exact g_iret E hw hP hS dX10_house_76
          · replace hw := hw.2 c7
            refine lv_aload_n hx hb dX10_house_60 rfl (lv_at hl 0 rfl) ?_
            refine lv_iload_n hx hb dX10_house_61 rfl (lv_at hl 1 rfl) ?_
            refine g_cVi (As := [.int x1]) (rest := []) E hl.1 (c_X10_over l D cy ad ha hw _) ok_X10_over mw_1064 ⟨(Nat.le_of_ble_eq_true rfl), (Nat.le_of_ble_eq_true rfl)⟩ ⟨rfl, rfl⟩ rM0 rfl rfl rfl rfl rfl (Nat.le_of_ble_eq_true rfl) ⟨Nat.zero_le _, Nat.zero_le _⟩ hP hS dX10_house_62 (fun r9 s9 hw H locs hP hS => ?_)
            refine g_cSi (As := [.int r9]) (rest := []) E hl.1 (c_X10_orNone l D cy ad ha hw _) ok_X10_orNone mw_1127 ⟨(Nat.le_of_ble_eq_true rfl), (Nat.le_of_ble_eq_true rfl)⟩ ⟨rfl, rfl⟩ rfl rfl (Nat.le_of_ble_eq_true rfl) ⟨Nat.zero_le _, Nat.zero_le _⟩ hP hS dX10_house_65 (fun r10 s10 hw H locs hP hS => ?_)
            refine lv_goto (tgt := 76) hx hb dX10_house_68 (by decide) ?_
            exact g_iret E hw hP hS dX10_house_76
        · replace hw := hw.2 c6
          refine lv_aload_n hx hb dX10_house_43 rfl (lv_at hl 0 rfl) ?_
          refine fX10_0 E hP mw_946 dX10_house_44 ?_
          refine lv_bipush (v := 70) hx hb dX10_house_47 (by decide) ?_
          refine lv_iload_n hx hb dX10_house_49 rfl (lv_at hl 1 rfl) ?_
          refine lv_iadd hx hb dX10_house_50 ?_
          obtain ⟨h11, hw⟩ := hw
          refine aM1 E hP h11 dX10_house_51 ?_
          refine lv_goto (tgt := 76) hx hb dX10_house_52 (by decide) ?_
          exact g_iret E hw hP hS dX10_house_76
      · replace hw := hw.2 c5
        refine lv_aload_n hx hb dX10_house_26 rfl (lv_at hl 0 rfl) ?_
        refine fX10_0 E hP mw_946 dX10_house_27 ?_
        refine lv_bipush (v := 58) hx hb dX10_house_30 (by decide) ?_
        refine lv_iload_n hx hb dX10_house_32 rfl (lv_at hl 1 rfl) ?_
        refine lv_iadd hx hb dX10_house_33 ?_
        obtain ⟨h12, hw⟩ := hw
        refine aM1 E hP h12 dX10_house_34 ?_
        refine lv_goto (tgt := 76) hx hb dX10_house_35 (by decide) ?_
        exact g_iret E hw hP hS dX10_house_76
    · replace hw := hw.2 c4
      refine g_ldc (v := -1000000001) E mw_1063 dX10_house_19 ?_
      exact g_iret E hw hP hS dX10_house_21
theorem c_X10_house (l : Launch) (D : va_G) (cy : Nat → ClassId) (ad : Nat → Nat → Nat) (ha : Apart regsM ad) {post : Int32 → St → Prop} {σ : St} {x1 : Int32} {x2 : Int32} (hw : w_X10_house post σ x1 x2) (sz : Nat) : MetI l yX10_house cX10_house 3 .int rm_X10_house [.ref (ad 0 0), .int x1, .int x2] D cy (cellM cy ad) regsM ad σ sz post :=
  Met_inI ok_X10_house.2.2.2.2.2 (Nat.le_of_ble_eq_true rfl) (fun p e s m below meth c ls E hP hl => B_X10_house_0 E ha hw hP va_S.rf hl)
-- RoofWarModel.lodges(III)I
theorem dX10_lodges_0 : decode cX10_lodges 0 = .ok (.iload_n 1, 1) := by decide +kernel
theorem dX10_lodges_1 : decode cX10_lodges 1 = .ok (.invokestatic 92, 3) := by decide +kernel
theorem dX10_lodges_4 : decode cX10_lodges 4 = .ok (.ifCond .eq 35, 3) := by decide +kernel
theorem dX10_lodges_7 : decode cX10_lodges 7 = .ok (.iload_n 2, 1) := by decide +kernel
theorem dX10_lodges_8 : decode cX10_lodges 8 = .ok (.i2l, 1) := by decide +kernel
theorem dX10_lodges_9 : decode cX10_lodges 9 = .ok (.lconst 0, 1) := by decide +kernel
theorem dX10_lodges_10 : decode cX10_lodges 10 = .ok (.lconst 1, 1) := by decide +kernel
theorem dX10_lodges_11 : decode cX10_lodges 11 = .ok (.invokestatic 71, 3) := by decide +kernel
theorem dX10_lodges_14 : decode cX10_lodges 14 = .ok (.ifCond .eq 25, 3) := by decide +kernel
theorem dX10_lodges_17 : decode cX10_lodges 17 = .ok (.iload_n 3, 1) := by decide +kernel
theorem dX10_lodges_18 : decode cX10_lodges 18 = .ok (.i2l, 1) := by decide +kernel
theorem dX10_lodges_19 : decode cX10_lodges 19 = .ok (.lconst 0, 1) := by decide +kernel
theorem dX10_lodges_20 : decode cX10_lodges 20 = .ok (.iload_n 2, 1) := by decide +kernel
theorem dX10_lodges_21 : decode cX10_lodges 21 = .ok (.ifCond .ne 9, 3) := by decide +kernel
theorem dX10_lodges_24 : decode cX10_lodges 24 = .ok (.ldc2_w 88, 3) := by decide +kernel
theorem dX10_lodges_27 : decode cX10_lodges 27 = .ok (.goto 6, 3) := by decide +kernel
theorem dX10_lodges_30 : decode cX10_lodges 30 = .ok (.ldc2_w 145, 3) := by decide +kernel
theorem dX10_lodges_33 : decode cX10_lodges 33 = .ok (.invokestatic 71, 3) := by decide +kernel
theorem dX10_lodges_36 : decode cX10_lodges 36 = .ok (.ifCond .ne 6, 3) := by decide +kernel
theorem dX10_lodges_39 : decode cX10_lodges 39 = .ok (.ldc 96, 2) := by decide +kernel
theorem dX10_lodges_41 : decode cX10_lodges 41 = .ok (.ireturn, 1) := by decide +kernel
theorem dX10_lodges_42 : decode cX10_lodges 42 = .ok (.aload_n 0, 1) := by decide +kernel
theorem dX10_lodges_43 : decode cX10_lodges 43 = .ok (.iload_n 2, 1) := by decide +kernel
theorem dX10_lodges_44 : decode cX10_lodges 44 = .ok (.ifCond .ne 8, 3) := by decide +kernel
theorem dX10_lodges_47 : decode cX10_lodges 47 = .ok (.bipush 58, 2) := by decide +kernel
theorem dX10_lodges_49 : decode cX10_lodges 49 = .ok (.goto 5, 3) := by decide +kernel
theorem dX10_lodges_52 : decode cX10_lodges 52 = .ok (.bipush 70, 2) := by decide +kernel
theorem dX10_lodges_54 : decode cX10_lodges 54 = .ok (.iload_n 1, 1) := by decide +kernel
theorem dX10_lodges_55 : decode cX10_lodges 55 = .ok (.iadd, 1) := by decide +kernel
theorem dX10_lodges_56 : decode cX10_lodges 56 = .ok (.iload_n 3, 1) := by decide +kernel
theorem dX10_lodges_57 : decode cX10_lodges 57 = .ok (.invokevirtual 129, 3) := by decide +kernel
theorem dX10_lodges_60 : decode cX10_lodges 60 = .ok (.ireturn, 1) := by decide +kernel
theorem ok_X10_lodges : okV yX10_lodges cX10_lodges 4 (some .int) 3 := ⟨mw_1138, mw_1139, mw_83, mw_1140, by decide +kernel, by decide +kernel⟩
abbrev rm_X10_lodges : Room := { frames := 2, cells := 0, slots := 0, locals := 45 }
def b_X10_lodges_54 (post : Int32 → St → Prop) (σ : St) (y0 : Int32) (x1 : Int32) (x3 : Int32) : Prop := w_X10_changes (fun r1 s1 => post r1 s1) σ (y0 + x1) x3
theorem B_X10_lodges_54 (E : EnvW p s m args meth c D cy regsM ad "RoofWarModel" cX10_lodges 4 (some .int)) (ha : Apart regsM ad) {post : Int32 → St → Prop} {σ : St} {y0 : Int32} {x1 : Int32} {x3 : Int32} (hw : b_X10_lodges_54 post σ y0 x1 x3) {H : Heap} {locs : List Loc} {ls : Array Slot} (hP : va_P D CLS (wM cy ad σ) H) (hS : va_S (AM ad s.heap.size) s.heap H locs) (hl : lv_has ls 4 [(1, .int x1), (3, .int x3)]) : W p l e rm_X10_lodges s m args below meth c H locs 0 0 (MQ below (QI D cy (cellM cy ad) regsM ad s.heap.size post) args s 0 0 (AM ad s.heap.size)) (F0 m 54 ls [.int y0, .ref (ad 0 0)]) := by
  obtain ⟨hx, hb, -⟩ := id E
  unfold b_X10_lodges_54 at hw
  refine lv_iload_n hx hb dX10_lodges_54 rfl (lv_at hl 0 rfl) ?_
  refine lv_iadd hx hb dX10_lodges_55 ?_
  refine lv_iload_n hx hb dX10_lodges_56 rfl (lv_at hl 1 rfl) ?_
  refine g_cVi (As := [.int (y0 + x1), .int x3]) (rest := []) E hl.1 (c_X10_changes l D cy ad ha hw _) ok_X10_changes mw_1110 ⟨(Nat.le_of_ble_eq_true rfl), (Nat.le_of_ble_eq_true rfl)⟩ ⟨rfl, rfl⟩ rM0 rfl rfl rfl rfl rfl (Nat.le_of_ble_eq_true rfl) ⟨Nat.zero_le _, Nat.zero_le _⟩ hP hS dX10_lodges_57 (fun r1 s1 hw H locs hP hS => ?_)
  exact g_iret E hw hP hS dX10_lodges_60
def b_X10_lodges_33 (post : Int32 → St → Prop) (σ : St) (y0 : Int64) (y1 : Int64) (y2 : Int64) (x1 : Int32) (x2 : Int32) (x3 : Int32) : Prop := w_X10_isIn (fun r1 s1 => ((¬ r1 = 0 → (((¬ x2 = 0 → (b_X10_lodges_54 post s1 (70 : Int32) x1 x3)) ∧ (x2 = 0 → (b_X10_lodges_54 post s1 (58 : Int32) x1 x3))))) ∧ (r1 = 0 → (post ((-1000000001)) s1)))) σ y2 y1 y0
theorem B_X10_lodges_33 (E : EnvW p s m args meth c D cy regsM ad "RoofWarModel" cX10_lodges 4 (some .int)) (ha : Apart regsM ad) {post : Int32 → St → Prop} {σ : St} {y0 : Int64} {y1 : Int64} {y2 : Int64} {x1 : Int32} {x2 : Int32} {x3 : Int32} (hw : b_X10_lodges_33 post σ y0 y1 y2 x1 x2 x3) {H : Heap} {locs : List Loc} {ls : Array Slot} (hP : va_P D CLS (wM cy ad σ) H) (hS : va_S (AM ad s.heap.size) s.heap H locs) (hl : lv_has ls 4 [(0, .ref (ad 0 0)), (1, .int x1), (2, .int x2), (3, .int x3)]) : W p l e rm_X10_lodges s m args below meth c H locs 0 0 (MQ below (QI D cy (cellM cy ad) regsM ad s.heap.size post) args s 0 0 (AM ad s.heap.size)) (F0 m 33 ls [.long y0, .long y1, .long y2]) := by
  obtain ⟨hx, hb, -⟩ := id E
  unfold b_X10_lodges_33 at hw
  refine g_cSi (As := [.long y2, .long y1, .long y0]) (rest := []) E hl.1 (c_X10_isIn l D cy ad ha hw _) ok_X10_isIn mw_1054 ⟨(Nat.le_of_ble_eq_true rfl), (Nat.le_of_ble_eq_true rfl)⟩ ⟨rfl, rfl⟩ rfl rfl (Nat.le_of_ble_eq_true rfl) ⟨Nat.zero_le _, Nat.zero_le _⟩ hP hS dX10_lodges_33 (fun r1 s1 hw H locs hP hS => ?_)
  obtain ⟨z1, hw⟩ := hw
  refine lv_if_ne (tgt := 42) hx hb dX10_lodges_36 (by decide) (fun c2 => ?_) (fun c2 => ?_)
  · replace hw := hw.1 c2
    refine lv_aload_n hx hb dX10_lodges_42 rfl (lv_at hl 0 rfl) ?_
    refine lv_iload_n hx hb dX10_lodges_43 rfl (lv_at hl 2 rfl) ?_
    refine lv_if_ne (tgt := 52) hx hb dX10_lodges_44 (by decide) (fun c3 => ?_) (fun c3 => ?_)
    · replace hw := hw.1 c3
      refine lv_bipush (v := 70) hx hb dX10_lodges_52 (by decide) ?_
      exact B_X10_lodges_54 E ha hw hP hS (lv_sub hl [1, 3] rfl)
    · replace hw := hw.2 c3
      refine lv_bipush (v := 58) hx hb dX10_lodges_47 (by decide) ?_
      refine lv_goto (tgt := 54) hx hb dX10_lodges_49 (by decide) ?_
      exact B_X10_lodges_54 E ha hw hP hS (lv_sub hl [1, 3] rfl)
  · replace hw := hw.2 c2
    refine g_ldc (v := -1000000001) E mw_1063 dX10_lodges_39 ?_
    exact g_iret E hw hP hS dX10_lodges_41
def w_X10_lodges (post : Int32 → St → Prop) (σ : St) (x1 : Int32) (x2 : Int32) (x3 : Int32) : Prop := w_X10_isHouse (fun r1 s1 => ((r1 = 0 → (post ((-1000000001)) s1)) ∧ (¬ r1 = 0 → (w_X10_isIn (fun r3 s3 => ((r3 = 0 → (post ((-1000000001)) s3)) ∧ (¬ r3 = 0 → (((¬ x2 = 0 → (b_X10_lodges_33 post s3 ((100 : Int64)) ((0 : Int64)) x3.toInt64 x1 x2 x3)) ∧ (x2 = 0 → (b_X10_lodges_33 post s3 ((9 : Int64)) ((0 : Int64)) x3.toInt64 x1 x2 x3))))))) s1 x2.toInt64 ((0 : Int64)) ((1 : Int64)))))) σ x1
theorem B_X10_lodges_0 (E : EnvW p s m args meth c D cy regsM ad "RoofWarModel" cX10_lodges 4 (some .int)) (ha : Apart regsM ad) {post : Int32 → St → Prop} {σ : St} {x1 : Int32} {x2 : Int32} {x3 : Int32} (hw : w_X10_lodges post σ x1 x2 x3) {H : Heap} {locs : List Loc} {ls : Array Slot} (hP : va_P D CLS (wM cy ad σ) H) (hS : va_S (AM ad s.heap.size) s.heap H locs) (hl : lv_has ls 4 [(0, .ref (ad 0 0)), (1, .int x1), (2, .int x2), (3, .int x3)]) : W p l e rm_X10_lodges s m args below meth c H locs 0 0 (MQ below (QI D cy (cellM cy ad) regsM ad s.heap.size post) args s 0 0 (AM ad s.heap.size)) (F0 m 0 ls []) := by
  obtain ⟨hx, hb, -⟩ := id E
  unfold w_X10_lodges at hw
  refine lv_iload_n hx hb dX10_lodges_0 rfl (lv_at hl 1 rfl) ?_
  refine g_cSi (As := [.int x1]) (rest := []) E hl.1 (c_X10_isHouse l D cy ad ha hw _) ok_X10_isHouse mw_1059 ⟨(Nat.le_of_ble_eq_true rfl), (Nat.le_of_ble_eq_true rfl)⟩ ⟨rfl, rfl⟩ rfl rfl (Nat.le_of_ble_eq_true rfl) ⟨Nat.zero_le _, Nat.zero_le _⟩ hP hS dX10_lodges_1 (fun r1 s1 hw H locs hP hS => ?_)
  obtain ⟨z1, hw⟩ := hw
  refine lv_if_eq (tgt := 39) hx hb dX10_lodges_4 (by decide) (fun c2 => ?_) (fun c2 => ?_)
  · replace hw := hw.1 c2
    refine g_ldc (v := -1000000001) E mw_1063 dX10_lodges_39 ?_
    exact g_iret E hw hP hS dX10_lodges_41
  · replace hw := hw.2 c2
    refine lv_iload_n hx hb dX10_lodges_7 rfl (lv_at hl 2 rfl) ?_
    refine lv_i2l (v := x2.toInt64) hx hb dX10_lodges_8 rfl ?_
    refine lv_lconst (v := 0) hx hb dX10_lodges_9 (by decide) ?_
    refine lv_lconst (v := 1) hx hb dX10_lodges_10 (by decide) ?_
    refine g_cSi (As := [.long x2.toInt64, .long ((0 : Int64)), .long ((1 : Int64))]) (rest := []) E hl.1 (c_X10_isIn l D cy ad ha hw _) ok_X10_isIn mw_1054 ⟨(Nat.le_of_ble_eq_true rfl), (Nat.le_of_ble_eq_true rfl)⟩ ⟨rfl, rfl⟩ rfl rfl (Nat.le_of_ble_eq_true rfl) ⟨Nat.zero_le _, Nat.zero_le _⟩ hP hS dX10_lodges_11 (fun r3 s3 hw H locs hP hS => ?_)
    obtain ⟨z3, hw⟩ := hw
    refine lv_if_eq (tgt := 39) hx hb dX10_lodges_14 (by decide) (fun c4 => ?_) (fun c4 => ?_)
    · replace hw := hw.1 c4
      refine g_ldc (v := -1000000001) E mw_1063 dX10_lodges_39 ?_
      exact g_iret E hw hP hS dX10_lodges_41
    · replace hw := hw.2 c4
      refine lv_iload_n hx hb dX10_lodges_17 rfl (lv_at hl 3 rfl) ?_
      refine lv_i2l (v := x3.toInt64) hx hb dX10_lodges_18 rfl ?_
      refine lv_lconst (v := 0) hx hb dX10_lodges_19 (by decide) ?_
      refine lv_iload_n hx hb dX10_lodges_20 rfl (lv_at hl 2 rfl) ?_
      refine lv_if_ne (tgt := 30) hx hb dX10_lodges_21 (by decide) (fun c5 => ?_) (fun c5 => ?_)
      · replace hw := hw.1 c5
        refine g_ldc2 (v := 100) E mw_1141 dX10_lodges_30 ?_
        exact B_X10_lodges_33 E ha hw hP hS (lv_sub hl [0, 1, 2, 3] rfl)
      · replace hw := hw.2 c5
        refine g_ldc2 (v := 9) E mw_1057 dX10_lodges_24 ?_
        refine lv_goto (tgt := 33) hx hb dX10_lodges_27 (by decide) ?_
        exact B_X10_lodges_33 E ha hw hP hS (lv_sub hl [0, 1, 2, 3] rfl)
theorem c_X10_lodges (l : Launch) (D : va_G) (cy : Nat → ClassId) (ad : Nat → Nat → Nat) (ha : Apart regsM ad) {post : Int32 → St → Prop} {σ : St} {x1 : Int32} {x2 : Int32} {x3 : Int32} (hw : w_X10_lodges post σ x1 x2 x3) (sz : Nat) : MetI l yX10_lodges cX10_lodges 4 .int rm_X10_lodges [.ref (ad 0 0), .int x1, .int x2, .int x3] D cy (cellM cy ad) regsM ad σ sz post :=
  Met_inI ok_X10_lodges.2.2.2.2.2 (Nat.le_of_ble_eq_true rfl) (fun p e s m below meth c ls E hP hl => B_X10_lodges_0 E ha hw hP va_S.rf hl)
-- RoofWarModel.rule(II)I
theorem dX10_rule_0 : decode cX10_rule 0 = .ok (.iload_n 1, 1) := by decide +kernel
theorem dX10_rule_1 : decode cX10_rule 1 = .ok (.i2l, 1) := by decide +kernel
theorem dX10_rule_2 : decode cX10_rule 2 = .ok (.lconst 0, 1) := by decide +kernel
theorem dX10_rule_3 : decode cX10_rule 3 = .ok (.ldc2_w 132, 3) := by decide +kernel
theorem dX10_rule_6 : decode cX10_rule 6 = .ok (.invokestatic 71, 3) := by decide +kernel
theorem dX10_rule_9 : decode cX10_rule 9 = .ok (.ifCond .eq 37, 3) := by decide +kernel
theorem dX10_rule_12 : decode cX10_rule 12 = .ok (.iload_n 2, 1) := by decide +kernel
theorem dX10_rule_13 : decode cX10_rule 13 = .ok (.i2l, 1) := by decide +kernel
theorem dX10_rule_14 : decode cX10_rule 14 = .ok (.lconst 0, 1) := by decide +kernel
theorem dX10_rule_15 : decode cX10_rule 15 = .ok (.iload_n 1, 1) := by decide +kernel
theorem dX10_rule_16 : decode cX10_rule 16 = .ok (.iconst 2, 1) := by decide +kernel
theorem dX10_rule_17 : decode cX10_rule 17 = .ok (.if_icmp .ne 9, 3) := by decide +kernel
theorem dX10_rule_20 : decode cX10_rule 20 = .ok (.ldc2_w 145, 3) := by decide +kernel
theorem dX10_rule_23 : decode cX10_rule 23 = .ok (.goto 6, 3) := by decide +kernel
theorem dX10_rule_26 : decode cX10_rule 26 = .ok (.ldc2_w 90, 3) := by decide +kernel
theorem dX10_rule_29 : decode cX10_rule 29 = .ok (.invokestatic 71, 3) := by decide +kernel
theorem dX10_rule_32 : decode cX10_rule 32 = .ok (.ifCond .eq 14, 3) := by decide +kernel
theorem dX10_rule_35 : decode cX10_rule 35 = .ok (.aload_n 0, 1) := by decide +kernel
theorem dX10_rule_36 : decode cX10_rule 36 = .ok (.iconst 3, 1) := by decide +kernel
theorem dX10_rule_37 : decode cX10_rule 37 = .ok (.iload_n 1, 1) := by decide +kernel
theorem dX10_rule_38 : decode cX10_rule 38 = .ok (.iadd, 1) := by decide +kernel
theorem dX10_rule_39 : decode cX10_rule 39 = .ok (.iload_n 2, 1) := by decide +kernel
theorem dX10_rule_40 : decode cX10_rule 40 = .ok (.invokevirtual 129, 3) := by decide +kernel
theorem dX10_rule_43 : decode cX10_rule 43 = .ok (.goto 5, 3) := by decide +kernel
theorem dX10_rule_46 : decode cX10_rule 46 = .ok (.ldc 96, 2) := by decide +kernel
theorem dX10_rule_48 : decode cX10_rule 48 = .ok (.ireturn, 1) := by decide +kernel
theorem ok_X10_rule : okV yX10_rule cX10_rule 3 (some .int) 2 := ⟨mw_1143, mw_1144, mw_83, mw_1145, by decide +kernel, by decide +kernel⟩
abbrev rm_X10_rule : Room := { frames := 1, cells := 0, slots := 0, locals := 25 }
def b_X10_rule_29 (post : Int32 → St → Prop) (σ : St) (y0 : Int64) (y1 : Int64) (y2 : Int64) (x1 : Int32) (x2 : Int32) : Prop := w_X10_isIn (fun r1 s1 => ((r1 = 0 → (post ((-1000000001)) s1)) ∧ (¬ r1 = 0 → (w_X10_changes (fun r3 s3 => post r3 s3) s1 (3 + x1) x2)))) σ y2 y1 y0
theorem B_X10_rule_29 (E : EnvW p s m args meth c D cy regsM ad "RoofWarModel" cX10_rule 3 (some .int)) (ha : Apart regsM ad) {post : Int32 → St → Prop} {σ : St} {y0 : Int64} {y1 : Int64} {y2 : Int64} {x1 : Int32} {x2 : Int32} (hw : b_X10_rule_29 post σ y0 y1 y2 x1 x2) {H : Heap} {locs : List Loc} {ls : Array Slot} (hP : va_P D CLS (wM cy ad σ) H) (hS : va_S (AM ad s.heap.size) s.heap H locs) (hl : lv_has ls 3 [(0, .ref (ad 0 0)), (1, .int x1), (2, .int x2)]) : W p l e rm_X10_rule s m args below meth c H locs 0 0 (MQ below (QI D cy (cellM cy ad) regsM ad s.heap.size post) args s 0 0 (AM ad s.heap.size)) (F0 m 29 ls [.long y0, .long y1, .long y2]) := by
  obtain ⟨hx, hb, -⟩ := id E
  unfold b_X10_rule_29 at hw
  refine g_cSi (As := [.long y2, .long y1, .long y0]) (rest := []) E hl.1 (c_X10_isIn l D cy ad ha hw _) ok_X10_isIn mw_1054 ⟨(Nat.le_of_ble_eq_true rfl), (Nat.le_of_ble_eq_true rfl)⟩ ⟨rfl, rfl⟩ rfl rfl (Nat.le_of_ble_eq_true rfl) ⟨Nat.zero_le _, Nat.zero_le _⟩ hP hS dX10_rule_29 (fun r1 s1 hw H locs hP hS => ?_)
  obtain ⟨z1, hw⟩ := hw
  refine lv_if_eq (tgt := 46) hx hb dX10_rule_32 (by decide) (fun c2 => ?_) (fun c2 => ?_)
  · replace hw := hw.1 c2
    refine g_ldc (v := -1000000001) E mw_1063 dX10_rule_46 ?_
    exact g_iret E hw hP hS dX10_rule_48
  · replace hw := hw.2 c2
    refine lv_aload_n hx hb dX10_rule_35 rfl (lv_at hl 0 rfl) ?_
    refine lv_iconst (v := 3) hx hb dX10_rule_36 (by decide) ?_
    refine lv_iload_n hx hb dX10_rule_37 rfl (lv_at hl 1 rfl) ?_
    refine lv_iadd hx hb dX10_rule_38 ?_
    refine lv_iload_n hx hb dX10_rule_39 rfl (lv_at hl 2 rfl) ?_
    refine g_cVi (As := [.int (3 + x1), .int x2]) (rest := []) E hl.1 (c_X10_changes l D cy ad ha hw _) ok_X10_changes mw_1110 ⟨(Nat.le_of_ble_eq_true rfl), (Nat.le_of_ble_eq_true rfl)⟩ ⟨rfl, rfl⟩ rM0 rfl rfl rfl rfl rfl (Nat.le_of_ble_eq_true rfl) ⟨Nat.zero_le _, Nat.zero_le _⟩ hP hS dX10_rule_40 (fun r3 s3 hw H locs hP hS => ?_)
    refine lv_goto (tgt := 48) hx hb dX10_rule_43 (by decide) ?_
    exact g_iret E hw hP hS dX10_rule_48
def w_X10_rule (post : Int32 → St → Prop) (σ : St) (x1 : Int32) (x2 : Int32) : Prop := w_X10_isIn (fun r1 s1 => ((r1 = 0 → (post ((-1000000001)) s1)) ∧ (¬ r1 = 0 → (((¬ x1 = 2 → (b_X10_rule_29 post s1 ((99 : Int64)) ((0 : Int64)) x2.toInt64 x1 x2)) ∧ (x1 = 2 → (b_X10_rule_29 post s1 ((100 : Int64)) ((0 : Int64)) x2.toInt64 x1 x2))))))) σ x1.toInt64 ((0 : Int64)) ((2 : Int64))
theorem B_X10_rule_0 (E : EnvW p s m args meth c D cy regsM ad "RoofWarModel" cX10_rule 3 (some .int)) (ha : Apart regsM ad) {post : Int32 → St → Prop} {σ : St} {x1 : Int32} {x2 : Int32} (hw : w_X10_rule post σ x1 x2) {H : Heap} {locs : List Loc} {ls : Array Slot} (hP : va_P D CLS (wM cy ad σ) H) (hS : va_S (AM ad s.heap.size) s.heap H locs) (hl : lv_has ls 3 [(0, .ref (ad 0 0)), (1, .int x1), (2, .int x2)]) : W p l e rm_X10_rule s m args below meth c H locs 0 0 (MQ below (QI D cy (cellM cy ad) regsM ad s.heap.size post) args s 0 0 (AM ad s.heap.size)) (F0 m 0 ls []) := by
  obtain ⟨hx, hb, -⟩ := id E
  unfold w_X10_rule at hw
  refine lv_iload_n hx hb dX10_rule_0 rfl (lv_at hl 1 rfl) ?_
  refine lv_i2l (v := x1.toInt64) hx hb dX10_rule_1 rfl ?_
  refine lv_lconst (v := 0) hx hb dX10_rule_2 (by decide) ?_
  refine g_ldc2 (v := 2) E mw_1117 dX10_rule_3 ?_
  refine g_cSi (As := [.long x1.toInt64, .long ((0 : Int64)), .long ((2 : Int64))]) (rest := []) E hl.1 (c_X10_isIn l D cy ad ha hw _) ok_X10_isIn mw_1054 ⟨(Nat.le_of_ble_eq_true rfl), (Nat.le_of_ble_eq_true rfl)⟩ ⟨rfl, rfl⟩ rfl rfl (Nat.le_of_ble_eq_true rfl) ⟨Nat.zero_le _, Nat.zero_le _⟩ hP hS dX10_rule_6 (fun r1 s1 hw H locs hP hS => ?_)
  obtain ⟨z1, hw⟩ := hw
  refine lv_if_eq (tgt := 46) hx hb dX10_rule_9 (by decide) (fun c2 => ?_) (fun c2 => ?_)
  · replace hw := hw.1 c2
    refine g_ldc (v := -1000000001) E mw_1063 dX10_rule_46 ?_
    exact g_iret E hw hP hS dX10_rule_48
  · replace hw := hw.2 c2
    refine lv_iload_n hx hb dX10_rule_12 rfl (lv_at hl 2 rfl) ?_
    refine lv_i2l (v := x2.toInt64) hx hb dX10_rule_13 rfl ?_
    refine lv_lconst (v := 0) hx hb dX10_rule_14 (by decide) ?_
    refine lv_iload_n hx hb dX10_rule_15 rfl (lv_at hl 1 rfl) ?_
    refine lv_iconst (v := 2) hx hb dX10_rule_16 (by decide) ?_
    refine lv_icmp_ne (tgt := 26) hx hb dX10_rule_17 (by decide) (fun c3 => ?_) (fun c3 => ?_)
    · replace hw := hw.1 c3
      refine g_ldc2 (v := 99) E mw_1058 dX10_rule_26 ?_
      exact B_X10_rule_29 E ha hw hP hS (lv_sub hl [0, 1, 2] rfl)
    · replace hw := hw.2 c3
      refine g_ldc2 (v := 100) E mw_1141 dX10_rule_20 ?_
      refine lv_goto (tgt := 29) hx hb dX10_rule_23 (by decide) ?_
      exact B_X10_rule_29 E ha hw hP hS (lv_sub hl [0, 1, 2] rfl)
theorem c_X10_rule (l : Launch) (D : va_G) (cy : Nat → ClassId) (ad : Nat → Nat → Nat) (ha : Apart regsM ad) {post : Int32 → St → Prop} {σ : St} {x1 : Int32} {x2 : Int32} (hw : w_X10_rule post σ x1 x2) (sz : Nat) : MetI l yX10_rule cX10_rule 3 .int rm_X10_rule [.ref (ad 0 0), .int x1, .int x2] D cy (cellM cy ad) regsM ad σ sz post :=
  Met_inI ok_X10_rule.2.2.2.2.2 (Nat.le_of_ble_eq_true rfl) (fun p e s m below meth c ls E hP hl => B_X10_rule_0 E ha hw hP va_S.rf hl)
-- RoofWarModel.deal(I)I
theorem dX10_deal_0 : decode cX10_deal 0 = .ok (.iload_n 1, 1) := by decide +kernel
theorem dX10_deal_1 : decode cX10_deal 1 = .ok (.i2l, 1) := by decide +kernel
theorem dX10_deal_2 : decode cX10_deal 2 = .ok (.lconst 1, 1) := by decide +kernel
theorem dX10_deal_3 : decode cX10_deal 3 = .ok (.ldc2_w 147, 3) := by decide +kernel
theorem dX10_deal_6 : decode cX10_deal 6 = .ok (.invokestatic 71, 3) := by decide +kernel
theorem dX10_deal_9 : decode cX10_deal 9 = .ok (.ifCond .ne 6, 3) := by decide +kernel
theorem dX10_deal_12 : decode cX10_deal 12 = .ok (.ldc 96, 2) := by decide +kernel
theorem dX10_deal_14 : decode cX10_deal 14 = .ok (.ireturn, 1) := by decide +kernel
theorem dX10_deal_15 : decode cX10_deal 15 = .ok (.iconst 0, 1) := by decide +kernel
theorem dX10_deal_16 : decode cX10_deal 16 = .ok (.istore_n 2, 1) := by decide +kernel
theorem dX10_deal_17 : decode cX10_deal 17 = .ok (.iload_n 2, 1) := by decide +kernel
theorem dX10_deal_18 : decode cX10_deal 18 = .ok (.iload_n 1, 1) := by decide +kernel
theorem dX10_deal_19 : decode cX10_deal 19 = .ok (.if_icmp .ge 89, 3) := by decide +kernel
theorem dX10_deal_22 : decode cX10_deal 22 = .ok (.aload_n 0, 1) := by decide +kernel
theorem dX10_deal_23 : decode cX10_deal 23 = .ok (.getfield 7, 3) := by decide +kernel
theorem dX10_deal_26 : decode cX10_deal 26 = .ok (.iconst 0, 1) := by decide +kernel
theorem dX10_deal_27 : decode cX10_deal 27 = .ok (.iaload, 1) := by decide +kernel
theorem dX10_deal_28 : decode cX10_deal 28 = .ok (.bipush 12, 2) := by decide +kernel
theorem dX10_deal_30 : decode cX10_deal 30 = .ok (.if_icmp .ge 78, 3) := by decide +kernel
theorem dX10_deal_33 : decode cX10_deal 33 = .ok (.aload_n 0, 1) := by decide +kernel
theorem dX10_deal_34 : decode cX10_deal 34 = .ok (.invokevirtual 149, 3) := by decide +kernel
theorem dX10_deal_37 : decode cX10_deal 37 = .ok (.bipush 6, 2) := by decide +kernel
theorem dX10_deal_39 : decode cX10_deal 39 = .ok (.irem, 1) := by decide +kernel
theorem dX10_deal_40 : decode cX10_deal 40 = .ok (.istore_n 3, 1) := by decide +kernel
theorem dX10_deal_41 : decode cX10_deal 41 = .ok (.iconst 1, 1) := by decide +kernel
theorem dX10_deal_42 : decode cX10_deal 42 = .ok (.aload_n 0, 1) := by decide +kernel
theorem dX10_deal_43 : decode cX10_deal 43 = .ok (.invokevirtual 149, 3) := by decide +kernel
theorem dX10_deal_46 : decode cX10_deal 46 = .ok (.bipush 9, 2) := by decide +kernel
theorem dX10_deal_48 : decode cX10_deal 48 = .ok (.irem, 1) := by decide +kernel
theorem dX10_deal_49 : decode cX10_deal 49 = .ok (.iadd, 1) := by decide +kernel
theorem dX10_deal_50 : decode cX10_deal 50 = .ok (.istore 4, 2) := by decide +kernel
theorem dX10_deal_52 : decode cX10_deal 52 = .ok (.aload_n 0, 1) := by decide +kernel
theorem dX10_deal_53 : decode cX10_deal 53 = .ok (.invokevirtual 149, 3) := by decide +kernel
theorem dX10_deal_56 : decode cX10_deal 56 = .ok (.bipush 50, 2) := by decide +kernel
theorem dX10_deal_58 : decode cX10_deal 58 = .ok (.irem, 1) := by decide +kernel
theorem dX10_deal_59 : decode cX10_deal 59 = .ok (.istore 5, 2) := by decide +kernel
theorem dX10_deal_61 : decode cX10_deal 61 = .ok (.aload_n 0, 1) := by decide +kernel
theorem dX10_deal_62 : decode cX10_deal 62 = .ok (.invokevirtual 149, 3) := by decide +kernel
theorem dX10_deal_65 : decode cX10_deal 65 = .ok (.bipush 12, 2) := by decide +kernel
theorem dX10_deal_67 : decode cX10_deal 67 = .ok (.irem, 1) := by decide +kernel
theorem dX10_deal_68 : decode cX10_deal 68 = .ok (.istore 6, 2) := by decide +kernel
theorem dX10_deal_70 : decode cX10_deal 70 = .ok (.aload_n 0, 1) := by decide +kernel
theorem dX10_deal_71 : decode cX10_deal 71 = .ok (.iload 6, 2) := by decide +kernel
theorem dX10_deal_73 : decode cX10_deal 73 = .ok (.invokevirtual 97, 3) := by decide +kernel
theorem dX10_deal_76 : decode cX10_deal 76 = .ok (.ifCond .lt 15, 3) := by decide +kernel
theorem dX10_deal_79 : decode cX10_deal 79 = .ok (.iload 6, 2) := by decide +kernel
theorem dX10_deal_81 : decode cX10_deal 81 = .ok (.iconst 1, 1) := by decide +kernel
theorem dX10_deal_82 : decode cX10_deal 82 = .ok (.iadd, 1) := by decide +kernel
theorem dX10_deal_83 : decode cX10_deal 83 = .ok (.bipush 12, 2) := by decide +kernel
theorem dX10_deal_85 : decode cX10_deal 85 = .ok (.irem, 1) := by decide +kernel
theorem dX10_deal_86 : decode cX10_deal 86 = .ok (.istore 6, 2) := by decide +kernel
theorem dX10_deal_88 : decode cX10_deal 88 = .ok (.goto (-18), 3) := by decide +kernel
theorem dX10_deal_91 : decode cX10_deal 91 = .ok (.aload_n 0, 1) := by decide +kernel
theorem dX10_deal_92 : decode cX10_deal 92 = .ok (.iload_n 3, 1) := by decide +kernel
theorem dX10_deal_93 : decode cX10_deal 93 = .ok (.iload 4, 2) := by decide +kernel
theorem dX10_deal_95 : decode cX10_deal 95 = .ok (.iload 5, 2) := by decide +kernel
theorem dX10_deal_97 : decode cX10_deal 97 = .ok (.iload 6, 2) := by decide +kernel
theorem dX10_deal_99 : decode cX10_deal 99 = .ok (.invokevirtual 103, 3) := by decide +kernel
theorem dX10_deal_102 : decode cX10_deal 102 = .ok (.iinc 2 1, 3) := by decide +kernel
theorem dX10_deal_105 : decode cX10_deal 105 = .ok (.goto (-88), 3) := by decide +kernel
theorem dX10_deal_108 : decode cX10_deal 108 = .ok (.iload_n 2, 1) := by decide +kernel
theorem dX10_deal_109 : decode cX10_deal 109 = .ok (.ireturn, 1) := by decide +kernel
theorem ok_X10_deal : okV yX10_deal cX10_deal 7 (some .int) 1 := ⟨mw_1147, mw_1148, mw_83, mw_1149, by decide +kernel, by decide +kernel⟩
abbrev rm_X10_deal : Room := { frames := 2, cells := 0, slots := 0, locals := 48 }
def b_X10_deal_70 (K17 : St → Int32 → Int32 → Prop) (K70 : St → Int32 → Int32 → Int32 → Int32 → Int32 → Int32 → Prop) (post : Int32 → St → Prop) (σ : St) (x1 : Int32) (x2 : Int32) (x3 : Int32) (x4 : Int32) (x5 : Int32) (x6 : Int32) : Prop := w_X10_over (fun r1 s1 => ((r1 < 0 → (w_X10_comes (fun s3 => ∀ v4 : Int32, v4 = x2 + 1 → (K17 s3 x1 v4)) s1 x3 x4 x5 x6)) ∧ (¬ r1 < 0 → (¬ (12 : Int32) = 0 ∧ (∀ v6 : Int32, v6 = jrem (x6 + 1) 12 → (K70 s1 x1 x2 x3 x4 x5 v6)))))) σ x6
noncomputable def l_X10_deal_70 (K17 : St → Int32 → Int32 → Prop) (post : Int32 → St → Prop) : Nat → St → Int32 → Int32 → Int32 → Int32 → Int32 → Int32 → Prop := fun n => Nat.rec (motive := fun _ => St → Int32 → Int32 → Int32 → Int32 → Int32 → Int32 → Prop) (fun _ _ _ _ _ _ _ => False) (fun _ ih => b_X10_deal_70 K17 ih post) n
theorem L_X10_deal_70 (E : EnvW p s m args meth c D cy regsM ad "RoofWarModel" cX10_deal 7 (some .int)) (ha : Apart regsM ad) {post : Int32 → St → Prop} {K17 : St → Int32 → Int32 → Prop} (hk17 : ∀ (σ : St) (x1 : Int32) (x2 : Int32), K17 σ x1 x2 → ∀ (H : Heap) (locs : List Loc) (ls : Array Slot), va_P D CLS (wM cy ad σ) H → va_S (AM ad s.heap.size) s.heap H locs → lv_has ls 7 [(0, .ref (ad 0 0)), (1, .int x1), (2, .int x2)] → W p l e rm_X10_deal s m args below meth c H locs 0 0 (MQ below (QI D cy (cellM cy ad) regsM ad s.heap.size post) args s 0 0 (AM ad s.heap.size)) (F0 m 17 ls [])) : ∀ (n : Nat), ∀ (σ : St) (x1 : Int32) (x2 : Int32) (x3 : Int32) (x4 : Int32) (x5 : Int32) (x6 : Int32), l_X10_deal_70 K17 post n σ x1 x2 x3 x4 x5 x6 → ∀ (H : Heap) (locs : List Loc) (ls : Array Slot), va_P D CLS (wM cy ad σ) H → va_S (AM ad s.heap.size) s.heap H locs → lv_has ls 7 [(0, .ref (ad 0 0)), (1, .int x1), (2, .int x2), (3, .int x3), (4, .int x4), (5, .int x5), (6, .int x6)] → W p l e rm_X10_deal s m args below meth c H locs 0 0 (MQ below (QI D cy (cellM cy ad) regsM ad s.heap.size post) args s 0 0 (AM ad s.heap.size)) (F0 m 70 ls []) := by
  obtain ⟨hx, hb, -⟩ := id E
  intro n
  induction n with
  | zero => intro σ x1 x2 x3 x4 x5 x6 hw; exact hw.elim
  | succ n hk70 =>
    intro σ x1 x2 x3 x4 x5 x6 hw H locs ls hP hS hl
    replace hw : b_X10_deal_70 K17 (l_X10_deal_70 K17 post n) post σ x1 x2 x3 x4 x5 x6 := hw
    unfold b_X10_deal_70 at hw
    refine lv_aload_n hx hb dX10_deal_70 rfl (lv_at hl 0 rfl) ?_
    refine lv_iload hx hb dX10_deal_71 (lv_at hl 6 rfl) ?_
    refine g_cVi (As := [.int x6]) (rest := []) E hl.1 (c_X10_over l D cy ad ha hw _) ok_X10_over mw_1064 ⟨(Nat.le_of_ble_eq_true rfl), (Nat.le_of_ble_eq_true rfl)⟩ ⟨rfl, rfl⟩ rM0 rfl rfl rfl rfl rfl (Nat.le_of_ble_eq_true rfl) ⟨Nat.zero_le _, Nat.zero_le _⟩ hP hS dX10_deal_73 (fun r1 s1 hw H locs hP hS => ?_)
    refine lv_if_lt (tgt := 91) hx hb dX10_deal_76 (by decide) (fun c2 => ?_) (fun c2 => ?_)
    · replace hw := hw.1 c2
      refine lv_aload_n hx hb dX10_deal_91 rfl (lv_at hl 0 rfl) ?_
      refine lv_iload_n hx hb dX10_deal_92 rfl (lv_at hl 3 rfl) ?_
      refine lv_iload hx hb dX10_deal_93 (lv_at hl 4 rfl) ?_
      refine lv_iload hx hb dX10_deal_95 (lv_at hl 5 rfl) ?_
      refine lv_iload hx hb dX10_deal_97 (lv_at hl 6 rfl) ?_
      refine g_cVv (As := [.int x3, .int x4, .int x5, .int x6]) (rest := []) E hl.1 (c_X10_comes l D cy ad ha hw _) ok_X10_comes mw_1072 ⟨(Nat.le_of_ble_eq_true rfl), (Nat.le_of_ble_eq_true rfl)⟩ ⟨rfl, rfl⟩ rM0 rfl rfl rfl rfl rfl (Nat.le_of_ble_eq_true rfl) ⟨Nat.zero_le _, Nat.zero_le _⟩ hP hS dX10_deal_99 (fun s3 hw H locs hP hS => ?_)
      obtain ⟨v4, ev4⟩ : ∃ y : Int32, y = x2 + 1 := ⟨_, rfl⟩
      replace hw := hw v4 ev4
      refine lv_iinc (v := v4) (lv' := [(2, .int v4), (0, .ref (ad 0 0)), (1, .int x1), (3, .int x3), (4, .int x4), (5, .int x5), (6, .int x6)]) hx hb dX10_deal_102 hl (k := 2) rfl (by rw [ev4]; rfl) (by decide) rfl (fun ls hl => ?_)
      refine lv_goto (tgt := 17) hx hb dX10_deal_105 (by decide) ?_
      exact hk17 s3 x1 v4 hw _ _ _ hP hS (lv_sub hl [1, 2, 0] rfl)
    · replace hw := hw.2 c2
      refine lv_iload hx hb dX10_deal_79 (lv_at hl 6 rfl) ?_
      refine lv_iconst (v := 1) hx hb dX10_deal_81 (by decide) ?_
      refine lv_iadd hx hb dX10_deal_82 ?_
      refine lv_bipush (v := 12) hx hb dX10_deal_83 (by decide) ?_
      obtain ⟨h5, hw⟩ := hw
      refine lv_irem hx hb dX10_deal_85 h5 ?_
      refine lv_topi (fun v6 ev6 => ?_)
      replace hw := hw v6 ev6
      refine lv_istore (lv' := [(6, .int v6), (0, .ref (ad 0 0)), (1, .int x1), (2, .int x2), (3, .int x3), (4, .int x4), (5, .int x5)]) hx hb dX10_deal_86 hl (by decide) rfl (fun ls hl => ?_)
      refine lv_goto (tgt := 70) hx hb dX10_deal_88 (by decide) ?_
      exact hk70 s1 x1 x2 x3 x4 x5 v6 hw _ _ _ hP hS (lv_sub hl [1, 2, 3, 4, 5, 6, 0] rfl)
def b_X10_deal_17 (K17 : St → Int32 → Int32 → Prop) (post : Int32 → St → Prop) (σ : St) (x1 : Int32) (x2 : Int32) : Prop := ((x1 ≤ x2 → (post x2 σ)) ∧ (¬ x1 ≤ x2 → (vp_in (0 : Int32) 3082 ∧ (((12 ≤ (σ 1 0 (0 : Int32).toNatClampNeg) → (post x2 σ)) ∧ (¬ 12 ≤ (σ 1 0 (0 : Int32).toNatClampNeg) → (w_X10_drawn (fun r4 s4 => ¬ (6 : Int32) = 0 ∧ (∀ v6 : Int32, v6 = jrem r4 6 → (w_X10_drawn (fun r7 s7 => ¬ (9 : Int32) = 0 ∧ (∀ v9 : Int32, v9 = jrem r7 9 → (∀ v10 : Int32, v10 = 1 + v9 → (w_X10_drawn (fun r11 s11 => ¬ (50 : Int32) = 0 ∧ (∀ v13 : Int32, v13 = jrem r11 50 → (w_X10_drawn (fun r14 s14 => ¬ (12 : Int32) = 0 ∧ (∀ v16 : Int32, v16 = jrem r14 12 → (∃ n17 : Nat, l_X10_deal_70 K17 post n17 s14 x1 x2 v6 v10 v13 v16))) s11))) s7)))) s4))) σ)))))))
noncomputable def l_X10_deal_17 (post : Int32 → St → Prop) : Nat → St → Int32 → Int32 → Prop := fun n => Nat.rec (motive := fun _ => St → Int32 → Int32 → Prop) (fun _ _ _ => False) (fun _ ih => b_X10_deal_17 ih post) n
theorem L_X10_deal_17 (E : EnvW p s m args meth c D cy regsM ad "RoofWarModel" cX10_deal 7 (some .int)) (ha : Apart regsM ad) {post : Int32 → St → Prop} : ∀ (n : Nat), ∀ (σ : St) (x1 : Int32) (x2 : Int32), l_X10_deal_17 post n σ x1 x2 → ∀ (H : Heap) (locs : List Loc) (ls : Array Slot), va_P D CLS (wM cy ad σ) H → va_S (AM ad s.heap.size) s.heap H locs → lv_has ls 7 [(0, .ref (ad 0 0)), (1, .int x1), (2, .int x2)] → W p l e rm_X10_deal s m args below meth c H locs 0 0 (MQ below (QI D cy (cellM cy ad) regsM ad s.heap.size post) args s 0 0 (AM ad s.heap.size)) (F0 m 17 ls []) := by
  obtain ⟨hx, hb, -⟩ := id E
  intro n
  induction n with
  | zero => intro σ x1 x2 hw; exact hw.elim
  | succ n hk17 =>
    intro σ x1 x2 hw H locs ls hP hS hl
    replace hw : b_X10_deal_17 (l_X10_deal_17 post n) post σ x1 x2 := hw
    unfold b_X10_deal_17 at hw
    refine lv_iload_n hx hb dX10_deal_17 rfl (lv_at hl 2 rfl) ?_
    refine lv_iload_n hx hb dX10_deal_18 rfl (lv_at hl 1 rfl) ?_
    refine lv_icmp_ge (tgt := 108) hx hb dX10_deal_19 (by decide) (fun c1 => ?_) (fun c1 => ?_)
    · replace hw := hw.1 c1
      refine lv_iload_n hx hb dX10_deal_108 rfl (lv_at hl 2 rfl) ?_
      exact g_iret E hw hP hS dX10_deal_109
    · replace hw := hw.2 c1
      refine lv_aload_n hx hb dX10_deal_22 rfl (lv_at hl 0 rfl) ?_
      refine fX10_0 E hP mw_946 dX10_deal_23 ?_
      refine lv_iconst (v := 0) hx hb dX10_deal_26 (by decide) ?_
      obtain ⟨h2, hw⟩ := hw
      refine aM1 E hP h2 dX10_deal_27 ?_
      refine lv_bipush (v := 12) hx hb dX10_deal_28 (by decide) ?_
      refine lv_icmp_ge (tgt := 108) hx hb dX10_deal_30 (by decide) (fun c3 => ?_) (fun c3 => ?_)
      · replace hw := hw.1 c3
        refine lv_iload_n hx hb dX10_deal_108 rfl (lv_at hl 2 rfl) ?_
        exact g_iret E hw hP hS dX10_deal_109
      · replace hw := hw.2 c3
        refine lv_aload_n hx hb dX10_deal_33 rfl (lv_at hl 0 rfl) ?_
        refine g_cVi (As := []) (rest := []) E hl.1 (c_X10_drawn l D cy ad ha hw _) ok_X10_drawn mw_1151 ⟨(Nat.le_of_ble_eq_true rfl), (Nat.le_of_ble_eq_true rfl)⟩ ⟨rfl, rfl⟩ rM0 rfl rfl rfl rfl rfl (Nat.le_of_ble_eq_true rfl) ⟨Nat.zero_le _, Nat.zero_le _⟩ hP hS dX10_deal_34 (fun r4 s4 hw H locs hP hS => ?_)
        refine lv_bipush (v := 6) hx hb dX10_deal_37 (by decide) ?_
        obtain ⟨h5, hw⟩ := hw
        refine lv_irem hx hb dX10_deal_39 h5 ?_
        refine lv_topi (fun v6 ev6 => ?_)
        replace hw := hw v6 ev6
        refine lv_istore_n (lv' := [(3, .int v6), (0, .ref (ad 0 0)), (1, .int x1), (2, .int x2)]) hx hb dX10_deal_40 rfl hl (by decide) rfl (fun ls hl => ?_)
        refine lv_iconst (v := 1) hx hb dX10_deal_41 (by decide) ?_
        refine lv_aload_n hx hb dX10_deal_42 rfl (lv_at hl 1 rfl) ?_
        refine g_cVi (As := []) (rest := [.int 1]) E hl.1 (c_X10_drawn l D cy ad ha hw _) ok_X10_drawn mw_1151 ⟨(Nat.le_of_ble_eq_true rfl), (Nat.le_of_ble_eq_true rfl)⟩ ⟨rfl, rfl⟩ rM0 rfl rfl rfl rfl rfl (Nat.le_of_ble_eq_true rfl) ⟨Nat.zero_le _, Nat.zero_le _⟩ hP hS dX10_deal_43 (fun r7 s7 hw H locs hP hS => ?_)
        refine lv_bipush (v := 9) hx hb dX10_deal_46 (by decide) ?_
        obtain ⟨h8, hw⟩ := hw
        refine lv_irem hx hb dX10_deal_48 h8 ?_
        refine lv_topi (fun v9 ev9 => ?_)
        replace hw := hw v9 ev9
        refine lv_iadd hx hb dX10_deal_49 ?_
        refine lv_topi (fun v10 ev10 => ?_)
        replace hw := hw v10 ev10
        refine lv_istore (lv' := [(4, .int v10), (3, .int v6), (0, .ref (ad 0 0)), (1, .int x1), (2, .int x2)]) hx hb dX10_deal_50 hl (by decide) rfl (fun ls hl => ?_)
        refine lv_aload_n hx hb dX10_deal_52 rfl (lv_at hl 2 rfl) ?_
        refine g_cVi (As := []) (rest := []) E hl.1 (c_X10_drawn l D cy ad ha hw _) ok_X10_drawn mw_1151 ⟨(Nat.le_of_ble_eq_true rfl), (Nat.le_of_ble_eq_true rfl)⟩ ⟨rfl, rfl⟩ rM0 rfl rfl rfl rfl rfl (Nat.le_of_ble_eq_true rfl) ⟨Nat.zero_le _, Nat.zero_le _⟩ hP hS dX10_deal_53 (fun r11 s11 hw H locs hP hS => ?_)
        refine lv_bipush (v := 50) hx hb dX10_deal_56 (by decide) ?_
        obtain ⟨h12, hw⟩ := hw
        refine lv_irem hx hb dX10_deal_58 h12 ?_
        refine lv_topi (fun v13 ev13 => ?_)
        replace hw := hw v13 ev13
        refine lv_istore (lv' := [(5, .int v13), (4, .int v10), (3, .int v6), (0, .ref (ad 0 0)), (1, .int x1), (2, .int x2)]) hx hb dX10_deal_59 hl (by decide) rfl (fun ls hl => ?_)
        refine lv_aload_n hx hb dX10_deal_61 rfl (lv_at hl 3 rfl) ?_
        refine g_cVi (As := []) (rest := []) E hl.1 (c_X10_drawn l D cy ad ha hw _) ok_X10_drawn mw_1151 ⟨(Nat.le_of_ble_eq_true rfl), (Nat.le_of_ble_eq_true rfl)⟩ ⟨rfl, rfl⟩ rM0 rfl rfl rfl rfl rfl (Nat.le_of_ble_eq_true rfl) ⟨Nat.zero_le _, Nat.zero_le _⟩ hP hS dX10_deal_62 (fun r14 s14 hw H locs hP hS => ?_)
        refine lv_bipush (v := 12) hx hb dX10_deal_65 (by decide) ?_
        obtain ⟨h15, hw⟩ := hw
        refine lv_irem hx hb dX10_deal_67 h15 ?_
        refine lv_topi (fun v16 ev16 => ?_)
        replace hw := hw v16 ev16
        refine lv_istore (lv' := [(6, .int v16), (5, .int v13), (4, .int v10), (3, .int v6), (0, .ref (ad 0 0)), (1, .int x1), (2, .int x2)]) hx hb dX10_deal_68 hl (by decide) rfl (fun ls hl => ?_)
        obtain ⟨n17, hw⟩ := hw
        exact L_X10_deal_70 E ha hk17 n17 s14 x1 x2 v6 v10 v13 v16 hw _ _ _ hP hS (lv_sub hl [4, 5, 6, 3, 2, 1, 0] rfl)
def w_X10_deal (post : Int32 → St → Prop) (σ : St) (x1 : Int32) : Prop := w_X10_isIn (fun r1 s1 => ((¬ r1 = 0 → (∃ n3 : Nat, l_X10_deal_17 post n3 s1 x1 (0 : Int32))) ∧ (r1 = 0 → (post ((-1000000001)) s1)))) σ x1.toInt64 ((1 : Int64)) ((12 : Int64))
theorem B_X10_deal_0 (E : EnvW p s m args meth c D cy regsM ad "RoofWarModel" cX10_deal 7 (some .int)) (ha : Apart regsM ad) {post : Int32 → St → Prop} {σ : St} {x1 : Int32} (hw : w_X10_deal post σ x1) {H : Heap} {locs : List Loc} {ls : Array Slot} (hP : va_P D CLS (wM cy ad σ) H) (hS : va_S (AM ad s.heap.size) s.heap H locs) (hl : lv_has ls 7 [(0, .ref (ad 0 0)), (1, .int x1)]) : W p l e rm_X10_deal s m args below meth c H locs 0 0 (MQ below (QI D cy (cellM cy ad) regsM ad s.heap.size post) args s 0 0 (AM ad s.heap.size)) (F0 m 0 ls []) := by
  obtain ⟨hx, hb, -⟩ := id E
  unfold w_X10_deal at hw
  refine lv_iload_n hx hb dX10_deal_0 rfl (lv_at hl 1 rfl) ?_
  refine lv_i2l (v := x1.toInt64) hx hb dX10_deal_1 rfl ?_
  refine lv_lconst (v := 1) hx hb dX10_deal_2 (by decide) ?_
  refine g_ldc2 (v := 12) E mw_1150 dX10_deal_3 ?_
  refine g_cSi (As := [.long x1.toInt64, .long ((1 : Int64)), .long ((12 : Int64))]) (rest := []) E hl.1 (c_X10_isIn l D cy ad ha hw _) ok_X10_isIn mw_1054 ⟨(Nat.le_of_ble_eq_true rfl), (Nat.le_of_ble_eq_true rfl)⟩ ⟨rfl, rfl⟩ rfl rfl (Nat.le_of_ble_eq_true rfl) ⟨Nat.zero_le _, Nat.zero_le _⟩ hP hS dX10_deal_6 (fun r1 s1 hw H locs hP hS => ?_)
  obtain ⟨z1, hw⟩ := hw
  refine lv_if_ne (tgt := 15) hx hb dX10_deal_9 (by decide) (fun c2 => ?_) (fun c2 => ?_)
  · replace hw := hw.1 c2
    refine lv_iconst (v := 0) hx hb dX10_deal_15 (by decide) ?_
    refine lv_istore_n (lv' := [(2, .int 0), (0, .ref (ad 0 0)), (1, .int x1)]) hx hb dX10_deal_16 rfl hl (by decide) rfl (fun ls hl => ?_)
    obtain ⟨n3, hw⟩ := hw
    exact L_X10_deal_17 E ha n3 s1 x1 (0 : Int32) hw _ _ _ hP hS (lv_sub hl [1, 2, 0] rfl)
  · replace hw := hw.2 c2
    refine g_ldc (v := -1000000001) E mw_1063 dX10_deal_12 ?_
    exact g_iret E hw hP hS dX10_deal_14
theorem c_X10_deal (l : Launch) (D : va_G) (cy : Nat → ClassId) (ad : Nat → Nat → Nat) (ha : Apart regsM ad) {post : Int32 → St → Prop} {σ : St} {x1 : Int32} (hw : w_X10_deal post σ x1) (sz : Nat) : MetI l yX10_deal cX10_deal 7 .int rm_X10_deal [.ref (ad 0 0), .int x1] D cy (cellM cy ad) regsM ad σ sz post :=
  Met_inI ok_X10_deal.2.2.2.2.2 (Nat.le_of_ble_eq_true rfl) (fun p e s m below meth c ls E hP hl => B_X10_deal_0 E ha hw hP va_S.rf hl)
-- RoofWarModel.seed(I)I
theorem dX10_seed_0 : decode cX10_seed 0 = .ok (.aload_n 0, 1) := by decide +kernel
theorem dX10_seed_1 : decode cX10_seed 1 = .ok (.bipush 9, 2) := by decide +kernel
theorem dX10_seed_3 : decode cX10_seed 3 = .ok (.iload_n 1, 1) := by decide +kernel
theorem dX10_seed_4 : decode cX10_seed 4 = .ok (.invokevirtual 129, 3) := by decide +kernel
theorem dX10_seed_7 : decode cX10_seed 7 = .ok (.ireturn, 1) := by decide +kernel
theorem ok_X10_seed : okV yX10_seed cX10_seed 2 (some .int) 1 := ⟨mw_1156, mw_1157, mw_83, mw_1158, by decide +kernel, by decide +kernel⟩
abbrev rm_X10_seed : Room := { frames := 1, cells := 0, slots := 0, locals := 23 }
def w_X10_seed (post : Int32 → St → Prop) (σ : St) (x1 : Int32) : Prop := w_X10_changes (fun r1 s1 => post r1 s1) σ (9 : Int32) x1
theorem B_X10_seed_0 (E : EnvW p s m args meth c D cy regsM ad "RoofWarModel" cX10_seed 2 (some .int)) (ha : Apart regsM ad) {post : Int32 → St → Prop} {σ : St} {x1 : Int32} (hw : w_X10_seed post σ x1) {H : Heap} {locs : List Loc} {ls : Array Slot} (hP : va_P D CLS (wM cy ad σ) H) (hS : va_S (AM ad s.heap.size) s.heap H locs) (hl : lv_has ls 2 [(0, .ref (ad 0 0)), (1, .int x1)]) : W p l e rm_X10_seed s m args below meth c H locs 0 0 (MQ below (QI D cy (cellM cy ad) regsM ad s.heap.size post) args s 0 0 (AM ad s.heap.size)) (F0 m 0 ls []) := by
  obtain ⟨hx, hb, -⟩ := id E
  unfold w_X10_seed at hw
  refine lv_aload_n hx hb dX10_seed_0 rfl (lv_at hl 0 rfl) ?_
  refine lv_bipush (v := 9) hx hb dX10_seed_1 (by decide) ?_
  refine lv_iload_n hx hb dX10_seed_3 rfl (lv_at hl 1 rfl) ?_
  refine g_cVi (As := [.int 9, .int x1]) (rest := []) E hl.1 (c_X10_changes l D cy ad ha hw _) ok_X10_changes mw_1110 ⟨(Nat.le_of_ble_eq_true rfl), (Nat.le_of_ble_eq_true rfl)⟩ ⟨rfl, rfl⟩ rM0 rfl rfl rfl rfl rfl (Nat.le_of_ble_eq_true rfl) ⟨Nat.zero_le _, Nat.zero_le _⟩ hP hS dX10_seed_4 (fun r1 s1 hw H locs hP hS => ?_)
  exact g_iret E hw hP hS dX10_seed_7
theorem c_X10_seed (l : Launch) (D : va_G) (cy : Nat → ClassId) (ad : Nat → Nat → Nat) (ha : Apart regsM ad) {post : Int32 → St → Prop} {σ : St} {x1 : Int32} (hw : w_X10_seed post σ x1) (sz : Nat) : MetI l yX10_seed cX10_seed 2 .int rm_X10_seed [.ref (ad 0 0), .int x1] D cy (cellM cy ad) regsM ad σ sz post :=
  Met_inI ok_X10_seed.2.2.2.2.2 (Nat.le_of_ble_eq_true rfl) (fun p e s m below meth c ls E hP hl => B_X10_seed_0 E ha hw hP va_S.rf hl)
-- RoofWarModel.mayCarry(II)Z
theorem dX10_mayCarry_0 : decode cX10_mayCarry 0 = .ok (.aload_n 0, 1) := by decide +kernel
theorem dX10_mayCarry_1 : decode cX10_mayCarry 1 = .ok (.iload_n 2, 1) := by decide +kernel
theorem dX10_mayCarry_2 : decode cX10_mayCarry 2 = .ok (.invokevirtual 153, 3) := by decide +kernel
theorem dX10_mayCarry_5 : decode cX10_mayCarry 5 = .ok (.iload_n 1, 1) := by decide +kernel
theorem dX10_mayCarry_6 : decode cX10_mayCarry 6 = .ok (.if_icmp .eq 23, 3) := by decide +kernel
theorem dX10_mayCarry_9 : decode cX10_mayCarry 9 = .ok (.aload_n 0, 1) := by decide +kernel
theorem dX10_mayCarry_10 : decode cX10_mayCarry 10 = .ok (.iload_n 2, 1) := by decide +kernel
theorem dX10_mayCarry_11 : decode cX10_mayCarry 11 = .ok (.invokevirtual 112, 3) := by decide +kernel
theorem dX10_mayCarry_14 : decode cX10_mayCarry 14 = .ok (.aload_n 0, 1) := by decide +kernel
theorem dX10_mayCarry_15 : decode cX10_mayCarry 15 = .ok (.getfield 7, 3) := by decide +kernel
theorem dX10_mayCarry_18 : decode cX10_mayCarry 18 = .ok (.iconst 3, 1) := by decide +kernel
theorem dX10_mayCarry_19 : decode cX10_mayCarry 19 = .ok (.iload_n 1, 1) := by decide +kernel
theorem dX10_mayCarry_20 : decode cX10_mayCarry 20 = .ok (.iadd, 1) := by decide +kernel
theorem dX10_mayCarry_21 : decode cX10_mayCarry 21 = .ok (.iaload, 1) := by decide +kernel
theorem dX10_mayCarry_22 : decode cX10_mayCarry 22 = .ok (.if_icmp .gt 7, 3) := by decide +kernel
theorem dX10_mayCarry_25 : decode cX10_mayCarry 25 = .ok (.iconst 1, 1) := by decide +kernel
theorem dX10_mayCarry_26 : decode cX10_mayCarry 26 = .ok (.goto 4, 3) := by decide +kernel
theorem dX10_mayCarry_29 : decode cX10_mayCarry 29 = .ok (.iconst 0, 1) := by decide +kernel
theorem dX10_mayCarry_30 : decode cX10_mayCarry 30 = .ok (.ireturn, 1) := by decide +kernel
theorem ok_X10_mayCarry : okV yX10_mayCarry cX10_mayCarry 3 (some .boolean) 2 := ⟨mw_1176, mw_39, mw_83, mw_1177, by decide +kernel, by decide +kernel⟩
abbrev rm_X10_mayCarry : Room := { frames := 2, cells := 0, slots := 0, locals := 44 }
def w_X10_mayCarry (post : Int32 → St → Prop) (σ : St) (x1 : Int32) (x2 : Int32) : Prop := w_X10_townOf (fun r1 s1 => ((r1 = x1 → (post 0 s1)) ∧ (¬ r1 = x1 → (w_X10_weighs (fun r3 s3 => vp_in (3 + x1) 3082 ∧ ((((s3 1 0 (3 + x1).toNatClampNeg) < r3 → (post 0 s3)) ∧ (¬ (s3 1 0 (3 + x1).toNatClampNeg) < r3 → (post 1 s3))))) s1 x2)))) σ x2
theorem B_X10_mayCarry_0 (E : EnvW p s m args meth c D cy regsM ad "RoofWarModel" cX10_mayCarry 3 (some .boolean)) (ha : Apart regsM ad) {post : Int32 → St → Prop} {σ : St} {x1 : Int32} {x2 : Int32} (hw : w_X10_mayCarry post σ x1 x2) {H : Heap} {locs : List Loc} {ls : Array Slot} (hP : va_P D CLS (wM cy ad σ) H) (hS : va_S (AM ad s.heap.size) s.heap H locs) (hl : lv_has ls 3 [(0, .ref (ad 0 0)), (1, .int x1), (2, .int x2)]) : W p l e rm_X10_mayCarry s m args below meth c H locs 0 0 (MQ below (QI D cy (cellM cy ad) regsM ad s.heap.size (fun r u => (r = 0 ∨ r = 1) ∧ post r u)) args s 0 0 (AM ad s.heap.size)) (F0 m 0 ls []) := by
  obtain ⟨hx, hb, -⟩ := id E
  unfold w_X10_mayCarry at hw
  refine lv_aload_n hx hb dX10_mayCarry_0 rfl (lv_at hl 0 rfl) ?_
  refine lv_iload_n hx hb dX10_mayCarry_1 rfl (lv_at hl 2 rfl) ?_
  refine g_cVi (As := [.int x2]) (rest := []) E hl.1 (c_X10_townOf l D cy ad ha hw _) ok_X10_townOf mw_1178 ⟨(Nat.le_of_ble_eq_true rfl), (Nat.le_of_ble_eq_true rfl)⟩ ⟨rfl, rfl⟩ rM0 rfl rfl rfl rfl rfl (Nat.le_of_ble_eq_true rfl) ⟨Nat.zero_le _, Nat.zero_le _⟩ hP hS dX10_mayCarry_2 (fun r1 s1 hw H locs hP hS => ?_)
  refine lv_iload_n hx hb dX10_mayCarry_5 rfl (lv_at hl 1 rfl) ?_
  refine lv_icmp_eq (tgt := 29) hx hb dX10_mayCarry_6 (by decide) (fun c2 => ?_) (fun c2 => ?_)
  · replace hw := hw.1 c2
    refine lv_iconst (v := 0) hx hb dX10_mayCarry_29 (by decide) ?_
    exact g_zret E (Or.inl rfl) hw hP hS dX10_mayCarry_30
  · replace hw := hw.2 c2
    refine lv_aload_n hx hb dX10_mayCarry_9 rfl (lv_at hl 0 rfl) ?_
    refine lv_iload_n hx hb dX10_mayCarry_10 rfl (lv_at hl 2 rfl) ?_
    refine g_cVi (As := [.int x2]) (rest := []) E hl.1 (c_X10_weighs l D cy ad ha hw _) ok_X10_weighs mw_1086 ⟨(Nat.le_of_ble_eq_true rfl), (Nat.le_of_ble_eq_true rfl)⟩ ⟨rfl, rfl⟩ rM0 rfl rfl rfl rfl rfl (Nat.le_of_ble_eq_true rfl) ⟨Nat.zero_le _, Nat.zero_le _⟩ hP hS dX10_mayCarry_11 (fun r3 s3 hw H locs hP hS => ?_)
    refine lv_aload_n hx hb dX10_mayCarry_14 rfl (lv_at hl 0 rfl) ?_
    refine fX10_0 E hP mw_946 dX10_mayCarry_15 ?_
    refine lv_iconst (v := 3) hx hb dX10_mayCarry_18 (by decide) ?_
    refine lv_iload_n hx hb dX10_mayCarry_19 rfl (lv_at hl 1 rfl) ?_
    refine lv_iadd hx hb dX10_mayCarry_20 ?_
    obtain ⟨h4, hw⟩ := hw
    refine aM1 E hP h4 dX10_mayCarry_21 ?_
    refine lv_icmp_gt (tgt := 29) hx hb dX10_mayCarry_22 (by decide) (fun c5 => ?_) (fun c5 => ?_)
    · replace hw := hw.1 c5
      refine lv_iconst (v := 0) hx hb dX10_mayCarry_29 (by decide) ?_
      exact g_zret E (Or.inl rfl) hw hP hS dX10_mayCarry_30
    · replace hw := hw.2 c5
      refine lv_iconst (v := 1) hx hb dX10_mayCarry_25 (by decide) ?_
      refine lv_goto (tgt := 30) hx hb dX10_mayCarry_26 (by decide) ?_
      exact g_zret E (Or.inr rfl) hw hP hS dX10_mayCarry_30
theorem c_X10_mayCarry (l : Launch) (D : va_G) (cy : Nat → ClassId) (ad : Nat → Nat → Nat) (ha : Apart regsM ad) {post : Int32 → St → Prop} {σ : St} {x1 : Int32} {x2 : Int32} (hw : w_X10_mayCarry post σ x1 x2) (sz : Nat) : MetI l yX10_mayCarry cX10_mayCarry 3 .boolean rm_X10_mayCarry [.ref (ad 0 0), .int x1, .int x2] D cy (cellM cy ad) regsM ad σ sz (fun r u => (r = 0 ∨ r = 1) ∧ post r u) :=
  Met_inI ok_X10_mayCarry.2.2.2.2.2 (Nat.le_of_ble_eq_true rfl) (fun p e s m below meth c ls E hP hl => B_X10_mayCarry_0 E ha hw hP va_S.rf hl)
-- RoofWarModel.lootOf(I)I
theorem dX10_lootOf_0 : decode cX10_lootOf 0 = .ok (.iconst 0, 1) := by decide +kernel
theorem dX10_lootOf_1 : decode cX10_lootOf 1 = .ok (.istore_n 2, 1) := by decide +kernel
theorem dX10_lootOf_2 : decode cX10_lootOf 2 = .ok (.iconst 0, 1) := by decide +kernel
theorem dX10_lootOf_3 : decode cX10_lootOf 3 = .ok (.istore_n 3, 1) := by decide +kernel
theorem dX10_lootOf_4 : decode cX10_lootOf 4 = .ok (.iload_n 3, 1) := by decide +kernel
theorem dX10_lootOf_5 : decode cX10_lootOf 5 = .ok (.aload_n 0, 1) := by decide +kernel
theorem dX10_lootOf_6 : decode cX10_lootOf 6 = .ok (.getfield 7, 3) := by decide +kernel
theorem dX10_lootOf_9 : decode cX10_lootOf 9 = .ok (.iconst 0, 1) := by decide +kernel
theorem dX10_lootOf_10 : decode cX10_lootOf 10 = .ok (.iaload, 1) := by decide +kernel
theorem dX10_lootOf_11 : decode cX10_lootOf 11 = .ok (.if_icmp .ge 28, 3) := by decide +kernel
theorem dX10_lootOf_14 : decode cX10_lootOf 14 = .ok (.iload_n 2, 1) := by decide +kernel
theorem dX10_lootOf_15 : decode cX10_lootOf 15 = .ok (.aload_n 0, 1) := by decide +kernel
theorem dX10_lootOf_16 : decode cX10_lootOf 16 = .ok (.iload_n 1, 1) := by decide +kernel
theorem dX10_lootOf_17 : decode cX10_lootOf 17 = .ok (.iload_n 3, 1) := by decide +kernel
theorem dX10_lootOf_18 : decode cX10_lootOf 18 = .ok (.invokevirtual 156, 3) := by decide +kernel
theorem dX10_lootOf_21 : decode cX10_lootOf 21 = .ok (.ifCond .eq 9, 3) := by decide +kernel
theorem dX10_lootOf_24 : decode cX10_lootOf 24 = .ok (.iconst 1, 1) := by decide +kernel
theorem dX10_lootOf_25 : decode cX10_lootOf 25 = .ok (.iload_n 3, 1) := by decide +kernel
theorem dX10_lootOf_26 : decode cX10_lootOf 26 = .ok (.ishl, 1) := by decide +kernel
theorem dX10_lootOf_27 : decode cX10_lootOf 27 = .ok (.goto 4, 3) := by decide +kernel
theorem dX10_lootOf_30 : decode cX10_lootOf 30 = .ok (.iconst 0, 1) := by decide +kernel
theorem dX10_lootOf_31 : decode cX10_lootOf 31 = .ok (.ior, 1) := by decide +kernel
theorem dX10_lootOf_32 : decode cX10_lootOf 32 = .ok (.istore_n 2, 1) := by decide +kernel
theorem dX10_lootOf_33 : decode cX10_lootOf 33 = .ok (.iinc 3 1, 3) := by decide +kernel
theorem dX10_lootOf_36 : decode cX10_lootOf 36 = .ok (.goto (-32), 3) := by decide +kernel
theorem dX10_lootOf_39 : decode cX10_lootOf 39 = .ok (.iload_n 2, 1) := by decide +kernel
theorem dX10_lootOf_40 : decode cX10_lootOf 40 = .ok (.ireturn, 1) := by decide +kernel
theorem ok_X10_lootOf : okV yX10_lootOf cX10_lootOf 4 (some .int) 1 := ⟨mw_1173, mw_38, mw_83, mw_1174, by decide +kernel, by decide +kernel⟩
abbrev rm_X10_lootOf : Room := { frames := 3, cells := 0, slots := 0, locals := 66 }
def b_X10_lootOf_4 (K4 : St → Int32 → Int32 → Int32 → Prop) (post : Int32 → St → Prop) (σ : St) (x1 : Int32) (x2 : Int32) (x3 : Int32) : Prop := vp_in (0 : Int32) 3082 ∧ ((((σ 1 0 (0 : Int32).toNatClampNeg) ≤ x3 → (post x2 σ)) ∧ (¬ (σ 1 0 (0 : Int32).toNatClampNeg) ≤ x3 → (w_X10_mayCarry (fun r3 s3 => ((r3 = 0 → (∀ v5 : Int32, v5 = x2 ||| 0 → (∀ v6 : Int32, v6 = x3 + 1 → (K4 s3 x1 v5 v6)))) ∧ (¬ r3 = 0 → (∀ v7 : Int32, v7 = x2 ||| (1 <<< (x3 &&& 31)) → (∀ v8 : Int32, v8 = x3 + 1 → (K4 s3 x1 v7 v8)))))) σ x1 x3))))
noncomputable def l_X10_lootOf_4 (post : Int32 → St → Prop) : Nat → St → Int32 → Int32 → Int32 → Prop := fun n => Nat.rec (motive := fun _ => St → Int32 → Int32 → Int32 → Prop) (fun _ _ _ _ => False) (fun _ ih => b_X10_lootOf_4 ih post) n
theorem L_X10_lootOf_4 (E : EnvW p s m args meth c D cy regsM ad "RoofWarModel" cX10_lootOf 4 (some .int)) (ha : Apart regsM ad) {post : Int32 → St → Prop} : ∀ (n : Nat), ∀ (σ : St) (x1 : Int32) (x2 : Int32) (x3 : Int32), l_X10_lootOf_4 post n σ x1 x2 x3 → ∀ (H : Heap) (locs : List Loc) (ls : Array Slot), va_P D CLS (wM cy ad σ) H → va_S (AM ad s.heap.size) s.heap H locs → lv_has ls 4 [(0, .ref (ad 0 0)), (1, .int x1), (2, .int x2), (3, .int x3)] → W p l e rm_X10_lootOf s m args below meth c H locs 0 0 (MQ below (QI D cy (cellM cy ad) regsM ad s.heap.size post) args s 0 0 (AM ad s.heap.size)) (F0 m 4 ls []) := by
  obtain ⟨hx, hb, -⟩ := id E
  intro n
  induction n with
  | zero => intro σ x1 x2 x3 hw; exact hw.elim
  | succ n hk4 =>
    intro σ x1 x2 x3 hw H locs ls hP hS hl
    replace hw : b_X10_lootOf_4 (l_X10_lootOf_4 post n) post σ x1 x2 x3 := hw
    unfold b_X10_lootOf_4 at hw
    refine lv_iload_n hx hb dX10_lootOf_4 rfl (lv_at hl 3 rfl) ?_
    refine lv_aload_n hx hb dX10_lootOf_5 rfl (lv_at hl 0 rfl) ?_
    refine fX10_0 E hP mw_946 dX10_lootOf_6 ?_
    refine lv_iconst (v := 0) hx hb dX10_lootOf_9 (by decide) ?_
    obtain ⟨h1, hw⟩ := hw
    refine aM1 E hP h1 dX10_lootOf_10 ?_
    refine lv_icmp_ge (tgt := 39) hx hb dX10_lootOf_11 (by decide) (fun c2 => ?_) (fun c2 => ?_)
    · replace hw := hw.1 c2
      refine lv_iload_n hx hb dX10_lootOf_39 rfl (lv_at hl 2 rfl) ?_
      exact g_iret E hw hP hS dX10_lootOf_40
    · replace hw := hw.2 c2
      refine lv_iload_n hx hb dX10_lootOf_14 rfl (lv_at hl 2 rfl) ?_
      refine lv_aload_n hx hb dX10_lootOf_15 rfl (lv_at hl 0 rfl) ?_
      refine lv_iload_n hx hb dX10_lootOf_16 rfl (lv_at hl 1 rfl) ?_
      refine lv_iload_n hx hb dX10_lootOf_17 rfl (lv_at hl 3 rfl) ?_
      refine g_cVi (As := [.int x1, .int x3]) (rest := [.int x2]) E hl.1 (c_X10_mayCarry l D cy ad ha hw _) ok_X10_mayCarry mw_1175 ⟨(Nat.le_of_ble_eq_true rfl), (Nat.le_of_ble_eq_true rfl)⟩ ⟨rfl, rfl⟩ rM0 rfl rfl rfl rfl rfl (Nat.le_of_ble_eq_true rfl) ⟨Nat.zero_le _, Nat.zero_le _⟩ hP hS dX10_lootOf_18 (fun r3 s3 hw H locs hP hS => ?_)
      obtain ⟨z3, hw⟩ := hw
      refine lv_if_eq (tgt := 30) hx hb dX10_lootOf_21 (by decide) (fun c4 => ?_) (fun c4 => ?_)
      · replace hw := hw.1 c4
        refine lv_iconst (v := 0) hx hb dX10_lootOf_30 (by decide) ?_
        refine lv_ior hx hb dX10_lootOf_31 ?_
        refine lv_topi (fun v5 ev5 => ?_)
        replace hw := hw v5 ev5
        refine lv_istore_n (lv' := [(2, .int v5), (0, .ref (ad 0 0)), (1, .int x1), (3, .int x3)]) hx hb dX10_lootOf_32 rfl hl (by decide) rfl (fun ls hl => ?_)
        obtain ⟨v6, ev6⟩ : ∃ y : Int32, y = x3 + 1 := ⟨_, rfl⟩
        replace hw := hw v6 ev6
        refine lv_iinc (v := v6) (lv' := [(3, .int v6), (2, .int v5), (0, .ref (ad 0 0)), (1, .int x1)]) hx hb dX10_lootOf_33 hl (k := 3) rfl (by rw [ev6]; rfl) (by decide) rfl (fun ls hl => ?_)
        refine lv_goto (tgt := 4) hx hb dX10_lootOf_36 (by decide) ?_
        exact hk4 s3 x1 v5 v6 hw _ _ _ hP hS (lv_sub hl [2, 3, 1, 0] rfl)
      · replace hw := hw.2 c4
        refine lv_iconst (v := 1) hx hb dX10_lootOf_24 (by decide) ?_
        refine lv_iload_n hx hb dX10_lootOf_25 rfl (lv_at hl 3 rfl) ?_
        refine lv_ishl hx hb dX10_lootOf_26 ?_
        refine lv_goto (tgt := 31) hx hb dX10_lootOf_27 (by decide) ?_
        refine lv_ior hx hb dX10_lootOf_31 ?_
        refine lv_topi (fun v7 ev7 => ?_)
        replace hw := hw v7 ev7
        refine lv_istore_n (lv' := [(2, .int v7), (0, .ref (ad 0 0)), (1, .int x1), (3, .int x3)]) hx hb dX10_lootOf_32 rfl hl (by decide) rfl (fun ls hl => ?_)
        obtain ⟨v8, ev8⟩ : ∃ y : Int32, y = x3 + 1 := ⟨_, rfl⟩
        replace hw := hw v8 ev8
        refine lv_iinc (v := v8) (lv' := [(3, .int v8), (2, .int v7), (0, .ref (ad 0 0)), (1, .int x1)]) hx hb dX10_lootOf_33 hl (k := 3) rfl (by rw [ev8]; rfl) (by decide) rfl (fun ls hl => ?_)
        refine lv_goto (tgt := 4) hx hb dX10_lootOf_36 (by decide) ?_
        exact hk4 s3 x1 v7 v8 hw _ _ _ hP hS (lv_sub hl [2, 3, 1, 0] rfl)
def w_X10_lootOf (post : Int32 → St → Prop) (σ : St) (x1 : Int32) : Prop := ∃ n1 : Nat, l_X10_lootOf_4 post n1 σ x1 (0 : Int32) (0 : Int32)
theorem B_X10_lootOf_0 (E : EnvW p s m args meth c D cy regsM ad "RoofWarModel" cX10_lootOf 4 (some .int)) (ha : Apart regsM ad) {post : Int32 → St → Prop} {σ : St} {x1 : Int32} (hw : w_X10_lootOf post σ x1) {H : Heap} {locs : List Loc} {ls : Array Slot} (hP : va_P D CLS (wM cy ad σ) H) (hS : va_S (AM ad s.heap.size) s.heap H locs) (hl : lv_has ls 4 [(0, .ref (ad 0 0)), (1, .int x1)]) : W p l e rm_X10_lootOf s m args below meth c H locs 0 0 (MQ below (QI D cy (cellM cy ad) regsM ad s.heap.size post) args s 0 0 (AM ad s.heap.size)) (F0 m 0 ls []) := by
  obtain ⟨hx, hb, -⟩ := id E
  unfold w_X10_lootOf at hw
  refine lv_iconst (v := 0) hx hb dX10_lootOf_0 (by decide) ?_
  refine lv_istore_n (lv' := [(2, .int 0), (0, .ref (ad 0 0)), (1, .int x1)]) hx hb dX10_lootOf_1 rfl hl (by decide) rfl (fun ls hl => ?_)
  refine lv_iconst (v := 0) hx hb dX10_lootOf_2 (by decide) ?_
  refine lv_istore_n (lv' := [(3, .int 0), (2, .int 0), (0, .ref (ad 0 0)), (1, .int x1)]) hx hb dX10_lootOf_3 rfl hl (by decide) rfl (fun ls hl => ?_)
  obtain ⟨n1, hw⟩ := hw
  exact L_X10_lootOf_4 E ha n1 σ x1 (0 : Int32) (0 : Int32) hw _ _ _ hP hS (lv_sub hl [2, 3, 1, 0] rfl)
theorem c_X10_lootOf (l : Launch) (D : va_G) (cy : Nat → ClassId) (ad : Nat → Nat → Nat) (ha : Apart regsM ad) {post : Int32 → St → Prop} {σ : St} {x1 : Int32} (hw : w_X10_lootOf post σ x1) (sz : Nat) : MetI l yX10_lootOf cX10_lootOf 4 .int rm_X10_lootOf [.ref (ad 0 0), .int x1] D cy (cellM cy ad) regsM ad σ sz post :=
  Met_inI ok_X10_lootOf.2.2.2.2.2 (Nat.le_of_ble_eq_true rfl) (fun p e s m below meth c ls E hP hl => B_X10_lootOf_0 E ha hw hP va_S.rf hl)
-- RoofWarModel.homeOf(I)I
theorem dX10_homeOf_0 : decode cX10_homeOf 0 = .ok (.bipush 6, 2) := by decide +kernel
theorem dX10_homeOf_2 : decode cX10_homeOf 2 = .ok (.iload_n 1, 1) := by decide +kernel
theorem dX10_homeOf_3 : decode cX10_homeOf 3 = .ok (.imul, 1) := by decide +kernel
theorem dX10_homeOf_4 : decode cX10_homeOf 4 = .ok (.istore_n 2, 1) := by decide +kernel
theorem dX10_homeOf_5 : decode cX10_homeOf 5 = .ok (.iload_n 2, 1) := by decide +kernel
theorem dX10_homeOf_6 : decode cX10_homeOf 6 = .ok (.bipush 6, 2) := by decide +kernel
theorem dX10_homeOf_8 : decode cX10_homeOf 8 = .ok (.iload_n 1, 1) := by decide +kernel
theorem dX10_homeOf_9 : decode cX10_homeOf 9 = .ok (.imul, 1) := by decide +kernel
theorem dX10_homeOf_10 : decode cX10_homeOf 10 = .ok (.bipush 6, 2) := by decide +kernel
theorem dX10_homeOf_12 : decode cX10_homeOf 12 = .ok (.iadd, 1) := by decide +kernel
theorem dX10_homeOf_13 : decode cX10_homeOf 13 = .ok (.if_icmp .ge 17, 3) := by decide +kernel
theorem dX10_homeOf_16 : decode cX10_homeOf 16 = .ok (.aload_n 0, 1) := by decide +kernel
theorem dX10_homeOf_17 : decode cX10_homeOf 17 = .ok (.iload_n 2, 1) := by decide +kernel
theorem dX10_homeOf_18 : decode cX10_homeOf 18 = .ok (.invokevirtual 97, 3) := by decide +kernel
theorem dX10_homeOf_21 : decode cX10_homeOf 21 = .ok (.ifCond .lt 9, 3) := by decide +kernel
theorem dX10_homeOf_24 : decode cX10_homeOf 24 = .ok (.iinc 2 1, 3) := by decide +kernel
theorem dX10_homeOf_27 : decode cX10_homeOf 27 = .ok (.goto (-22), 3) := by decide +kernel
theorem dX10_homeOf_30 : decode cX10_homeOf 30 = .ok (.iload_n 2, 1) := by decide +kernel
theorem dX10_homeOf_31 : decode cX10_homeOf 31 = .ok (.bipush 6, 2) := by decide +kernel
theorem dX10_homeOf_33 : decode cX10_homeOf 33 = .ok (.iload_n 1, 1) := by decide +kernel
theorem dX10_homeOf_34 : decode cX10_homeOf 34 = .ok (.imul, 1) := by decide +kernel
theorem dX10_homeOf_35 : decode cX10_homeOf 35 = .ok (.bipush 6, 2) := by decide +kernel
theorem dX10_homeOf_37 : decode cX10_homeOf 37 = .ok (.iadd, 1) := by decide +kernel
theorem dX10_homeOf_38 : decode cX10_homeOf 38 = .ok (.if_icmp .ge 7, 3) := by decide +kernel
theorem dX10_homeOf_41 : decode cX10_homeOf 41 = .ok (.iload_n 2, 1) := by decide +kernel
theorem dX10_homeOf_42 : decode cX10_homeOf 42 = .ok (.goto 4, 3) := by decide +kernel
theorem dX10_homeOf_45 : decode cX10_homeOf 45 = .ok (.iconst (-1), 1) := by decide +kernel
theorem dX10_homeOf_46 : decode cX10_homeOf 46 = .ok (.ireturn, 1) := by decide +kernel
theorem ok_X10_homeOf : okV yX10_homeOf cX10_homeOf 3 (some .int) 1 := ⟨mw_1182, mw_41, mw_83, mw_1183, by decide +kernel, by decide +kernel⟩
abbrev rm_X10_homeOf : Room := { frames := 2, cells := 0, slots := 0, locals := 44 }
def b_X10_homeOf_30 (post : Int32 → St → Prop) (σ : St) (x1 : Int32) (x2 : Int32) : Prop := ((((6 * x1) + 6) ≤ x2 → (post ((-1)) σ)) ∧ (¬ ((6 * x1) + 6) ≤ x2 → (post x2 σ)))
theorem B_X10_homeOf_30 (E : EnvW p s m args meth c D cy regsM ad "RoofWarModel" cX10_homeOf 3 (some .int)) (ha : Apart regsM ad) {post : Int32 → St → Prop} {σ : St} {x1 : Int32} {x2 : Int32} (hw : b_X10_homeOf_30 post σ x1 x2) {H : Heap} {locs : List Loc} {ls : Array Slot} (hP : va_P D CLS (wM cy ad σ) H) (hS : va_S (AM ad s.heap.size) s.heap H locs) (hl : lv_has ls 3 [(1, .int x1), (2, .int x2)]) : W p l e rm_X10_homeOf s m args below meth c H locs 0 0 (MQ below (QI D cy (cellM cy ad) regsM ad s.heap.size post) args s 0 0 (AM ad s.heap.size)) (F0 m 30 ls []) := by
  obtain ⟨hx, hb, -⟩ := id E
  unfold b_X10_homeOf_30 at hw
  refine lv_iload_n hx hb dX10_homeOf_30 rfl (lv_at hl 1 rfl) ?_
  refine lv_bipush (v := 6) hx hb dX10_homeOf_31 (by decide) ?_
  refine lv_iload_n hx hb dX10_homeOf_33 rfl (lv_at hl 0 rfl) ?_
  refine lv_imul hx hb dX10_homeOf_34 ?_
  refine lv_bipush (v := 6) hx hb dX10_homeOf_35 (by decide) ?_
  refine lv_iadd hx hb dX10_homeOf_37 ?_
  refine lv_icmp_ge (tgt := 45) hx hb dX10_homeOf_38 (by decide) (fun c1 => ?_) (fun c1 => ?_)
  · replace hw := hw.1 c1
    refine lv_iconst (v := -1) hx hb dX10_homeOf_45 (by decide) ?_
    exact g_iret E hw hP hS dX10_homeOf_46
  · replace hw := hw.2 c1
    refine lv_iload_n hx hb dX10_homeOf_41 rfl (lv_at hl 1 rfl) ?_
    refine lv_goto (tgt := 46) hx hb dX10_homeOf_42 (by decide) ?_
    exact g_iret E hw hP hS dX10_homeOf_46
def b_X10_homeOf_5 (K5 : St → Int32 → Int32 → Prop) (post : Int32 → St → Prop) (σ : St) (x1 : Int32) (x2 : Int32) : Prop := ((((6 * x1) + 6) ≤ x2 → (b_X10_homeOf_30 post σ x1 x2)) ∧ (¬ ((6 * x1) + 6) ≤ x2 → (w_X10_over (fun r2 s2 => ((r2 < 0 → (b_X10_homeOf_30 post s2 x1 x2)) ∧ (¬ r2 < 0 → (∀ v4 : Int32, v4 = x2 + 1 → (K5 s2 x1 v4))))) σ x2)))
noncomputable def l_X10_homeOf_5 (post : Int32 → St → Prop) : Nat → St → Int32 → Int32 → Prop := fun n => Nat.rec (motive := fun _ => St → Int32 → Int32 → Prop) (fun _ _ _ => False) (fun _ ih => b_X10_homeOf_5 ih post) n
theorem L_X10_homeOf_5 (E : EnvW p s m args meth c D cy regsM ad "RoofWarModel" cX10_homeOf 3 (some .int)) (ha : Apart regsM ad) {post : Int32 → St → Prop} : ∀ (n : Nat), ∀ (σ : St) (x1 : Int32) (x2 : Int32), l_X10_homeOf_5 post n σ x1 x2 → ∀ (H : Heap) (locs : List Loc) (ls : Array Slot), va_P D CLS (wM cy ad σ) H → va_S (AM ad s.heap.size) s.heap H locs → lv_has ls 3 [(0, .ref (ad 0 0)), (1, .int x1), (2, .int x2)] → W p l e rm_X10_homeOf s m args below meth c H locs 0 0 (MQ below (QI D cy (cellM cy ad) regsM ad s.heap.size post) args s 0 0 (AM ad s.heap.size)) (F0 m 5 ls []) := by
  obtain ⟨hx, hb, -⟩ := id E
  intro n
  induction n with
  | zero => intro σ x1 x2 hw; exact hw.elim
  | succ n hk5 =>
    intro σ x1 x2 hw H locs ls hP hS hl
    replace hw : b_X10_homeOf_5 (l_X10_homeOf_5 post n) post σ x1 x2 := hw
    unfold b_X10_homeOf_5 at hw
    refine lv_iload_n hx hb dX10_homeOf_5 rfl (lv_at hl 2 rfl) ?_
    refine lv_bipush (v := 6) hx hb dX10_homeOf_6 (by decide) ?_
    refine lv_iload_n hx hb dX10_homeOf_8 rfl (lv_at hl 1 rfl) ?_
    refine lv_imul hx hb dX10_homeOf_9 ?_
    refine lv_bipush (v := 6) hx hb dX10_homeOf_10 (by decide) ?_
    refine lv_iadd hx hb dX10_homeOf_12 ?_
    refine lv_icmp_ge (tgt := 30) hx hb dX10_homeOf_13 (by decide) (fun c1 => ?_) (fun c1 => ?_)
    · replace hw := hw.1 c1
      exact B_X10_homeOf_30 E ha hw hP hS (lv_sub hl [1, 2] rfl)
    · replace hw := hw.2 c1
      refine lv_aload_n hx hb dX10_homeOf_16 rfl (lv_at hl 0 rfl) ?_
      refine lv_iload_n hx hb dX10_homeOf_17 rfl (lv_at hl 2 rfl) ?_
      refine g_cVi (As := [.int x2]) (rest := []) E hl.1 (c_X10_over l D cy ad ha hw _) ok_X10_over mw_1064 ⟨(Nat.le_of_ble_eq_true rfl), (Nat.le_of_ble_eq_true rfl)⟩ ⟨rfl, rfl⟩ rM0 rfl rfl rfl rfl rfl (Nat.le_of_ble_eq_true rfl) ⟨Nat.zero_le _, Nat.zero_le _⟩ hP hS dX10_homeOf_18 (fun r2 s2 hw H locs hP hS => ?_)
      refine lv_if_lt (tgt := 30) hx hb dX10_homeOf_21 (by decide) (fun c3 => ?_) (fun c3 => ?_)
      · replace hw := hw.1 c3
        exact B_X10_homeOf_30 E ha hw hP hS (lv_sub hl [1, 2] rfl)
      · replace hw := hw.2 c3
        obtain ⟨v4, ev4⟩ : ∃ y : Int32, y = x2 + 1 := ⟨_, rfl⟩
        replace hw := hw v4 ev4
        refine lv_iinc (v := v4) (lv' := [(2, .int v4), (0, .ref (ad 0 0)), (1, .int x1)]) hx hb dX10_homeOf_24 hl (k := 2) rfl (by rw [ev4]; rfl) (by decide) rfl (fun ls hl => ?_)
        refine lv_goto (tgt := 5) hx hb dX10_homeOf_27 (by decide) ?_
        exact hk5 s2 x1 v4 hw _ _ _ hP hS (lv_sub hl [1, 2, 0] rfl)
def w_X10_homeOf (post : Int32 → St → Prop) (σ : St) (x1 : Int32) : Prop := ∀ v1 : Int32, v1 = 6 * x1 → (∃ n2 : Nat, l_X10_homeOf_5 post n2 σ x1 v1)
theorem B_X10_homeOf_0 (E : EnvW p s m args meth c D cy regsM ad "RoofWarModel" cX10_homeOf 3 (some .int)) (ha : Apart regsM ad) {post : Int32 → St → Prop} {σ : St} {x1 : Int32} (hw : w_X10_homeOf post σ x1) {H : Heap} {locs : List Loc} {ls : Array Slot} (hP : va_P D CLS (wM cy ad σ) H) (hS : va_S (AM ad s.heap.size) s.heap H locs) (hl : lv_has ls 3 [(0, .ref (ad 0 0)), (1, .int x1)]) : W p l e rm_X10_homeOf s m args below meth c H locs 0 0 (MQ below (QI D cy (cellM cy ad) regsM ad s.heap.size post) args s 0 0 (AM ad s.heap.size)) (F0 m 0 ls []) := by
  obtain ⟨hx, hb, -⟩ := id E
  unfold w_X10_homeOf at hw
  refine lv_bipush (v := 6) hx hb dX10_homeOf_0 (by decide) ?_
  refine lv_iload_n hx hb dX10_homeOf_2 rfl (lv_at hl 1 rfl) ?_
  refine lv_imul hx hb dX10_homeOf_3 ?_
  refine lv_topi (fun v1 ev1 => ?_)
  replace hw := hw v1 ev1
  refine lv_istore_n (lv' := [(2, .int v1), (0, .ref (ad 0 0)), (1, .int x1)]) hx hb dX10_homeOf_4 rfl hl (by decide) rfl (fun ls hl => ?_)
  obtain ⟨n2, hw⟩ := hw
  exact L_X10_homeOf_5 E ha n2 σ x1 v1 hw _ _ _ hP hS (lv_sub hl [1, 2, 0] rfl)
theorem c_X10_homeOf (l : Launch) (D : va_G) (cy : Nat → ClassId) (ad : Nat → Nat → Nat) (ha : Apart regsM ad) {post : Int32 → St → Prop} {σ : St} {x1 : Int32} (hw : w_X10_homeOf post σ x1) (sz : Nat) : MetI l yX10_homeOf cX10_homeOf 3 .int rm_X10_homeOf [.ref (ad 0 0), .int x1] D cy (cellM cy ad) regsM ad σ sz post :=
  Met_inI ok_X10_homeOf.2.2.2.2.2 (Nat.le_of_ble_eq_true rfl) (fun p e s m below meth c ls E hP hl => B_X10_homeOf_0 E ha hw hP va_S.rf hl)
-- RoofWarModel.counts(I)I
theorem dX10_counts_0 : decode cX10_counts 0 = .ok (.iconst (-1), 1) := by decide +kernel
theorem dX10_counts_1 : decode cX10_counts 1 = .ok (.istore_n 2, 1) := by decide +kernel
theorem dX10_counts_2 : decode cX10_counts 2 = .ok (.iconst 0, 1) := by decide +kernel
theorem dX10_counts_3 : decode cX10_counts 3 = .ok (.istore_n 3, 1) := by decide +kernel
theorem dX10_counts_4 : decode cX10_counts 4 = .ok (.iload_n 3, 1) := by decide +kernel
theorem dX10_counts_5 : decode cX10_counts 5 = .ok (.aload_n 0, 1) := by decide +kernel
theorem dX10_counts_6 : decode cX10_counts 6 = .ok (.getfield 7, 3) := by decide +kernel
theorem dX10_counts_9 : decode cX10_counts 9 = .ok (.iconst 1, 1) := by decide +kernel
theorem dX10_counts_10 : decode cX10_counts 10 = .ok (.iaload, 1) := by decide +kernel
theorem dX10_counts_11 : decode cX10_counts 11 = .ok (.if_icmp .ge 29, 3) := by decide +kernel
theorem dX10_counts_14 : decode cX10_counts 14 = .ok (.aload_n 0, 1) := by decide +kernel
theorem dX10_counts_15 : decode cX10_counts 15 = .ok (.getfield 7, 3) := by decide +kernel
theorem dX10_counts_18 : decode cX10_counts 18 = .ok (.aload_n 0, 1) := by decide +kernel
theorem dX10_counts_19 : decode cX10_counts 19 = .ok (.iload_n 3, 1) := by decide +kernel
theorem dX10_counts_20 : decode cX10_counts 20 = .ok (.invokevirtual 318, 3) := by decide +kernel
theorem dX10_counts_23 : decode cX10_counts 23 = .ok (.iaload, 1) := by decide +kernel
theorem dX10_counts_24 : decode cX10_counts 24 = .ok (.iload_n 1, 1) := by decide +kernel
theorem dX10_counts_25 : decode cX10_counts 25 = .ok (.if_icmp .ne 7, 3) := by decide +kernel
theorem dX10_counts_28 : decode cX10_counts 28 = .ok (.iload_n 3, 1) := by decide +kernel
theorem dX10_counts_29 : decode cX10_counts 29 = .ok (.goto 4, 3) := by decide +kernel
theorem dX10_counts_32 : decode cX10_counts 32 = .ok (.iload_n 2, 1) := by decide +kernel
theorem dX10_counts_33 : decode cX10_counts 33 = .ok (.istore_n 2, 1) := by decide +kernel
theorem dX10_counts_34 : decode cX10_counts 34 = .ok (.iinc 3 1, 3) := by decide +kernel
theorem dX10_counts_37 : decode cX10_counts 37 = .ok (.goto (-33), 3) := by decide +kernel
theorem dX10_counts_40 : decode cX10_counts 40 = .ok (.iload_n 2, 1) := by decide +kernel
theorem dX10_counts_41 : decode cX10_counts 41 = .ok (.ireturn, 1) := by decide +kernel
theorem ok_X10_counts : okV yX10_counts cX10_counts 4 (some .int) 1 := ⟨mw_1194, mw_44, mw_83, mw_1195, by decide +kernel, by decide +kernel⟩
abbrev rm_X10_counts : Room := { frames := 1, cells := 0, slots := 0, locals := 21 }
def b_X10_counts_4 (K4 : St → Int32 → Int32 → Int32 → Prop) (post : Int32 → St → Prop) (σ : St) (x1 : Int32) (x2 : Int32) (x3 : Int32) : Prop := vp_in (1 : Int32) 3082 ∧ ((((σ 1 0 (1 : Int32).toNatClampNeg) ≤ x3 → (post x2 σ)) ∧ (¬ (σ 1 0 (1 : Int32).toNatClampNeg) ≤ x3 → (w_X10_textAt (fun r3 s3 => vp_in r3 3082 ∧ (((¬ (s3 1 0 r3.toNatClampNeg) = x1 → (∀ v6 : Int32, v6 = x3 + 1 → (K4 s3 x1 x2 v6))) ∧ ((s3 1 0 r3.toNatClampNeg) = x1 → (∀ v7 : Int32, v7 = x3 + 1 → (K4 s3 x1 x3 v7)))))) σ x3))))
noncomputable def l_X10_counts_4 (post : Int32 → St → Prop) : Nat → St → Int32 → Int32 → Int32 → Prop := fun n => Nat.rec (motive := fun _ => St → Int32 → Int32 → Int32 → Prop) (fun _ _ _ _ => False) (fun _ ih => b_X10_counts_4 ih post) n
theorem L_X10_counts_4 (E : EnvW p s m args meth c D cy regsM ad "RoofWarModel" cX10_counts 4 (some .int)) (ha : Apart regsM ad) {post : Int32 → St → Prop} : ∀ (n : Nat), ∀ (σ : St) (x1 : Int32) (x2 : Int32) (x3 : Int32), l_X10_counts_4 post n σ x1 x2 x3 → ∀ (H : Heap) (locs : List Loc) (ls : Array Slot), va_P D CLS (wM cy ad σ) H → va_S (AM ad s.heap.size) s.heap H locs → lv_has ls 4 [(0, .ref (ad 0 0)), (1, .int x1), (2, .int x2), (3, .int x3)] → W p l e rm_X10_counts s m args below meth c H locs 0 0 (MQ below (QI D cy (cellM cy ad) regsM ad s.heap.size post) args s 0 0 (AM ad s.heap.size)) (F0 m 4 ls []) := by
  obtain ⟨hx, hb, -⟩ := id E
  intro n
  induction n with
  | zero => intro σ x1 x2 x3 hw; exact hw.elim
  | succ n hk4 =>
    intro σ x1 x2 x3 hw H locs ls hP hS hl
    replace hw : b_X10_counts_4 (l_X10_counts_4 post n) post σ x1 x2 x3 := hw
    unfold b_X10_counts_4 at hw
    refine lv_iload_n hx hb dX10_counts_4 rfl (lv_at hl 3 rfl) ?_
    refine lv_aload_n hx hb dX10_counts_5 rfl (lv_at hl 0 rfl) ?_
    refine fX10_0 E hP mw_946 dX10_counts_6 ?_
    refine lv_iconst (v := 1) hx hb dX10_counts_9 (by decide) ?_
    obtain ⟨h1, hw⟩ := hw
    refine aM1 E hP h1 dX10_counts_10 ?_
    refine lv_icmp_ge (tgt := 40) hx hb dX10_counts_11 (by decide) (fun c2 => ?_) (fun c2 => ?_)
    · replace hw := hw.1 c2
      refine lv_iload_n hx hb dX10_counts_40 rfl (lv_at hl 2 rfl) ?_
      exact g_iret E hw hP hS dX10_counts_41
    · replace hw := hw.2 c2
      refine lv_aload_n hx hb dX10_counts_14 rfl (lv_at hl 0 rfl) ?_
      refine fX10_0 E hP mw_946 dX10_counts_15 ?_
      refine lv_aload_n hx hb dX10_counts_18 rfl (lv_at hl 0 rfl) ?_
      refine lv_iload_n hx hb dX10_counts_19 rfl (lv_at hl 3 rfl) ?_
      refine g_cVi (As := [.int x3]) (rest := [.ref (ad 1 0)]) E hl.1 (c_X10_textAt l D cy ad ha hw _) ok_X10_textAt mw_1196 ⟨(Nat.le_of_ble_eq_true rfl), (Nat.le_of_ble_eq_true rfl)⟩ ⟨rfl, rfl⟩ rM0 rfl rfl rfl rfl rfl (Nat.le_of_ble_eq_true rfl) ⟨Nat.zero_le _, Nat.zero_le _⟩ hP hS dX10_counts_20 (fun r3 s3 hw H locs hP hS => ?_)
      obtain ⟨h4, hw⟩ := hw
      refine aM1 E hP h4 dX10_counts_23 ?_
      refine lv_iload_n hx hb dX10_counts_24 rfl (lv_at hl 1 rfl) ?_
      refine lv_icmp_ne (tgt := 32) hx hb dX10_counts_25 (by decide) (fun c5 => ?_) (fun c5 => ?_)
      · replace hw := hw.1 c5
        refine lv_iload_n hx hb dX10_counts_32 rfl (lv_at hl 2 rfl) ?_
        refine lv_istore_n (lv' := [(2, .int x2), (0, .ref (ad 0 0)), (1, .int x1), (3, .int x3)]) hx hb dX10_counts_33 rfl hl (by decide) rfl (fun ls hl => ?_)
        obtain ⟨v6, ev6⟩ : ∃ y : Int32, y = x3 + 1 := ⟨_, rfl⟩
        replace hw := hw v6 ev6
        refine lv_iinc (v := v6) (lv' := [(3, .int v6), (2, .int x2), (0, .ref (ad 0 0)), (1, .int x1)]) hx hb dX10_counts_34 hl (k := 3) rfl (by rw [ev6]; rfl) (by decide) rfl (fun ls hl => ?_)
        refine lv_goto (tgt := 4) hx hb dX10_counts_37 (by decide) ?_
        exact hk4 s3 x1 x2 v6 hw _ _ _ hP hS (lv_sub hl [2, 3, 1, 0] rfl)
      · replace hw := hw.2 c5
        refine lv_iload_n hx hb dX10_counts_28 rfl (lv_at hl 3 rfl) ?_
        refine lv_goto (tgt := 33) hx hb dX10_counts_29 (by decide) ?_
        refine lv_istore_n (lv' := [(2, .int x3), (0, .ref (ad 0 0)), (1, .int x1), (3, .int x3)]) hx hb dX10_counts_33 rfl hl (by decide) rfl (fun ls hl => ?_)
        obtain ⟨v7, ev7⟩ : ∃ y : Int32, y = x3 + 1 := ⟨_, rfl⟩
        replace hw := hw v7 ev7
        refine lv_iinc (v := v7) (lv' := [(3, .int v7), (2, .int x3), (0, .ref (ad 0 0)), (1, .int x1)]) hx hb dX10_counts_34 hl (k := 3) rfl (by rw [ev7]; rfl) (by decide) rfl (fun ls hl => ?_)
        refine lv_goto (tgt := 4) hx hb dX10_counts_37 (by decide) ?_
        exact hk4 s3 x1 x3 v7 hw _ _ _ hP hS (lv_sub hl [2, 3, 1, 0] rfl)
def w_X10_counts (post : Int32 → St → Prop) (σ : St) (x1 : Int32) : Prop := ∃ n1 : Nat, l_X10_counts_4 post n1 σ x1 (-1 : Int32) (0 : Int32)
theorem B_X10_counts_0 (E : EnvW p s m args meth c D cy regsM ad "RoofWarModel" cX10_counts 4 (some .int)) (ha : Apart regsM ad) {post : Int32 → St → Prop} {σ : St} {x1 : Int32} (hw : w_X10_counts post σ x1) {H : Heap} {locs : List Loc} {ls : Array Slot} (hP : va_P D CLS (wM cy ad σ) H) (hS : va_S (AM ad s.heap.size) s.heap H locs) (hl : lv_has ls 4 [(0, .ref (ad 0 0)), (1, .int x1)]) : W p l e rm_X10_counts s m args below meth c H locs 0 0 (MQ below (QI D cy (cellM cy ad) regsM ad s.heap.size post) args s 0 0 (AM ad s.heap.size)) (F0 m 0 ls []) := by
  obtain ⟨hx, hb, -⟩ := id E
  unfold w_X10_counts at hw
  refine lv_iconst (v := -1) hx hb dX10_counts_0 (by decide) ?_
  refine lv_istore_n (lv' := [(2, .int ((-1))), (0, .ref (ad 0 0)), (1, .int x1)]) hx hb dX10_counts_1 rfl hl (by decide) rfl (fun ls hl => ?_)
  refine lv_iconst (v := 0) hx hb dX10_counts_2 (by decide) ?_
  refine lv_istore_n (lv' := [(3, .int 0), (2, .int ((-1))), (0, .ref (ad 0 0)), (1, .int x1)]) hx hb dX10_counts_3 rfl hl (by decide) rfl (fun ls hl => ?_)
  obtain ⟨n1, hw⟩ := hw
  exact L_X10_counts_4 E ha n1 σ x1 (-1 : Int32) (0 : Int32) hw _ _ _ hP hS (lv_sub hl [2, 3, 1, 0] rfl)
theorem c_X10_counts (l : Launch) (D : va_G) (cy : Nat → ClassId) (ad : Nat → Nat → Nat) (ha : Apart regsM ad) {post : Int32 → St → Prop} {σ : St} {x1 : Int32} (hw : w_X10_counts post σ x1) (sz : Nat) : MetI l yX10_counts cX10_counts 4 .int rm_X10_counts [.ref (ad 0 0), .int x1] D cy (cellM cy ad) regsM ad σ sz post :=
  Met_inI ok_X10_counts.2.2.2.2.2 (Nat.le_of_ble_eq_true rfl) (fun p e s m below meth c ls E hP hl => B_X10_counts_0 E ha hw hP va_S.rf hl)
-- RoofWarModel.joined(III)I
theorem dX10_joined_0 : decode cX10_joined 0 = .ok (.iload_n 0, 1) := by decide +kernel
theorem dX10_joined_1 : decode cX10_joined 1 = .ok (.tableswitch 196 38 62 #[182, 196, 196, 196, 123, 115, 196, 119, 196, 127, 196, 196, 196, 196, 196, 196, 196, 196, 196, 196, 196, 196, 149, 171, 160], 115) := by decide +kernel
theorem dX10_joined_116 : decode cX10_joined 116 = .ok (.iload_n 1, 1) := by decide +kernel
theorem dX10_joined_117 : decode cX10_joined 117 = .ok (.iload_n 2, 1) := by decide +kernel
theorem dX10_joined_118 : decode cX10_joined 118 = .ok (.iadd, 1) := by decide +kernel
theorem dX10_joined_119 : decode cX10_joined 119 = .ok (.ireturn, 1) := by decide +kernel
theorem dX10_joined_120 : decode cX10_joined 120 = .ok (.iload_n 1, 1) := by decide +kernel
theorem dX10_joined_121 : decode cX10_joined 121 = .ok (.iload_n 2, 1) := by decide +kernel
theorem dX10_joined_122 : decode cX10_joined 122 = .ok (.isub, 1) := by decide +kernel
theorem dX10_joined_123 : decode cX10_joined 123 = .ok (.ireturn, 1) := by decide +kernel
theorem dX10_joined_124 : decode cX10_joined 124 = .ok (.iload_n 1, 1) := by decide +kernel
theorem dX10_joined_125 : decode cX10_joined 125 = .ok (.iload_n 2, 1) := by decide +kernel
theorem dX10_joined_126 : decode cX10_joined 126 = .ok (.imul, 1) := by decide +kernel
theorem dX10_joined_127 : decode cX10_joined 127 = .ok (.ireturn, 1) := by decide +kernel
theorem dX10_joined_128 : decode cX10_joined 128 = .ok (.iload_n 2, 1) := by decide +kernel
theorem dX10_joined_129 : decode cX10_joined 129 = .ok (.ifCond .ne 7, 3) := by decide +kernel
theorem dX10_joined_132 : decode cX10_joined 132 = .ok (.iconst 0, 1) := by decide +kernel
theorem dX10_joined_133 : decode cX10_joined 133 = .ok (.goto 16, 3) := by decide +kernel
theorem dX10_joined_136 : decode cX10_joined 136 = .ok (.iload_n 2, 1) := by decide +kernel
theorem dX10_joined_137 : decode cX10_joined 137 = .ok (.iconst (-1), 1) := by decide +kernel
theorem dX10_joined_138 : decode cX10_joined 138 = .ok (.if_icmp .ne 8, 3) := by decide +kernel
theorem dX10_joined_141 : decode cX10_joined 141 = .ok (.iload_n 1, 1) := by decide +kernel
theorem dX10_joined_142 : decode cX10_joined 142 = .ok (.ineg, 1) := by decide +kernel
theorem dX10_joined_143 : decode cX10_joined 143 = .ok (.goto 6, 3) := by decide +kernel
theorem dX10_joined_146 : decode cX10_joined 146 = .ok (.iload_n 1, 1) := by decide +kernel
theorem dX10_joined_147 : decode cX10_joined 147 = .ok (.iload_n 2, 1) := by decide +kernel
theorem dX10_joined_148 : decode cX10_joined 148 = .ok (.idiv, 1) := by decide +kernel
theorem dX10_joined_149 : decode cX10_joined 149 = .ok (.ireturn, 1) := by decide +kernel
theorem dX10_joined_150 : decode cX10_joined 150 = .ok (.iload_n 1, 1) := by decide +kernel
theorem dX10_joined_151 : decode cX10_joined 151 = .ok (.iload_n 2, 1) := by decide +kernel
theorem dX10_joined_152 : decode cX10_joined 152 = .ok (.if_icmp .ge 7, 3) := by decide +kernel
theorem dX10_joined_155 : decode cX10_joined 155 = .ok (.iconst 1, 1) := by decide +kernel
theorem dX10_joined_156 : decode cX10_joined 156 = .ok (.goto 4, 3) := by decide +kernel
theorem dX10_joined_159 : decode cX10_joined 159 = .ok (.iconst 0, 1) := by decide +kernel
theorem dX10_joined_160 : decode cX10_joined 160 = .ok (.ireturn, 1) := by decide +kernel
theorem dX10_joined_161 : decode cX10_joined 161 = .ok (.iload_n 1, 1) := by decide +kernel
theorem dX10_joined_162 : decode cX10_joined 162 = .ok (.iload_n 2, 1) := by decide +kernel
theorem dX10_joined_163 : decode cX10_joined 163 = .ok (.if_icmp .le 7, 3) := by decide +kernel
theorem dX10_joined_166 : decode cX10_joined 166 = .ok (.iconst 1, 1) := by decide +kernel
theorem dX10_joined_167 : decode cX10_joined 167 = .ok (.goto 4, 3) := by decide +kernel
theorem dX10_joined_170 : decode cX10_joined 170 = .ok (.iconst 0, 1) := by decide +kernel
theorem dX10_joined_171 : decode cX10_joined 171 = .ok (.ireturn, 1) := by decide +kernel
theorem dX10_joined_172 : decode cX10_joined 172 = .ok (.iload_n 1, 1) := by decide +kernel
theorem dX10_joined_173 : decode cX10_joined 173 = .ok (.iload_n 2, 1) := by decide +kernel
theorem dX10_joined_174 : decode cX10_joined 174 = .ok (.if_icmp .ne 7, 3) := by decide +kernel
theorem dX10_joined_177 : decode cX10_joined 177 = .ok (.iconst 1, 1) := by decide +kernel
theorem dX10_joined_178 : decode cX10_joined 178 = .ok (.goto 4, 3) := by decide +kernel
theorem dX10_joined_181 : decode cX10_joined 181 = .ok (.iconst 0, 1) := by decide +kernel
theorem dX10_joined_182 : decode cX10_joined 182 = .ok (.ireturn, 1) := by decide +kernel
theorem dX10_joined_183 : decode cX10_joined 183 = .ok (.iload_n 1, 1) := by decide +kernel
theorem dX10_joined_184 : decode cX10_joined 184 = .ok (.ifCond .eq 11, 3) := by decide +kernel
theorem dX10_joined_187 : decode cX10_joined 187 = .ok (.iload_n 2, 1) := by decide +kernel
theorem dX10_joined_188 : decode cX10_joined 188 = .ok (.ifCond .eq 7, 3) := by decide +kernel
theorem dX10_joined_191 : decode cX10_joined 191 = .ok (.iconst 1, 1) := by decide +kernel
theorem dX10_joined_192 : decode cX10_joined 192 = .ok (.goto 4, 3) := by decide +kernel
theorem dX10_joined_195 : decode cX10_joined 195 = .ok (.iconst 0, 1) := by decide +kernel
theorem dX10_joined_196 : decode cX10_joined 196 = .ok (.ireturn, 1) := by decide +kernel
theorem dX10_joined_197 : decode cX10_joined 197 = .ok (.iload_n 1, 1) := by decide +kernel
theorem dX10_joined_198 : decode cX10_joined 198 = .ok (.ifCond .ne 7, 3) := by decide +kernel
theorem dX10_joined_201 : decode cX10_joined 201 = .ok (.iload_n 2, 1) := by decide +kernel
theorem dX10_joined_202 : decode cX10_joined 202 = .ok (.ifCond .eq 7, 3) := by decide +kernel
theorem dX10_joined_205 : decode cX10_joined 205 = .ok (.iconst 1, 1) := by decide +kernel
theorem dX10_joined_206 : decode cX10_joined 206 = .ok (.goto 4, 3) := by decide +kernel
theorem dX10_joined_209 : decode cX10_joined 209 = .ok (.iconst 0, 1) := by decide +kernel
theorem dX10_joined_210 : decode cX10_joined 210 = .ok (.ireturn, 1) := by decide +kernel
theorem ok_X10_joined : okS yX10_joined cX10_joined 3 (some .int) 3 := ⟨mw_1203, mw_83, mw_1204, by decide +kernel, by decide +kernel⟩
abbrev rm_X10_joined : Room := { frames := 0, cells := 0, slots := 0, locals := 0 }
def w_X10_joined (post : Int32 → St → Prop) (σ : St) (x0 : Int32) (x1 : Int32) (x2 : Int32) : Prop := ((x0 = 38 → (((x1 = 0 → (post 0 σ)) ∧ (¬ x1 = 0 → (((x2 = 0 → (post 0 σ)) ∧ (¬ x2 = 0 → (post 1 σ)))))))) ∧ (¬ x0 = 38 → (((x0 = 39 → (((¬ x1 = 0 → (post 1 σ)) ∧ (x1 = 0 → (((x2 = 0 → (post 0 σ)) ∧ (¬ x2 = 0 → (post 1 σ)))))))) ∧ (¬ x0 = 39 → (((x0 = 40 → (((¬ x1 = 0 → (post 1 σ)) ∧ (x1 = 0 → (((x2 = 0 → (post 0 σ)) ∧ (¬ x2 = 0 → (post 1 σ)))))))) ∧ (¬ x0 = 40 → (((x0 = 41 → (((¬ x1 = 0 → (post 1 σ)) ∧ (x1 = 0 → (((x2 = 0 → (post 0 σ)) ∧ (¬ x2 = 0 → (post 1 σ)))))))) ∧ (¬ x0 = 41 → (((x0 = 42 → (post (x1 * x2) σ)) ∧ (¬ x0 = 42 → (((x0 = 43 → (post (x1 + x2) σ)) ∧ (¬ x0 = 43 → (((x0 = 44 → (((¬ x1 = 0 → (post 1 σ)) ∧ (x1 = 0 → (((x2 = 0 → (post 0 σ)) ∧ (¬ x2 = 0 → (post 1 σ)))))))) ∧ (¬ x0 = 44 → (((x0 = 45 → (post (x1 - x2) σ)) ∧ (¬ x0 = 45 → (((x0 = 46 → (((¬ x1 = 0 → (post 1 σ)) ∧ (x1 = 0 → (((x2 = 0 → (post 0 σ)) ∧ (¬ x2 = 0 → (post 1 σ)))))))) ∧ (¬ x0 = 46 → (((x0 = 47 → (((¬ x2 = 0 → (((¬ x2 = ((-1)) → (¬ x2 = 0 ∧ (post (x1 / x2) σ))) ∧ (x2 = ((-1)) → (post (-x1) σ))))) ∧ (x2 = 0 → (post 0 σ))))) ∧ (¬ x0 = 47 → (((x0 = 48 → (((¬ x1 = 0 → (post 1 σ)) ∧ (x1 = 0 → (((x2 = 0 → (post 0 σ)) ∧ (¬ x2 = 0 → (post 1 σ)))))))) ∧ (¬ x0 = 48 → (((x0 = 49 → (((¬ x1 = 0 → (post 1 σ)) ∧ (x1 = 0 → (((x2 = 0 → (post 0 σ)) ∧ (¬ x2 = 0 → (post 1 σ)))))))) ∧ (¬ x0 = 49 → (((x0 = 50 → (((¬ x1 = 0 → (post 1 σ)) ∧ (x1 = 0 → (((x2 = 0 → (post 0 σ)) ∧ (¬ x2 = 0 → (post 1 σ)))))))) ∧ (¬ x0 = 50 → (((x0 = 51 → (((¬ x1 = 0 → (post 1 σ)) ∧ (x1 = 0 → (((x2 = 0 → (post 0 σ)) ∧ (¬ x2 = 0 → (post 1 σ)))))))) ∧ (¬ x0 = 51 → (((x0 = 52 → (((¬ x1 = 0 → (post 1 σ)) ∧ (x1 = 0 → (((x2 = 0 → (post 0 σ)) ∧ (¬ x2 = 0 → (post 1 σ)))))))) ∧ (¬ x0 = 52 → (((x0 = 53 → (((¬ x1 = 0 → (post 1 σ)) ∧ (x1 = 0 → (((x2 = 0 → (post 0 σ)) ∧ (¬ x2 = 0 → (post 1 σ)))))))) ∧ (¬ x0 = 53 → (((x0 = 54 → (((¬ x1 = 0 → (post 1 σ)) ∧ (x1 = 0 → (((x2 = 0 → (post 0 σ)) ∧ (¬ x2 = 0 → (post 1 σ)))))))) ∧ (¬ x0 = 54 → (((x0 = 55 → (((¬ x1 = 0 → (post 1 σ)) ∧ (x1 = 0 → (((x2 = 0 → (post 0 σ)) ∧ (¬ x2 = 0 → (post 1 σ)))))))) ∧ (¬ x0 = 55 → (((x0 = 56 → (((¬ x1 = 0 → (post 1 σ)) ∧ (x1 = 0 → (((x2 = 0 → (post 0 σ)) ∧ (¬ x2 = 0 → (post 1 σ)))))))) ∧ (¬ x0 = 56 → (((x0 = 57 → (((¬ x1 = 0 → (post 1 σ)) ∧ (x1 = 0 → (((x2 = 0 → (post 0 σ)) ∧ (¬ x2 = 0 → (post 1 σ)))))))) ∧ (¬ x0 = 57 → (((x0 = 58 → (((¬ x1 = 0 → (post 1 σ)) ∧ (x1 = 0 → (((x2 = 0 → (post 0 σ)) ∧ (¬ x2 = 0 → (post 1 σ)))))))) ∧ (¬ x0 = 58 → (((x0 = 59 → (((¬ x1 = 0 → (post 1 σ)) ∧ (x1 = 0 → (((x2 = 0 → (post 0 σ)) ∧ (¬ x2 = 0 → (post 1 σ)))))))) ∧ (¬ x0 = 59 → (((x0 = 60 → (((x2 ≤ x1 → (post 0 σ)) ∧ (¬ x2 ≤ x1 → (post 1 σ))))) ∧ (¬ x0 = 60 → (((x0 = 61 → (((¬ x1 = x2 → (post 0 σ)) ∧ (x1 = x2 → (post 1 σ))))) ∧ (¬ x0 = 61 → (((x0 = 62 → (((x1 ≤ x2 → (post 0 σ)) ∧ (¬ x1 ≤ x2 → (post 1 σ))))) ∧ (¬ x0 = 62 → (((¬ x1 = 0 → (post 1 σ)) ∧ (x1 = 0 → (((x2 = 0 → (post 0 σ)) ∧ (¬ x2 = 0 → (post 1 σ)))))))))))))))))))))))))))))))))))))))))))))))))))))))))))))))))))))))))))))))))
theorem B_X10_joined_0 (E : EnvW p s m args meth c D cy regsM ad "RoofWarModel" cX10_joined 3 (some .int)) (ha : Apart regsM ad) {post : Int32 → St → Prop} {σ : St} {x0 : Int32} {x1 : Int32} {x2 : Int32} (hw : w_X10_joined post σ x0 x1 x2) {H : Heap} {locs : List Loc} {ls : Array Slot} (hP : va_P D CLS (wM cy ad σ) H) (hS : va_S (AM ad s.heap.size) s.heap H locs) (hl : lv_has ls 3 [(0, .int x0), (1, .int x1), (2, .int x2)]) : W p l e rm_X10_joined s m args below meth c H locs 0 0 (MQ below (QI D cy (cellM cy ad) regsM ad s.heap.size post) args s 0 0 (AM ad s.heap.size)) (F0 m 0 ls []) := by
  obtain ⟨hx, hb, -⟩ := id E
  unfold w_X10_joined at hw
  refine lv_iload_n hx hb dX10_joined_0 rfl (lv_at hl 0 rfl) ?_
  by_cases c1 : x0 = 38
  · replace hw := hw.1 c1
    refine lv_tableIn (off := 182) (tgt := 183) hx hb dX10_joined_1 (by rw [c1]; decide) (by rw [c1]; decide) (by rw [c1]; rfl) (by decide) ?_
    refine lv_iload_n hx hb dX10_joined_183 rfl (lv_at hl 1 rfl) ?_
    refine lv_if_eq (tgt := 195) hx hb dX10_joined_184 (by decide) (fun c2 => ?_) (fun c2 => ?_)
    · replace hw := hw.1 c2
      refine lv_iconst (v := 0) hx hb dX10_joined_195 (by decide) ?_
      exact g_iret E hw hP hS dX10_joined_196
    · replace hw := hw.2 c2
      refine lv_iload_n hx hb dX10_joined_187 rfl (lv_at hl 2 rfl) ?_
      refine lv_if_eq (tgt := 195) hx hb dX10_joined_188 (by decide) (fun c3 => ?_) (fun c3 => ?_)
      · replace hw := hw.1 c3
        refine lv_iconst (v := 0) hx hb dX10_joined_195 (by decide) ?_
        exact g_iret E hw hP hS dX10_joined_196
      · replace hw := hw.2 c3
        refine lv_iconst (v := 1) hx hb dX10_joined_191 (by decide) ?_
        refine lv_goto (tgt := 196) hx hb dX10_joined_192 (by decide) ?_
        exact g_iret E hw hP hS dX10_joined_196
  · replace hw := hw.2 c1
    by_cases c4 : x0 = 39
    · replace hw := hw.1 c4
      refine lv_tableIn (off := 196) (tgt := 197) hx hb dX10_joined_1 (by rw [c4]; decide) (by rw [c4]; decide) (by rw [c4]; rfl) (by decide) ?_
      refine lv_iload_n hx hb dX10_joined_197 rfl (lv_at hl 1 rfl) ?_
      refine lv_if_ne (tgt := 205) hx hb dX10_joined_198 (by decide) (fun c5 => ?_) (fun c5 => ?_)
      · replace hw := hw.1 c5
        refine lv_iconst (v := 1) hx hb dX10_joined_205 (by decide) ?_
        refine lv_goto (tgt := 210) hx hb dX10_joined_206 (by decide) ?_
        exact g_iret E hw hP hS dX10_joined_210
      · replace hw := hw.2 c5
        refine lv_iload_n hx hb dX10_joined_201 rfl (lv_at hl 2 rfl) ?_
        refine lv_if_eq (tgt := 209) hx hb dX10_joined_202 (by decide) (fun c6 => ?_) (fun c6 => ?_)
        · replace hw := hw.1 c6
          refine lv_iconst (v := 0) hx hb dX10_joined_209 (by decide) ?_
          exact g_iret E hw hP hS dX10_joined_210
        · replace hw := hw.2 c6
          refine lv_iconst (v := 1) hx hb dX10_joined_205 (by decide) ?_
          refine lv_goto (tgt := 210) hx hb dX10_joined_206 (by decide) ?_
          exact g_iret E hw hP hS dX10_joined_210
    · replace hw := hw.2 c4
      by_cases c7 : x0 = 40
      · replace hw := hw.1 c7
        refine lv_tableIn (off := 196) (tgt := 197) hx hb dX10_joined_1 (by rw [c7]; decide) (by rw [c7]; decide) (by rw [c7]; rfl) (by decide) ?_
        refine lv_iload_n hx hb dX10_joined_197 rfl (lv_at hl 1 rfl) ?_
        refine lv_if_ne (tgt := 205) hx hb dX10_joined_198 (by decide) (fun c8 => ?_) (fun c8 => ?_)
        · replace hw := hw.1 c8
          refine lv_iconst (v := 1) hx hb dX10_joined_205 (by decide) ?_
          refine lv_goto (tgt := 210) hx hb dX10_joined_206 (by decide) ?_
          exact g_iret E hw hP hS dX10_joined_210
        · replace hw := hw.2 c8
          refine lv_iload_n hx hb dX10_joined_201 rfl (lv_at hl 2 rfl) ?_
          refine lv_if_eq (tgt := 209) hx hb dX10_joined_202 (by decide) (fun c9 => ?_) (fun c9 => ?_)
          · replace hw := hw.1 c9
            refine lv_iconst (v := 0) hx hb dX10_joined_209 (by decide) ?_
            exact g_iret E hw hP hS dX10_joined_210
          · replace hw := hw.2 c9
            refine lv_iconst (v := 1) hx hb dX10_joined_205 (by decide) ?_
            refine lv_goto (tgt := 210) hx hb dX10_joined_206 (by decide) ?_
            exact g_iret E hw hP hS dX10_joined_210
      · replace hw := hw.2 c7
        by_cases c10 : x0 = 41
        · replace hw := hw.1 c10
          refine lv_tableIn (off := 196) (tgt := 197) hx hb dX10_joined_1 (by rw [c10]; decide) (by rw [c10]; decide) (by rw [c10]; rfl) (by decide) ?_
          refine lv_iload_n hx hb dX10_joined_197 rfl (lv_at hl 1 rfl) ?_
          refine lv_if_ne (tgt := 205) hx hb dX10_joined_198 (by decide) (fun c11 => ?_) (fun c11 => ?_)
          · replace hw := hw.1 c11
            refine lv_iconst (v := 1) hx hb dX10_joined_205 (by decide) ?_
            refine lv_goto (tgt := 210) hx hb dX10_joined_206 (by decide) ?_
            exact g_iret E hw hP hS dX10_joined_210
          · replace hw := hw.2 c11
            refine lv_iload_n hx hb dX10_joined_201 rfl (lv_at hl 2 rfl) ?_
            refine lv_if_eq (tgt := 209) hx hb dX10_joined_202 (by decide) (fun c12 => ?_) (fun c12 => ?_)
            · replace hw := hw.1 c12
              refine lv_iconst (v := 0) hx hb dX10_joined_209 (by decide) ?_
              exact g_iret E hw hP hS dX10_joined_210
            · replace hw := hw.2 c12
              refine lv_iconst (v := 1) hx hb dX10_joined_205 (by decide) ?_
              refine lv_goto (tgt := 210) hx hb dX10_joined_206 (by decide) ?_
              exact g_iret E hw hP hS dX10_joined_210
        · replace hw := hw.2 c10
          by_cases c13 : x0 = 42
          · replace hw := hw.1 c13
            refine lv_tableIn (off := 123) (tgt := 124) hx hb dX10_joined_1 (by rw [c13]; decide) (by rw [c13]; decide) (by rw [c13]; rfl) (by decide) ?_
            refine lv_iload_n hx hb dX10_joined_124 rfl (lv_at hl 1 rfl) ?_
            refine lv_iload_n hx hb dX10_joined_125 rfl (lv_at hl 2 rfl) ?_
            refine lv_imul hx hb dX10_joined_126 ?_
            exact g_iret E hw hP hS dX10_joined_127
          · replace hw := hw.2 c13
            by_cases c14 : x0 = 43
            · replace hw := hw.1 c14
              refine lv_tableIn (off := 115) (tgt := 116) hx hb dX10_joined_1 (by rw [c14]; decide) (by rw [c14]; decide) (by rw [c14]; rfl) (by decide) ?_
              refine lv_iload_n hx hb dX10_joined_116 rfl (lv_at hl 1 rfl) ?_
              refine lv_iload_n hx hb dX10_joined_117 rfl (lv_at hl 2 rfl) ?_
              refine lv_iadd hx hb dX10_joined_118 ?_
              exact g_iret E hw hP hS dX10_joined_119
            · replace hw := hw.2 c14
              by_cases c15 : x0 = 44
              · replace hw := hw.1 c15
                refine lv_tableIn (off := 196) (tgt := 197) hx hb dX10_joined_1 (by rw [c15]; decide) (by rw [c15]; decide) (by rw [c15]; rfl) (by decide) ?_
                refine lv_iload_n hx hb dX10_joined_197 rfl (lv_at hl 1 rfl) ?_
                refine lv_if_ne (tgt := 205) hx hb dX10_joined_198 (by decide) (fun c16 => ?_) (fun c16 => ?_)
                · replace hw := hw.1 c16
                  refine lv_iconst (v := 1) hx hb dX10_joined_205 (by decide) ?_
                  refine lv_goto (tgt := 210) hx hb dX10_joined_206 (by decide) ?_
                  exact g_iret E hw hP hS dX10_joined_210
                · replace hw := hw.2 c16
                  refine lv_iload_n hx hb dX10_joined_201 rfl (lv_at hl 2 rfl) ?_
                  refine lv_if_eq (tgt := 209) hx hb dX10_joined_202 (by decide) (fun c17 => ?_) (fun c17 => ?_)
                  · replace hw := hw.1 c17
                    refine lv_iconst (v := 0) hx hb dX10_joined_209 (by decide) ?_
                    exact g_iret E hw hP hS dX10_joined_210
                  · replace hw := hw.2 c17
                    refine lv_iconst (v := 1) hx hb dX10_joined_205 (by decide) ?_
                    refine lv_goto (tgt := 210) hx hb dX10_joined_206 (by decide) ?_
                    exact g_iret E hw hP hS dX10_joined_210
              · replace hw := hw.2 c15
                by_cases c18 : x0 = 45
                · replace hw := hw.1 c18
                  refine lv_tableIn (off := 119) (tgt := 120) hx hb dX10_joined_1 (by rw [c18]; decide) (by rw [c18]; decide) (by rw [c18]; rfl) (by decide) ?_
                  refine lv_iload_n hx hb dX10_joined_120 rfl (lv_at hl 1 rfl) ?_
                  refine lv_iload_n hx hb dX10_joined_121 rfl (lv_at hl 2 rfl) ?_
                  refine lv_isub hx hb dX10_joined_122 ?_
                  exact g_iret E hw hP hS dX10_joined_123
                · replace hw := hw.2 c18
                  by_cases c19 : x0 = 46
                  · replace hw := hw.1 c19
                    refine lv_tableIn (off := 196) (tgt := 197) hx hb dX10_joined_1 (by rw [c19]; decide) (by rw [c19]; decide) (by rw [c19]; rfl) (by decide) ?_
                    refine lv_iload_n hx hb dX10_joined_197 rfl (lv_at hl 1 rfl) ?_
                    refine lv_if_ne (tgt := 205) hx hb dX10_joined_198 (by decide) (fun c20 => ?_) (fun c20 => ?_)
                    · replace hw := hw.1 c20
                      refine lv_iconst (v := 1) hx hb dX10_joined_205 (by decide) ?_
                      refine lv_goto (tgt := 210) hx hb dX10_joined_206 (by decide) ?_
                      exact g_iret E hw hP hS dX10_joined_210
                    · replace hw := hw.2 c20
                      refine lv_iload_n hx hb dX10_joined_201 rfl (lv_at hl 2 rfl) ?_
                      refine lv_if_eq (tgt := 209) hx hb dX10_joined_202 (by decide) (fun c21 => ?_) (fun c21 => ?_)
                      · replace hw := hw.1 c21
                        refine lv_iconst (v := 0) hx hb dX10_joined_209 (by decide) ?_
                        exact g_iret E hw hP hS dX10_joined_210
                      · replace hw := hw.2 c21
                        refine lv_iconst (v := 1) hx hb dX10_joined_205 (by decide) ?_
                        refine lv_goto (tgt := 210) hx hb dX10_joined_206 (by decide) ?_
                        exact g_iret E hw hP hS dX10_joined_210
                  · replace hw := hw.2 c19
                    by_cases c22 : x0 = 47
                    · replace hw := hw.1 c22
                      refine lv_tableIn (off := 127) (tgt := 128) hx hb dX10_joined_1 (by rw [c22]; decide) (by rw [c22]; decide) (by rw [c22]; rfl) (by decide) ?_
                      refine lv_iload_n hx hb dX10_joined_128 rfl (lv_at hl 2 rfl) ?_
                      refine lv_if_ne (tgt := 136) hx hb dX10_joined_129 (by decide) (fun c23 => ?_) (fun c23 => ?_)
                      · replace hw := hw.1 c23
                        refine lv_iload_n hx hb dX10_joined_136 rfl (lv_at hl 2 rfl) ?_
                        refine lv_iconst (v := -1) hx hb dX10_joined_137 (by decide) ?_
                        refine lv_icmp_ne (tgt := 146) hx hb dX10_joined_138 (by decide) (fun c24 => ?_) (fun c24 => ?_)
                        · replace hw := hw.1 c24
                          refine lv_iload_n hx hb dX10_joined_146 rfl (lv_at hl 1 rfl) ?_
                          refine lv_iload_n hx hb dX10_joined_147 rfl (lv_at hl 2 rfl) ?_
                          obtain ⟨h25, hw⟩ := hw
                          refine lv_idiv hx hb dX10_joined_148 h25 ?_
                          exact g_iret E hw hP hS dX10_joined_149
                        · replace hw := hw.2 c24
                          refine lv_iload_n hx hb dX10_joined_141 rfl (lv_at hl 1 rfl) ?_
                          refine lv_ineg hx hb dX10_joined_142 ?_
                          refine lv_goto (tgt := 149) hx hb dX10_joined_143 (by decide) ?_
                          exact g_iret E hw hP hS dX10_joined_149
                      · replace hw := hw.2 c23
                        refine lv_iconst (v := 0) hx hb dX10_joined_132 (by decide) ?_
                        refine lv_goto (tgt := 149) hx hb dX10_joined_133 (by decide) ?_
                        exact g_iret E hw hP hS dX10_joined_149
                    · replace hw := hw.2 c22
                      by_cases c26 : x0 = 48
                      · replace hw := hw.1 c26
                        refine lv_tableIn (off := 196) (tgt := 197) hx hb dX10_joined_1 (by rw [c26]; decide) (by rw [c26]; decide) (by rw [c26]; rfl) (by decide) ?_
                        refine lv_iload_n hx hb dX10_joined_197 rfl (lv_at hl 1 rfl) ?_
                        refine lv_if_ne (tgt := 205) hx hb dX10_joined_198 (by decide) (fun c27 => ?_) (fun c27 => ?_)
                        · replace hw := hw.1 c27
                          refine lv_iconst (v := 1) hx hb dX10_joined_205 (by decide) ?_
                          refine lv_goto (tgt := 210) hx hb dX10_joined_206 (by decide) ?_
                          exact g_iret E hw hP hS dX10_joined_210
                        · replace hw := hw.2 c27
                          refine lv_iload_n hx hb dX10_joined_201 rfl (lv_at hl 2 rfl) ?_
                          refine lv_if_eq (tgt := 209) hx hb dX10_joined_202 (by decide) (fun c28 => ?_) (fun c28 => ?_)
                          · replace hw := hw.1 c28
                            refine lv_iconst (v := 0) hx hb dX10_joined_209 (by decide) ?_
                            exact g_iret E hw hP hS dX10_joined_210
                          · replace hw := hw.2 c28
                            refine lv_iconst (v := 1) hx hb dX10_joined_205 (by decide) ?_
                            refine lv_goto (tgt := 210) hx hb dX10_joined_206 (by decide) ?_
                            exact g_iret E hw hP hS dX10_joined_210
                      · replace hw := hw.2 c26
                        by_cases c29 : x0 = 49
                        · replace hw := hw.1 c29
                          refine lv_tableIn (off := 196) (tgt := 197) hx hb dX10_joined_1 (by rw [c29]; decide) (by rw [c29]; decide) (by rw [c29]; rfl) (by decide) ?_
                          refine lv_iload_n hx hb dX10_joined_197 rfl (lv_at hl 1 rfl) ?_
                          refine lv_if_ne (tgt := 205) hx hb dX10_joined_198 (by decide) (fun c30 => ?_) (fun c30 => ?_)
                          · replace hw := hw.1 c30
                            refine lv_iconst (v := 1) hx hb dX10_joined_205 (by decide) ?_
                            refine lv_goto (tgt := 210) hx hb dX10_joined_206 (by decide) ?_
                            exact g_iret E hw hP hS dX10_joined_210
                          · replace hw := hw.2 c30
                            refine lv_iload_n hx hb dX10_joined_201 rfl (lv_at hl 2 rfl) ?_
                            refine lv_if_eq (tgt := 209) hx hb dX10_joined_202 (by decide) (fun c31 => ?_) (fun c31 => ?_)
                            · replace hw := hw.1 c31
                              refine lv_iconst (v := 0) hx hb dX10_joined_209 (by decide) ?_
                              exact g_iret E hw hP hS dX10_joined_210
                            · replace hw := hw.2 c31
                              refine lv_iconst (v := 1) hx hb dX10_joined_205 (by decide) ?_
                              refine lv_goto (tgt := 210) hx hb dX10_joined_206 (by decide) ?_
                              exact g_iret E hw hP hS dX10_joined_210
                        · replace hw := hw.2 c29
                          by_cases c32 : x0 = 50
                          · replace hw := hw.1 c32
                            refine lv_tableIn (off := 196) (tgt := 197) hx hb dX10_joined_1 (by rw [c32]; decide) (by rw [c32]; decide) (by rw [c32]; rfl) (by decide) ?_
                            refine lv_iload_n hx hb dX10_joined_197 rfl (lv_at hl 1 rfl) ?_
                            refine lv_if_ne (tgt := 205) hx hb dX10_joined_198 (by decide) (fun c33 => ?_) (fun c33 => ?_)
                            · replace hw := hw.1 c33
                              refine lv_iconst (v := 1) hx hb dX10_joined_205 (by decide) ?_
                              refine lv_goto (tgt := 210) hx hb dX10_joined_206 (by decide) ?_
                              exact g_iret E hw hP hS dX10_joined_210
                            · replace hw := hw.2 c33
                              refine lv_iload_n hx hb dX10_joined_201 rfl (lv_at hl 2 rfl) ?_
                              refine lv_if_eq (tgt := 209) hx hb dX10_joined_202 (by decide) (fun c34 => ?_) (fun c34 => ?_)
                              · replace hw := hw.1 c34
                                refine lv_iconst (v := 0) hx hb dX10_joined_209 (by decide) ?_
                                exact g_iret E hw hP hS dX10_joined_210
                              · replace hw := hw.2 c34
                                refine lv_iconst (v := 1) hx hb dX10_joined_205 (by decide) ?_
                                refine lv_goto (tgt := 210) hx hb dX10_joined_206 (by decide) ?_
                                exact g_iret E hw hP hS dX10_joined_210
                          · replace hw := hw.2 c32
                            by_cases c35 : x0 = 51
                            · replace hw := hw.1 c35
                              refine lv_tableIn (off := 196) (tgt := 197) hx hb dX10_joined_1 (by rw [c35]; decide) (by rw [c35]; decide) (by rw [c35]; rfl) (by decide) ?_
                              refine lv_iload_n hx hb dX10_joined_197 rfl (lv_at hl 1 rfl) ?_
                              refine lv_if_ne (tgt := 205) hx hb dX10_joined_198 (by decide) (fun c36 => ?_) (fun c36 => ?_)
                              · replace hw := hw.1 c36
                                refine lv_iconst (v := 1) hx hb dX10_joined_205 (by decide) ?_
                                refine lv_goto (tgt := 210) hx hb dX10_joined_206 (by decide) ?_
                                exact g_iret E hw hP hS dX10_joined_210
                              · replace hw := hw.2 c36
                                refine lv_iload_n hx hb dX10_joined_201 rfl (lv_at hl 2 rfl) ?_
                                refine lv_if_eq (tgt := 209) hx hb dX10_joined_202 (by decide) (fun c37 => ?_) (fun c37 => ?_)
                                · replace hw := hw.1 c37
                                  refine lv_iconst (v := 0) hx hb dX10_joined_209 (by decide) ?_
                                  exact g_iret E hw hP hS dX10_joined_210
                                · replace hw := hw.2 c37
                                  refine lv_iconst (v := 1) hx hb dX10_joined_205 (by decide) ?_
                                  refine lv_goto (tgt := 210) hx hb dX10_joined_206 (by decide) ?_
                                  exact g_iret E hw hP hS dX10_joined_210
                            · replace hw := hw.2 c35
                              by_cases c38 : x0 = 52
                              · replace hw := hw.1 c38
                                refine lv_tableIn (off := 196) (tgt := 197) hx hb dX10_joined_1 (by rw [c38]; decide) (by rw [c38]; decide) (by rw [c38]; rfl) (by decide) ?_
                                refine lv_iload_n hx hb dX10_joined_197 rfl (lv_at hl 1 rfl) ?_
                                refine lv_if_ne (tgt := 205) hx hb dX10_joined_198 (by decide) (fun c39 => ?_) (fun c39 => ?_)
                                · replace hw := hw.1 c39
                                  refine lv_iconst (v := 1) hx hb dX10_joined_205 (by decide) ?_
                                  refine lv_goto (tgt := 210) hx hb dX10_joined_206 (by decide) ?_
                                  exact g_iret E hw hP hS dX10_joined_210
                                · replace hw := hw.2 c39
                                  refine lv_iload_n hx hb dX10_joined_201 rfl (lv_at hl 2 rfl) ?_
                                  refine lv_if_eq (tgt := 209) hx hb dX10_joined_202 (by decide) (fun c40 => ?_) (fun c40 => ?_)
                                  · replace hw := hw.1 c40
                                    refine lv_iconst (v := 0) hx hb dX10_joined_209 (by decide) ?_
                                    exact g_iret E hw hP hS dX10_joined_210
                                  · replace hw := hw.2 c40
                                    refine lv_iconst (v := 1) hx hb dX10_joined_205 (by decide) ?_
                                    refine lv_goto (tgt := 210) hx hb dX10_joined_206 (by decide) ?_
                                    exact g_iret E hw hP hS dX10_joined_210
                              · replace hw := hw.2 c38
                                by_cases c41 : x0 = 53
                                · replace hw := hw.1 c41
                                  refine lv_tableIn (off := 196) (tgt := 197) hx hb dX10_joined_1 (by rw [c41]; decide) (by rw [c41]; decide) (by rw [c41]; rfl) (by decide) ?_
                                  refine lv_iload_n hx hb dX10_joined_197 rfl (lv_at hl 1 rfl) ?_
                                  refine lv_if_ne (tgt := 205) hx hb dX10_joined_198 (by decide) (fun c42 => ?_) (fun c42 => ?_)
                                  · replace hw := hw.1 c42
                                    refine lv_iconst (v := 1) hx hb dX10_joined_205 (by decide) ?_
                                    refine lv_goto (tgt := 210) hx hb dX10_joined_206 (by decide) ?_
                                    exact g_iret E hw hP hS dX10_joined_210
                                  · replace hw := hw.2 c42
                                    refine lv_iload_n hx hb dX10_joined_201 rfl (lv_at hl 2 rfl) ?_
                                    refine lv_if_eq (tgt := 209) hx hb dX10_joined_202 (by decide) (fun c43 => ?_) (fun c43 => ?_)
                                    · replace hw := hw.1 c43
                                      refine lv_iconst (v := 0) hx hb dX10_joined_209 (by decide) ?_
                                      exact g_iret E hw hP hS dX10_joined_210
                                    · replace hw := hw.2 c43
                                      refine lv_iconst (v := 1) hx hb dX10_joined_205 (by decide) ?_
                                      refine lv_goto (tgt := 210) hx hb dX10_joined_206 (by decide) ?_
                                      exact g_iret E hw hP hS dX10_joined_210
                                · replace hw := hw.2 c41
                                  by_cases c44 : x0 = 54
                                  · replace hw := hw.1 c44
                                    refine lv_tableIn (off := 196) (tgt := 197) hx hb dX10_joined_1 (by rw [c44]; decide) (by rw [c44]; decide) (by rw [c44]; rfl) (by decide) ?_
                                    refine lv_iload_n hx hb dX10_joined_197 rfl (lv_at hl 1 rfl) ?_
                                    refine lv_if_ne (tgt := 205) hx hb dX10_joined_198 (by decide) (fun c45 => ?_) (fun c45 => ?_)
                                    · replace hw := hw.1 c45
                                      refine lv_iconst (v := 1) hx hb dX10_joined_205 (by decide) ?_
                                      refine lv_goto (tgt := 210) hx hb dX10_joined_206 (by decide) ?_
                                      exact g_iret E hw hP hS dX10_joined_210
                                    · replace hw := hw.2 c45
                                      refine lv_iload_n hx hb dX10_joined_201 rfl (lv_at hl 2 rfl) ?_
                                      refine lv_if_eq (tgt := 209) hx hb dX10_joined_202 (by decide) (fun c46 => ?_) (fun c46 => ?_)
                                      · replace hw := hw.1 c46
                                        refine lv_iconst (v := 0) hx hb dX10_joined_209 (by decide) ?_
                                        exact g_iret E hw hP hS dX10_joined_210
                                      · replace hw := hw.2 c46
                                        refine lv_iconst (v := 1) hx hb dX10_joined_205 (by decide) ?_
                                        refine lv_goto (tgt := 210) hx hb dX10_joined_206 (by decide) ?_
                                        exact g_iret E hw hP hS dX10_joined_210
                                  · replace hw := hw.2 c44
                                    by_cases c47 : x0 = 55
                                    · replace hw := hw.1 c47
                                      refine lv_tableIn (off := 196) (tgt := 197) hx hb dX10_joined_1 (by rw [c47]; decide) (by rw [c47]; decide) (by rw [c47]; rfl) (by decide) ?_
                                      refine lv_iload_n hx hb dX10_joined_197 rfl (lv_at hl 1 rfl) ?_
                                      refine lv_if_ne (tgt := 205) hx hb dX10_joined_198 (by decide) (fun c48 => ?_) (fun c48 => ?_)
                                      · replace hw := hw.1 c48
                                        refine lv_iconst (v := 1) hx hb dX10_joined_205 (by decide) ?_
                                        refine lv_goto (tgt := 210) hx hb dX10_joined_206 (by decide) ?_
                                        exact g_iret E hw hP hS dX10_joined_210
                                      · replace hw := hw.2 c48
                                        refine lv_iload_n hx hb dX10_joined_201 rfl (lv_at hl 2 rfl) ?_
                                        refine lv_if_eq (tgt := 209) hx hb dX10_joined_202 (by decide) (fun c49 => ?_) (fun c49 => ?_)
                                        · replace hw := hw.1 c49
                                          refine lv_iconst (v := 0) hx hb dX10_joined_209 (by decide) ?_
                                          exact g_iret E hw hP hS dX10_joined_210
                                        · replace hw := hw.2 c49
                                          refine lv_iconst (v := 1) hx hb dX10_joined_205 (by decide) ?_
                                          refine lv_goto (tgt := 210) hx hb dX10_joined_206 (by decide) ?_
                                          exact g_iret E hw hP hS dX10_joined_210
                                    · replace hw := hw.2 c47
                                      by_cases c50 : x0 = 56
                                      · replace hw := hw.1 c50
                                        refine lv_tableIn (off := 196) (tgt := 197) hx hb dX10_joined_1 (by rw [c50]; decide) (by rw [c50]; decide) (by rw [c50]; rfl) (by decide) ?_
                                        refine lv_iload_n hx hb dX10_joined_197 rfl (lv_at hl 1 rfl) ?_
                                        refine lv_if_ne (tgt := 205) hx hb dX10_joined_198 (by decide) (fun c51 => ?_) (fun c51 => ?_)
                                        · replace hw := hw.1 c51
                                          refine lv_iconst (v := 1) hx hb dX10_joined_205 (by decide) ?_
                                          refine lv_goto (tgt := 210) hx hb dX10_joined_206 (by decide) ?_
                                          exact g_iret E hw hP hS dX10_joined_210
                                        · replace hw := hw.2 c51
                                          refine lv_iload_n hx hb dX10_joined_201 rfl (lv_at hl 2 rfl) ?_
                                          refine lv_if_eq (tgt := 209) hx hb dX10_joined_202 (by decide) (fun c52 => ?_) (fun c52 => ?_)
                                          · replace hw := hw.1 c52
                                            refine lv_iconst (v := 0) hx hb dX10_joined_209 (by decide) ?_
                                            exact g_iret E hw hP hS dX10_joined_210
                                          · replace hw := hw.2 c52
                                            refine lv_iconst (v := 1) hx hb dX10_joined_205 (by decide) ?_
                                            refine lv_goto (tgt := 210) hx hb dX10_joined_206 (by decide) ?_
                                            exact g_iret E hw hP hS dX10_joined_210
                                      · replace hw := hw.2 c50
                                        by_cases c53 : x0 = 57
                                        · replace hw := hw.1 c53
                                          refine lv_tableIn (off := 196) (tgt := 197) hx hb dX10_joined_1 (by rw [c53]; decide) (by rw [c53]; decide) (by rw [c53]; rfl) (by decide) ?_
                                          refine lv_iload_n hx hb dX10_joined_197 rfl (lv_at hl 1 rfl) ?_
                                          refine lv_if_ne (tgt := 205) hx hb dX10_joined_198 (by decide) (fun c54 => ?_) (fun c54 => ?_)
                                          · replace hw := hw.1 c54
                                            refine lv_iconst (v := 1) hx hb dX10_joined_205 (by decide) ?_
                                            refine lv_goto (tgt := 210) hx hb dX10_joined_206 (by decide) ?_
                                            exact g_iret E hw hP hS dX10_joined_210
                                          · replace hw := hw.2 c54
                                            refine lv_iload_n hx hb dX10_joined_201 rfl (lv_at hl 2 rfl) ?_
                                            refine lv_if_eq (tgt := 209) hx hb dX10_joined_202 (by decide) (fun c55 => ?_) (fun c55 => ?_)
                                            · replace hw := hw.1 c55
                                              refine lv_iconst (v := 0) hx hb dX10_joined_209 (by decide) ?_
                                              exact g_iret E hw hP hS dX10_joined_210
                                            · replace hw := hw.2 c55
                                              refine lv_iconst (v := 1) hx hb dX10_joined_205 (by decide) ?_
                                              refine lv_goto (tgt := 210) hx hb dX10_joined_206 (by decide) ?_
                                              exact g_iret E hw hP hS dX10_joined_210
                                        · replace hw := hw.2 c53
                                          by_cases c56 : x0 = 58
                                          · replace hw := hw.1 c56
                                            refine lv_tableIn (off := 196) (tgt := 197) hx hb dX10_joined_1 (by rw [c56]; decide) (by rw [c56]; decide) (by rw [c56]; rfl) (by decide) ?_
                                            refine lv_iload_n hx hb dX10_joined_197 rfl (lv_at hl 1 rfl) ?_
                                            refine lv_if_ne (tgt := 205) hx hb dX10_joined_198 (by decide) (fun c57 => ?_) (fun c57 => ?_)
                                            · replace hw := hw.1 c57
                                              refine lv_iconst (v := 1) hx hb dX10_joined_205 (by decide) ?_
                                              refine lv_goto (tgt := 210) hx hb dX10_joined_206 (by decide) ?_
                                              exact g_iret E hw hP hS dX10_joined_210
                                            · replace hw := hw.2 c57
                                              refine lv_iload_n hx hb dX10_joined_201 rfl (lv_at hl 2 rfl) ?_
                                              refine lv_if_eq (tgt := 209) hx hb dX10_joined_202 (by decide) (fun c58 => ?_) (fun c58 => ?_)
                                              · replace hw := hw.1 c58
                                                refine lv_iconst (v := 0) hx hb dX10_joined_209 (by decide) ?_
                                                exact g_iret E hw hP hS dX10_joined_210
                                              · replace hw := hw.2 c58
                                                refine lv_iconst (v := 1) hx hb dX10_joined_205 (by decide) ?_
                                                refine lv_goto (tgt := 210) hx hb dX10_joined_206 (by decide) ?_
                                                exact g_iret E hw hP hS dX10_joined_210
                                          · replace hw := hw.2 c56
                                            by_cases c59 : x0 = 59
                                            · replace hw := hw.1 c59
                                              refine lv_tableIn (off := 196) (tgt := 197) hx hb dX10_joined_1 (by rw [c59]; decide) (by rw [c59]; decide) (by rw [c59]; rfl) (by decide) ?_
                                              refine lv_iload_n hx hb dX10_joined_197 rfl (lv_at hl 1 rfl) ?_
                                              refine lv_if_ne (tgt := 205) hx hb dX10_joined_198 (by decide) (fun c60 => ?_) (fun c60 => ?_)
                                              · replace hw := hw.1 c60
                                                refine lv_iconst (v := 1) hx hb dX10_joined_205 (by decide) ?_
                                                refine lv_goto (tgt := 210) hx hb dX10_joined_206 (by decide) ?_
                                                exact g_iret E hw hP hS dX10_joined_210
                                              · replace hw := hw.2 c60
                                                refine lv_iload_n hx hb dX10_joined_201 rfl (lv_at hl 2 rfl) ?_
                                                refine lv_if_eq (tgt := 209) hx hb dX10_joined_202 (by decide) (fun c61 => ?_) (fun c61 => ?_)
                                                · replace hw := hw.1 c61
                                                  refine lv_iconst (v := 0) hx hb dX10_joined_209 (by decide) ?_
                                                  exact g_iret E hw hP hS dX10_joined_210
                                                · replace hw := hw.2 c61
                                                  refine lv_iconst (v := 1) hx hb dX10_joined_205 (by decide) ?_
                                                  refine lv_goto (tgt := 210) hx hb dX10_joined_206 (by decide) ?_
                                                  exact g_iret E hw hP hS dX10_joined_210
                                            · replace hw := hw.2 c59
                                              by_cases c62 : x0 = 60
                                              · replace hw := hw.1 c62
                                                refine lv_tableIn (off := 149) (tgt := 150) hx hb dX10_joined_1 (by rw [c62]; decide) (by rw [c62]; decide) (by rw [c62]; rfl) (by decide) ?_
                                                refine lv_iload_n hx hb dX10_joined_150 rfl (lv_at hl 1 rfl) ?_
                                                refine lv_iload_n hx hb dX10_joined_151 rfl (lv_at hl 2 rfl) ?_
                                                refine lv_icmp_ge (tgt := 159) hx hb dX10_joined_152 (by decide) (fun c63 => ?_) (fun c63 => ?_)
                                                · replace hw := hw.1 c63
                                                  refine lv_iconst (v := 0) hx hb dX10_joined_159 (by decide) ?_
                                                  exact g_iret E hw hP hS dX10_joined_160
                                                · replace hw := hw.2 c63
                                                  refine lv_iconst (v := 1) hx hb dX10_joined_155 (by decide) ?_
                                                  refine lv_goto (tgt := 160) hx hb dX10_joined_156 (by decide) ?_
                                                  exact g_iret E hw hP hS dX10_joined_160
                                              · replace hw := hw.2 c62
                                                by_cases c64 : x0 = 61
                                                · replace hw := hw.1 c64
                                                  refine lv_tableIn (off := 171) (tgt := 172) hx hb dX10_joined_1 (by rw [c64]; decide) (by rw [c64]; decide) (by rw [c64]; rfl) (by decide) ?_
                                                  refine lv_iload_n hx hb dX10_joined_172 rfl (lv_at hl 1 rfl) ?_
                                                  refine lv_iload_n hx hb dX10_joined_173 rfl (lv_at hl 2 rfl) ?_
                                                  refine lv_icmp_ne (tgt := 181) hx hb dX10_joined_174 (by decide) (fun c65 => ?_) (fun c65 => ?_)
                                                  · replace hw := hw.1 c65
                                                    refine lv_iconst (v := 0) hx hb dX10_joined_181 (by decide) ?_
                                                    exact g_iret E hw hP hS dX10_joined_182
                                                  · replace hw := hw.2 c65
                                                    refine lv_iconst (v := 1) hx hb dX10_joined_177 (by decide) ?_
                                                    refine lv_goto (tgt := 182) hx hb dX10_joined_178 (by decide) ?_
                                                    exact g_iret E hw hP hS dX10_joined_182
                                                · replace hw := hw.2 c64
                                                  by_cases c66 : x0 = 62
                                                  · replace hw := hw.1 c66
                                                    refine lv_tableIn (off := 160) (tgt := 161) hx hb dX10_joined_1 (by rw [c66]; decide) (by rw [c66]; decide) (by rw [c66]; rfl) (by decide) ?_
                                                    refine lv_iload_n hx hb dX10_joined_161 rfl (lv_at hl 1 rfl) ?_
                                                    refine lv_iload_n hx hb dX10_joined_162 rfl (lv_at hl 2 rfl) ?_
                                                    refine lv_icmp_le (tgt := 170) hx hb dX10_joined_163 (by decide) (fun c67 => ?_) (fun c67 => ?_)
                                                    · replace hw := hw.1 c67
                                                      refine lv_iconst (v := 0) hx hb dX10_joined_170 (by decide) ?_
                                                      exact g_iret E hw hP hS dX10_joined_171
                                                    · replace hw := hw.2 c67
                                                      refine lv_iconst (v := 1) hx hb dX10_joined_166 (by decide) ?_
                                                      refine lv_goto (tgt := 171) hx hb dX10_joined_167 (by decide) ?_
                                                      exact g_iret E hw hP hS dX10_joined_171
                                                  · replace hw := hw.2 c66
                                                    have e1 := ne_toI c1 (n := 38) (k := 38) (by decide)
                                                    have e4 := ne_toI c4 (n := 39) (k := 39) (by decide)
                                                    have e7 := ne_toI c7 (n := 40) (k := 40) (by decide)
                                                    have e10 := ne_toI c10 (n := 41) (k := 41) (by decide)
                                                    have e13 := ne_toI c13 (n := 42) (k := 42) (by decide)
                                                    have e14 := ne_toI c14 (n := 43) (k := 43) (by decide)
                                                    have e15 := ne_toI c15 (n := 44) (k := 44) (by decide)
                                                    have e18 := ne_toI c18 (n := 45) (k := 45) (by decide)
                                                    have e19 := ne_toI c19 (n := 46) (k := 46) (by decide)
                                                    have e22 := ne_toI c22 (n := 47) (k := 47) (by decide)
                                                    have e26 := ne_toI c26 (n := 48) (k := 48) (by decide)
                                                    have e29 := ne_toI c29 (n := 49) (k := 49) (by decide)
                                                    have e32 := ne_toI c32 (n := 50) (k := 50) (by decide)
                                                    have e35 := ne_toI c35 (n := 51) (k := 51) (by decide)
                                                    have e38 := ne_toI c38 (n := 52) (k := 52) (by decide)
                                                    have e41 := ne_toI c41 (n := 53) (k := 53) (by decide)
                                                    have e44 := ne_toI c44 (n := 54) (k := 54) (by decide)
                                                    have e47 := ne_toI c47 (n := 55) (k := 55) (by decide)
                                                    have e50 := ne_toI c50 (n := 56) (k := 56) (by decide)
                                                    have e53 := ne_toI c53 (n := 57) (k := 57) (by decide)
                                                    have e56 := ne_toI c56 (n := 58) (k := 58) (by decide)
                                                    have e59 := ne_toI c59 (n := 59) (k := 59) (by decide)
                                                    have e62 := ne_toI c62 (n := 60) (k := 60) (by decide)
                                                    have e64 := ne_toI c64 (n := 61) (k := 61) (by decide)
                                                    have e66 := ne_toI c66 (n := 62) (k := 62) (by decide)
                                                    refine lv_tableOut (tgt := 197) hx hb dX10_joined_1 (by omega) (by decide) ?_
                                                    refine lv_iload_n hx hb dX10_joined_197 rfl (lv_at hl 1 rfl) ?_
                                                    refine lv_if_ne (tgt := 205) hx hb dX10_joined_198 (by decide) (fun c68 => ?_) (fun c68 => ?_)
                                                    · replace hw := hw.1 c68
                                                      refine lv_iconst (v := 1) hx hb dX10_joined_205 (by decide) ?_
                                                      refine lv_goto (tgt := 210) hx hb dX10_joined_206 (by decide) ?_
                                                      exact g_iret E hw hP hS dX10_joined_210
                                                    · replace hw := hw.2 c68
                                                      refine lv_iload_n hx hb dX10_joined_201 rfl (lv_at hl 2 rfl) ?_
                                                      refine lv_if_eq (tgt := 209) hx hb dX10_joined_202 (by decide) (fun c69 => ?_) (fun c69 => ?_)
                                                      · replace hw := hw.1 c69
                                                        refine lv_iconst (v := 0) hx hb dX10_joined_209 (by decide) ?_
                                                        exact g_iret E hw hP hS dX10_joined_210
                                                      · replace hw := hw.2 c69
                                                        refine lv_iconst (v := 1) hx hb dX10_joined_205 (by decide) ?_
                                                        refine lv_goto (tgt := 210) hx hb dX10_joined_206 (by decide) ?_
                                                        exact g_iret E hw hP hS dX10_joined_210
theorem c_X10_joined (l : Launch) (D : va_G) (cy : Nat → ClassId) (ad : Nat → Nat → Nat) (ha : Apart regsM ad) {post : Int32 → St → Prop} {σ : St} {x0 : Int32} {x1 : Int32} {x2 : Int32} (hw : w_X10_joined post σ x0 x1 x2) (sz : Nat) : MetI l yX10_joined cX10_joined 3 .int rm_X10_joined [.int x0, .int x1, .int x2] D cy (cellM cy ad) regsM ad σ sz post :=
  Met_inI ok_X10_joined.2.2.2.2 (Nat.le_of_ble_eq_true rfl) (fun p e s m below meth c ls E hP hl => B_X10_joined_0 E ha hw hP va_S.rf hl)
-- RoofWarModel.worked(I)I
theorem dX10_worked_0 : decode cX10_worked 0 = .ok (.iconst 0, 1) := by decide +kernel
theorem dX10_worked_1 : decode cX10_worked 1 = .ok (.istore_n 2, 1) := by decide +kernel
theorem dX10_worked_2 : decode cX10_worked 2 = .ok (.iconst 0, 1) := by decide +kernel
theorem dX10_worked_3 : decode cX10_worked 3 = .ok (.istore_n 3, 1) := by decide +kernel
theorem dX10_worked_4 : decode cX10_worked 4 = .ok (.iload_n 3, 1) := by decide +kernel
theorem dX10_worked_5 : decode cX10_worked 5 = .ok (.aload_n 0, 1) := by decide +kernel
theorem dX10_worked_6 : decode cX10_worked 6 = .ok (.getfield 7, 3) := by decide +kernel
theorem dX10_worked_9 : decode cX10_worked 9 = .ok (.aload_n 0, 1) := by decide +kernel
theorem dX10_worked_10 : decode cX10_worked 10 = .ok (.iload_n 1, 1) := by decide +kernel
theorem dX10_worked_11 : decode cX10_worked 11 = .ok (.invokevirtual 318, 3) := by decide +kernel
theorem dX10_worked_14 : decode cX10_worked 14 = .ok (.iconst 2, 1) := by decide +kernel
theorem dX10_worked_15 : decode cX10_worked 15 = .ok (.iadd, 1) := by decide +kernel
theorem dX10_worked_16 : decode cX10_worked 16 = .ok (.iaload, 1) := by decide +kernel
theorem dX10_worked_17 : decode cX10_worked 17 = .ok (.if_icmp .ge 146, 3) := by decide +kernel
theorem dX10_worked_20 : decode cX10_worked 20 = .ok (.aload_n 0, 1) := by decide +kernel
theorem dX10_worked_21 : decode cX10_worked 21 = .ok (.getfield 7, 3) := by decide +kernel
theorem dX10_worked_24 : decode cX10_worked 24 = .ok (.aload_n 0, 1) := by decide +kernel
theorem dX10_worked_25 : decode cX10_worked 25 = .ok (.iload_n 1, 1) := by decide +kernel
theorem dX10_worked_26 : decode cX10_worked 26 = .ok (.invokevirtual 318, 3) := by decide +kernel
theorem dX10_worked_29 : decode cX10_worked 29 = .ok (.iconst 4, 1) := by decide +kernel
theorem dX10_worked_30 : decode cX10_worked 30 = .ok (.iadd, 1) := by decide +kernel
theorem dX10_worked_31 : decode cX10_worked 31 = .ok (.iconst 2, 1) := by decide +kernel
theorem dX10_worked_32 : decode cX10_worked 32 = .ok (.iload_n 3, 1) := by decide +kernel
theorem dX10_worked_33 : decode cX10_worked 33 = .ok (.imul, 1) := by decide +kernel
theorem dX10_worked_34 : decode cX10_worked 34 = .ok (.iadd, 1) := by decide +kernel
theorem dX10_worked_35 : decode cX10_worked 35 = .ok (.iaload, 1) := by decide +kernel
theorem dX10_worked_36 : decode cX10_worked 36 = .ok (.istore 4, 2) := by decide +kernel
theorem dX10_worked_38 : decode cX10_worked 38 = .ok (.aload_n 0, 1) := by decide +kernel
theorem dX10_worked_39 : decode cX10_worked 39 = .ok (.getfield 7, 3) := by decide +kernel
theorem dX10_worked_42 : decode cX10_worked 42 = .ok (.aload_n 0, 1) := by decide +kernel
theorem dX10_worked_43 : decode cX10_worked 43 = .ok (.iload_n 1, 1) := by decide +kernel
theorem dX10_worked_44 : decode cX10_worked 44 = .ok (.invokevirtual 318, 3) := by decide +kernel
theorem dX10_worked_47 : decode cX10_worked 47 = .ok (.iconst 4, 1) := by decide +kernel
theorem dX10_worked_48 : decode cX10_worked 48 = .ok (.iadd, 1) := by decide +kernel
theorem dX10_worked_49 : decode cX10_worked 49 = .ok (.iconst 2, 1) := by decide +kernel
theorem dX10_worked_50 : decode cX10_worked 50 = .ok (.iload_n 3, 1) := by decide +kernel
theorem dX10_worked_51 : decode cX10_worked 51 = .ok (.imul, 1) := by decide +kernel
theorem dX10_worked_52 : decode cX10_worked 52 = .ok (.iadd, 1) := by decide +kernel
theorem dX10_worked_53 : decode cX10_worked 53 = .ok (.iconst 1, 1) := by decide +kernel
theorem dX10_worked_54 : decode cX10_worked 54 = .ok (.iadd, 1) := by decide +kernel
theorem dX10_worked_55 : decode cX10_worked 55 = .ok (.iaload, 1) := by decide +kernel
theorem dX10_worked_56 : decode cX10_worked 56 = .ok (.istore 5, 2) := by decide +kernel
theorem dX10_worked_58 : decode cX10_worked 58 = .ok (.iload 4, 2) := by decide +kernel
theorem dX10_worked_60 : decode cX10_worked 60 = .ok (.iconst 2, 1) := by decide +kernel
theorem dX10_worked_61 : decode cX10_worked 61 = .ok (.if_icmp .eq 32, 3) := by decide +kernel
theorem dX10_worked_64 : decode cX10_worked 64 = .ok (.aload_n 0, 1) := by decide +kernel
theorem dX10_worked_65 : decode cX10_worked 65 = .ok (.getfield 58, 3) := by decide +kernel
theorem dX10_worked_68 : decode cX10_worked 68 = .ok (.iload_n 2, 1) := by decide +kernel
theorem dX10_worked_69 : decode cX10_worked 69 = .ok (.iload 4, 2) := by decide +kernel
theorem dX10_worked_71 : decode cX10_worked 71 = .ok (.ifCond .ne 8, 3) := by decide +kernel
theorem dX10_worked_74 : decode cX10_worked 74 = .ok (.iload 5, 2) := by decide +kernel
theorem dX10_worked_76 : decode cX10_worked 76 = .ok (.goto 10, 3) := by decide +kernel
theorem dX10_worked_79 : decode cX10_worked 79 = .ok (.aload_n 0, 1) := by decide +kernel
theorem dX10_worked_80 : decode cX10_worked 80 = .ok (.getfield 55, 3) := by decide +kernel
theorem dX10_worked_83 : decode cX10_worked 83 = .ok (.iload 5, 2) := by decide +kernel
theorem dX10_worked_85 : decode cX10_worked 85 = .ok (.iaload, 1) := by decide +kernel
theorem dX10_worked_86 : decode cX10_worked 86 = .ok (.iastore, 1) := by decide +kernel
theorem dX10_worked_87 : decode cX10_worked 87 = .ok (.iinc 2 1, 3) := by decide +kernel
theorem dX10_worked_90 : decode cX10_worked 90 = .ok (.goto 67, 3) := by decide +kernel
theorem dX10_worked_93 : decode cX10_worked 93 = .ok (.iload 5, 2) := by decide +kernel
theorem dX10_worked_95 : decode cX10_worked 95 = .ok (.bipush 33, 2) := by decide +kernel
theorem dX10_worked_97 : decode cX10_worked 97 = .ok (.if_icmp .ne 30, 3) := by decide +kernel
theorem dX10_worked_100 : decode cX10_worked 100 = .ok (.aload_n 0, 1) := by decide +kernel
theorem dX10_worked_101 : decode cX10_worked 101 = .ok (.getfield 58, 3) := by decide +kernel
theorem dX10_worked_104 : decode cX10_worked 104 = .ok (.iload_n 2, 1) := by decide +kernel
theorem dX10_worked_105 : decode cX10_worked 105 = .ok (.iconst 1, 1) := by decide +kernel
theorem dX10_worked_106 : decode cX10_worked 106 = .ok (.isub, 1) := by decide +kernel
theorem dX10_worked_107 : decode cX10_worked 107 = .ok (.aload_n 0, 1) := by decide +kernel
theorem dX10_worked_108 : decode cX10_worked 108 = .ok (.getfield 58, 3) := by decide +kernel
theorem dX10_worked_111 : decode cX10_worked 111 = .ok (.iload_n 2, 1) := by decide +kernel
theorem dX10_worked_112 : decode cX10_worked 112 = .ok (.iconst 1, 1) := by decide +kernel
theorem dX10_worked_113 : decode cX10_worked 113 = .ok (.isub, 1) := by decide +kernel
theorem dX10_worked_114 : decode cX10_worked 114 = .ok (.iaload, 1) := by decide +kernel
theorem dX10_worked_115 : decode cX10_worked 115 = .ok (.ifCond .ne 7, 3) := by decide +kernel
theorem dX10_worked_118 : decode cX10_worked 118 = .ok (.iconst 1, 1) := by decide +kernel
theorem dX10_worked_119 : decode cX10_worked 119 = .ok (.goto 4, 3) := by decide +kernel
theorem dX10_worked_122 : decode cX10_worked 122 = .ok (.iconst 0, 1) := by decide +kernel
theorem dX10_worked_123 : decode cX10_worked 123 = .ok (.iastore, 1) := by decide +kernel
theorem dX10_worked_124 : decode cX10_worked 124 = .ok (.goto 33, 3) := by decide +kernel
theorem dX10_worked_127 : decode cX10_worked 127 = .ok (.iinc 2 (-1), 3) := by decide +kernel
theorem dX10_worked_130 : decode cX10_worked 130 = .ok (.aload_n 0, 1) := by decide +kernel
theorem dX10_worked_131 : decode cX10_worked 131 = .ok (.getfield 58, 3) := by decide +kernel
theorem dX10_worked_134 : decode cX10_worked 134 = .ok (.iload_n 2, 1) := by decide +kernel
theorem dX10_worked_135 : decode cX10_worked 135 = .ok (.iconst 1, 1) := by decide +kernel
theorem dX10_worked_136 : decode cX10_worked 136 = .ok (.isub, 1) := by decide +kernel
theorem dX10_worked_137 : decode cX10_worked 137 = .ok (.iload 5, 2) := by decide +kernel
theorem dX10_worked_139 : decode cX10_worked 139 = .ok (.aload_n 0, 1) := by decide +kernel
theorem dX10_worked_140 : decode cX10_worked 140 = .ok (.getfield 58, 3) := by decide +kernel
theorem dX10_worked_143 : decode cX10_worked 143 = .ok (.iload_n 2, 1) := by decide +kernel
theorem dX10_worked_144 : decode cX10_worked 144 = .ok (.iconst 1, 1) := by decide +kernel
theorem dX10_worked_145 : decode cX10_worked 145 = .ok (.isub, 1) := by decide +kernel
theorem dX10_worked_146 : decode cX10_worked 146 = .ok (.iaload, 1) := by decide +kernel
theorem dX10_worked_147 : decode cX10_worked 147 = .ok (.aload_n 0, 1) := by decide +kernel
theorem dX10_worked_148 : decode cX10_worked 148 = .ok (.getfield 58, 3) := by decide +kernel
theorem dX10_worked_151 : decode cX10_worked 151 = .ok (.iload_n 2, 1) := by decide +kernel
theorem dX10_worked_152 : decode cX10_worked 152 = .ok (.iaload, 1) := by decide +kernel
theorem dX10_worked_153 : decode cX10_worked 153 = .ok (.invokestatic 330, 3) := by decide +kernel
theorem dX10_worked_156 : decode cX10_worked 156 = .ok (.iastore, 1) := by decide +kernel
theorem dX10_worked_157 : decode cX10_worked 157 = .ok (.iinc 3 1, 3) := by decide +kernel
theorem dX10_worked_160 : decode cX10_worked 160 = .ok (.goto (-156), 3) := by decide +kernel
theorem dX10_worked_163 : decode cX10_worked 163 = .ok (.aload_n 0, 1) := by decide +kernel
theorem dX10_worked_164 : decode cX10_worked 164 = .ok (.getfield 58, 3) := by decide +kernel
theorem dX10_worked_167 : decode cX10_worked 167 = .ok (.iconst 0, 1) := by decide +kernel
theorem dX10_worked_168 : decode cX10_worked 168 = .ok (.iaload, 1) := by decide +kernel
theorem dX10_worked_169 : decode cX10_worked 169 = .ok (.ireturn, 1) := by decide +kernel
theorem ok_X10_worked : okV yX10_worked cX10_worked 6 (some .int) 1 := ⟨mw_1200, mw_46, mw_83, mw_1201, by decide +kernel, by decide +kernel⟩
abbrev rm_X10_worked : Room := { frames := 1, cells := 0, slots := 0, locals := 22 }
def b_X10_worked_86 (K4 : St → Int32 → Int32 → Int32 → Prop) (post : Int32 → St → Prop) (σ : St) (y0 : Int32) (y1 : Int32) (x1 : Int32) (x2 : Int32) (x3 : Int32) : Prop := vp_in y1 100 ∧ (∀ s2 : St, s2 = wr σ 17 0 y1.toNatClampNeg y0 → (∀ v3 : Int32, v3 = x2 + 1 → (∀ v4 : Int32, v4 = x3 + 1 → (K4 s2 x1 v3 v4))))
theorem B_X10_worked_86 (E : EnvW p s m args meth c D cy regsM ad "RoofWarModel" cX10_worked 6 (some .int)) (ha : Apart regsM ad) {post : Int32 → St → Prop} {K4 : St → Int32 → Int32 → Int32 → Prop} (hk4 : ∀ (σ : St) (x1 : Int32) (x2 : Int32) (x3 : Int32), K4 σ x1 x2 x3 → ∀ (H : Heap) (locs : List Loc) (ls : Array Slot), va_P D CLS (wM cy ad σ) H → va_S (AM ad s.heap.size) s.heap H locs → lv_has ls 6 [(0, .ref (ad 0 0)), (1, .int x1), (2, .int x2), (3, .int x3)] → W p l e rm_X10_worked s m args below meth c H locs 0 0 (MQ below (QI D cy (cellM cy ad) regsM ad s.heap.size post) args s 0 0 (AM ad s.heap.size)) (F0 m 4 ls [])) {σ : St} {y0 : Int32} {y1 : Int32} {x1 : Int32} {x2 : Int32} {x3 : Int32} (hw : b_X10_worked_86 K4 post σ y0 y1 x1 x2 x3) {H : Heap} {locs : List Loc} {ls : Array Slot} (hP : va_P D CLS (wM cy ad σ) H) (hS : va_S (AM ad s.heap.size) s.heap H locs) (hl : lv_has ls 6 [(0, .ref (ad 0 0)), (1, .int x1), (2, .int x2), (3, .int x3)]) : W p l e rm_X10_worked s m args below meth c H locs 0 0 (MQ below (QI D cy (cellM cy ad) regsM ad s.heap.size post) args s 0 0 (AM ad s.heap.size)) (F0 m 86 ls [.int y0, .int y1, .ref (ad 17 0)]) := by
  obtain ⟨hx, hb, -⟩ := id E
  unfold b_X10_worked_86 at hw
  obtain ⟨h1, hw⟩ := hw
  refine tM17 E ha h1 dX10_worked_86 hP hS (fun s2 es2 H locs hP hS => ?_)
  replace hw := hw s2 es2
  obtain ⟨v3, ev3⟩ : ∃ y : Int32, y = x2 + 1 := ⟨_, rfl⟩
  replace hw := hw v3 ev3
  refine lv_iinc (v := v3) (lv' := [(2, .int v3), (0, .ref (ad 0 0)), (1, .int x1), (3, .int x3)]) hx hb dX10_worked_87 hl (k := 2) rfl (by rw [ev3]; rfl) (by decide) rfl (fun ls hl => ?_)
  refine lv_goto (tgt := 157) hx hb dX10_worked_90 (by decide) ?_
  obtain ⟨v4, ev4⟩ : ∃ y : Int32, y = x3 + 1 := ⟨_, rfl⟩
  replace hw := hw v4 ev4
  refine lv_iinc (v := v4) (lv' := [(3, .int v4), (2, .int v3), (0, .ref (ad 0 0)), (1, .int x1)]) hx hb dX10_worked_157 hl (k := 3) rfl (by rw [ev4]; rfl) (by decide) rfl (fun ls hl => ?_)
  refine lv_goto (tgt := 4) hx hb dX10_worked_160 (by decide) ?_
  exact hk4 s2 x1 v3 v4 hw _ _ _ hP hS (lv_sub hl [2, 3, 1, 0] rfl)
def b_X10_worked_123 (K4 : St → Int32 → Int32 → Int32 → Prop) (post : Int32 → St → Prop) (σ : St) (y0 : Int32) (y1 : Int32) (x1 : Int32) (x2 : Int32) (x3 : Int32) : Prop := vp_in y1 100 ∧ (∀ s2 : St, s2 = wr σ 17 0 y1.toNatClampNeg y0 → (∀ v3 : Int32, v3 = x3 + 1 → (K4 s2 x1 x2 v3)))
theorem B_X10_worked_123 (E : EnvW p s m args meth c D cy regsM ad "RoofWarModel" cX10_worked 6 (some .int)) (ha : Apart regsM ad) {post : Int32 → St → Prop} {K4 : St → Int32 → Int32 → Int32 → Prop} (hk4 : ∀ (σ : St) (x1 : Int32) (x2 : Int32) (x3 : Int32), K4 σ x1 x2 x3 → ∀ (H : Heap) (locs : List Loc) (ls : Array Slot), va_P D CLS (wM cy ad σ) H → va_S (AM ad s.heap.size) s.heap H locs → lv_has ls 6 [(0, .ref (ad 0 0)), (1, .int x1), (2, .int x2), (3, .int x3)] → W p l e rm_X10_worked s m args below meth c H locs 0 0 (MQ below (QI D cy (cellM cy ad) regsM ad s.heap.size post) args s 0 0 (AM ad s.heap.size)) (F0 m 4 ls [])) {σ : St} {y0 : Int32} {y1 : Int32} {x1 : Int32} {x2 : Int32} {x3 : Int32} (hw : b_X10_worked_123 K4 post σ y0 y1 x1 x2 x3) {H : Heap} {locs : List Loc} {ls : Array Slot} (hP : va_P D CLS (wM cy ad σ) H) (hS : va_S (AM ad s.heap.size) s.heap H locs) (hl : lv_has ls 6 [(0, .ref (ad 0 0)), (1, .int x1), (2, .int x2), (3, .int x3)]) : W p l e rm_X10_worked s m args below meth c H locs 0 0 (MQ below (QI D cy (cellM cy ad) regsM ad s.heap.size post) args s 0 0 (AM ad s.heap.size)) (F0 m 123 ls [.int y0, .int y1, .ref (ad 17 0)]) := by
  obtain ⟨hx, hb, -⟩ := id E
  unfold b_X10_worked_123 at hw
  obtain ⟨h1, hw⟩ := hw
  refine tM17 E ha h1 dX10_worked_123 hP hS (fun s2 es2 H locs hP hS => ?_)
  replace hw := hw s2 es2
  refine lv_goto (tgt := 157) hx hb dX10_worked_124 (by decide) ?_
  obtain ⟨v3, ev3⟩ : ∃ y : Int32, y = x3 + 1 := ⟨_, rfl⟩
  replace hw := hw v3 ev3
  refine lv_iinc (v := v3) (lv' := [(3, .int v3), (0, .ref (ad 0 0)), (1, .int x1), (2, .int x2)]) hx hb dX10_worked_157 hl (k := 3) rfl (by rw [ev3]; rfl) (by decide) rfl (fun ls hl => ?_)
  refine lv_goto (tgt := 4) hx hb dX10_worked_160 (by decide) ?_
  exact hk4 s2 x1 x2 v3 hw _ _ _ hP hS (lv_sub hl [1, 2, 3, 0] rfl)
def b_X10_worked_4 (K4 : St → Int32 → Int32 → Int32 → Prop) (post : Int32 → St → Prop) (σ : St) (x1 : Int32) (x2 : Int32) (x3 : Int32) : Prop := w_X10_textAt (fun r1 s1 => vp_in (r1 + 2) 3082 ∧ ((((s1 1 0 (r1 + 2).toNatClampNeg) ≤ x3 → (vp_in (0 : Int32) 100 ∧ (post (s1 17 0 (0 : Int32).toNatClampNeg) s1))) ∧ (¬ (s1 1 0 (r1 + 2).toNatClampNeg) ≤ x3 → (w_X10_textAt (fun r5 s5 => vp_in ((r5 + 4) + (2 * x3)) 3082 ∧ (∀ v7 : Int32, v7 = s5 1 0 ((r5 + 4) + (2 * x3)).toNatClampNeg → (w_X10_textAt (fun r8 s8 => vp_in (((r8 + 4) + (2 * x3)) + 1) 3082 ∧ (∀ v10 : Int32, v10 = s8 1 0 (((r8 + 4) + (2 * x3)) + 1).toNatClampNeg → (((v7 = 2 → (((¬ v10 = 33 → (∀ v13 : Int32, v13 = x2 + (-1) → (vp_in (v13 - 1) 100 ∧ (vp_in v13 100 ∧ (w_X10_joined (fun r16 s16 => vp_in (v13 - 1) 100 ∧ (∀ s18 : St, s18 = wr s16 17 0 (v13 - 1).toNatClampNeg r16 → (∀ v19 : Int32, v19 = x3 + 1 → (K4 s18 x1 v13 v19)))) s8 v10 (s8 17 0 (v13 - 1).toNatClampNeg) (s8 17 0 v13.toNatClampNeg)))))) ∧ (v10 = 33 → (vp_in (x2 - 1) 100 ∧ (((¬ (s8 17 0 (x2 - 1).toNatClampNeg) = 0 → (b_X10_worked_123 K4 post s8 (0 : Int32) (x2 - 1) x1 x2 x3)) ∧ ((s8 17 0 (x2 - 1).toNatClampNeg) = 0 → (b_X10_worked_123 K4 post s8 (1 : Int32) (x2 - 1) x1 x2 x3))))))))) ∧ (¬ v7 = 2 → (((¬ v7 = 0 → (vp_in v10 128 ∧ (b_X10_worked_86 K4 post s8 (s8 16 0 v10.toNatClampNeg) x2 x1 x2 x3))) ∧ (v7 = 0 → (b_X10_worked_86 K4 post s8 v10 x2 x1 x2 x3))))))))) s5 x1))) s1 x1))))) σ x1
noncomputable def l_X10_worked_4 (post : Int32 → St → Prop) : Nat → St → Int32 → Int32 → Int32 → Prop := fun n => Nat.rec (motive := fun _ => St → Int32 → Int32 → Int32 → Prop) (fun _ _ _ _ => False) (fun _ ih => b_X10_worked_4 ih post) n
theorem L_X10_worked_4 (E : EnvW p s m args meth c D cy regsM ad "RoofWarModel" cX10_worked 6 (some .int)) (ha : Apart regsM ad) {post : Int32 → St → Prop} : ∀ (n : Nat), ∀ (σ : St) (x1 : Int32) (x2 : Int32) (x3 : Int32), l_X10_worked_4 post n σ x1 x2 x3 → ∀ (H : Heap) (locs : List Loc) (ls : Array Slot), va_P D CLS (wM cy ad σ) H → va_S (AM ad s.heap.size) s.heap H locs → lv_has ls 6 [(0, .ref (ad 0 0)), (1, .int x1), (2, .int x2), (3, .int x3)] → W p l e rm_X10_worked s m args below meth c H locs 0 0 (MQ below (QI D cy (cellM cy ad) regsM ad s.heap.size post) args s 0 0 (AM ad s.heap.size)) (F0 m 4 ls []) := by
  obtain ⟨hx, hb, -⟩ := id E
  intro n
  induction n with
  | zero => intro σ x1 x2 x3 hw; exact hw.elim
  | succ n hk4 =>
    intro σ x1 x2 x3 hw H locs ls hP hS hl
    replace hw : b_X10_worked_4 (l_X10_worked_4 post n) post σ x1 x2 x3 := hw
    unfold b_X10_worked_4 at hw
    refine lv_iload_n hx hb dX10_worked_4 rfl (lv_at hl 3 rfl) ?_
    refine lv_aload_n hx hb dX10_worked_5 rfl (lv_at hl 0 rfl) ?_
    refine fX10_0 E hP mw_946 dX10_worked_6 ?_
    refine lv_aload_n hx hb dX10_worked_9 rfl (lv_at hl 0 rfl) ?_
    refine lv_iload_n hx hb dX10_worked_10 rfl (lv_at hl 1 rfl) ?_
    refine g_cVi (As := [.int x1]) (rest := [.ref (ad 1 0), .int x3]) E hl.1 (c_X10_textAt l D cy ad ha hw _) ok_X10_textAt mw_1196 ⟨(Nat.le_of_ble_eq_true rfl), (Nat.le_of_ble_eq_true rfl)⟩ ⟨rfl, rfl⟩ rM0 rfl rfl rfl rfl rfl (Nat.le_of_ble_eq_true rfl) ⟨Nat.zero_le _, Nat.zero_le _⟩ hP hS dX10_worked_11 (fun r1 s1 hw H locs hP hS => ?_)
    refine lv_iconst (v := 2) hx hb dX10_worked_14 (by decide) ?_
    refine lv_iadd hx hb dX10_worked_15 ?_
    obtain ⟨h2, hw⟩ := hw
    refine aM1 E hP h2 dX10_worked_16 ?_
    refine lv_icmp_ge (tgt := 163) hx hb dX10_worked_17 (by decide) (fun c3 => ?_) (fun c3 => ?_)
    · replace hw := hw.1 c3
      refine lv_aload_n hx hb dX10_worked_163 rfl (lv_at hl 0 rfl) ?_
      refine fX10_29 E hP mw_975 dX10_worked_164 ?_
      refine lv_iconst (v := 0) hx hb dX10_worked_167 (by decide) ?_
      obtain ⟨h4, hw⟩ := hw
      refine aM17 E hP h4 dX10_worked_168 ?_
      exact g_iret E hw hP hS dX10_worked_169
    · replace hw := hw.2 c3
      refine lv_aload_n hx hb dX10_worked_20 rfl (lv_at hl 0 rfl) ?_
      refine fX10_0 E hP mw_946 dX10_worked_21 ?_
      refine lv_aload_n hx hb dX10_worked_24 rfl (lv_at hl 0 rfl) ?_
      refine lv_iload_n hx hb dX10_worked_25 rfl (lv_at hl 1 rfl) ?_
      refine g_cVi (As := [.int x1]) (rest := [.ref (ad 1 0)]) E hl.1 (c_X10_textAt l D cy ad ha hw _) ok_X10_textAt mw_1196 ⟨(Nat.le_of_ble_eq_true rfl), (Nat.le_of_ble_eq_true rfl)⟩ ⟨rfl, rfl⟩ rM0 rfl rfl rfl rfl rfl (Nat.le_of_ble_eq_true rfl) ⟨Nat.zero_le _, Nat.zero_le _⟩ hP hS dX10_worked_26 (fun r5 s5 hw H locs hP hS => ?_)
      refine lv_iconst (v := 4) hx hb dX10_worked_29 (by decide) ?_
      refine lv_iadd hx hb dX10_worked_30 ?_
      refine lv_iconst (v := 2) hx hb dX10_worked_31 (by decide) ?_
      refine lv_iload_n hx hb dX10_worked_32 rfl (lv_at hl 3 rfl) ?_
      refine lv_imul hx hb dX10_worked_33 ?_
      refine lv_iadd hx hb dX10_worked_34 ?_
      obtain ⟨h6, hw⟩ := hw
      refine aM1 E hP h6 dX10_worked_35 ?_
      refine lv_topi (fun v7 ev7 => ?_)
      replace hw := hw v7 ev7
      refine lv_istore (lv' := [(4, .int v7), (0, .ref (ad 0 0)), (1, .int x1), (2, .int x2), (3, .int x3)]) hx hb dX10_worked_36 hl (by decide) rfl (fun ls hl => ?_)
      refine lv_aload_n hx hb dX10_worked_38 rfl (lv_at hl 1 rfl) ?_
      refine fX10_0 E hP mw_946 dX10_worked_39 ?_
      refine lv_aload_n hx hb dX10_worked_42 rfl (lv_at hl 1 rfl) ?_
      refine lv_iload_n hx hb dX10_worked_43 rfl (lv_at hl 2 rfl) ?_
      refine g_cVi (As := [.int x1]) (rest := [.ref (ad 1 0)]) E hl.1 (c_X10_textAt l D cy ad ha hw _) ok_X10_textAt mw_1196 ⟨(Nat.le_of_ble_eq_true rfl), (Nat.le_of_ble_eq_true rfl)⟩ ⟨rfl, rfl⟩ rM0 rfl rfl rfl rfl rfl (Nat.le_of_ble_eq_true rfl) ⟨Nat.zero_le _, Nat.zero_le _⟩ hP hS dX10_worked_44 (fun r8 s8 hw H locs hP hS => ?_)
      refine lv_iconst (v := 4) hx hb dX10_worked_47 (by decide) ?_
      refine lv_iadd hx hb dX10_worked_48 ?_
      refine lv_iconst (v := 2) hx hb dX10_worked_49 (by decide) ?_
      refine lv_iload_n hx hb dX10_worked_50 rfl (lv_at hl 4 rfl) ?_
      refine lv_imul hx hb dX10_worked_51 ?_
      refine lv_iadd hx hb dX10_worked_52 ?_
      refine lv_iconst (v := 1) hx hb dX10_worked_53 (by decide) ?_
      refine lv_iadd hx hb dX10_worked_54 ?_
      obtain ⟨h9, hw⟩ := hw
      refine aM1 E hP h9 dX10_worked_55 ?_
      refine lv_topi (fun v10 ev10 => ?_)
      replace hw := hw v10 ev10
      refine lv_istore (lv' := [(5, .int v10), (4, .int v7), (0, .ref (ad 0 0)), (1, .int x1), (2, .int x2), (3, .int x3)]) hx hb dX10_worked_56 hl (by decide) rfl (fun ls hl => ?_)
      refine lv_iload hx hb dX10_worked_58 (lv_at hl 1 rfl) ?_
      refine lv_iconst (v := 2) hx hb dX10_worked_60 (by decide) ?_
      refine lv_icmp_eq (tgt := 93) hx hb dX10_worked_61 (by decide) (fun c11 => ?_) (fun c11 => ?_)
      · replace hw := hw.1 c11
        refine lv_iload hx hb dX10_worked_93 (lv_at hl 0 rfl) ?_
        refine lv_bipush (v := 33) hx hb dX10_worked_95 (by decide) ?_
        refine lv_icmp_ne (tgt := 127) hx hb dX10_worked_97 (by decide) (fun c12 => ?_) (fun c12 => ?_)
        · replace hw := hw.1 c12
          obtain ⟨v13, ev13⟩ : ∃ y : Int32, y = x2 + (-1) := ⟨_, rfl⟩
          replace hw := hw v13 ev13
          refine lv_iinc (v := v13) (lv' := [(2, .int v13), (5, .int v10), (4, .int v7), (0, .ref (ad 0 0)), (1, .int x1), (3, .int x3)]) hx hb dX10_worked_127 hl (k := 4) rfl (by rw [ev13]; rfl) (by decide) rfl (fun ls hl => ?_)
          refine lv_aload_n hx hb dX10_worked_130 rfl (lv_at hl 3 rfl) ?_
          refine fX10_29 E hP mw_975 dX10_worked_131 ?_
          refine lv_iload_n hx hb dX10_worked_134 rfl (lv_at hl 0 rfl) ?_
          refine lv_iconst (v := 1) hx hb dX10_worked_135 (by decide) ?_
          refine lv_isub hx hb dX10_worked_136 ?_
          refine lv_iload hx hb dX10_worked_137 (lv_at hl 1 rfl) ?_
          refine lv_aload_n hx hb dX10_worked_139 rfl (lv_at hl 3 rfl) ?_
          refine fX10_29 E hP mw_975 dX10_worked_140 ?_
          refine lv_iload_n hx hb dX10_worked_143 rfl (lv_at hl 0 rfl) ?_
          refine lv_iconst (v := 1) hx hb dX10_worked_144 (by decide) ?_
          refine lv_isub hx hb dX10_worked_145 ?_
          obtain ⟨h14, hw⟩ := hw
          refine aM17 E hP h14 dX10_worked_146 ?_
          refine lv_aload_n hx hb dX10_worked_147 rfl (lv_at hl 3 rfl) ?_
          refine fX10_29 E hP mw_975 dX10_worked_148 ?_
          refine lv_iload_n hx hb dX10_worked_151 rfl (lv_at hl 0 rfl) ?_
          obtain ⟨h15, hw⟩ := hw
          refine aM17 E hP h15 dX10_worked_152 ?_
          refine g_cSi (As := [.int v10, .int (s8 17 0 (v13 - 1).toNatClampNeg), .int (s8 17 0 v13.toNatClampNeg)]) (rest := [.int (v13 - 1), .ref (ad 17 0)]) E hl.1 (c_X10_joined l D cy ad ha hw _) ok_X10_joined mw_1202 ⟨(Nat.le_of_ble_eq_true rfl), (Nat.le_of_ble_eq_true rfl)⟩ ⟨rfl, rfl⟩ rfl rfl (Nat.le_of_ble_eq_true rfl) ⟨Nat.zero_le _, Nat.zero_le _⟩ hP hS dX10_worked_153 (fun r16 s16 hw H locs hP hS => ?_)
          obtain ⟨h17, hw⟩ := hw
          refine tM17 E ha h17 dX10_worked_156 hP hS (fun s18 es18 H locs hP hS => ?_)
          replace hw := hw s18 es18
          obtain ⟨v19, ev19⟩ : ∃ y : Int32, y = x3 + 1 := ⟨_, rfl⟩
          replace hw := hw v19 ev19
          refine lv_iinc (v := v19) (lv' := [(3, .int v19), (2, .int v13), (5, .int v10), (4, .int v7), (0, .ref (ad 0 0)), (1, .int x1)]) hx hb dX10_worked_157 hl (k := 5) rfl (by rw [ev19]; rfl) (by decide) rfl (fun ls hl => ?_)
          refine lv_goto (tgt := 4) hx hb dX10_worked_160 (by decide) ?_
          exact hk4 s18 x1 v13 v19 hw _ _ _ hP hS (lv_sub hl [4, 5, 1, 0] rfl)
        · replace hw := hw.2 c12
          refine lv_aload_n hx hb dX10_worked_100 rfl (lv_at hl 2 rfl) ?_
          refine fX10_29 E hP mw_975 dX10_worked_101 ?_
          refine lv_iload_n hx hb dX10_worked_104 rfl (lv_at hl 4 rfl) ?_
          refine lv_iconst (v := 1) hx hb dX10_worked_105 (by decide) ?_
          refine lv_isub hx hb dX10_worked_106 ?_
          refine lv_aload_n hx hb dX10_worked_107 rfl (lv_at hl 2 rfl) ?_
          refine fX10_29 E hP mw_975 dX10_worked_108 ?_
          refine lv_iload_n hx hb dX10_worked_111 rfl (lv_at hl 4 rfl) ?_
          refine lv_iconst (v := 1) hx hb dX10_worked_112 (by decide) ?_
          refine lv_isub hx hb dX10_worked_113 ?_
          obtain ⟨h20, hw⟩ := hw
          refine aM17 E hP h20 dX10_worked_114 ?_
          refine lv_if_ne (tgt := 122) hx hb dX10_worked_115 (by decide) (fun c21 => ?_) (fun c21 => ?_)
          · replace hw := hw.1 c21
            refine lv_iconst (v := 0) hx hb dX10_worked_122 (by decide) ?_
            exact B_X10_worked_123 E ha hk4 hw hP hS (lv_sub hl [2, 3, 4, 5] rfl)
          · replace hw := hw.2 c21
            refine lv_iconst (v := 1) hx hb dX10_worked_118 (by decide) ?_
            refine lv_goto (tgt := 123) hx hb dX10_worked_119 (by decide) ?_
            exact B_X10_worked_123 E ha hk4 hw hP hS (lv_sub hl [2, 3, 4, 5] rfl)
      · replace hw := hw.2 c11
        refine lv_aload_n hx hb dX10_worked_64 rfl (lv_at hl 2 rfl) ?_
        refine fX10_29 E hP mw_975 dX10_worked_65 ?_
        refine lv_iload_n hx hb dX10_worked_68 rfl (lv_at hl 4 rfl) ?_
        refine lv_iload hx hb dX10_worked_69 (lv_at hl 1 rfl) ?_
        refine lv_if_ne (tgt := 79) hx hb dX10_worked_71 (by decide) (fun c22 => ?_) (fun c22 => ?_)
        · replace hw := hw.1 c22
          refine lv_aload_n hx hb dX10_worked_79 rfl (lv_at hl 2 rfl) ?_
          refine fX10_28 E hP mw_974 dX10_worked_80 ?_
          refine lv_iload hx hb dX10_worked_83 (lv_at hl 0 rfl) ?_
          obtain ⟨h23, hw⟩ := hw
          refine aM16 E hP h23 dX10_worked_85 ?_
          exact B_X10_worked_86 E ha hk4 hw hP hS (lv_sub hl [2, 3, 4, 5] rfl)
        · replace hw := hw.2 c22
          refine lv_iload hx hb dX10_worked_74 (lv_at hl 0 rfl) ?_
          refine lv_goto (tgt := 86) hx hb dX10_worked_76 (by decide) ?_
          exact B_X10_worked_86 E ha hk4 hw hP hS (lv_sub hl [2, 3, 4, 5] rfl)
def w_X10_worked (post : Int32 → St → Prop) (σ : St) (x1 : Int32) : Prop := ∃ n1 : Nat, l_X10_worked_4 post n1 σ x1 (0 : Int32) (0 : Int32)
theorem B_X10_worked_0 (E : EnvW p s m args meth c D cy regsM ad "RoofWarModel" cX10_worked 6 (some .int)) (ha : Apart regsM ad) {post : Int32 → St → Prop} {σ : St} {x1 : Int32} (hw : w_X10_worked post σ x1) {H : Heap} {locs : List Loc} {ls : Array Slot} (hP : va_P D CLS (wM cy ad σ) H) (hS : va_S (AM ad s.heap.size) s.heap H locs) (hl : lv_has ls 6 [(0, .ref (ad 0 0)), (1, .int x1)]) : W p l e rm_X10_worked s m args below meth c H locs 0 0 (MQ below (QI D cy (cellM cy ad) regsM ad s.heap.size post) args s 0 0 (AM ad s.heap.size)) (F0 m 0 ls []) := by
  obtain ⟨hx, hb, -⟩ := id E
  unfold w_X10_worked at hw
  refine lv_iconst (v := 0) hx hb dX10_worked_0 (by decide) ?_
  refine lv_istore_n (lv' := [(2, .int 0), (0, .ref (ad 0 0)), (1, .int x1)]) hx hb dX10_worked_1 rfl hl (by decide) rfl (fun ls hl => ?_)
  refine lv_iconst (v := 0) hx hb dX10_worked_2 (by decide) ?_
  refine lv_istore_n (lv' := [(3, .int 0), (2, .int 0), (0, .ref (ad 0 0)), (1, .int x1)]) hx hb dX10_worked_3 rfl hl (by decide) rfl (fun ls hl => ?_)
  obtain ⟨n1, hw⟩ := hw
  exact L_X10_worked_4 E ha n1 σ x1 (0 : Int32) (0 : Int32) hw _ _ _ hP hS (lv_sub hl [2, 3, 1, 0] rfl)
theorem c_X10_worked (l : Launch) (D : va_G) (cy : Nat → ClassId) (ad : Nat → Nat → Nat) (ha : Apart regsM ad) {post : Int32 → St → Prop} {σ : St} {x1 : Int32} (hw : w_X10_worked post σ x1) (sz : Nat) : MetI l yX10_worked cX10_worked 6 .int rm_X10_worked [.ref (ad 0 0), .int x1] D cy (cellM cy ad) regsM ad σ sz post :=
  Met_inI ok_X10_worked.2.2.2.2.2 (Nat.le_of_ble_eq_true rfl) (fun p e s m below meth c ls E hP hl => B_X10_worked_0 E ha hw hP va_S.rf hl)
-- RoofWarModel.spiteOf(I)I
theorem dX10_spiteOf_0 : decode cX10_spiteOf 0 = .ok (.aload_n 0, 1) := by decide +kernel
theorem dX10_spiteOf_1 : decode cX10_spiteOf 1 = .ok (.iconst 0, 1) := by decide +kernel
theorem dX10_spiteOf_2 : decode cX10_spiteOf 2 = .ok (.invokevirtual 159, 3) := by decide +kernel
theorem dX10_spiteOf_5 : decode cX10_spiteOf 5 = .ok (.istore_n 2, 1) := by decide +kernel
theorem dX10_spiteOf_6 : decode cX10_spiteOf 6 = .ok (.iload_n 2, 1) := by decide +kernel
theorem dX10_spiteOf_7 : decode cX10_spiteOf 7 = .ok (.ifCond .ge 5, 3) := by decide +kernel
theorem dX10_spiteOf_10 : decode cX10_spiteOf 10 = .ok (.iconst 5, 1) := by decide +kernel
theorem dX10_spiteOf_11 : decode cX10_spiteOf 11 = .ok (.ireturn, 1) := by decide +kernel
theorem dX10_spiteOf_12 : decode cX10_spiteOf 12 = .ok (.aload_n 0, 1) := by decide +kernel
theorem dX10_spiteOf_13 : decode cX10_spiteOf 13 = .ok (.getfield 55, 3) := by decide +kernel
theorem dX10_spiteOf_16 : decode cX10_spiteOf 16 = .ok (.bipush 108, 2) := by decide +kernel
theorem dX10_spiteOf_18 : decode cX10_spiteOf 18 = .ok (.aload_n 0, 1) := by decide +kernel
theorem dX10_spiteOf_19 : decode cX10_spiteOf 19 = .ok (.iload_n 1, 1) := by decide +kernel
theorem dX10_spiteOf_20 : decode cX10_spiteOf 20 = .ok (.iconst 2, 1) := by decide +kernel
theorem dX10_spiteOf_21 : decode cX10_spiteOf 21 = .ok (.invokevirtual 78, 3) := by decide +kernel
theorem dX10_spiteOf_24 : decode cX10_spiteOf 24 = .ok (.iastore, 1) := by decide +kernel
theorem dX10_spiteOf_25 : decode cX10_spiteOf 25 = .ok (.aload_n 0, 1) := by decide +kernel
theorem dX10_spiteOf_26 : decode cX10_spiteOf 26 = .ok (.getfield 55, 3) := by decide +kernel
theorem dX10_spiteOf_29 : decode cX10_spiteOf 29 = .ok (.bipush 115, 2) := by decide +kernel
theorem dX10_spiteOf_31 : decode cX10_spiteOf 31 = .ok (.aload_n 0, 1) := by decide +kernel
theorem dX10_spiteOf_32 : decode cX10_spiteOf 32 = .ok (.iload_n 1, 1) := by decide +kernel
theorem dX10_spiteOf_33 : decode cX10_spiteOf 33 = .ok (.iconst 1, 1) := by decide +kernel
theorem dX10_spiteOf_34 : decode cX10_spiteOf 34 = .ok (.invokevirtual 78, 3) := by decide +kernel
theorem dX10_spiteOf_37 : decode cX10_spiteOf 37 = .ok (.iastore, 1) := by decide +kernel
theorem dX10_spiteOf_38 : decode cX10_spiteOf 38 = .ok (.aload_n 0, 1) := by decide +kernel
theorem dX10_spiteOf_39 : decode cX10_spiteOf 39 = .ok (.getfield 55, 3) := by decide +kernel
theorem dX10_spiteOf_42 : decode cX10_spiteOf 42 = .ok (.bipush 110, 2) := by decide +kernel
theorem dX10_spiteOf_44 : decode cX10_spiteOf 44 = .ok (.aload_n 0, 1) := by decide +kernel
theorem dX10_spiteOf_45 : decode cX10_spiteOf 45 = .ok (.getfield 7, 3) := by decide +kernel
theorem dX10_spiteOf_48 : decode cX10_spiteOf 48 = .ok (.iconst 2, 1) := by decide +kernel
theorem dX10_spiteOf_49 : decode cX10_spiteOf 49 = .ok (.iaload, 1) := by decide +kernel
theorem dX10_spiteOf_50 : decode cX10_spiteOf 50 = .ok (.iastore, 1) := by decide +kernel
theorem dX10_spiteOf_51 : decode cX10_spiteOf 51 = .ok (.aload_n 0, 1) := by decide +kernel
theorem dX10_spiteOf_52 : decode cX10_spiteOf 52 = .ok (.iload_n 2, 1) := by decide +kernel
theorem dX10_spiteOf_53 : decode cX10_spiteOf 53 = .ok (.invokevirtual 162, 3) := by decide +kernel
theorem dX10_spiteOf_56 : decode cX10_spiteOf 56 = .ok (.bipush 99, 2) := by decide +kernel
theorem dX10_spiteOf_58 : decode cX10_spiteOf 58 = .ok (.invokestatic 165, 3) := by decide +kernel
theorem dX10_spiteOf_61 : decode cX10_spiteOf 61 = .ok (.ireturn, 1) := by decide +kernel
theorem ok_X10_spiteOf : okV yX10_spiteOf cX10_spiteOf 3 (some .int) 1 := ⟨mw_1191, mw_43, mw_83, mw_1192, by decide +kernel, by decide +kernel⟩
abbrev rm_X10_spiteOf : Room := { frames := 2, cells := 0, slots := 0, locals := 47 }
def w_X10_spiteOf (post : Int32 → St → Prop) (σ : St) (x1 : Int32) : Prop := w_X10_counts (fun r1 s1 => ((0 ≤ r1 → (w_X10_of (fun r3 s3 => vp_in (108 : Int32) 128 ∧ (∀ s5 : St, s5 = wr s3 16 0 (108 : Int32).toNatClampNeg r3 → (w_X10_of (fun r6 s6 => vp_in (115 : Int32) 128 ∧ (∀ s8 : St, s8 = wr s6 16 0 (115 : Int32).toNatClampNeg r6 → (vp_in (2 : Int32) 3082 ∧ (vp_in (110 : Int32) 128 ∧ (∀ s11 : St, s11 = wr s8 16 0 (110 : Int32).toNatClampNeg (s8 1 0 (2 : Int32).toNatClampNeg) → (w_X10_worked (fun r12 s12 => w_X10_within (fun r13 s13 => post r13 s13) s12 r12 (99 : Int32)) s11 r1)))))) s5 x1 (1 : Int32)))) s1 x1 (2 : Int32))) ∧ (¬ 0 ≤ r1 → (post 5 s1)))) σ (0 : Int32)
theorem B_X10_spiteOf_0 (E : EnvW p s m args meth c D cy regsM ad "RoofWarModel" cX10_spiteOf 3 (some .int)) (ha : Apart regsM ad) {post : Int32 → St → Prop} {σ : St} {x1 : Int32} (hw : w_X10_spiteOf post σ x1) {H : Heap} {locs : List Loc} {ls : Array Slot} (hP : va_P D CLS (wM cy ad σ) H) (hS : va_S (AM ad s.heap.size) s.heap H locs) (hl : lv_has ls 3 [(0, .ref (ad 0 0)), (1, .int x1)]) : W p l e rm_X10_spiteOf s m args below meth c H locs 0 0 (MQ below (QI D cy (cellM cy ad) regsM ad s.heap.size post) args s 0 0 (AM ad s.heap.size)) (F0 m 0 ls []) := by
  obtain ⟨hx, hb, -⟩ := id E
  unfold w_X10_spiteOf at hw
  refine lv_aload_n hx hb dX10_spiteOf_0 rfl (lv_at hl 0 rfl) ?_
  refine lv_iconst (v := 0) hx hb dX10_spiteOf_1 (by decide) ?_
  refine g_cVi (As := [.int 0]) (rest := []) E hl.1 (c_X10_counts l D cy ad ha hw _) ok_X10_counts mw_1193 ⟨(Nat.le_of_ble_eq_true rfl), (Nat.le_of_ble_eq_true rfl)⟩ ⟨rfl, rfl⟩ rM0 rfl rfl rfl rfl rfl (Nat.le_of_ble_eq_true rfl) ⟨Nat.zero_le _, Nat.zero_le _⟩ hP hS dX10_spiteOf_2 (fun r1 s1 hw H locs hP hS => ?_)
  refine lv_istore_n (lv' := [(2, .int r1), (0, .ref (ad 0 0)), (1, .int x1)]) hx hb dX10_spiteOf_5 rfl hl (by decide) rfl (fun ls hl => ?_)
  refine lv_iload_n hx hb dX10_spiteOf_6 rfl (lv_at hl 0 rfl) ?_
  refine lv_if_ge (tgt := 12) hx hb dX10_spiteOf_7 (by decide) (fun c2 => ?_) (fun c2 => ?_)
  · replace hw := hw.1 c2
    refine lv_aload_n hx hb dX10_spiteOf_12 rfl (lv_at hl 1 rfl) ?_
    refine fX10_28 E hP mw_974 dX10_spiteOf_13 ?_
    refine lv_bipush (v := 108) hx hb dX10_spiteOf_16 (by decide) ?_
    refine lv_aload_n hx hb dX10_spiteOf_18 rfl (lv_at hl 1 rfl) ?_
    refine lv_iload_n hx hb dX10_spiteOf_19 rfl (lv_at hl 2 rfl) ?_
    refine lv_iconst (v := 2) hx hb dX10_spiteOf_20 (by decide) ?_
    refine g_cVi (As := [.int x1, .int 2]) (rest := [.int 108, .ref (ad 16 0)]) E hl.1 (c_X10_of l D cy ad ha hw _) ok_X10_of mw_1067 ⟨(Nat.le_of_ble_eq_true rfl), (Nat.le_of_ble_eq_true rfl)⟩ ⟨rfl, rfl⟩ rM0 rfl rfl rfl rfl rfl (Nat.le_of_ble_eq_true rfl) ⟨Nat.zero_le _, Nat.zero_le _⟩ hP hS dX10_spiteOf_21 (fun r3 s3 hw H locs hP hS => ?_)
    obtain ⟨h4, hw⟩ := hw
    refine tM16 E ha h4 dX10_spiteOf_24 hP hS (fun s5 es5 H locs hP hS => ?_)
    replace hw := hw s5 es5
    refine lv_aload_n hx hb dX10_spiteOf_25 rfl (lv_at hl 1 rfl) ?_
    refine fX10_28 E hP mw_974 dX10_spiteOf_26 ?_
    refine lv_bipush (v := 115) hx hb dX10_spiteOf_29 (by decide) ?_
    refine lv_aload_n hx hb dX10_spiteOf_31 rfl (lv_at hl 1 rfl) ?_
    refine lv_iload_n hx hb dX10_spiteOf_32 rfl (lv_at hl 2 rfl) ?_
    refine lv_iconst (v := 1) hx hb dX10_spiteOf_33 (by decide) ?_
    refine g_cVi (As := [.int x1, .int 1]) (rest := [.int 115, .ref (ad 16 0)]) E hl.1 (c_X10_of l D cy ad ha hw _) ok_X10_of mw_1067 ⟨(Nat.le_of_ble_eq_true rfl), (Nat.le_of_ble_eq_true rfl)⟩ ⟨rfl, rfl⟩ rM0 rfl rfl rfl rfl rfl (Nat.le_of_ble_eq_true rfl) ⟨Nat.zero_le _, Nat.zero_le _⟩ hP hS dX10_spiteOf_34 (fun r6 s6 hw H locs hP hS => ?_)
    obtain ⟨h7, hw⟩ := hw
    refine tM16 E ha h7 dX10_spiteOf_37 hP hS (fun s8 es8 H locs hP hS => ?_)
    replace hw := hw s8 es8
    refine lv_aload_n hx hb dX10_spiteOf_38 rfl (lv_at hl 1 rfl) ?_
    refine fX10_28 E hP mw_974 dX10_spiteOf_39 ?_
    refine lv_bipush (v := 110) hx hb dX10_spiteOf_42 (by decide) ?_
    refine lv_aload_n hx hb dX10_spiteOf_44 rfl (lv_at hl 1 rfl) ?_
    refine fX10_0 E hP mw_946 dX10_spiteOf_45 ?_
    refine lv_iconst (v := 2) hx hb dX10_spiteOf_48 (by decide) ?_
    obtain ⟨h9, hw⟩ := hw
    refine aM1 E hP h9 dX10_spiteOf_49 ?_
    obtain ⟨h10, hw⟩ := hw
    refine tM16 E ha h10 dX10_spiteOf_50 hP hS (fun s11 es11 H locs hP hS => ?_)
    replace hw := hw s11 es11
    refine lv_aload_n hx hb dX10_spiteOf_51 rfl (lv_at hl 1 rfl) ?_
    refine lv_iload_n hx hb dX10_spiteOf_52 rfl (lv_at hl 0 rfl) ?_
    refine g_cVi (As := [.int r1]) (rest := []) E hl.1 (c_X10_worked l D cy ad ha hw _) ok_X10_worked mw_1199 ⟨(Nat.le_of_ble_eq_true rfl), (Nat.le_of_ble_eq_true rfl)⟩ ⟨rfl, rfl⟩ rM0 rfl rfl rfl rfl rfl (Nat.le_of_ble_eq_true rfl) ⟨Nat.zero_le _, Nat.zero_le _⟩ hP hS dX10_spiteOf_53 (fun r12 s12 hw H locs hP hS => ?_)
    refine lv_bipush (v := 99) hx hb dX10_spiteOf_56 (by decide) ?_
    refine g_cSi (As := [.int r12, .int 99]) (rest := []) E hl.1 (c_X10_within l D cy ad ha hw _) ok_X10_within mw_1205 ⟨(Nat.le_of_ble_eq_true rfl), (Nat.le_of_ble_eq_true rfl)⟩ ⟨rfl, rfl⟩ rfl rfl (Nat.le_of_ble_eq_true rfl) ⟨Nat.zero_le _, Nat.zero_le _⟩ hP hS dX10_spiteOf_58 (fun r13 s13 hw H locs hP hS => ?_)
    exact g_iret E hw hP hS dX10_spiteOf_61
  · replace hw := hw.2 c2
    refine lv_iconst (v := 5) hx hb dX10_spiteOf_10 (by decide) ?_
    exact g_iret E hw hP hS dX10_spiteOf_11
theorem c_X10_spiteOf (l : Launch) (D : va_G) (cy : Nat → ClassId) (ad : Nat → Nat → Nat) (ha : Apart regsM ad) {post : Int32 → St → Prop} {σ : St} {x1 : Int32} (hw : w_X10_spiteOf post σ x1) (sz : Nat) : MetI l yX10_spiteOf cX10_spiteOf 3 .int rm_X10_spiteOf [.ref (ad 0 0), .int x1] D cy (cellM cy ad) regsM ad σ sz post :=
  Met_inI ok_X10_spiteOf.2.2.2.2.2 (Nat.le_of_ble_eq_true rfl) (fun p e s m below meth c ls E hP hl => B_X10_spiteOf_0 E ha hw hP va_S.rf hl)
-- RoofWarModel.isCarried(II)V
theorem dX10_isCarried_0 : decode cX10_isCarried 0 = .ok (.aload_n 0, 1) := by decide +kernel
theorem dX10_isCarried_1 : decode cX10_isCarried 1 = .ok (.iload_n 1, 1) := by decide +kernel
theorem dX10_isCarried_2 : decode cX10_isCarried 2 = .ok (.iconst 2, 1) := by decide +kernel
theorem dX10_isCarried_3 : decode cX10_isCarried 3 = .ok (.invokevirtual 78, 3) := by decide +kernel
theorem dX10_isCarried_6 : decode cX10_isCarried 6 = .ok (.aload_n 0, 1) := by decide +kernel
theorem dX10_isCarried_7 : decode cX10_isCarried 7 = .ok (.iload_n 1, 1) := by decide +kernel
theorem dX10_isCarried_8 : decode cX10_isCarried 8 = .ok (.invokevirtual 168, 3) := by decide +kernel
theorem dX10_isCarried_11 : decode cX10_isCarried 11 = .ok (.iadd, 1) := by decide +kernel
theorem dX10_isCarried_12 : decode cX10_isCarried 12 = .ok (.istore_n 3, 1) := by decide +kernel
theorem dX10_isCarried_13 : decode cX10_isCarried 13 = .ok (.aload_n 0, 1) := by decide +kernel
theorem dX10_isCarried_14 : decode cX10_isCarried 14 = .ok (.iload_n 1, 1) := by decide +kernel
theorem dX10_isCarried_15 : decode cX10_isCarried 15 = .ok (.iconst 3, 1) := by decide +kernel
theorem dX10_isCarried_16 : decode cX10_isCarried 16 = .ok (.iload_n 2, 1) := by decide +kernel
theorem dX10_isCarried_17 : decode cX10_isCarried 17 = .ok (.invokevirtual 82, 3) := by decide +kernel
theorem dX10_isCarried_20 : decode cX10_isCarried 20 = .ok (.aload_n 0, 1) := by decide +kernel
theorem dX10_isCarried_21 : decode cX10_isCarried 21 = .ok (.iload_n 1, 1) := by decide +kernel
theorem dX10_isCarried_22 : decode cX10_isCarried 22 = .ok (.iconst 2, 1) := by decide +kernel
theorem dX10_isCarried_23 : decode cX10_isCarried 23 = .ok (.iload_n 3, 1) := by decide +kernel
theorem dX10_isCarried_24 : decode cX10_isCarried 24 = .ok (.bipush 99, 2) := by decide +kernel
theorem dX10_isCarried_26 : decode cX10_isCarried 26 = .ok (.invokestatic 165, 3) := by decide +kernel
theorem dX10_isCarried_29 : decode cX10_isCarried 29 = .ok (.invokevirtual 82, 3) := by decide +kernel
theorem dX10_isCarried_32 : decode cX10_isCarried 32 = .ok (.aload_n 0, 1) := by decide +kernel
theorem dX10_isCarried_33 : decode cX10_isCarried 33 = .ok (.getfield 7, 3) := by decide +kernel
theorem dX10_isCarried_36 : decode cX10_isCarried 36 = .ok (.bipush 6, 2) := by decide +kernel
theorem dX10_isCarried_38 : decode cX10_isCarried 38 = .ok (.dup2, 1) := by decide +kernel
theorem dX10_isCarried_39 : decode cX10_isCarried 39 = .ok (.iaload, 1) := by decide +kernel
theorem dX10_isCarried_40 : decode cX10_isCarried 40 = .ok (.iconst 1, 1) := by decide +kernel
theorem dX10_isCarried_41 : decode cX10_isCarried 41 = .ok (.iadd, 1) := by decide +kernel
theorem dX10_isCarried_42 : decode cX10_isCarried 42 = .ok (.iastore, 1) := by decide +kernel
theorem dX10_isCarried_43 : decode cX10_isCarried 43 = .ok (.return_, 1) := by decide +kernel
theorem ok_X10_isCarried : okV yX10_isCarried cX10_isCarried 4 none 2 := ⟨mw_1188, mw_42, mw_83, mw_1189, by decide +kernel, by decide +kernel⟩
abbrev rm_X10_isCarried : Room := { frames := 3, cells := 0, slots := 0, locals := 69 }
def w_X10_isCarried (post : St → Prop) (σ : St) (x1 : Int32) (x2 : Int32) : Prop := w_X10_of (fun r1 s1 => w_X10_spiteOf (fun r2 s2 => ∀ v3 : Int32, v3 = r1 + r2 → (w_X10_sets (fun s4 => w_X10_within (fun r5 s5 => w_X10_sets (fun s6 => vp_in (6 : Int32) 3082 ∧ (vp_in (6 : Int32) 3082 ∧ (∀ s9 : St, s9 = wr s6 1 0 (6 : Int32).toNatClampNeg ((s6 1 0 (6 : Int32).toNatClampNeg) + 1) → (post s9)))) s5 x1 (2 : Int32) r5) s4 v3 (99 : Int32)) s2 x1 (3 : Int32) x2)) s1 x1) σ x1 (2 : Int32)
theorem B_X10_isCarried_0 (E : EnvW p s m args meth c D cy regsM ad "RoofWarModel" cX10_isCarried 4 none) (ha : Apart regsM ad) {post : St → Prop} {σ : St} {x1 : Int32} {x2 : Int32} (hw : w_X10_isCarried post σ x1 x2) {H : Heap} {locs : List Loc} {ls : Array Slot} (hP : va_P D CLS (wM cy ad σ) H) (hS : va_S (AM ad s.heap.size) s.heap H locs) (hl : lv_has ls 4 [(0, .ref (ad 0 0)), (1, .int x1), (2, .int x2)]) : W p l e rm_X10_isCarried s m args below meth c H locs 0 0 (MQ below (QV D cy (cellM cy ad) regsM ad s.heap.size post) args s 0 0 (AM ad s.heap.size)) (F0 m 0 ls []) := by
  obtain ⟨hx, hb, -⟩ := id E
  unfold w_X10_isCarried at hw
  refine lv_aload_n hx hb dX10_isCarried_0 rfl (lv_at hl 0 rfl) ?_
  refine lv_iload_n hx hb dX10_isCarried_1 rfl (lv_at hl 1 rfl) ?_
  refine lv_iconst (v := 2) hx hb dX10_isCarried_2 (by decide) ?_
  refine g_cVi (As := [.int x1, .int 2]) (rest := []) E hl.1 (c_X10_of l D cy ad ha hw _) ok_X10_of mw_1067 ⟨(Nat.le_of_ble_eq_true rfl), (Nat.le_of_ble_eq_true rfl)⟩ ⟨rfl, rfl⟩ rM0 rfl rfl rfl rfl rfl (Nat.le_of_ble_eq_true rfl) ⟨Nat.zero_le _, Nat.zero_le _⟩ hP hS dX10_isCarried_3 (fun r1 s1 hw H locs hP hS => ?_)
  refine lv_aload_n hx hb dX10_isCarried_6 rfl (lv_at hl 0 rfl) ?_
  refine lv_iload_n hx hb dX10_isCarried_7 rfl (lv_at hl 1 rfl) ?_
  refine g_cVi (As := [.int x1]) (rest := [.int r1]) E hl.1 (c_X10_spiteOf l D cy ad ha hw _) ok_X10_spiteOf mw_1190 ⟨(Nat.le_of_ble_eq_true rfl), (Nat.le_of_ble_eq_true rfl)⟩ ⟨rfl, rfl⟩ rM0 rfl rfl rfl rfl rfl (Nat.le_of_ble_eq_true rfl) ⟨Nat.zero_le _, Nat.zero_le _⟩ hP hS dX10_isCarried_8 (fun r2 s2 hw H locs hP hS => ?_)
  refine lv_iadd hx hb dX10_isCarried_11 ?_
  refine lv_topi (fun v3 ev3 => ?_)
  replace hw := hw v3 ev3
  refine lv_istore_n (lv' := [(3, .int v3), (0, .ref (ad 0 0)), (1, .int x1), (2, .int x2)]) hx hb dX10_isCarried_12 rfl hl (by decide) rfl (fun ls hl => ?_)
  refine lv_aload_n hx hb dX10_isCarried_13 rfl (lv_at hl 1 rfl) ?_
  refine lv_iload_n hx hb dX10_isCarried_14 rfl (lv_at hl 2 rfl) ?_
  refine lv_iconst (v := 3) hx hb dX10_isCarried_15 (by decide) ?_
  refine lv_iload_n hx hb dX10_isCarried_16 rfl (lv_at hl 3 rfl) ?_
  refine g_cVv (As := [.int x1, .int 3, .int x2]) (rest := []) E hl.1 (c_X10_sets l D cy ad ha hw _) ok_X10_sets mw_1075 ⟨(Nat.le_of_ble_eq_true rfl), (Nat.le_of_ble_eq_true rfl)⟩ ⟨rfl, rfl⟩ rM0 rfl rfl rfl rfl rfl (Nat.le_of_ble_eq_true rfl) ⟨Nat.zero_le _, Nat.zero_le _⟩ hP hS dX10_isCarried_17 (fun s4 hw H locs hP hS => ?_)
  refine lv_aload_n hx hb dX10_isCarried_20 rfl (lv_at hl 1 rfl) ?_
  refine lv_iload_n hx hb dX10_isCarried_21 rfl (lv_at hl 2 rfl) ?_
  refine lv_iconst (v := 2) hx hb dX10_isCarried_22 (by decide) ?_
  refine lv_iload_n hx hb dX10_isCarried_23 rfl (lv_at hl 0 rfl) ?_
  refine lv_bipush (v := 99) hx hb dX10_isCarried_24 (by decide) ?_
  refine g_cSi (As := [.int v3, .int 99]) (rest := [.int 2, .int x1, .ref (ad 0 0)]) E hl.1 (c_X10_within l D cy ad ha hw _) ok_X10_within mw_1205 ⟨(Nat.le_of_ble_eq_true rfl), (Nat.le_of_ble_eq_true rfl)⟩ ⟨rfl, rfl⟩ rfl rfl (Nat.le_of_ble_eq_true rfl) ⟨Nat.zero_le _, Nat.zero_le _⟩ hP hS dX10_isCarried_26 (fun r5 s5 hw H locs hP hS => ?_)
  refine g_cVv (As := [.int x1, .int 2, .int r5]) (rest := []) E hl.1 (c_X10_sets l D cy ad ha hw _) ok_X10_sets mw_1075 ⟨(Nat.le_of_ble_eq_true rfl), (Nat.le_of_ble_eq_true rfl)⟩ ⟨rfl, rfl⟩ rM0 rfl rfl rfl rfl rfl (Nat.le_of_ble_eq_true rfl) ⟨Nat.zero_le _, Nat.zero_le _⟩ hP hS dX10_isCarried_29 (fun s6 hw H locs hP hS => ?_)
  refine lv_aload_n hx hb dX10_isCarried_32 rfl (lv_at hl 1 rfl) ?_
  refine fX10_0 E hP mw_946 dX10_isCarried_33 ?_
  refine lv_bipush (v := 6) hx hb dX10_isCarried_36 (by decide) ?_
  refine lv_dup2_11 hx hb dX10_isCarried_38 rfl rfl ?_
  obtain ⟨h7, hw⟩ := hw
  refine aM1 E hP h7 dX10_isCarried_39 ?_
  refine lv_iconst (v := 1) hx hb dX10_isCarried_40 (by decide) ?_
  refine lv_iadd hx hb dX10_isCarried_41 ?_
  obtain ⟨h8, hw⟩ := hw
  refine tM1 E ha h8 dX10_isCarried_42 hP hS (fun s9 es9 H locs hP hS => ?_)
  replace hw := hw s9 es9
  exact g_vret E hw hP hS dX10_isCarried_43
theorem c_X10_isCarried (l : Launch) (D : va_G) (cy : Nat → ClassId) (ad : Nat → Nat → Nat) (ha : Apart regsM ad) {post : St → Prop} {σ : St} {x1 : Int32} {x2 : Int32} (hw : w_X10_isCarried post σ x1 x2) (sz : Nat) : MetV l yX10_isCarried cX10_isCarried 4 rm_X10_isCarried [.ref (ad 0 0), .int x1, .int x2] D cy (cellM cy ad) regsM ad σ sz post :=
  Met_inV ok_X10_isCarried.2.2.2.2.2 (Nat.le_of_ble_eq_true rfl) (fun p e s m below meth c ls E hP hl => B_X10_isCarried_0 E ha hw hP va_S.rf hl)
-- RoofWarModel.many(I)I
theorem dX10_many_0 : decode cX10_many 0 = .ok (.iconst 0, 1) := by decide +kernel
theorem dX10_many_1 : decode cX10_many 1 = .ok (.istore_n 1, 1) := by decide +kernel
theorem dX10_many_2 : decode cX10_many 2 = .ok (.iload_n 0, 1) := by decide +kernel
theorem dX10_many_3 : decode cX10_many 3 = .ok (.istore_n 2, 1) := by decide +kernel
theorem dX10_many_4 : decode cX10_many 4 = .ok (.iload_n 2, 1) := by decide +kernel
theorem dX10_many_5 : decode cX10_many 5 = .ok (.ifCond .eq 15, 3) := by decide +kernel
theorem dX10_many_8 : decode cX10_many 8 = .ok (.iinc 1 1, 3) := by decide +kernel
theorem dX10_many_11 : decode cX10_many 11 = .ok (.iload_n 2, 1) := by decide +kernel
theorem dX10_many_12 : decode cX10_many 12 = .ok (.iload_n 2, 1) := by decide +kernel
theorem dX10_many_13 : decode cX10_many 13 = .ok (.iconst 1, 1) := by decide +kernel
theorem dX10_many_14 : decode cX10_many 14 = .ok (.isub, 1) := by decide +kernel
theorem dX10_many_15 : decode cX10_many 15 = .ok (.iand, 1) := by decide +kernel
theorem dX10_many_16 : decode cX10_many 16 = .ok (.istore_n 2, 1) := by decide +kernel
theorem dX10_many_17 : decode cX10_many 17 = .ok (.goto (-13), 3) := by decide +kernel
theorem dX10_many_20 : decode cX10_many 20 = .ok (.iload_n 1, 1) := by decide +kernel
theorem dX10_many_21 : decode cX10_many 21 = .ok (.ireturn, 1) := by decide +kernel
theorem ok_X10_many : okS yX10_many cX10_many 3 (some .int) 1 := ⟨mw_1185, mw_83, mw_1186, by decide +kernel, by decide +kernel⟩
abbrev rm_X10_many : Room := { frames := 0, cells := 0, slots := 0, locals := 0 }
def b_X10_many_4 (K4 : St → Int32 → Int32 → Prop) (post : Int32 → St → Prop) (σ : St) (x1 : Int32) (x2 : Int32) : Prop := ((x2 = 0 → (post x1 σ)) ∧ (¬ x2 = 0 → (∀ v2 : Int32, v2 = x1 + 1 → (∀ v3 : Int32, v3 = x2 &&& (x2 - 1) → (K4 σ v2 v3)))))
noncomputable def l_X10_many_4 (post : Int32 → St → Prop) : Nat → St → Int32 → Int32 → Prop := fun n => Nat.rec (motive := fun _ => St → Int32 → Int32 → Prop) (fun _ _ _ => False) (fun _ ih => b_X10_many_4 ih post) n
theorem L_X10_many_4 (E : EnvW p s m args meth c D cy regsM ad "RoofWarModel" cX10_many 3 (some .int)) (ha : Apart regsM ad) {post : Int32 → St → Prop} : ∀ (n : Nat), ∀ (σ : St) (x1 : Int32) (x2 : Int32), l_X10_many_4 post n σ x1 x2 → ∀ (H : Heap) (locs : List Loc) (ls : Array Slot), va_P D CLS (wM cy ad σ) H → va_S (AM ad s.heap.size) s.heap H locs → lv_has ls 3 [(1, .int x1), (2, .int x2)] → W p l e rm_X10_many s m args below meth c H locs 0 0 (MQ below (QI D cy (cellM cy ad) regsM ad s.heap.size post) args s 0 0 (AM ad s.heap.size)) (F0 m 4 ls []) := by
  obtain ⟨hx, hb, -⟩ := id E
  intro n
  induction n with
  | zero => intro σ x1 x2 hw; exact hw.elim
  | succ n hk4 =>
    intro σ x1 x2 hw H locs ls hP hS hl
    replace hw : b_X10_many_4 (l_X10_many_4 post n) post σ x1 x2 := hw
    unfold b_X10_many_4 at hw
    refine lv_iload_n hx hb dX10_many_4 rfl (lv_at hl 1 rfl) ?_
    refine lv_if_eq (tgt := 20) hx hb dX10_many_5 (by decide) (fun c1 => ?_) (fun c1 => ?_)
    · replace hw := hw.1 c1
      refine lv_iload_n hx hb dX10_many_20 rfl (lv_at hl 0 rfl) ?_
      exact g_iret E hw hP hS dX10_many_21
    · replace hw := hw.2 c1
      obtain ⟨v2, ev2⟩ : ∃ y : Int32, y = x1 + 1 := ⟨_, rfl⟩
      replace hw := hw v2 ev2
      refine lv_iinc (v := v2) (lv' := [(1, .int v2), (2, .int x2)]) hx hb dX10_many_8 hl (k := 0) rfl (by rw [ev2]; rfl) (by decide) rfl (fun ls hl => ?_)
      refine lv_iload_n hx hb dX10_many_11 rfl (lv_at hl 1 rfl) ?_
      refine lv_iload_n hx hb dX10_many_12 rfl (lv_at hl 1 rfl) ?_
      refine lv_iconst (v := 1) hx hb dX10_many_13 (by decide) ?_
      refine lv_isub hx hb dX10_many_14 ?_
      refine lv_iand hx hb dX10_many_15 ?_
      refine lv_topi (fun v3 ev3 => ?_)
      replace hw := hw v3 ev3
      refine lv_istore_n (lv' := [(2, .int v3), (1, .int v2)]) hx hb dX10_many_16 rfl hl (by decide) rfl (fun ls hl => ?_)
      refine lv_goto (tgt := 4) hx hb dX10_many_17 (by decide) ?_
      exact hk4 σ v2 v3 hw _ _ _ hP hS (lv_sub hl [1, 0] rfl)
def w_X10_many (post : Int32 → St → Prop) (σ : St) (x0 : Int32) : Prop := ∃ n1 : Nat, l_X10_many_4 post n1 σ (0 : Int32) x0
theorem B_X10_many_0 (E : EnvW p s m args meth c D cy regsM ad "RoofWarModel" cX10_many 3 (some .int)) (ha : Apart regsM ad) {post : Int32 → St → Prop} {σ : St} {x0 : Int32} (hw : w_X10_many post σ x0) {H : Heap} {locs : List Loc} {ls : Array Slot} (hP : va_P D CLS (wM cy ad σ) H) (hS : va_S (AM ad s.heap.size) s.heap H locs) (hl : lv_has ls 3 [(0, .int x0)]) : W p l e rm_X10_many s m args below meth c H locs 0 0 (MQ below (QI D cy (cellM cy ad) regsM ad s.heap.size post) args s 0 0 (AM ad s.heap.size)) (F0 m 0 ls []) := by
  obtain ⟨hx, hb, -⟩ := id E
  unfold w_X10_many at hw
  refine lv_iconst (v := 0) hx hb dX10_many_0 (by decide) ?_
  refine lv_istore_n (lv' := [(1, .int 0), (0, .int x0)]) hx hb dX10_many_1 rfl hl (by decide) rfl (fun ls hl => ?_)
  refine lv_iload_n hx hb dX10_many_2 rfl (lv_at hl 1 rfl) ?_
  refine lv_istore_n (lv' := [(2, .int x0), (1, .int 0), (0, .int x0)]) hx hb dX10_many_3 rfl hl (by decide) rfl (fun ls hl => ?_)
  obtain ⟨n1, hw⟩ := hw
  exact L_X10_many_4 E ha n1 σ (0 : Int32) x0 hw _ _ _ hP hS (lv_sub hl [1, 0] rfl)
theorem c_X10_many (l : Launch) (D : va_G) (cy : Nat → ClassId) (ad : Nat → Nat → Nat) (ha : Apart regsM ad) {post : Int32 → St → Prop} {σ : St} {x0 : Int32} (hw : w_X10_many post σ x0) (sz : Nat) : MetI l yX10_many cX10_many 3 .int rm_X10_many [.int x0] D cy (cellM cy ad) regsM ad σ sz post :=
  Met_inI ok_X10_many.2.2.2.2 (Nat.le_of_ble_eq_true rfl) (fun p e s m below meth c ls E hP hl => B_X10_many_0 E ha hw hP va_S.rf hl)
-- RoofWarModel.goesOut(I)V
theorem dX10_goesOut_0 : decode cX10_goesOut 0 = .ok (.aload_n 0, 1) := by decide +kernel
theorem dX10_goesOut_1 : decode cX10_goesOut 1 = .ok (.iload_n 1, 1) := by decide +kernel
theorem dX10_goesOut_2 : decode cX10_goesOut 2 = .ok (.invokevirtual 171, 3) := by decide +kernel
theorem dX10_goesOut_5 : decode cX10_goesOut 5 = .ok (.istore_n 2, 1) := by decide +kernel
theorem dX10_goesOut_6 : decode cX10_goesOut 6 = .ok (.aload_n 0, 1) := by decide +kernel
theorem dX10_goesOut_7 : decode cX10_goesOut 7 = .ok (.iload_n 1, 1) := by decide +kernel
theorem dX10_goesOut_8 : decode cX10_goesOut 8 = .ok (.invokevirtual 174, 3) := by decide +kernel
theorem dX10_goesOut_11 : decode cX10_goesOut 11 = .ok (.istore_n 3, 1) := by decide +kernel
theorem dX10_goesOut_12 : decode cX10_goesOut 12 = .ok (.iload_n 2, 1) := by decide +kernel
theorem dX10_goesOut_13 : decode cX10_goesOut 13 = .ok (.ifCond .eq 7, 3) := by decide +kernel
theorem dX10_goesOut_16 : decode cX10_goesOut 16 = .ok (.iload_n 3, 1) := by decide +kernel
theorem dX10_goesOut_17 : decode cX10_goesOut 17 = .ok (.ifCond .ge 4, 3) := by decide +kernel
theorem dX10_goesOut_20 : decode cX10_goesOut 20 = .ok (.return_, 1) := by decide +kernel
theorem dX10_goesOut_21 : decode cX10_goesOut 21 = .ok (.aload_n 0, 1) := by decide +kernel
theorem dX10_goesOut_22 : decode cX10_goesOut 22 = .ok (.invokevirtual 149, 3) := by decide +kernel
theorem dX10_goesOut_25 : decode cX10_goesOut 25 = .ok (.iload_n 2, 1) := by decide +kernel
theorem dX10_goesOut_26 : decode cX10_goesOut 26 = .ok (.invokestatic 177, 3) := by decide +kernel
theorem dX10_goesOut_29 : decode cX10_goesOut 29 = .ok (.irem, 1) := by decide +kernel
theorem dX10_goesOut_30 : decode cX10_goesOut 30 = .ok (.istore 4, 2) := by decide +kernel
theorem dX10_goesOut_32 : decode cX10_goesOut 32 = .ok (.iconst 0, 1) := by decide +kernel
theorem dX10_goesOut_33 : decode cX10_goesOut 33 = .ok (.istore 5, 2) := by decide +kernel
theorem dX10_goesOut_35 : decode cX10_goesOut 35 = .ok (.iload 4, 2) := by decide +kernel
theorem dX10_goesOut_37 : decode cX10_goesOut 37 = .ok (.ifCond .gt 12, 3) := by decide +kernel
theorem dX10_goesOut_40 : decode cX10_goesOut 40 = .ok (.iload_n 2, 1) := by decide +kernel
theorem dX10_goesOut_41 : decode cX10_goesOut 41 = .ok (.iload 5, 2) := by decide +kernel
theorem dX10_goesOut_43 : decode cX10_goesOut 43 = .ok (.ishr, 1) := by decide +kernel
theorem dX10_goesOut_44 : decode cX10_goesOut 44 = .ok (.iconst 1, 1) := by decide +kernel
theorem dX10_goesOut_45 : decode cX10_goesOut 45 = .ok (.iand, 1) := by decide +kernel
theorem dX10_goesOut_46 : decode cX10_goesOut 46 = .ok (.ifCond .ne 20, 3) := by decide +kernel
theorem dX10_goesOut_49 : decode cX10_goesOut 49 = .ok (.iload 4, 2) := by decide +kernel
theorem dX10_goesOut_51 : decode cX10_goesOut 51 = .ok (.iload_n 2, 1) := by decide +kernel
theorem dX10_goesOut_52 : decode cX10_goesOut 52 = .ok (.iload 5, 2) := by decide +kernel
theorem dX10_goesOut_54 : decode cX10_goesOut 54 = .ok (.ishr, 1) := by decide +kernel
theorem dX10_goesOut_55 : decode cX10_goesOut 55 = .ok (.iconst 1, 1) := by decide +kernel
theorem dX10_goesOut_56 : decode cX10_goesOut 56 = .ok (.iand, 1) := by decide +kernel
theorem dX10_goesOut_57 : decode cX10_goesOut 57 = .ok (.isub, 1) := by decide +kernel
theorem dX10_goesOut_58 : decode cX10_goesOut 58 = .ok (.istore 4, 2) := by decide +kernel
theorem dX10_goesOut_60 : decode cX10_goesOut 60 = .ok (.iinc 5 1, 3) := by decide +kernel
theorem dX10_goesOut_63 : decode cX10_goesOut 63 = .ok (.goto (-28), 3) := by decide +kernel
theorem dX10_goesOut_66 : decode cX10_goesOut 66 = .ok (.aload_n 0, 1) := by decide +kernel
theorem dX10_goesOut_67 : decode cX10_goesOut 67 = .ok (.invokevirtual 149, 3) := by decide +kernel
theorem dX10_goesOut_70 : decode cX10_goesOut 70 = .ok (.bipush 100, 2) := by decide +kernel
theorem dX10_goesOut_72 : decode cX10_goesOut 72 = .ok (.irem, 1) := by decide +kernel
theorem dX10_goesOut_73 : decode cX10_goesOut 73 = .ok (.aload_n 0, 1) := by decide +kernel
theorem dX10_goesOut_74 : decode cX10_goesOut 74 = .ok (.getfield 7, 3) := by decide +kernel
theorem dX10_goesOut_77 : decode cX10_goesOut 77 = .ok (.bipush 70, 2) := by decide +kernel
theorem dX10_goesOut_79 : decode cX10_goesOut 79 = .ok (.aload_n 0, 1) := by decide +kernel
theorem dX10_goesOut_80 : decode cX10_goesOut 80 = .ok (.iload 5, 2) := by decide +kernel
theorem dX10_goesOut_82 : decode cX10_goesOut 82 = .ok (.iconst 3, 1) := by decide +kernel
theorem dX10_goesOut_83 : decode cX10_goesOut 83 = .ok (.invokevirtual 78, 3) := by decide +kernel
theorem dX10_goesOut_86 : decode cX10_goesOut 86 = .ok (.iadd, 1) := by decide +kernel
theorem dX10_goesOut_87 : decode cX10_goesOut 87 = .ok (.iaload, 1) := by decide +kernel
theorem dX10_goesOut_88 : decode cX10_goesOut 88 = .ok (.if_icmp .ge 17, 3) := by decide +kernel
theorem dX10_goesOut_91 : decode cX10_goesOut 91 = .ok (.aload_n 0, 1) := by decide +kernel
theorem dX10_goesOut_92 : decode cX10_goesOut 92 = .ok (.getfield 7, 3) := by decide +kernel
theorem dX10_goesOut_95 : decode cX10_goesOut 95 = .ok (.bipush 7, 2) := by decide +kernel
theorem dX10_goesOut_97 : decode cX10_goesOut 97 = .ok (.dup2, 1) := by decide +kernel
theorem dX10_goesOut_98 : decode cX10_goesOut 98 = .ok (.iaload, 1) := by decide +kernel
theorem dX10_goesOut_99 : decode cX10_goesOut 99 = .ok (.iconst 1, 1) := by decide +kernel
theorem dX10_goesOut_100 : decode cX10_goesOut 100 = .ok (.iadd, 1) := by decide +kernel
theorem dX10_goesOut_101 : decode cX10_goesOut 101 = .ok (.iastore, 1) := by decide +kernel
theorem dX10_goesOut_102 : decode cX10_goesOut 102 = .ok (.goto 10, 3) := by decide +kernel
theorem dX10_goesOut_105 : decode cX10_goesOut 105 = .ok (.aload_n 0, 1) := by decide +kernel
theorem dX10_goesOut_106 : decode cX10_goesOut 106 = .ok (.iload 5, 2) := by decide +kernel
theorem dX10_goesOut_108 : decode cX10_goesOut 108 = .ok (.iload_n 3, 1) := by decide +kernel
theorem dX10_goesOut_109 : decode cX10_goesOut 109 = .ok (.invokevirtual 180, 3) := by decide +kernel
theorem dX10_goesOut_112 : decode cX10_goesOut 112 = .ok (.return_, 1) := by decide +kernel
theorem ok_X10_goesOut : okV yX10_goesOut cX10_goesOut 6 none 1 := ⟨mw_1170, mw_37, mw_83, mw_1171, by decide +kernel, by decide +kernel⟩
abbrev rm_X10_goesOut : Room := { frames := 4, cells := 0, slots := 0, locals := 92 }
def b_X10_goesOut_49 (K35 : St → Int32 → Int32 → Int32 → Int32 → Prop) (post : St → Prop) (σ : St) (x2 : Int32) (x3 : Int32) (x4 : Int32) (x5 : Int32) : Prop := ∀ v1 : Int32, v1 = x4 - ((x2 >>> (x5 &&& 31)) &&& 1) → (∀ v2 : Int32, v2 = x5 + 1 → (K35 σ x2 x3 v1 v2))
theorem B_X10_goesOut_49 (E : EnvW p s m args meth c D cy regsM ad "RoofWarModel" cX10_goesOut 6 none) (ha : Apart regsM ad) {post : St → Prop} {K35 : St → Int32 → Int32 → Int32 → Int32 → Prop} (hk35 : ∀ (σ : St) (x2 : Int32) (x3 : Int32) (x4 : Int32) (x5 : Int32), K35 σ x2 x3 x4 x5 → ∀ (H : Heap) (locs : List Loc) (ls : Array Slot), va_P D CLS (wM cy ad σ) H → va_S (AM ad s.heap.size) s.heap H locs → lv_has ls 6 [(0, .ref (ad 0 0)), (2, .int x2), (3, .int x3), (4, .int x4), (5, .int x5)] → W p l e rm_X10_goesOut s m args below meth c H locs 0 0 (MQ below (QV D cy (cellM cy ad) regsM ad s.heap.size post) args s 0 0 (AM ad s.heap.size)) (F0 m 35 ls [])) {σ : St} {x2 : Int32} {x3 : Int32} {x4 : Int32} {x5 : Int32} (hw : b_X10_goesOut_49 K35 post σ x2 x3 x4 x5) {H : Heap} {locs : List Loc} {ls : Array Slot} (hP : va_P D CLS (wM cy ad σ) H) (hS : va_S (AM ad s.heap.size) s.heap H locs) (hl : lv_has ls 6 [(0, .ref (ad 0 0)), (2, .int x2), (3, .int x3), (4, .int x4), (5, .int x5)]) : W p l e rm_X10_goesOut s m args below meth c H locs 0 0 (MQ below (QV D cy (cellM cy ad) regsM ad s.heap.size post) args s 0 0 (AM ad s.heap.size)) (F0 m 49 ls []) := by
  obtain ⟨hx, hb, -⟩ := id E
  unfold b_X10_goesOut_49 at hw
  refine lv_iload hx hb dX10_goesOut_49 (lv_at hl 3 rfl) ?_
  refine lv_iload_n hx hb dX10_goesOut_51 rfl (lv_at hl 1 rfl) ?_
  refine lv_iload hx hb dX10_goesOut_52 (lv_at hl 4 rfl) ?_
  refine lv_ishr hx hb dX10_goesOut_54 ?_
  refine lv_iconst (v := 1) hx hb dX10_goesOut_55 (by decide) ?_
  refine lv_iand hx hb dX10_goesOut_56 ?_
  refine lv_isub hx hb dX10_goesOut_57 ?_
  refine lv_topi (fun v1 ev1 => ?_)
  replace hw := hw v1 ev1
  refine lv_istore (lv' := [(4, .int v1), (0, .ref (ad 0 0)), (2, .int x2), (3, .int x3), (5, .int x5)]) hx hb dX10_goesOut_58 hl (by decide) rfl (fun ls hl => ?_)
  obtain ⟨v2, ev2⟩ : ∃ y : Int32, y = x5 + 1 := ⟨_, rfl⟩
  replace hw := hw v2 ev2
  refine lv_iinc (v := v2) (lv' := [(5, .int v2), (4, .int v1), (0, .ref (ad 0 0)), (2, .int x2), (3, .int x3)]) hx hb dX10_goesOut_60 hl (k := 4) rfl (by rw [ev2]; rfl) (by decide) rfl (fun ls hl => ?_)
  refine lv_goto (tgt := 35) hx hb dX10_goesOut_63 (by decide) ?_
  exact hk35 σ x2 x3 v1 v2 hw _ _ _ hP hS (lv_sub hl [2, 3, 4, 1, 0] rfl)
def b_X10_goesOut_35 (K35 : St → Int32 → Int32 → Int32 → Int32 → Prop) (post : St → Prop) (σ : St) (x2 : Int32) (x3 : Int32) (x4 : Int32) (x5 : Int32) : Prop := ((0 < x4 → (b_X10_goesOut_49 K35 post σ x2 x3 x4 x5)) ∧ (¬ 0 < x4 → (((¬ ((x2 >>> (x5 &&& 31)) &&& 1) = 0 → (w_X10_drawn (fun r3 s3 => ¬ (100 : Int32) = 0 ∧ (∀ v5 : Int32, v5 = jrem r3 100 → (w_X10_of (fun r6 s6 => vp_in (70 + r6) 3082 ∧ ((((s6 1 0 (70 + r6).toNatClampNeg) ≤ v5 → (w_X10_isCarried (fun s9 => post s9) s6 x5 x3)) ∧ (¬ (s6 1 0 (70 + r6).toNatClampNeg) ≤ v5 → (vp_in (7 : Int32) 3082 ∧ (vp_in (7 : Int32) 3082 ∧ (∀ s12 : St, s12 = wr s6 1 0 (7 : Int32).toNatClampNeg ((s6 1 0 (7 : Int32).toNatClampNeg) + 1) → (post s12)))))))) s3 x5 (3 : Int32)))) σ)) ∧ (((x2 >>> (x5 &&& 31)) &&& 1) = 0 → (b_X10_goesOut_49 K35 post σ x2 x3 x4 x5))))))
noncomputable def l_X10_goesOut_35 (post : St → Prop) : Nat → St → Int32 → Int32 → Int32 → Int32 → Prop := fun n => Nat.rec (motive := fun _ => St → Int32 → Int32 → Int32 → Int32 → Prop) (fun _ _ _ _ _ => False) (fun _ ih => b_X10_goesOut_35 ih post) n
theorem L_X10_goesOut_35 (E : EnvW p s m args meth c D cy regsM ad "RoofWarModel" cX10_goesOut 6 none) (ha : Apart regsM ad) {post : St → Prop} : ∀ (n : Nat), ∀ (σ : St) (x2 : Int32) (x3 : Int32) (x4 : Int32) (x5 : Int32), l_X10_goesOut_35 post n σ x2 x3 x4 x5 → ∀ (H : Heap) (locs : List Loc) (ls : Array Slot), va_P D CLS (wM cy ad σ) H → va_S (AM ad s.heap.size) s.heap H locs → lv_has ls 6 [(0, .ref (ad 0 0)), (2, .int x2), (3, .int x3), (4, .int x4), (5, .int x5)] → W p l e rm_X10_goesOut s m args below meth c H locs 0 0 (MQ below (QV D cy (cellM cy ad) regsM ad s.heap.size post) args s 0 0 (AM ad s.heap.size)) (F0 m 35 ls []) := by
  obtain ⟨hx, hb, -⟩ := id E
  intro n
  induction n with
  | zero => intro σ x2 x3 x4 x5 hw; exact hw.elim
  | succ n hk35 =>
    intro σ x2 x3 x4 x5 hw H locs ls hP hS hl
    replace hw : b_X10_goesOut_35 (l_X10_goesOut_35 post n) post σ x2 x3 x4 x5 := hw
    unfold b_X10_goesOut_35 at hw
    refine lv_iload hx hb dX10_goesOut_35 (lv_at hl 3 rfl) ?_
    refine lv_if_gt (tgt := 49) hx hb dX10_goesOut_37 (by decide) (fun c1 => ?_) (fun c1 => ?_)
    · replace hw := hw.1 c1
      exact B_X10_goesOut_49 E ha hk35 hw hP hS (lv_sub hl [0, 1, 2, 3, 4] rfl)
    · replace hw := hw.2 c1
      refine lv_iload_n hx hb dX10_goesOut_40 rfl (lv_at hl 1 rfl) ?_
      refine lv_iload hx hb dX10_goesOut_41 (lv_at hl 4 rfl) ?_
      refine lv_ishr hx hb dX10_goesOut_43 ?_
      refine lv_iconst (v := 1) hx hb dX10_goesOut_44 (by decide) ?_
      refine lv_iand hx hb dX10_goesOut_45 ?_
      refine lv_if_ne (tgt := 66) hx hb dX10_goesOut_46 (by decide) (fun c2 => ?_) (fun c2 => ?_)
      · replace hw := hw.1 c2
        refine lv_aload_n hx hb dX10_goesOut_66 rfl (lv_at hl 0 rfl) ?_
        refine g_cVi (As := []) (rest := []) E hl.1 (c_X10_drawn l D cy ad ha hw _) ok_X10_drawn mw_1151 ⟨(Nat.le_of_ble_eq_true rfl), (Nat.le_of_ble_eq_true rfl)⟩ ⟨rfl, rfl⟩ rM0 rfl rfl rfl rfl rfl (Nat.le_of_ble_eq_true rfl) ⟨Nat.zero_le _, Nat.zero_le _⟩ hP hS dX10_goesOut_67 (fun r3 s3 hw H locs hP hS => ?_)
        refine lv_bipush (v := 100) hx hb dX10_goesOut_70 (by decide) ?_
        obtain ⟨h4, hw⟩ := hw
        refine lv_irem hx hb dX10_goesOut_72 h4 ?_
        refine lv_topi (fun v5 ev5 => ?_)
        replace hw := hw v5 ev5
        refine lv_aload_n hx hb dX10_goesOut_73 rfl (lv_at hl 0 rfl) ?_
        refine fX10_0 E hP mw_946 dX10_goesOut_74 ?_
        refine lv_bipush (v := 70) hx hb dX10_goesOut_77 (by decide) ?_
        refine lv_aload_n hx hb dX10_goesOut_79 rfl (lv_at hl 0 rfl) ?_
        refine lv_iload hx hb dX10_goesOut_80 (lv_at hl 4 rfl) ?_
        refine lv_iconst (v := 3) hx hb dX10_goesOut_82 (by decide) ?_
        refine g_cVi (As := [.int x5, .int 3]) (rest := [.int 70, .ref (ad 1 0), .int v5]) E hl.1 (c_X10_of l D cy ad ha hw _) ok_X10_of mw_1067 ⟨(Nat.le_of_ble_eq_true rfl), (Nat.le_of_ble_eq_true rfl)⟩ ⟨rfl, rfl⟩ rM0 rfl rfl rfl rfl rfl (Nat.le_of_ble_eq_true rfl) ⟨Nat.zero_le _, Nat.zero_le _⟩ hP hS dX10_goesOut_83 (fun r6 s6 hw H locs hP hS => ?_)
        refine lv_iadd hx hb dX10_goesOut_86 ?_
        obtain ⟨h7, hw⟩ := hw
        refine aM1 E hP h7 dX10_goesOut_87 ?_
        refine lv_icmp_ge (tgt := 105) hx hb dX10_goesOut_88 (by decide) (fun c8 => ?_) (fun c8 => ?_)
        · replace hw := hw.1 c8
          refine lv_aload_n hx hb dX10_goesOut_105 rfl (lv_at hl 0 rfl) ?_
          refine lv_iload hx hb dX10_goesOut_106 (lv_at hl 4 rfl) ?_
          refine lv_iload_n hx hb dX10_goesOut_108 rfl (lv_at hl 2 rfl) ?_
          refine g_cVv (As := [.int x5, .int x3]) (rest := []) E hl.1 (c_X10_isCarried l D cy ad ha hw _) ok_X10_isCarried mw_1187 ⟨(Nat.le_of_ble_eq_true rfl), (Nat.le_of_ble_eq_true rfl)⟩ ⟨rfl, rfl⟩ rM0 rfl rfl rfl rfl rfl (Nat.le_of_ble_eq_true rfl) ⟨Nat.zero_le _, Nat.zero_le _⟩ hP hS dX10_goesOut_109 (fun s9 hw H locs hP hS => ?_)
          exact g_vret E hw hP hS dX10_goesOut_112
        · replace hw := hw.2 c8
          refine lv_aload_n hx hb dX10_goesOut_91 rfl (lv_at hl 0 rfl) ?_
          refine fX10_0 E hP mw_946 dX10_goesOut_92 ?_
          refine lv_bipush (v := 7) hx hb dX10_goesOut_95 (by decide) ?_
          refine lv_dup2_11 hx hb dX10_goesOut_97 rfl rfl ?_
          obtain ⟨h10, hw⟩ := hw
          refine aM1 E hP h10 dX10_goesOut_98 ?_
          refine lv_iconst (v := 1) hx hb dX10_goesOut_99 (by decide) ?_
          refine lv_iadd hx hb dX10_goesOut_100 ?_
          obtain ⟨h11, hw⟩ := hw
          refine tM1 E ha h11 dX10_goesOut_101 hP hS (fun s12 es12 H locs hP hS => ?_)
          replace hw := hw s12 es12
          refine lv_goto (tgt := 112) hx hb dX10_goesOut_102 (by decide) ?_
          exact g_vret E hw hP hS dX10_goesOut_112
      · replace hw := hw.2 c2
        exact B_X10_goesOut_49 E ha hk35 hw hP hS (lv_sub hl [0, 1, 2, 3, 4] rfl)
def w_X10_goesOut (post : St → Prop) (σ : St) (x1 : Int32) : Prop := w_X10_lootOf (fun r1 s1 => w_X10_homeOf (fun r2 s2 => ((r1 = 0 → (post s2)) ∧ (¬ r1 = 0 → (((0 ≤ r2 → (w_X10_drawn (fun r5 s5 => w_X10_many (fun r6 s6 => ¬ r6 = 0 ∧ (∀ v8 : Int32, v8 = jrem r5 r6 → (∃ n9 : Nat, l_X10_goesOut_35 post n9 s6 r1 r2 v8 (0 : Int32)))) s5 r1) s2)) ∧ (¬ 0 ≤ r2 → (post s2))))))) s1 x1) σ x1
theorem B_X10_goesOut_0 (E : EnvW p s m args meth c D cy regsM ad "RoofWarModel" cX10_goesOut 6 none) (ha : Apart regsM ad) {post : St → Prop} {σ : St} {x1 : Int32} (hw : w_X10_goesOut post σ x1) {H : Heap} {locs : List Loc} {ls : Array Slot} (hP : va_P D CLS (wM cy ad σ) H) (hS : va_S (AM ad s.heap.size) s.heap H locs) (hl : lv_has ls 6 [(0, .ref (ad 0 0)), (1, .int x1)]) : W p l e rm_X10_goesOut s m args below meth c H locs 0 0 (MQ below (QV D cy (cellM cy ad) regsM ad s.heap.size post) args s 0 0 (AM ad s.heap.size)) (F0 m 0 ls []) := by
  obtain ⟨hx, hb, -⟩ := id E
  unfold w_X10_goesOut at hw
  refine lv_aload_n hx hb dX10_goesOut_0 rfl (lv_at hl 0 rfl) ?_
  refine lv_iload_n hx hb dX10_goesOut_1 rfl (lv_at hl 1 rfl) ?_
  refine g_cVi (As := [.int x1]) (rest := []) E hl.1 (c_X10_lootOf l D cy ad ha hw _) ok_X10_lootOf mw_1172 ⟨(Nat.le_of_ble_eq_true rfl), (Nat.le_of_ble_eq_true rfl)⟩ ⟨rfl, rfl⟩ rM0 rfl rfl rfl rfl rfl (Nat.le_of_ble_eq_true rfl) ⟨Nat.zero_le _, Nat.zero_le _⟩ hP hS dX10_goesOut_2 (fun r1 s1 hw H locs hP hS => ?_)
  refine lv_istore_n (lv' := [(2, .int r1), (0, .ref (ad 0 0)), (1, .int x1)]) hx hb dX10_goesOut_5 rfl hl (by decide) rfl (fun ls hl => ?_)
  refine lv_aload_n hx hb dX10_goesOut_6 rfl (lv_at hl 1 rfl) ?_
  refine lv_iload_n hx hb dX10_goesOut_7 rfl (lv_at hl 2 rfl) ?_
  refine g_cVi (As := [.int x1]) (rest := []) E hl.1 (c_X10_homeOf l D cy ad ha hw _) ok_X10_homeOf mw_1181 ⟨(Nat.le_of_ble_eq_true rfl), (Nat.le_of_ble_eq_true rfl)⟩ ⟨rfl, rfl⟩ rM0 rfl rfl rfl rfl rfl (Nat.le_of_ble_eq_true rfl) ⟨Nat.zero_le _, Nat.zero_le _⟩ hP hS dX10_goesOut_8 (fun r2 s2 hw H locs hP hS => ?_)
  refine lv_istore_n (lv' := [(3, .int r2), (2, .int r1), (0, .ref (ad 0 0)), (1, .int x1)]) hx hb dX10_goesOut_11 rfl hl (by decide) rfl (fun ls hl => ?_)
  refine lv_iload_n hx hb dX10_goesOut_12 rfl (lv_at hl 1 rfl) ?_
  refine lv_if_eq (tgt := 20) hx hb dX10_goesOut_13 (by decide) (fun c3 => ?_) (fun c3 => ?_)
  · replace hw := hw.1 c3
    exact g_vret E hw hP hS dX10_goesOut_20
  · replace hw := hw.2 c3
    refine lv_iload_n hx hb dX10_goesOut_16 rfl (lv_at hl 0 rfl) ?_
    refine lv_if_ge (tgt := 21) hx hb dX10_goesOut_17 (by decide) (fun c4 => ?_) (fun c4 => ?_)
    · replace hw := hw.1 c4
      refine lv_aload_n hx hb dX10_goesOut_21 rfl (lv_at hl 2 rfl) ?_
      refine g_cVi (As := []) (rest := []) E hl.1 (c_X10_drawn l D cy ad ha hw _) ok_X10_drawn mw_1151 ⟨(Nat.le_of_ble_eq_true rfl), (Nat.le_of_ble_eq_true rfl)⟩ ⟨rfl, rfl⟩ rM0 rfl rfl rfl rfl rfl (Nat.le_of_ble_eq_true rfl) ⟨Nat.zero_le _, Nat.zero_le _⟩ hP hS dX10_goesOut_22 (fun r5 s5 hw H locs hP hS => ?_)
      refine lv_iload_n hx hb dX10_goesOut_25 rfl (lv_at hl 1 rfl) ?_
      refine g_cSi (As := [.int r1]) (rest := [.int r5]) E hl.1 (c_X10_many l D cy ad ha hw _) ok_X10_many mw_1184 ⟨(Nat.le_of_ble_eq_true rfl), (Nat.le_of_ble_eq_true rfl)⟩ ⟨rfl, rfl⟩ rfl rfl (Nat.le_of_ble_eq_true rfl) ⟨Nat.zero_le _, Nat.zero_le _⟩ hP hS dX10_goesOut_26 (fun r6 s6 hw H locs hP hS => ?_)
      obtain ⟨h7, hw⟩ := hw
      refine lv_irem hx hb dX10_goesOut_29 h7 ?_
      refine lv_topi (fun v8 ev8 => ?_)
      replace hw := hw v8 ev8
      refine lv_istore (lv' := [(4, .int v8), (3, .int r2), (2, .int r1), (0, .ref (ad 0 0)), (1, .int x1)]) hx hb dX10_goesOut_30 hl (by decide) rfl (fun ls hl => ?_)
      refine lv_iconst (v := 0) hx hb dX10_goesOut_32 (by decide) ?_
      refine lv_istore (lv' := [(5, .int 0), (4, .int v8), (3, .int r2), (2, .int r1), (0, .ref (ad 0 0)), (1, .int x1)]) hx hb dX10_goesOut_33 hl (by decide) rfl (fun ls hl => ?_)
      obtain ⟨n9, hw⟩ := hw
      exact L_X10_goesOut_35 E ha n9 s6 r1 r2 v8 (0 : Int32) hw _ _ _ hP hS (lv_sub hl [4, 3, 2, 1, 0] rfl)
    · replace hw := hw.2 c4
      exact g_vret E hw hP hS dX10_goesOut_20
theorem c_X10_goesOut (l : Launch) (D : va_G) (cy : Nat → ClassId) (ad : Nat → Nat → Nat) (ha : Apart regsM ad) {post : St → Prop} {σ : St} {x1 : Int32} (hw : w_X10_goesOut post σ x1) (sz : Nat) : MetV l yX10_goesOut cX10_goesOut 6 rm_X10_goesOut [.ref (ad 0 0), .int x1] D cy (cellM cy ad) regsM ad σ sz post :=
  Met_inV ok_X10_goesOut.2.2.2.2.2 (Nat.le_of_ble_eq_true rfl) (fun p e s m below meth c ls E hP hl => B_X10_goesOut_0 E ha hw hP va_S.rf hl)
-- RoofWarModel.rains()I
theorem dX10_rains_0 : decode cX10_rains 0 = .ok (.iconst 0, 1) := by decide +kernel
theorem dX10_rains_1 : decode cX10_rains 1 = .ok (.istore_n 1, 1) := by decide +kernel
theorem dX10_rains_2 : decode cX10_rains 2 = .ok (.iconst 0, 1) := by decide +kernel
theorem dX10_rains_3 : decode cX10_rains 3 = .ok (.istore_n 2, 1) := by decide +kernel
theorem dX10_rains_4 : decode cX10_rains 4 = .ok (.iload_n 2, 1) := by decide +kernel
theorem dX10_rains_5 : decode cX10_rains 5 = .ok (.aload_n 0, 1) := by decide +kernel
theorem dX10_rains_6 : decode cX10_rains 6 = .ok (.getfield 7, 3) := by decide +kernel
theorem dX10_rains_9 : decode cX10_rains 9 = .ok (.iconst 0, 1) := by decide +kernel
theorem dX10_rains_10 : decode cX10_rains 10 = .ok (.iaload, 1) := by decide +kernel
theorem dX10_rains_11 : decode cX10_rains 11 = .ok (.if_icmp .ge 17, 3) := by decide +kernel
theorem dX10_rains_14 : decode cX10_rains 14 = .ok (.iload_n 1, 1) := by decide +kernel
theorem dX10_rains_15 : decode cX10_rains 15 = .ok (.aload_n 0, 1) := by decide +kernel
theorem dX10_rains_16 : decode cX10_rains 16 = .ok (.iload_n 2, 1) := by decide +kernel
theorem dX10_rains_17 : decode cX10_rains 17 = .ok (.invokevirtual 118, 3) := by decide +kernel
theorem dX10_rains_20 : decode cX10_rains 20 = .ok (.iadd, 1) := by decide +kernel
theorem dX10_rains_21 : decode cX10_rains 21 = .ok (.istore_n 1, 1) := by decide +kernel
theorem dX10_rains_22 : decode cX10_rains 22 = .ok (.iinc 2 1, 3) := by decide +kernel
theorem dX10_rains_25 : decode cX10_rains 25 = .ok (.goto (-21), 3) := by decide +kernel
theorem dX10_rains_28 : decode cX10_rains 28 = .ok (.iconst 0, 1) := by decide +kernel
theorem dX10_rains_29 : decode cX10_rains 29 = .ok (.istore_n 2, 1) := by decide +kernel
theorem dX10_rains_30 : decode cX10_rains 30 = .ok (.iload_n 2, 1) := by decide +kernel
theorem dX10_rains_31 : decode cX10_rains 31 = .ok (.bipush 12, 2) := by decide +kernel
theorem dX10_rains_33 : decode cX10_rains 33 = .ok (.if_icmp .ge 38, 3) := by decide +kernel
theorem dX10_rains_36 : decode cX10_rains 36 = .ok (.iload_n 1, 1) := by decide +kernel
theorem dX10_rains_37 : decode cX10_rains 37 = .ok (.aload_n 0, 1) := by decide +kernel
theorem dX10_rains_38 : decode cX10_rains 38 = .ok (.getfield 7, 3) := by decide +kernel
theorem dX10_rains_41 : decode cX10_rains 41 = .ok (.bipush 58, 2) := by decide +kernel
theorem dX10_rains_43 : decode cX10_rains 43 = .ok (.iload_n 2, 1) := by decide +kernel
theorem dX10_rains_44 : decode cX10_rains 44 = .ok (.iadd, 1) := by decide +kernel
theorem dX10_rains_45 : decode cX10_rains 45 = .ok (.iaload, 1) := by decide +kernel
theorem dX10_rains_46 : decode cX10_rains 46 = .ok (.ifCond .le 16, 3) := by decide +kernel
theorem dX10_rains_49 : decode cX10_rains 49 = .ok (.aload_n 0, 1) := by decide +kernel
theorem dX10_rains_50 : decode cX10_rains 50 = .ok (.iload_n 2, 1) := by decide +kernel
theorem dX10_rains_51 : decode cX10_rains 51 = .ok (.invokevirtual 97, 3) := by decide +kernel
theorem dX10_rains_54 : decode cX10_rains 54 = .ok (.ifCond .ge 8, 3) := by decide +kernel
theorem dX10_rains_57 : decode cX10_rains 57 = .ok (.bipush 20, 2) := by decide +kernel
theorem dX10_rains_59 : decode cX10_rains 59 = .ok (.goto 4, 3) := by decide +kernel
theorem dX10_rains_62 : decode cX10_rains 62 = .ok (.iconst 0, 1) := by decide +kernel
theorem dX10_rains_63 : decode cX10_rains 63 = .ok (.iadd, 1) := by decide +kernel
theorem dX10_rains_64 : decode cX10_rains 64 = .ok (.istore_n 1, 1) := by decide +kernel
theorem dX10_rains_65 : decode cX10_rains 65 = .ok (.iinc 2 1, 3) := by decide +kernel
theorem dX10_rains_68 : decode cX10_rains 68 = .ok (.goto (-38), 3) := by decide +kernel
theorem dX10_rains_71 : decode cX10_rains 71 = .ok (.iload_n 1, 1) := by decide +kernel
theorem dX10_rains_72 : decode cX10_rains 72 = .ok (.ireturn, 1) := by decide +kernel
theorem ok_X10_rains : okV yX10_rains cX10_rains 3 (some .int) 0 := ⟨mw_1209, mw_47, mw_83, mw_1210, by decide +kernel, by decide +kernel⟩
abbrev rm_X10_rains : Room := { frames := 2, cells := 0, slots := 0, locals := 44 }
def b_X10_rains_30 (K30 : St → Int32 → Int32 → Prop) (post : Int32 → St → Prop) (σ : St) (x1 : Int32) (x2 : Int32) : Prop := ((12 ≤ x2 → (post x1 σ)) ∧ (¬ 12 ≤ x2 → (vp_in (58 + x2) 3082 ∧ ((((σ 1 0 (58 + x2).toNatClampNeg) ≤ 0 → (∀ v4 : Int32, v4 = x1 + 0 → (∀ v5 : Int32, v5 = x2 + 1 → (K30 σ v4 v5)))) ∧ (¬ (σ 1 0 (58 + x2).toNatClampNeg) ≤ 0 → (w_X10_over (fun r6 s6 => ((0 ≤ r6 → (∀ v8 : Int32, v8 = x1 + 0 → (∀ v9 : Int32, v9 = x2 + 1 → (K30 s6 v8 v9)))) ∧ (¬ 0 ≤ r6 → (∀ v10 : Int32, v10 = x1 + 20 → (∀ v11 : Int32, v11 = x2 + 1 → (K30 s6 v10 v11)))))) σ x2)))))))
noncomputable def l_X10_rains_30 (post : Int32 → St → Prop) : Nat → St → Int32 → Int32 → Prop := fun n => Nat.rec (motive := fun _ => St → Int32 → Int32 → Prop) (fun _ _ _ => False) (fun _ ih => b_X10_rains_30 ih post) n
theorem L_X10_rains_30 (E : EnvW p s m args meth c D cy regsM ad "RoofWarModel" cX10_rains 3 (some .int)) (ha : Apart regsM ad) {post : Int32 → St → Prop} : ∀ (n : Nat), ∀ (σ : St) (x1 : Int32) (x2 : Int32), l_X10_rains_30 post n σ x1 x2 → ∀ (H : Heap) (locs : List Loc) (ls : Array Slot), va_P D CLS (wM cy ad σ) H → va_S (AM ad s.heap.size) s.heap H locs → lv_has ls 3 [(0, .ref (ad 0 0)), (1, .int x1), (2, .int x2)] → W p l e rm_X10_rains s m args below meth c H locs 0 0 (MQ below (QI D cy (cellM cy ad) regsM ad s.heap.size post) args s 0 0 (AM ad s.heap.size)) (F0 m 30 ls []) := by
  obtain ⟨hx, hb, -⟩ := id E
  intro n
  induction n with
  | zero => intro σ x1 x2 hw; exact hw.elim
  | succ n hk30 =>
    intro σ x1 x2 hw H locs ls hP hS hl
    replace hw : b_X10_rains_30 (l_X10_rains_30 post n) post σ x1 x2 := hw
    unfold b_X10_rains_30 at hw
    refine lv_iload_n hx hb dX10_rains_30 rfl (lv_at hl 2 rfl) ?_
    refine lv_bipush (v := 12) hx hb dX10_rains_31 (by decide) ?_
    refine lv_icmp_ge (tgt := 71) hx hb dX10_rains_33 (by decide) (fun c1 => ?_) (fun c1 => ?_)
    · replace hw := hw.1 c1
      refine lv_iload_n hx hb dX10_rains_71 rfl (lv_at hl 1 rfl) ?_
      exact g_iret E hw hP hS dX10_rains_72
    · replace hw := hw.2 c1
      refine lv_iload_n hx hb dX10_rains_36 rfl (lv_at hl 1 rfl) ?_
      refine lv_aload_n hx hb dX10_rains_37 rfl (lv_at hl 0 rfl) ?_
      refine fX10_0 E hP mw_946 dX10_rains_38 ?_
      refine lv_bipush (v := 58) hx hb dX10_rains_41 (by decide) ?_
      refine lv_iload_n hx hb dX10_rains_43 rfl (lv_at hl 2 rfl) ?_
      refine lv_iadd hx hb dX10_rains_44 ?_
      obtain ⟨h2, hw⟩ := hw
      refine aM1 E hP h2 dX10_rains_45 ?_
      refine lv_if_le (tgt := 62) hx hb dX10_rains_46 (by decide) (fun c3 => ?_) (fun c3 => ?_)
      · replace hw := hw.1 c3
        refine lv_iconst (v := 0) hx hb dX10_rains_62 (by decide) ?_
        refine lv_iadd hx hb dX10_rains_63 ?_
        refine lv_topi (fun v4 ev4 => ?_)
        replace hw := hw v4 ev4
        refine lv_istore_n (lv' := [(1, .int v4), (0, .ref (ad 0 0)), (2, .int x2)]) hx hb dX10_rains_64 rfl hl (by decide) rfl (fun ls hl => ?_)
        obtain ⟨v5, ev5⟩ : ∃ y : Int32, y = x2 + 1 := ⟨_, rfl⟩
        replace hw := hw v5 ev5
        refine lv_iinc (v := v5) (lv' := [(2, .int v5), (1, .int v4), (0, .ref (ad 0 0))]) hx hb dX10_rains_65 hl (k := 2) rfl (by rw [ev5]; rfl) (by decide) rfl (fun ls hl => ?_)
        refine lv_goto (tgt := 30) hx hb dX10_rains_68 (by decide) ?_
        exact hk30 σ v4 v5 hw _ _ _ hP hS (lv_sub hl [2, 1, 0] rfl)
      · replace hw := hw.2 c3
        refine lv_aload_n hx hb dX10_rains_49 rfl (lv_at hl 0 rfl) ?_
        refine lv_iload_n hx hb dX10_rains_50 rfl (lv_at hl 2 rfl) ?_
        refine g_cVi (As := [.int x2]) (rest := [.int x1]) E hl.1 (c_X10_over l D cy ad ha hw _) ok_X10_over mw_1064 ⟨(Nat.le_of_ble_eq_true rfl), (Nat.le_of_ble_eq_true rfl)⟩ ⟨rfl, rfl⟩ rM0 rfl rfl rfl rfl rfl (Nat.le_of_ble_eq_true rfl) ⟨Nat.zero_le _, Nat.zero_le _⟩ hP hS dX10_rains_51 (fun r6 s6 hw H locs hP hS => ?_)
        refine lv_if_ge (tgt := 62) hx hb dX10_rains_54 (by decide) (fun c7 => ?_) (fun c7 => ?_)
        · replace hw := hw.1 c7
          refine lv_iconst (v := 0) hx hb dX10_rains_62 (by decide) ?_
          refine lv_iadd hx hb dX10_rains_63 ?_
          refine lv_topi (fun v8 ev8 => ?_)
          replace hw := hw v8 ev8
          refine lv_istore_n (lv' := [(1, .int v8), (0, .ref (ad 0 0)), (2, .int x2)]) hx hb dX10_rains_64 rfl hl (by decide) rfl (fun ls hl => ?_)
          obtain ⟨v9, ev9⟩ : ∃ y : Int32, y = x2 + 1 := ⟨_, rfl⟩
          replace hw := hw v9 ev9
          refine lv_iinc (v := v9) (lv' := [(2, .int v9), (1, .int v8), (0, .ref (ad 0 0))]) hx hb dX10_rains_65 hl (k := 2) rfl (by rw [ev9]; rfl) (by decide) rfl (fun ls hl => ?_)
          refine lv_goto (tgt := 30) hx hb dX10_rains_68 (by decide) ?_
          exact hk30 s6 v8 v9 hw _ _ _ hP hS (lv_sub hl [2, 1, 0] rfl)
        · replace hw := hw.2 c7
          refine lv_bipush (v := 20) hx hb dX10_rains_57 (by decide) ?_
          refine lv_goto (tgt := 63) hx hb dX10_rains_59 (by decide) ?_
          refine lv_iadd hx hb dX10_rains_63 ?_
          refine lv_topi (fun v10 ev10 => ?_)
          replace hw := hw v10 ev10
          refine lv_istore_n (lv' := [(1, .int v10), (0, .ref (ad 0 0)), (2, .int x2)]) hx hb dX10_rains_64 rfl hl (by decide) rfl (fun ls hl => ?_)
          obtain ⟨v11, ev11⟩ : ∃ y : Int32, y = x2 + 1 := ⟨_, rfl⟩
          replace hw := hw v11 ev11
          refine lv_iinc (v := v11) (lv' := [(2, .int v11), (1, .int v10), (0, .ref (ad 0 0))]) hx hb dX10_rains_65 hl (k := 2) rfl (by rw [ev11]; rfl) (by decide) rfl (fun ls hl => ?_)
          refine lv_goto (tgt := 30) hx hb dX10_rains_68 (by decide) ?_
          exact hk30 s6 v10 v11 hw _ _ _ hP hS (lv_sub hl [2, 1, 0] rfl)
def b_X10_rains_4 (K4 : St → Int32 → Int32 → Prop) (post : Int32 → St → Prop) (σ : St) (x1 : Int32) (x2 : Int32) : Prop := vp_in (0 : Int32) 3082 ∧ ((((σ 1 0 (0 : Int32).toNatClampNeg) ≤ x2 → (∃ n3 : Nat, l_X10_rains_30 post n3 σ x1 (0 : Int32))) ∧ (¬ (σ 1 0 (0 : Int32).toNatClampNeg) ≤ x2 → (w_X10_drips (fun r4 s4 => ∀ v5 : Int32, v5 = x1 + r4 → (∀ v6 : Int32, v6 = x2 + 1 → (K4 s4 v5 v6))) σ x2))))
noncomputable def l_X10_rains_4 (post : Int32 → St → Prop) : Nat → St → Int32 → Int32 → Prop := fun n => Nat.rec (motive := fun _ => St → Int32 → Int32 → Prop) (fun _ _ _ => False) (fun _ ih => b_X10_rains_4 ih post) n
theorem L_X10_rains_4 (E : EnvW p s m args meth c D cy regsM ad "RoofWarModel" cX10_rains 3 (some .int)) (ha : Apart regsM ad) {post : Int32 → St → Prop} : ∀ (n : Nat), ∀ (σ : St) (x1 : Int32) (x2 : Int32), l_X10_rains_4 post n σ x1 x2 → ∀ (H : Heap) (locs : List Loc) (ls : Array Slot), va_P D CLS (wM cy ad σ) H → va_S (AM ad s.heap.size) s.heap H locs → lv_has ls 3 [(0, .ref (ad 0 0)), (1, .int x1), (2, .int x2)] → W p l e rm_X10_rains s m args below meth c H locs 0 0 (MQ below (QI D cy (cellM cy ad) regsM ad s.heap.size post) args s 0 0 (AM ad s.heap.size)) (F0 m 4 ls []) := by
  obtain ⟨hx, hb, -⟩ := id E
  intro n
  induction n with
  | zero => intro σ x1 x2 hw; exact hw.elim
  | succ n hk4 =>
    intro σ x1 x2 hw H locs ls hP hS hl
    replace hw : b_X10_rains_4 (l_X10_rains_4 post n) post σ x1 x2 := hw
    unfold b_X10_rains_4 at hw
    refine lv_iload_n hx hb dX10_rains_4 rfl (lv_at hl 2 rfl) ?_
    refine lv_aload_n hx hb dX10_rains_5 rfl (lv_at hl 0 rfl) ?_
    refine fX10_0 E hP mw_946 dX10_rains_6 ?_
    refine lv_iconst (v := 0) hx hb dX10_rains_9 (by decide) ?_
    obtain ⟨h1, hw⟩ := hw
    refine aM1 E hP h1 dX10_rains_10 ?_
    refine lv_icmp_ge (tgt := 28) hx hb dX10_rains_11 (by decide) (fun c2 => ?_) (fun c2 => ?_)
    · replace hw := hw.1 c2
      refine lv_iconst (v := 0) hx hb dX10_rains_28 (by decide) ?_
      refine lv_istore_n (lv' := [(2, .int 0), (0, .ref (ad 0 0)), (1, .int x1)]) hx hb dX10_rains_29 rfl hl (by decide) rfl (fun ls hl => ?_)
      obtain ⟨n3, hw⟩ := hw
      exact L_X10_rains_30 E ha n3 σ x1 (0 : Int32) hw _ _ _ hP hS (lv_sub hl [1, 2, 0] rfl)
    · replace hw := hw.2 c2
      refine lv_iload_n hx hb dX10_rains_14 rfl (lv_at hl 1 rfl) ?_
      refine lv_aload_n hx hb dX10_rains_15 rfl (lv_at hl 0 rfl) ?_
      refine lv_iload_n hx hb dX10_rains_16 rfl (lv_at hl 2 rfl) ?_
      refine g_cVi (As := [.int x2]) (rest := [.int x1]) E hl.1 (c_X10_drips l D cy ad ha hw _) ok_X10_drips mw_1092 ⟨(Nat.le_of_ble_eq_true rfl), (Nat.le_of_ble_eq_true rfl)⟩ ⟨rfl, rfl⟩ rM0 rfl rfl rfl rfl rfl (Nat.le_of_ble_eq_true rfl) ⟨Nat.zero_le _, Nat.zero_le _⟩ hP hS dX10_rains_17 (fun r4 s4 hw H locs hP hS => ?_)
      refine lv_iadd hx hb dX10_rains_20 ?_
      refine lv_topi (fun v5 ev5 => ?_)
      replace hw := hw v5 ev5
      refine lv_istore_n (lv' := [(1, .int v5), (0, .ref (ad 0 0)), (2, .int x2)]) hx hb dX10_rains_21 rfl hl (by decide) rfl (fun ls hl => ?_)
      obtain ⟨v6, ev6⟩ : ∃ y : Int32, y = x2 + 1 := ⟨_, rfl⟩
      replace hw := hw v6 ev6
      refine lv_iinc (v := v6) (lv' := [(2, .int v6), (1, .int v5), (0, .ref (ad 0 0))]) hx hb dX10_rains_22 hl (k := 2) rfl (by rw [ev6]; rfl) (by decide) rfl (fun ls hl => ?_)
      refine lv_goto (tgt := 4) hx hb dX10_rains_25 (by decide) ?_
      exact hk4 s4 v5 v6 hw _ _ _ hP hS (lv_sub hl [2, 1, 0] rfl)
def w_X10_rains (post : Int32 → St → Prop) (σ : St) : Prop := ∃ n1 : Nat, l_X10_rains_4 post n1 σ (0 : Int32) (0 : Int32)
theorem B_X10_rains_0 (E : EnvW p s m args meth c D cy regsM ad "RoofWarModel" cX10_rains 3 (some .int)) (ha : Apart regsM ad) {post : Int32 → St → Prop} {σ : St} (hw : w_X10_rains post σ) {H : Heap} {locs : List Loc} {ls : Array Slot} (hP : va_P D CLS (wM cy ad σ) H) (hS : va_S (AM ad s.heap.size) s.heap H locs) (hl : lv_has ls 3 [(0, .ref (ad 0 0))]) : W p l e rm_X10_rains s m args below meth c H locs 0 0 (MQ below (QI D cy (cellM cy ad) regsM ad s.heap.size post) args s 0 0 (AM ad s.heap.size)) (F0 m 0 ls []) := by
  obtain ⟨hx, hb, -⟩ := id E
  unfold w_X10_rains at hw
  refine lv_iconst (v := 0) hx hb dX10_rains_0 (by decide) ?_
  refine lv_istore_n (lv' := [(1, .int 0), (0, .ref (ad 0 0))]) hx hb dX10_rains_1 rfl hl (by decide) rfl (fun ls hl => ?_)
  refine lv_iconst (v := 0) hx hb dX10_rains_2 (by decide) ?_
  refine lv_istore_n (lv' := [(2, .int 0), (1, .int 0), (0, .ref (ad 0 0))]) hx hb dX10_rains_3 rfl hl (by decide) rfl (fun ls hl => ?_)
  obtain ⟨n1, hw⟩ := hw
  exact L_X10_rains_4 E ha n1 σ (0 : Int32) (0 : Int32) hw _ _ _ hP hS (lv_sub hl [2, 1, 0] rfl)
theorem c_X10_rains (l : Launch) (D : va_G) (cy : Nat → ClassId) (ad : Nat → Nat → Nat) (ha : Apart regsM ad) {post : Int32 → St → Prop} {σ : St} (hw : w_X10_rains post σ) (sz : Nat) : MetI l yX10_rains cX10_rains 3 .int rm_X10_rains [.ref (ad 0 0)] D cy (cellM cy ad) regsM ad σ sz post :=
  Met_inI ok_X10_rains.2.2.2.2.2 (Nat.le_of_ble_eq_true rfl) (fun p e s m below meth c ls E hP hl => B_X10_rains_0 E ha hw hP va_S.rf hl)
-- RoofWarModel.goesOn()V
theorem dX10_goesOn_0 : decode cX10_goesOn 0 = .ok (.aload_n 0, 1) := by decide +kernel
theorem dX10_goesOn_1 : decode cX10_goesOn 1 = .ok (.getfield 7, 3) := by decide +kernel
theorem dX10_goesOn_4 : decode cX10_goesOn 4 = .ok (.iconst 2, 1) := by decide +kernel
theorem dX10_goesOn_5 : decode cX10_goesOn 5 = .ok (.iaload, 1) := by decide +kernel
theorem dX10_goesOn_6 : decode cX10_goesOn 6 = .ok (.iconst 2, 1) := by decide +kernel
theorem dX10_goesOn_7 : decode cX10_goesOn 7 = .ok (.irem, 1) := by decide +kernel
theorem dX10_goesOn_8 : decode cX10_goesOn 8 = .ok (.istore_n 1, 1) := by decide +kernel
theorem dX10_goesOn_9 : decode cX10_goesOn 9 = .ok (.aload_n 0, 1) := by decide +kernel
theorem dX10_goesOn_10 : decode cX10_goesOn 10 = .ok (.iload_n 1, 1) := by decide +kernel
theorem dX10_goesOn_11 : decode cX10_goesOn 11 = .ok (.invokevirtual 184, 3) := by decide +kernel
theorem dX10_goesOn_14 : decode cX10_goesOn 14 = .ok (.aload_n 0, 1) := by decide +kernel
theorem dX10_goesOn_15 : decode cX10_goesOn 15 = .ok (.iconst 1, 1) := by decide +kernel
theorem dX10_goesOn_16 : decode cX10_goesOn 16 = .ok (.iload_n 1, 1) := by decide +kernel
theorem dX10_goesOn_17 : decode cX10_goesOn 17 = .ok (.isub, 1) := by decide +kernel
theorem dX10_goesOn_18 : decode cX10_goesOn 18 = .ok (.invokevirtual 184, 3) := by decide +kernel
theorem dX10_goesOn_21 : decode cX10_goesOn 21 = .ok (.aload_n 0, 1) := by decide +kernel
theorem dX10_goesOn_22 : decode cX10_goesOn 22 = .ok (.invokevirtual 149, 3) := by decide +kernel
theorem dX10_goesOn_25 : decode cX10_goesOn 25 = .ok (.bipush 100, 2) := by decide +kernel
theorem dX10_goesOn_27 : decode cX10_goesOn 27 = .ok (.irem, 1) := by decide +kernel
theorem dX10_goesOn_28 : decode cX10_goesOn 28 = .ok (.aload_n 0, 1) := by decide +kernel
theorem dX10_goesOn_29 : decode cX10_goesOn 29 = .ok (.getfield 7, 3) := by decide +kernel
theorem dX10_goesOn_32 : decode cX10_goesOn 32 = .ok (.iconst 5, 1) := by decide +kernel
theorem dX10_goesOn_33 : decode cX10_goesOn 33 = .ok (.iaload, 1) := by decide +kernel
theorem dX10_goesOn_34 : decode cX10_goesOn 34 = .ok (.if_icmp .ge 17, 3) := by decide +kernel
theorem dX10_goesOn_37 : decode cX10_goesOn 37 = .ok (.aload_n 0, 1) := by decide +kernel
theorem dX10_goesOn_38 : decode cX10_goesOn 38 = .ok (.getfield 7, 3) := by decide +kernel
theorem dX10_goesOn_41 : decode cX10_goesOn 41 = .ok (.bipush 8, 2) := by decide +kernel
theorem dX10_goesOn_43 : decode cX10_goesOn 43 = .ok (.dup2, 1) := by decide +kernel
theorem dX10_goesOn_44 : decode cX10_goesOn 44 = .ok (.iaload, 1) := by decide +kernel
theorem dX10_goesOn_45 : decode cX10_goesOn 45 = .ok (.aload_n 0, 1) := by decide +kernel
theorem dX10_goesOn_46 : decode cX10_goesOn 46 = .ok (.invokevirtual 188, 3) := by decide +kernel
theorem dX10_goesOn_49 : decode cX10_goesOn 49 = .ok (.iadd, 1) := by decide +kernel
theorem dX10_goesOn_50 : decode cX10_goesOn 50 = .ok (.iastore, 1) := by decide +kernel
theorem dX10_goesOn_51 : decode cX10_goesOn 51 = .ok (.aload_n 0, 1) := by decide +kernel
theorem dX10_goesOn_52 : decode cX10_goesOn 52 = .ok (.getfield 7, 3) := by decide +kernel
theorem dX10_goesOn_55 : decode cX10_goesOn 55 = .ok (.iconst 2, 1) := by decide +kernel
theorem dX10_goesOn_56 : decode cX10_goesOn 56 = .ok (.dup2, 1) := by decide +kernel
theorem dX10_goesOn_57 : decode cX10_goesOn 57 = .ok (.iaload, 1) := by decide +kernel
theorem dX10_goesOn_58 : decode cX10_goesOn 58 = .ok (.iconst 1, 1) := by decide +kernel
theorem dX10_goesOn_59 : decode cX10_goesOn 59 = .ok (.iadd, 1) := by decide +kernel
theorem dX10_goesOn_60 : decode cX10_goesOn 60 = .ok (.iastore, 1) := by decide +kernel
theorem dX10_goesOn_61 : decode cX10_goesOn 61 = .ok (.return_, 1) := by decide +kernel
theorem ok_X10_goesOn : okV yX10_goesOn cX10_goesOn 2 none 0 := ⟨mw_1167, mw_36, mw_83, mw_1168, by decide +kernel, by decide +kernel⟩
abbrev rm_X10_goesOn : Room := { frames := 5, cells := 0, slots := 0, locals := 117 }
def b_X10_goesOn_51 (post : St → Prop) (σ : St) : Prop := vp_in (2 : Int32) 3082 ∧ (vp_in (2 : Int32) 3082 ∧ (∀ s3 : St, s3 = wr σ 1 0 (2 : Int32).toNatClampNeg ((σ 1 0 (2 : Int32).toNatClampNeg) + 1) → (post s3)))
theorem B_X10_goesOn_51 (E : EnvW p s m args meth c D cy regsM ad "RoofWarModel" cX10_goesOn 2 none) (ha : Apart regsM ad) {post : St → Prop} {σ : St} (hw : b_X10_goesOn_51 post σ) {H : Heap} {locs : List Loc} {ls : Array Slot} (hP : va_P D CLS (wM cy ad σ) H) (hS : va_S (AM ad s.heap.size) s.heap H locs) (hl : lv_has ls 2 [(0, .ref (ad 0 0))]) : W p l e rm_X10_goesOn s m args below meth c H locs 0 0 (MQ below (QV D cy (cellM cy ad) regsM ad s.heap.size post) args s 0 0 (AM ad s.heap.size)) (F0 m 51 ls []) := by
  obtain ⟨hx, hb, -⟩ := id E
  unfold b_X10_goesOn_51 at hw
  refine lv_aload_n hx hb dX10_goesOn_51 rfl (lv_at hl 0 rfl) ?_
  refine fX10_0 E hP mw_946 dX10_goesOn_52 ?_
  refine lv_iconst (v := 2) hx hb dX10_goesOn_55 (by decide) ?_
  refine lv_dup2_11 hx hb dX10_goesOn_56 rfl rfl ?_
  obtain ⟨h1, hw⟩ := hw
  refine aM1 E hP h1 dX10_goesOn_57 ?_
  refine lv_iconst (v := 1) hx hb dX10_goesOn_58 (by decide) ?_
  refine lv_iadd hx hb dX10_goesOn_59 ?_
  obtain ⟨h2, hw⟩ := hw
  refine tM1 E ha h2 dX10_goesOn_60 hP hS (fun s3 es3 H locs hP hS => ?_)
  replace hw := hw s3 es3
  exact g_vret E hw hP hS dX10_goesOn_61
def w_X10_goesOn (post : St → Prop) (σ : St) : Prop := vp_in (2 : Int32) 3082 ∧ (¬ (2 : Int32) = 0 ∧ (∀ v3 : Int32, v3 = jrem (σ 1 0 (2 : Int32).toNatClampNeg) 2 → (w_X10_goesOut (fun s4 => w_X10_goesOut (fun s5 => w_X10_drawn (fun r6 s6 => ¬ (100 : Int32) = 0 ∧ (∀ v8 : Int32, v8 = jrem r6 100 → (vp_in (5 : Int32) 3082 ∧ ((((s6 1 0 (5 : Int32).toNatClampNeg) ≤ v8 → (b_X10_goesOn_51 post s6)) ∧ (¬ (s6 1 0 (5 : Int32).toNatClampNeg) ≤ v8 → (vp_in (8 : Int32) 3082 ∧ (w_X10_rains (fun r12 s12 => vp_in (8 : Int32) 3082 ∧ (∀ s14 : St, s14 = wr s12 1 0 (8 : Int32).toNatClampNeg ((s6 1 0 (8 : Int32).toNatClampNeg) + r12) → (b_X10_goesOn_51 post s14))) s6)))))))) s5) s4 (1 - v3)) σ v3)))
theorem B_X10_goesOn_0 (E : EnvW p s m args meth c D cy regsM ad "RoofWarModel" cX10_goesOn 2 none) (ha : Apart regsM ad) {post : St → Prop} {σ : St} (hw : w_X10_goesOn post σ) {H : Heap} {locs : List Loc} {ls : Array Slot} (hP : va_P D CLS (wM cy ad σ) H) (hS : va_S (AM ad s.heap.size) s.heap H locs) (hl : lv_has ls 2 [(0, .ref (ad 0 0))]) : W p l e rm_X10_goesOn s m args below meth c H locs 0 0 (MQ below (QV D cy (cellM cy ad) regsM ad s.heap.size post) args s 0 0 (AM ad s.heap.size)) (F0 m 0 ls []) := by
  obtain ⟨hx, hb, -⟩ := id E
  unfold w_X10_goesOn at hw
  refine lv_aload_n hx hb dX10_goesOn_0 rfl (lv_at hl 0 rfl) ?_
  refine fX10_0 E hP mw_946 dX10_goesOn_1 ?_
  refine lv_iconst (v := 2) hx hb dX10_goesOn_4 (by decide) ?_
  obtain ⟨h1, hw⟩ := hw
  refine aM1 E hP h1 dX10_goesOn_5 ?_
  refine lv_iconst (v := 2) hx hb dX10_goesOn_6 (by decide) ?_
  obtain ⟨h2, hw⟩ := hw
  refine lv_irem hx hb dX10_goesOn_7 h2 ?_
  refine lv_topi (fun v3 ev3 => ?_)
  replace hw := hw v3 ev3
  refine lv_istore_n (lv' := [(1, .int v3), (0, .ref (ad 0 0))]) hx hb dX10_goesOn_8 rfl hl (by decide) rfl (fun ls hl => ?_)
  refine lv_aload_n hx hb dX10_goesOn_9 rfl (lv_at hl 1 rfl) ?_
  refine lv_iload_n hx hb dX10_goesOn_10 rfl (lv_at hl 0 rfl) ?_
  refine g_cVv (As := [.int v3]) (rest := []) E hl.1 (c_X10_goesOut l D cy ad ha hw _) ok_X10_goesOut mw_1169 ⟨(Nat.le_of_ble_eq_true rfl), (Nat.le_of_ble_eq_true rfl)⟩ ⟨rfl, rfl⟩ rM0 rfl rfl rfl rfl rfl (Nat.le_of_ble_eq_true rfl) ⟨Nat.zero_le _, Nat.zero_le _⟩ hP hS dX10_goesOn_11 (fun s4 hw H locs hP hS => ?_)
  refine lv_aload_n hx hb dX10_goesOn_14 rfl (lv_at hl 1 rfl) ?_
  refine lv_iconst (v := 1) hx hb dX10_goesOn_15 (by decide) ?_
  refine lv_iload_n hx hb dX10_goesOn_16 rfl (lv_at hl 0 rfl) ?_
  refine lv_isub hx hb dX10_goesOn_17 ?_
  refine g_cVv (As := [.int (1 - v3)]) (rest := []) E hl.1 (c_X10_goesOut l D cy ad ha hw _) ok_X10_goesOut mw_1169 ⟨(Nat.le_of_ble_eq_true rfl), (Nat.le_of_ble_eq_true rfl)⟩ ⟨rfl, rfl⟩ rM0 rfl rfl rfl rfl rfl (Nat.le_of_ble_eq_true rfl) ⟨Nat.zero_le _, Nat.zero_le _⟩ hP hS dX10_goesOn_18 (fun s5 hw H locs hP hS => ?_)
  refine lv_aload_n hx hb dX10_goesOn_21 rfl (lv_at hl 1 rfl) ?_
  refine g_cVi (As := []) (rest := []) E hl.1 (c_X10_drawn l D cy ad ha hw _) ok_X10_drawn mw_1151 ⟨(Nat.le_of_ble_eq_true rfl), (Nat.le_of_ble_eq_true rfl)⟩ ⟨rfl, rfl⟩ rM0 rfl rfl rfl rfl rfl (Nat.le_of_ble_eq_true rfl) ⟨Nat.zero_le _, Nat.zero_le _⟩ hP hS dX10_goesOn_22 (fun r6 s6 hw H locs hP hS => ?_)
  refine lv_bipush (v := 100) hx hb dX10_goesOn_25 (by decide) ?_
  obtain ⟨h7, hw⟩ := hw
  refine lv_irem hx hb dX10_goesOn_27 h7 ?_
  refine lv_topi (fun v8 ev8 => ?_)
  replace hw := hw v8 ev8
  refine lv_aload_n hx hb dX10_goesOn_28 rfl (lv_at hl 1 rfl) ?_
  refine fX10_0 E hP mw_946 dX10_goesOn_29 ?_
  refine lv_iconst (v := 5) hx hb dX10_goesOn_32 (by decide) ?_
  obtain ⟨h9, hw⟩ := hw
  refine aM1 E hP h9 dX10_goesOn_33 ?_
  refine lv_icmp_ge (tgt := 51) hx hb dX10_goesOn_34 (by decide) (fun c10 => ?_) (fun c10 => ?_)
  · replace hw := hw.1 c10
    exact B_X10_goesOn_51 E ha hw hP hS (lv_sub hl [1] rfl)
  · replace hw := hw.2 c10
    refine lv_aload_n hx hb dX10_goesOn_37 rfl (lv_at hl 1 rfl) ?_
    refine fX10_0 E hP mw_946 dX10_goesOn_38 ?_
    refine lv_bipush (v := 8) hx hb dX10_goesOn_41 (by decide) ?_
    refine lv_dup2_11 hx hb dX10_goesOn_43 rfl rfl ?_
    obtain ⟨h11, hw⟩ := hw
    refine aM1 E hP h11 dX10_goesOn_44 ?_
    refine lv_aload_n hx hb dX10_goesOn_45 rfl (lv_at hl 1 rfl) ?_
    refine g_cVi (As := []) (rest := [.int (s6 1 0 (8 : Int32).toNatClampNeg), .int 8, .ref (ad 1 0)]) E hl.1 (c_X10_rains l D cy ad ha hw _) ok_X10_rains mw_1208 ⟨(Nat.le_of_ble_eq_true rfl), (Nat.le_of_ble_eq_true rfl)⟩ ⟨rfl, rfl⟩ rM0 rfl rfl rfl rfl rfl (Nat.le_of_ble_eq_true rfl) ⟨Nat.zero_le _, Nat.zero_le _⟩ hP hS dX10_goesOn_46 (fun r12 s12 hw H locs hP hS => ?_)
    refine lv_iadd hx hb dX10_goesOn_49 ?_
    obtain ⟨h13, hw⟩ := hw
    refine tM1 E ha h13 dX10_goesOn_50 hP hS (fun s14 es14 H locs hP hS => ?_)
    replace hw := hw s14 es14
    exact B_X10_goesOn_51 E ha hw hP hS (lv_sub hl [1] rfl)
theorem c_X10_goesOn (l : Launch) (D : va_G) (cy : Nat → ClassId) (ad : Nat → Nat → Nat) (ha : Apart regsM ad) {post : St → Prop} {σ : St} (hw : w_X10_goesOn post σ) (sz : Nat) : MetV l yX10_goesOn cX10_goesOn 2 rm_X10_goesOn [.ref (ad 0 0)] D cy (cellM cy ad) regsM ad σ sz post :=
  Met_inV ok_X10_goesOn.2.2.2.2.2 (Nat.le_of_ble_eq_true rfl) (fun p e s m below meth c ls E hP hl => B_X10_goesOn_0 E ha hw hP va_S.rf hl)
-- RoofWarModel.goesOnMany(I)V
theorem dX10_goesOnMany_0 : decode cX10_goesOnMany 0 = .ok (.iconst 0, 1) := by decide +kernel
theorem dX10_goesOnMany_1 : decode cX10_goesOnMany 1 = .ok (.istore_n 2, 1) := by decide +kernel
theorem dX10_goesOnMany_2 : decode cX10_goesOnMany 2 = .ok (.iload_n 2, 1) := by decide +kernel
theorem dX10_goesOnMany_3 : decode cX10_goesOnMany 3 = .ok (.iload_n 1, 1) := by decide +kernel
theorem dX10_goesOnMany_4 : decode cX10_goesOnMany 4 = .ok (.if_icmp .ge 13, 3) := by decide +kernel
theorem dX10_goesOnMany_7 : decode cX10_goesOnMany 7 = .ok (.aload_n 0, 1) := by decide +kernel
theorem dX10_goesOnMany_8 : decode cX10_goesOnMany 8 = .ok (.invokevirtual 191, 3) := by decide +kernel
theorem dX10_goesOnMany_11 : decode cX10_goesOnMany 11 = .ok (.iinc 2 1, 3) := by decide +kernel
theorem dX10_goesOnMany_14 : decode cX10_goesOnMany 14 = .ok (.goto (-12), 3) := by decide +kernel
theorem dX10_goesOnMany_17 : decode cX10_goesOnMany 17 = .ok (.return_, 1) := by decide +kernel
theorem ok_X10_goesOnMany : okV yX10_goesOnMany cX10_goesOnMany 3 none 1 := ⟨mw_1164, mw_35, mw_83, mw_1165, by decide +kernel, by decide +kernel⟩
abbrev rm_X10_goesOnMany : Room := { frames := 6, cells := 0, slots := 0, locals := 138 }
def b_X10_goesOnMany_2 (K2 : St → Int32 → Int32 → Prop) (post : St → Prop) (σ : St) (x1 : Int32) (x2 : Int32) : Prop := ((x1 ≤ x2 → (post σ)) ∧ (¬ x1 ≤ x2 → (w_X10_goesOn (fun s2 => ∀ v3 : Int32, v3 = x2 + 1 → (K2 s2 x1 v3)) σ)))
noncomputable def l_X10_goesOnMany_2 (post : St → Prop) : Nat → St → Int32 → Int32 → Prop := fun n => Nat.rec (motive := fun _ => St → Int32 → Int32 → Prop) (fun _ _ _ => False) (fun _ ih => b_X10_goesOnMany_2 ih post) n
theorem L_X10_goesOnMany_2 (E : EnvW p s m args meth c D cy regsM ad "RoofWarModel" cX10_goesOnMany 3 none) (ha : Apart regsM ad) {post : St → Prop} : ∀ (n : Nat), ∀ (σ : St) (x1 : Int32) (x2 : Int32), l_X10_goesOnMany_2 post n σ x1 x2 → ∀ (H : Heap) (locs : List Loc) (ls : Array Slot), va_P D CLS (wM cy ad σ) H → va_S (AM ad s.heap.size) s.heap H locs → lv_has ls 3 [(0, .ref (ad 0 0)), (1, .int x1), (2, .int x2)] → W p l e rm_X10_goesOnMany s m args below meth c H locs 0 0 (MQ below (QV D cy (cellM cy ad) regsM ad s.heap.size post) args s 0 0 (AM ad s.heap.size)) (F0 m 2 ls []) := by
  obtain ⟨hx, hb, -⟩ := id E
  intro n
  induction n with
  | zero => intro σ x1 x2 hw; exact hw.elim
  | succ n hk2 =>
    intro σ x1 x2 hw H locs ls hP hS hl
    replace hw : b_X10_goesOnMany_2 (l_X10_goesOnMany_2 post n) post σ x1 x2 := hw
    unfold b_X10_goesOnMany_2 at hw
    refine lv_iload_n hx hb dX10_goesOnMany_2 rfl (lv_at hl 2 rfl) ?_
    refine lv_iload_n hx hb dX10_goesOnMany_3 rfl (lv_at hl 1 rfl) ?_
    refine lv_icmp_ge (tgt := 17) hx hb dX10_goesOnMany_4 (by decide) (fun c1 => ?_) (fun c1 => ?_)
    · replace hw := hw.1 c1
      exact g_vret E hw hP hS dX10_goesOnMany_17
    · replace hw := hw.2 c1
      refine lv_aload_n hx hb dX10_goesOnMany_7 rfl (lv_at hl 0 rfl) ?_
      refine g_cVv (As := []) (rest := []) E hl.1 (c_X10_goesOn l D cy ad ha hw _) ok_X10_goesOn mw_1166 ⟨(Nat.le_of_ble_eq_true rfl), (Nat.le_of_ble_eq_true rfl)⟩ ⟨rfl, rfl⟩ rM0 rfl rfl rfl rfl rfl (Nat.le_of_ble_eq_true rfl) ⟨Nat.zero_le _, Nat.zero_le _⟩ hP hS dX10_goesOnMany_8 (fun s2 hw H locs hP hS => ?_)
      obtain ⟨v3, ev3⟩ : ∃ y : Int32, y = x2 + 1 := ⟨_, rfl⟩
      replace hw := hw v3 ev3
      refine lv_iinc (v := v3) (lv' := [(2, .int v3), (0, .ref (ad 0 0)), (1, .int x1)]) hx hb dX10_goesOnMany_11 hl (k := 2) rfl (by rw [ev3]; rfl) (by decide) rfl (fun ls hl => ?_)
      refine lv_goto (tgt := 2) hx hb dX10_goesOnMany_14 (by decide) ?_
      exact hk2 s2 x1 v3 hw _ _ _ hP hS (lv_sub hl [1, 2, 0] rfl)
def w_X10_goesOnMany (post : St → Prop) (σ : St) (x1 : Int32) : Prop := ∃ n1 : Nat, l_X10_goesOnMany_2 post n1 σ x1 (0 : Int32)
theorem B_X10_goesOnMany_0 (E : EnvW p s m args meth c D cy regsM ad "RoofWarModel" cX10_goesOnMany 3 none) (ha : Apart regsM ad) {post : St → Prop} {σ : St} {x1 : Int32} (hw : w_X10_goesOnMany post σ x1) {H : Heap} {locs : List Loc} {ls : Array Slot} (hP : va_P D CLS (wM cy ad σ) H) (hS : va_S (AM ad s.heap.size) s.heap H locs) (hl : lv_has ls 3 [(0, .ref (ad 0 0)), (1, .int x1)]) : W p l e rm_X10_goesOnMany s m args below meth c H locs 0 0 (MQ below (QV D cy (cellM cy ad) regsM ad s.heap.size post) args s 0 0 (AM ad s.heap.size)) (F0 m 0 ls []) := by
  obtain ⟨hx, hb, -⟩ := id E
  unfold w_X10_goesOnMany at hw
  refine lv_iconst (v := 0) hx hb dX10_goesOnMany_0 (by decide) ?_
  refine lv_istore_n (lv' := [(2, .int 0), (0, .ref (ad 0 0)), (1, .int x1)]) hx hb dX10_goesOnMany_1 rfl hl (by decide) rfl (fun ls hl => ?_)
  obtain ⟨n1, hw⟩ := hw
  exact L_X10_goesOnMany_2 E ha n1 σ x1 (0 : Int32) hw _ _ _ hP hS (lv_sub hl [1, 2, 0] rfl)
theorem c_X10_goesOnMany (l : Launch) (D : va_G) (cy : Nat → ClassId) (ad : Nat → Nat → Nat) (ha : Apart regsM ad) {post : St → Prop} {σ : St} {x1 : Int32} (hw : w_X10_goesOnMany post σ x1) (sz : Nat) : MetV l yX10_goesOnMany cX10_goesOnMany 3 rm_X10_goesOnMany [.ref (ad 0 0), .int x1] D cy (cellM cy ad) regsM ad σ sz post :=
  Met_inV ok_X10_goesOnMany.2.2.2.2.2 (Nat.le_of_ble_eq_true rfl) (fun p e s m below meth c ls E hP hl => B_X10_goesOnMany_0 E ha hw hP va_S.rf hl)
-- RoofWarModel.nights(I)I
theorem dX10_nights_0 : decode cX10_nights 0 = .ok (.iload_n 1, 1) := by decide +kernel
theorem dX10_nights_1 : decode cX10_nights 1 = .ok (.i2l, 1) := by decide +kernel
theorem dX10_nights_2 : decode cX10_nights 2 = .ok (.lconst 1, 1) := by decide +kernel
theorem dX10_nights_3 : decode cX10_nights 3 = .ok (.ldc2_w 145, 3) := by decide +kernel
theorem dX10_nights_6 : decode cX10_nights 6 = .ok (.invokestatic 71, 3) := by decide +kernel
theorem dX10_nights_9 : decode cX10_nights 9 = .ok (.ifCond .ne 6, 3) := by decide +kernel
theorem dX10_nights_12 : decode cX10_nights 12 = .ok (.ldc 96, 2) := by decide +kernel
theorem dX10_nights_14 : decode cX10_nights 14 = .ok (.ireturn, 1) := by decide +kernel
theorem dX10_nights_15 : decode cX10_nights 15 = .ok (.aload_n 0, 1) := by decide +kernel
theorem dX10_nights_16 : decode cX10_nights 16 = .ok (.getfield 7, 3) := by decide +kernel
theorem dX10_nights_19 : decode cX10_nights 19 = .ok (.bipush 6, 2) := by decide +kernel
theorem dX10_nights_21 : decode cX10_nights 21 = .ok (.iaload, 1) := by decide +kernel
theorem dX10_nights_22 : decode cX10_nights 22 = .ok (.istore_n 2, 1) := by decide +kernel
theorem dX10_nights_23 : decode cX10_nights 23 = .ok (.sipush 9999, 3) := by decide +kernel
theorem dX10_nights_26 : decode cX10_nights 26 = .ok (.aload_n 0, 1) := by decide +kernel
theorem dX10_nights_27 : decode cX10_nights 27 = .ok (.getfield 7, 3) := by decide +kernel
theorem dX10_nights_30 : decode cX10_nights 30 = .ok (.iconst 2, 1) := by decide +kernel
theorem dX10_nights_31 : decode cX10_nights 31 = .ok (.iaload, 1) := by decide +kernel
theorem dX10_nights_32 : decode cX10_nights 32 = .ok (.isub, 1) := by decide +kernel
theorem dX10_nights_33 : decode cX10_nights 33 = .ok (.istore_n 3, 1) := by decide +kernel
theorem dX10_nights_34 : decode cX10_nights 34 = .ok (.aload_n 0, 1) := by decide +kernel
theorem dX10_nights_35 : decode cX10_nights 35 = .ok (.iload_n 1, 1) := by decide +kernel
theorem dX10_nights_36 : decode cX10_nights 36 = .ok (.iload_n 3, 1) := by decide +kernel
theorem dX10_nights_37 : decode cX10_nights 37 = .ok (.if_icmp .ge 7, 3) := by decide +kernel
theorem dX10_nights_40 : decode cX10_nights 40 = .ok (.iload_n 1, 1) := by decide +kernel
theorem dX10_nights_41 : decode cX10_nights 41 = .ok (.goto 4, 3) := by decide +kernel
theorem dX10_nights_44 : decode cX10_nights 44 = .ok (.iload_n 3, 1) := by decide +kernel
theorem dX10_nights_45 : decode cX10_nights 45 = .ok (.invokevirtual 194, 3) := by decide +kernel
theorem dX10_nights_48 : decode cX10_nights 48 = .ok (.aload_n 0, 1) := by decide +kernel
theorem dX10_nights_49 : decode cX10_nights 49 = .ok (.getfield 7, 3) := by decide +kernel
theorem dX10_nights_52 : decode cX10_nights 52 = .ok (.bipush 6, 2) := by decide +kernel
theorem dX10_nights_54 : decode cX10_nights 54 = .ok (.iaload, 1) := by decide +kernel
theorem dX10_nights_55 : decode cX10_nights 55 = .ok (.iload_n 2, 1) := by decide +kernel
theorem dX10_nights_56 : decode cX10_nights 56 = .ok (.isub, 1) := by decide +kernel
theorem dX10_nights_57 : decode cX10_nights 57 = .ok (.ireturn, 1) := by decide +kernel
theorem ok_X10_nights : okV yX10_nights cX10_nights 4 (some .int) 1 := ⟨mw_1160, mw_1161, mw_83, mw_1162, by decide +kernel, by decide +kernel⟩
abbrev rm_X10_nights : Room := { frames := 7, cells := 0, slots := 0, locals := 160 }
def b_X10_nights_45 (post : Int32 → St → Prop) (σ : St) (y0 : Int32) (x2 : Int32) : Prop := w_X10_goesOnMany (fun s1 => vp_in (6 : Int32) 3082 ∧ (post ((s1 1 0 (6 : Int32).toNatClampNeg) - x2) s1)) σ y0
theorem B_X10_nights_45 (E : EnvW p s m args meth c D cy regsM ad "RoofWarModel" cX10_nights 4 (some .int)) (ha : Apart regsM ad) {post : Int32 → St → Prop} {σ : St} {y0 : Int32} {x2 : Int32} (hw : b_X10_nights_45 post σ y0 x2) {H : Heap} {locs : List Loc} {ls : Array Slot} (hP : va_P D CLS (wM cy ad σ) H) (hS : va_S (AM ad s.heap.size) s.heap H locs) (hl : lv_has ls 4 [(0, .ref (ad 0 0)), (2, .int x2)]) : W p l e rm_X10_nights s m args below meth c H locs 0 0 (MQ below (QI D cy (cellM cy ad) regsM ad s.heap.size post) args s 0 0 (AM ad s.heap.size)) (F0 m 45 ls [.int y0, .ref (ad 0 0)]) := by
  obtain ⟨hx, hb, -⟩ := id E
  unfold b_X10_nights_45 at hw
  refine g_cVv (As := [.int y0]) (rest := []) E hl.1 (c_X10_goesOnMany l D cy ad ha hw _) ok_X10_goesOnMany mw_1163 ⟨(Nat.le_of_ble_eq_true rfl), (Nat.le_of_ble_eq_true rfl)⟩ ⟨rfl, rfl⟩ rM0 rfl rfl rfl rfl rfl (Nat.le_of_ble_eq_true rfl) ⟨Nat.zero_le _, Nat.zero_le _⟩ hP hS dX10_nights_45 (fun s1 hw H locs hP hS => ?_)
  refine lv_aload_n hx hb dX10_nights_48 rfl (lv_at hl 0 rfl) ?_
  refine fX10_0 E hP mw_946 dX10_nights_49 ?_
  refine lv_bipush (v := 6) hx hb dX10_nights_52 (by decide) ?_
  obtain ⟨h2, hw⟩ := hw
  refine aM1 E hP h2 dX10_nights_54 ?_
  refine lv_iload_n hx hb dX10_nights_55 rfl (lv_at hl 1 rfl) ?_
  refine lv_isub hx hb dX10_nights_56 ?_
  exact g_iret E hw hP hS dX10_nights_57
def w_X10_nights (post : Int32 → St → Prop) (σ : St) (x1 : Int32) : Prop := w_X10_isIn (fun r1 s1 => ((¬ r1 = 0 → (vp_in (6 : Int32) 3082 ∧ (∀ v4 : Int32, v4 = s1 1 0 (6 : Int32).toNatClampNeg → (vp_in (2 : Int32) 3082 ∧ (∀ v6 : Int32, v6 = 9999 - (s1 1 0 (2 : Int32).toNatClampNeg) → (((v6 ≤ x1 → (b_X10_nights_45 post s1 v6 v4)) ∧ (¬ v6 ≤ x1 → (b_X10_nights_45 post s1 x1 v4))))))))) ∧ (r1 = 0 → (post ((-1000000001)) s1)))) σ x1.toInt64 ((1 : Int64)) ((100 : Int64))
theorem B_X10_nights_0 (E : EnvW p s m args meth c D cy regsM ad "RoofWarModel" cX10_nights 4 (some .int)) (ha : Apart regsM ad) {post : Int32 → St → Prop} {σ : St} {x1 : Int32} (hw : w_X10_nights post σ x1) {H : Heap} {locs : List Loc} {ls : Array Slot} (hP : va_P D CLS (wM cy ad σ) H) (hS : va_S (AM ad s.heap.size) s.heap H locs) (hl : lv_has ls 4 [(0, .ref (ad 0 0)), (1, .int x1)]) : W p l e rm_X10_nights s m args below meth c H locs 0 0 (MQ below (QI D cy (cellM cy ad) regsM ad s.heap.size post) args s 0 0 (AM ad s.heap.size)) (F0 m 0 ls []) := by
  obtain ⟨hx, hb, -⟩ := id E
  unfold w_X10_nights at hw
  refine lv_iload_n hx hb dX10_nights_0 rfl (lv_at hl 1 rfl) ?_
  refine lv_i2l (v := x1.toInt64) hx hb dX10_nights_1 rfl ?_
  refine lv_lconst (v := 1) hx hb dX10_nights_2 (by decide) ?_
  refine g_ldc2 (v := 100) E mw_1141 dX10_nights_3 ?_
  refine g_cSi (As := [.long x1.toInt64, .long ((1 : Int64)), .long ((100 : Int64))]) (rest := []) E hl.1 (c_X10_isIn l D cy ad ha hw _) ok_X10_isIn mw_1054 ⟨(Nat.le_of_ble_eq_true rfl), (Nat.le_of_ble_eq_true rfl)⟩ ⟨rfl, rfl⟩ rfl rfl (Nat.le_of_ble_eq_true rfl) ⟨Nat.zero_le _, Nat.zero_le _⟩ hP hS dX10_nights_6 (fun r1 s1 hw H locs hP hS => ?_)
  obtain ⟨z1, hw⟩ := hw
  refine lv_if_ne (tgt := 15) hx hb dX10_nights_9 (by decide) (fun c2 => ?_) (fun c2 => ?_)
  · replace hw := hw.1 c2
    refine lv_aload_n hx hb dX10_nights_15 rfl (lv_at hl 0 rfl) ?_
    refine fX10_0 E hP mw_946 dX10_nights_16 ?_
    refine lv_bipush (v := 6) hx hb dX10_nights_19 (by decide) ?_
    obtain ⟨h3, hw⟩ := hw
    refine aM1 E hP h3 dX10_nights_21 ?_
    refine lv_topi (fun v4 ev4 => ?_)
    replace hw := hw v4 ev4
    refine lv_istore_n (lv' := [(2, .int v4), (0, .ref (ad 0 0)), (1, .int x1)]) hx hb dX10_nights_22 rfl hl (by decide) rfl (fun ls hl => ?_)
    refine lv_sipush (v := 9999) hx hb dX10_nights_23 (by decide) ?_
    refine lv_aload_n hx hb dX10_nights_26 rfl (lv_at hl 1 rfl) ?_
    refine fX10_0 E hP mw_946 dX10_nights_27 ?_
    refine lv_iconst (v := 2) hx hb dX10_nights_30 (by decide) ?_
    obtain ⟨h5, hw⟩ := hw
    refine aM1 E hP h5 dX10_nights_31 ?_
    refine lv_isub hx hb dX10_nights_32 ?_
    refine lv_topi (fun v6 ev6 => ?_)
    replace hw := hw v6 ev6
    refine lv_istore_n (lv' := [(3, .int v6), (2, .int v4), (0, .ref (ad 0 0)), (1, .int x1)]) hx hb dX10_nights_33 rfl hl (by decide) rfl (fun ls hl => ?_)
    refine lv_aload_n hx hb dX10_nights_34 rfl (lv_at hl 2 rfl) ?_
    refine lv_iload_n hx hb dX10_nights_35 rfl (lv_at hl 3 rfl) ?_
    refine lv_iload_n hx hb dX10_nights_36 rfl (lv_at hl 0 rfl) ?_
    refine lv_icmp_ge (tgt := 44) hx hb dX10_nights_37 (by decide) (fun c7 => ?_) (fun c7 => ?_)
    · replace hw := hw.1 c7
      refine lv_iload_n hx hb dX10_nights_44 rfl (lv_at hl 0 rfl) ?_
      exact B_X10_nights_45 E ha hw hP hS (lv_sub hl [2, 1] rfl)
    · replace hw := hw.2 c7
      refine lv_iload_n hx hb dX10_nights_40 rfl (lv_at hl 3 rfl) ?_
      refine lv_goto (tgt := 45) hx hb dX10_nights_41 (by decide) ?_
      exact B_X10_nights_45 E ha hw hP hS (lv_sub hl [2, 1] rfl)
  · replace hw := hw.2 c2
    refine g_ldc (v := -1000000001) E mw_1063 dX10_nights_12 ?_
    exact g_iret E hw hP hS dX10_nights_14
theorem c_X10_nights (l : Launch) (D : va_G) (cy : Nat → ClassId) (ad : Nat → Nat → Nat) (ha : Apart regsM ad) {post : Int32 → St → Prop} {σ : St} {x1 : Int32} (hw : w_X10_nights post σ x1) (sz : Nat) : MetI l yX10_nights cX10_nights 4 .int rm_X10_nights [.ref (ad 0 0), .int x1] D cy (cellM cy ad) regsM ad σ sz post :=
  Met_inI ok_X10_nights.2.2.2.2.2 (Nat.le_of_ble_eq_true rfl) (fun p e s m below meth c ls E hP hl => B_X10_nights_0 E ha hw hP va_S.rf hl)
-- RoofWarModel.leaks()I
theorem dX10_leaks_0 : decode cX10_leaks 0 = .ok (.iconst 0, 1) := by decide +kernel
theorem dX10_leaks_1 : decode cX10_leaks 1 = .ok (.istore_n 1, 1) := by decide +kernel
theorem dX10_leaks_2 : decode cX10_leaks 2 = .ok (.iconst 0, 1) := by decide +kernel
theorem dX10_leaks_3 : decode cX10_leaks 3 = .ok (.istore_n 2, 1) := by decide +kernel
theorem dX10_leaks_4 : decode cX10_leaks 4 = .ok (.iload_n 2, 1) := by decide +kernel
theorem dX10_leaks_5 : decode cX10_leaks 5 = .ok (.aload_n 0, 1) := by decide +kernel
theorem dX10_leaks_6 : decode cX10_leaks 6 = .ok (.getfield 7, 3) := by decide +kernel
theorem dX10_leaks_9 : decode cX10_leaks 9 = .ok (.iconst 0, 1) := by decide +kernel
theorem dX10_leaks_10 : decode cX10_leaks 10 = .ok (.iaload, 1) := by decide +kernel
theorem dX10_leaks_11 : decode cX10_leaks 11 = .ok (.if_icmp .ge 18, 3) := by decide +kernel
theorem dX10_leaks_14 : decode cX10_leaks 14 = .ok (.iload_n 1, 1) := by decide +kernel
theorem dX10_leaks_15 : decode cX10_leaks 15 = .ok (.aload_n 0, 1) := by decide +kernel
theorem dX10_leaks_16 : decode cX10_leaks 16 = .ok (.iload_n 2, 1) := by decide +kernel
theorem dX10_leaks_17 : decode cX10_leaks 17 = .ok (.iconst 2, 1) := by decide +kernel
theorem dX10_leaks_18 : decode cX10_leaks 18 = .ok (.invokevirtual 78, 3) := by decide +kernel
theorem dX10_leaks_21 : decode cX10_leaks 21 = .ok (.iadd, 1) := by decide +kernel
theorem dX10_leaks_22 : decode cX10_leaks 22 = .ok (.istore_n 1, 1) := by decide +kernel
theorem dX10_leaks_23 : decode cX10_leaks 23 = .ok (.iinc 2 1, 3) := by decide +kernel
theorem dX10_leaks_26 : decode cX10_leaks 26 = .ok (.goto (-22), 3) := by decide +kernel
theorem dX10_leaks_29 : decode cX10_leaks 29 = .ok (.iload_n 1, 1) := by decide +kernel
theorem dX10_leaks_30 : decode cX10_leaks 30 = .ok (.ireturn, 1) := by decide +kernel
theorem ok_X10_leaks : okV yX10_leaks cX10_leaks 3 (some .int) 0 := ⟨mw_1222, mw_50, mw_83, mw_1223, by decide +kernel, by decide +kernel⟩
abbrev rm_X10_leaks : Room := { frames := 1, cells := 0, slots := 0, locals := 22 }
def b_X10_leaks_4 (K4 : St → Int32 → Int32 → Prop) (post : Int32 → St → Prop) (σ : St) (x1 : Int32) (x2 : Int32) : Prop := vp_in (0 : Int32) 3082 ∧ ((((σ 1 0 (0 : Int32).toNatClampNeg) ≤ x2 → (post x1 σ)) ∧ (¬ (σ 1 0 (0 : Int32).toNatClampNeg) ≤ x2 → (w_X10_of (fun r3 s3 => ∀ v4 : Int32, v4 = x1 + r3 → (∀ v5 : Int32, v5 = x2 + 1 → (K4 s3 v4 v5))) σ x2 (2 : Int32)))))
noncomputable def l_X10_leaks_4 (post : Int32 → St → Prop) : Nat → St → Int32 → Int32 → Prop := fun n => Nat.rec (motive := fun _ => St → Int32 → Int32 → Prop) (fun _ _ _ => False) (fun _ ih => b_X10_leaks_4 ih post) n
theorem L_X10_leaks_4 (E : EnvW p s m args meth c D cy regsM ad "RoofWarModel" cX10_leaks 3 (some .int)) (ha : Apart regsM ad) {post : Int32 → St → Prop} : ∀ (n : Nat), ∀ (σ : St) (x1 : Int32) (x2 : Int32), l_X10_leaks_4 post n σ x1 x2 → ∀ (H : Heap) (locs : List Loc) (ls : Array Slot), va_P D CLS (wM cy ad σ) H → va_S (AM ad s.heap.size) s.heap H locs → lv_has ls 3 [(0, .ref (ad 0 0)), (1, .int x1), (2, .int x2)] → W p l e rm_X10_leaks s m args below meth c H locs 0 0 (MQ below (QI D cy (cellM cy ad) regsM ad s.heap.size post) args s 0 0 (AM ad s.heap.size)) (F0 m 4 ls []) := by
  obtain ⟨hx, hb, -⟩ := id E
  intro n
  induction n with
  | zero => intro σ x1 x2 hw; exact hw.elim
  | succ n hk4 =>
    intro σ x1 x2 hw H locs ls hP hS hl
    replace hw : b_X10_leaks_4 (l_X10_leaks_4 post n) post σ x1 x2 := hw
    unfold b_X10_leaks_4 at hw
    refine lv_iload_n hx hb dX10_leaks_4 rfl (lv_at hl 2 rfl) ?_
    refine lv_aload_n hx hb dX10_leaks_5 rfl (lv_at hl 0 rfl) ?_
    refine fX10_0 E hP mw_946 dX10_leaks_6 ?_
    refine lv_iconst (v := 0) hx hb dX10_leaks_9 (by decide) ?_
    obtain ⟨h1, hw⟩ := hw
    refine aM1 E hP h1 dX10_leaks_10 ?_
    refine lv_icmp_ge (tgt := 29) hx hb dX10_leaks_11 (by decide) (fun c2 => ?_) (fun c2 => ?_)
    · replace hw := hw.1 c2
      refine lv_iload_n hx hb dX10_leaks_29 rfl (lv_at hl 1 rfl) ?_
      exact g_iret E hw hP hS dX10_leaks_30
    · replace hw := hw.2 c2
      refine lv_iload_n hx hb dX10_leaks_14 rfl (lv_at hl 1 rfl) ?_
      refine lv_aload_n hx hb dX10_leaks_15 rfl (lv_at hl 0 rfl) ?_
      refine lv_iload_n hx hb dX10_leaks_16 rfl (lv_at hl 2 rfl) ?_
      refine lv_iconst (v := 2) hx hb dX10_leaks_17 (by decide) ?_
      refine g_cVi (As := [.int x2, .int 2]) (rest := [.int x1]) E hl.1 (c_X10_of l D cy ad ha hw _) ok_X10_of mw_1067 ⟨(Nat.le_of_ble_eq_true rfl), (Nat.le_of_ble_eq_true rfl)⟩ ⟨rfl, rfl⟩ rM0 rfl rfl rfl rfl rfl (Nat.le_of_ble_eq_true rfl) ⟨Nat.zero_le _, Nat.zero_le _⟩ hP hS dX10_leaks_18 (fun r3 s3 hw H locs hP hS => ?_)
      refine lv_iadd hx hb dX10_leaks_21 ?_
      refine lv_topi (fun v4 ev4 => ?_)
      replace hw := hw v4 ev4
      refine lv_istore_n (lv' := [(1, .int v4), (0, .ref (ad 0 0)), (2, .int x2)]) hx hb dX10_leaks_22 rfl hl (by decide) rfl (fun ls hl => ?_)
      obtain ⟨v5, ev5⟩ : ∃ y : Int32, y = x2 + 1 := ⟨_, rfl⟩
      replace hw := hw v5 ev5
      refine lv_iinc (v := v5) (lv' := [(2, .int v5), (1, .int v4), (0, .ref (ad 0 0))]) hx hb dX10_leaks_23 hl (k := 2) rfl (by rw [ev5]; rfl) (by decide) rfl (fun ls hl => ?_)
      refine lv_goto (tgt := 4) hx hb dX10_leaks_26 (by decide) ?_
      exact hk4 s3 v4 v5 hw _ _ _ hP hS (lv_sub hl [2, 1, 0] rfl)
def w_X10_leaks (post : Int32 → St → Prop) (σ : St) : Prop := ∃ n1 : Nat, l_X10_leaks_4 post n1 σ (0 : Int32) (0 : Int32)
theorem B_X10_leaks_0 (E : EnvW p s m args meth c D cy regsM ad "RoofWarModel" cX10_leaks 3 (some .int)) (ha : Apart regsM ad) {post : Int32 → St → Prop} {σ : St} (hw : w_X10_leaks post σ) {H : Heap} {locs : List Loc} {ls : Array Slot} (hP : va_P D CLS (wM cy ad σ) H) (hS : va_S (AM ad s.heap.size) s.heap H locs) (hl : lv_has ls 3 [(0, .ref (ad 0 0))]) : W p l e rm_X10_leaks s m args below meth c H locs 0 0 (MQ below (QI D cy (cellM cy ad) regsM ad s.heap.size post) args s 0 0 (AM ad s.heap.size)) (F0 m 0 ls []) := by
  obtain ⟨hx, hb, -⟩ := id E
  unfold w_X10_leaks at hw
  refine lv_iconst (v := 0) hx hb dX10_leaks_0 (by decide) ?_
  refine lv_istore_n (lv' := [(1, .int 0), (0, .ref (ad 0 0))]) hx hb dX10_leaks_1 rfl hl (by decide) rfl (fun ls hl => ?_)
  refine lv_iconst (v := 0) hx hb dX10_leaks_2 (by decide) ?_
  refine lv_istore_n (lv' := [(2, .int 0), (1, .int 0), (0, .ref (ad 0 0))]) hx hb dX10_leaks_3 rfl hl (by decide) rfl (fun ls hl => ?_)
  obtain ⟨n1, hw⟩ := hw
  exact L_X10_leaks_4 E ha n1 σ (0 : Int32) (0 : Int32) hw _ _ _ hP hS (lv_sub hl [2, 1, 0] rfl)
theorem c_X10_leaks (l : Launch) (D : va_G) (cy : Nat → ClassId) (ad : Nat → Nat → Nat) (ha : Apart regsM ad) {post : Int32 → St → Prop} {σ : St} (hw : w_X10_leaks post σ) (sz : Nat) : MetI l yX10_leaks cX10_leaks 3 .int rm_X10_leaks [.ref (ad 0 0)] D cy (cellM cy ad) regsM ad σ sz post :=
  Met_inI ok_X10_leaks.2.2.2.2.2 (Nat.le_of_ble_eq_true rfl) (fun p e s m below meth c ls E hP hl => B_X10_leaks_0 E ha hw hP va_S.rf hl)
-- RoofWarModel.hillOf(I)I
theorem dX10_hillOf_0 : decode cX10_hillOf 0 = .ok (.iload_n 1, 1) := by decide +kernel
theorem dX10_hillOf_1 : decode cX10_hillOf 1 = .ok (.iconst 3, 1) := by decide +kernel
theorem dX10_hillOf_2 : decode cX10_hillOf 2 = .ok (.if_icmp .ge 15, 3) := by decide +kernel
theorem dX10_hillOf_5 : decode cX10_hillOf 5 = .ok (.aload_n 0, 1) := by decide +kernel
theorem dX10_hillOf_6 : decode cX10_hillOf 6 = .ok (.getfield 7, 3) := by decide +kernel
theorem dX10_hillOf_9 : decode cX10_hillOf 9 = .ok (.bipush 6, 2) := by decide +kernel
theorem dX10_hillOf_11 : decode cX10_hillOf 11 = .ok (.iload_n 1, 1) := by decide +kernel
theorem dX10_hillOf_12 : decode cX10_hillOf 12 = .ok (.iadd, 1) := by decide +kernel
theorem dX10_hillOf_13 : decode cX10_hillOf 13 = .ok (.iaload, 1) := by decide +kernel
theorem dX10_hillOf_14 : decode cX10_hillOf 14 = .ok (.goto 22, 3) := by decide +kernel
theorem dX10_hillOf_17 : decode cX10_hillOf 17 = .ok (.iload_n 1, 1) := by decide +kernel
theorem dX10_hillOf_18 : decode cX10_hillOf 18 = .ok (.iconst 5, 1) := by decide +kernel
theorem dX10_hillOf_19 : decode cX10_hillOf 19 = .ok (.if_icmp .ge 13, 3) := by decide +kernel
theorem dX10_hillOf_22 : decode cX10_hillOf 22 = .ok (.aload_n 0, 1) := by decide +kernel
theorem dX10_hillOf_23 : decode cX10_hillOf 23 = .ok (.iload_n 1, 1) := by decide +kernel
theorem dX10_hillOf_24 : decode cX10_hillOf 24 = .ok (.iconst 3, 1) := by decide +kernel
theorem dX10_hillOf_25 : decode cX10_hillOf 25 = .ok (.isub, 1) := by decide +kernel
theorem dX10_hillOf_26 : decode cX10_hillOf 26 = .ok (.invokevirtual 197, 3) := by decide +kernel
theorem dX10_hillOf_29 : decode cX10_hillOf 29 = .ok (.goto 7, 3) := by decide +kernel
theorem dX10_hillOf_32 : decode cX10_hillOf 32 = .ok (.aload_n 0, 1) := by decide +kernel
theorem dX10_hillOf_33 : decode cX10_hillOf 33 = .ok (.invokevirtual 200, 3) := by decide +kernel
theorem dX10_hillOf_36 : decode cX10_hillOf 36 = .ok (.ireturn, 1) := by decide +kernel
theorem ok_X10_hillOf : okV yX10_hillOf cX10_hillOf 2 (some .int) 1 := ⟨mw_1216, mw_48, mw_83, mw_1217, by decide +kernel, by decide +kernel⟩
abbrev rm_X10_hillOf : Room := { frames := 4, cells := 0, slots := 0, locals := 89 }
def w_X10_hillOf (post : Int32 → St → Prop) (σ : St) (x1 : Int32) : Prop := ((3 ≤ x1 → (((5 ≤ x1 → (w_X10_leaks (fun r3 s3 => post r3 s3) σ)) ∧ (¬ 5 ≤ x1 → (w_X10_dryOf (fun r4 s4 => post r4 s4) σ (x1 - 3)))))) ∧ (¬ 3 ≤ x1 → (vp_in (6 + x1) 3082 ∧ (post (σ 1 0 (6 + x1).toNatClampNeg) σ))))
theorem B_X10_hillOf_0 (E : EnvW p s m args meth c D cy regsM ad "RoofWarModel" cX10_hillOf 2 (some .int)) (ha : Apart regsM ad) {post : Int32 → St → Prop} {σ : St} {x1 : Int32} (hw : w_X10_hillOf post σ x1) {H : Heap} {locs : List Loc} {ls : Array Slot} (hP : va_P D CLS (wM cy ad σ) H) (hS : va_S (AM ad s.heap.size) s.heap H locs) (hl : lv_has ls 2 [(0, .ref (ad 0 0)), (1, .int x1)]) : W p l e rm_X10_hillOf s m args below meth c H locs 0 0 (MQ below (QI D cy (cellM cy ad) regsM ad s.heap.size post) args s 0 0 (AM ad s.heap.size)) (F0 m 0 ls []) := by
  obtain ⟨hx, hb, -⟩ := id E
  unfold w_X10_hillOf at hw
  refine lv_iload_n hx hb dX10_hillOf_0 rfl (lv_at hl 1 rfl) ?_
  refine lv_iconst (v := 3) hx hb dX10_hillOf_1 (by decide) ?_
  refine lv_icmp_ge (tgt := 17) hx hb dX10_hillOf_2 (by decide) (fun c1 => ?_) (fun c1 => ?_)
  · replace hw := hw.1 c1
    refine lv_iload_n hx hb dX10_hillOf_17 rfl (lv_at hl 1 rfl) ?_
    refine lv_iconst (v := 5) hx hb dX10_hillOf_18 (by decide) ?_
    refine lv_icmp_ge (tgt := 32) hx hb dX10_hillOf_19 (by decide) (fun c2 => ?_) (fun c2 => ?_)
    · replace hw := hw.1 c2
      refine lv_aload_n hx hb dX10_hillOf_32 rfl (lv_at hl 0 rfl) ?_
      refine g_cVi (As := []) (rest := []) E hl.1 (c_X10_leaks l D cy ad ha hw _) ok_X10_leaks mw_1221 ⟨(Nat.le_of_ble_eq_true rfl), (Nat.le_of_ble_eq_true rfl)⟩ ⟨rfl, rfl⟩ rM0 rfl rfl rfl rfl rfl (Nat.le_of_ble_eq_true rfl) ⟨Nat.zero_le _, Nat.zero_le _⟩ hP hS dX10_hillOf_33 (fun r3 s3 hw H locs hP hS => ?_)
      exact g_iret E hw hP hS dX10_hillOf_36
    · replace hw := hw.2 c2
      refine lv_aload_n hx hb dX10_hillOf_22 rfl (lv_at hl 0 rfl) ?_
      refine lv_iload_n hx hb dX10_hillOf_23 rfl (lv_at hl 1 rfl) ?_
      refine lv_iconst (v := 3) hx hb dX10_hillOf_24 (by decide) ?_
      refine lv_isub hx hb dX10_hillOf_25 ?_
      refine g_cVi (As := [.int (x1 - 3)]) (rest := []) E hl.1 (c_X10_dryOf l D cy ad ha hw _) ok_X10_dryOf mw_1218 ⟨(Nat.le_of_ble_eq_true rfl), (Nat.le_of_ble_eq_true rfl)⟩ ⟨rfl, rfl⟩ rM0 rfl rfl rfl rfl rfl (Nat.le_of_ble_eq_true rfl) ⟨Nat.zero_le _, Nat.zero_le _⟩ hP hS dX10_hillOf_26 (fun r4 s4 hw H locs hP hS => ?_)
      refine lv_goto (tgt := 36) hx hb dX10_hillOf_29 (by decide) ?_
      exact g_iret E hw hP hS dX10_hillOf_36
  · replace hw := hw.2 c1
    refine lv_aload_n hx hb dX10_hillOf_5 rfl (lv_at hl 0 rfl) ?_
    refine fX10_0 E hP mw_946 dX10_hillOf_6 ?_
    refine lv_bipush (v := 6) hx hb dX10_hillOf_9 (by decide) ?_
    refine lv_iload_n hx hb dX10_hillOf_11 rfl (lv_at hl 1 rfl) ?_
    refine lv_iadd hx hb dX10_hillOf_12 ?_
    obtain ⟨h5, hw⟩ := hw
    refine aM1 E hP h5 dX10_hillOf_13 ?_
    refine lv_goto (tgt := 36) hx hb dX10_hillOf_14 (by decide) ?_
    exact g_iret E hw hP hS dX10_hillOf_36
theorem c_X10_hillOf (l : Launch) (D : va_G) (cy : Nat → ClassId) (ad : Nat → Nat → Nat) (ha : Apart regsM ad) {post : Int32 → St → Prop} {σ : St} {x1 : Int32} (hw : w_X10_hillOf post σ x1) (sz : Nat) : MetI l yX10_hillOf cX10_hillOf 2 .int rm_X10_hillOf [.ref (ad 0 0), .int x1] D cy (cellM cy ad) regsM ad σ sz post :=
  Met_inI ok_X10_hillOf.2.2.2.2.2 (Nat.le_of_ble_eq_true rfl) (fun p e s m below meth c ls E hP hl => B_X10_hillOf_0 E ha hw hP va_S.rf hl)
end WalkM1
