section WalkR
variable {p : Program} {l : Launch} {e : Env} {s : State} {m : MethodId} {args : Array Value} {below : List Frame} {meth : Method} {c : Code} {D : va_G} {cy : Nat → ClassId} {ad : Nat → Nat → Nat}
-- RoofWar.within(III)Z
theorem dX9_within_0 : decode cX9_within 0 = .ok (.iload_n 0, 1) := by decide +kernel
theorem dX9_within_1 : decode cX9_within 1 = .ok (.iload_n 1, 1) := by decide +kernel
theorem dX9_within_2 : decode cX9_within 2 = .ok (.if_icmp .lt 12, 3) := by decide +kernel
theorem dX9_within_5 : decode cX9_within 5 = .ok (.iload_n 0, 1) := by decide +kernel
theorem dX9_within_6 : decode cX9_within 6 = .ok (.iload_n 2, 1) := by decide +kernel
theorem dX9_within_7 : decode cX9_within 7 = .ok (.if_icmp .gt 7, 3) := by decide +kernel
theorem dX9_within_10 : decode cX9_within 10 = .ok (.iconst 1, 1) := by decide +kernel
theorem dX9_within_11 : decode cX9_within 11 = .ok (.goto 4, 3) := by decide +kernel
theorem dX9_within_14 : decode cX9_within 14 = .ok (.iconst 0, 1) := by decide +kernel
theorem dX9_within_15 : decode cX9_within 15 = .ok (.ireturn, 1) := by decide +kernel
theorem ok_X9_within : okS yX9_within cX9_within 3 (some .boolean) 3 := ⟨mw_371, mw_74, mw_372, by decide +kernel, by decide +kernel⟩
abbrev rm_X9_within : Room := { frames := 0, cells := 0, slots := 0, locals := 0 }
def w_X9_within (post : Int32 → St → Prop) (σ : St) (x0 : Int32) (x1 : Int32) (x2 : Int32) : Prop := ((x0 < x1 → (post 0 σ)) ∧ (¬ x0 < x1 → (((x2 < x0 → (post 0 σ)) ∧ (¬ x2 < x0 → (post 1 σ))))))
theorem B_X9_within_0 (E : EnvW p s m args meth c D cy regsC ad "RoofWar" cX9_within 3 (some .boolean)) (ha : Apart regsC ad) {post : Int32 → St → Prop} {σ : St} {x0 : Int32} {x1 : Int32} {x2 : Int32} (hw : w_X9_within post σ x0 x1 x2) {H : Heap} {locs : List Loc} {ls : Array Slot} (hP : va_P D CLS (wC cy ad σ) H) (hS : va_S (AC ad s.heap.size) s.heap H locs) (hl : lv_has ls 3 [(0, .int x0), (1, .int x1), (2, .int x2)]) : W p l e rm_X9_within s m args below meth c H locs 0 0 (MQ below (QI D cy (cellC cy ad) regsC ad s.heap.size (fun r u => (r = 0 ∨ r = 1) ∧ post r u)) args s 0 0 (AC ad s.heap.size)) (F0 m 0 ls []) := by
  obtain ⟨hx, hb, -⟩ := id E
  unfold w_X9_within at hw
  refine lv_iload_n hx hb dX9_within_0 rfl (lv_at hl 0 rfl) ?_
  refine lv_iload_n hx hb dX9_within_1 rfl (lv_at hl 1 rfl) ?_
  refine lv_icmp_lt (tgt := 14) hx hb dX9_within_2 (by decide) (fun c1 => ?_) (fun c1 => ?_)
  · replace hw := hw.1 c1
    refine lv_iconst (v := 0) hx hb dX9_within_14 (by decide) ?_
    exact g_zret E (Or.inl rfl) hw hP hS dX9_within_15
  · replace hw := hw.2 c1
    refine lv_iload_n hx hb dX9_within_5 rfl (lv_at hl 0 rfl) ?_
    refine lv_iload_n hx hb dX9_within_6 rfl (lv_at hl 2 rfl) ?_
    refine lv_icmp_gt (tgt := 14) hx hb dX9_within_7 (by decide) (fun c2 => ?_) (fun c2 => ?_)
    · replace hw := hw.1 c2
      refine lv_iconst (v := 0) hx hb dX9_within_14 (by decide) ?_
      exact g_zret E (Or.inl rfl) hw hP hS dX9_within_15
    · replace hw := hw.2 c2
      refine lv_iconst (v := 1) hx hb dX9_within_10 (by decide) ?_
      refine lv_goto (tgt := 15) hx hb dX9_within_11 (by decide) ?_
      exact g_zret E (Or.inr rfl) hw hP hS dX9_within_15
theorem c_X9_within (l : Launch) (D : va_G) (cy : Nat → ClassId) (ad : Nat → Nat → Nat) (ha : Apart regsC ad) {post : Int32 → St → Prop} {σ : St} {x0 : Int32} {x1 : Int32} {x2 : Int32} (hw : w_X9_within post σ x0 x1 x2) (sz : Nat) : MetI l yX9_within cX9_within 3 .boolean rm_X9_within [.int x0, .int x1, .int x2] D cy (cellC cy ad) regsC ad σ sz (fun r u => (r = 0 ∨ r = 1) ∧ post r u) :=
  Met_inI ok_X9_within.2.2.2.2 (Nat.le_of_ble_eq_true rfl) (fun p e s m below meth c ls E hP hl => B_X9_within_0 E ha hw hP va_S.rf hl)
-- RoofWar.isKind(I)Z
theorem dX9_isKind_0 : decode cX9_isKind 0 = .ok (.iload_n 0, 1) := by decide +kernel
theorem dX9_isKind_1 : decode cX9_isKind 1 = .ok (.iconst 0, 1) := by decide +kernel
theorem dX9_isKind_2 : decode cX9_isKind 2 = .ok (.iconst 5, 1) := by decide +kernel
theorem dX9_isKind_3 : decode cX9_isKind 3 = .ok (.invokestatic 87, 3) := by decide +kernel
theorem dX9_isKind_6 : decode cX9_isKind 6 = .ok (.ireturn, 1) := by decide +kernel
theorem ok_X9_isKind : okS yX9_isKind cX9_isKind 1 (some .boolean) 1 := ⟨mw_368, mw_74, mw_369, by decide +kernel, by decide +kernel⟩
abbrev rm_X9_isKind : Room := { frames := 1, cells := 0, slots := 0, locals := 22 }
def w_X9_isKind (post : Int32 → St → Prop) (σ : St) (x0 : Int32) : Prop := w_X9_within (fun r1 s1 => post r1 s1) σ x0 (0 : Int32) (5 : Int32)
theorem B_X9_isKind_0 (E : EnvW p s m args meth c D cy regsC ad "RoofWar" cX9_isKind 1 (some .boolean)) (ha : Apart regsC ad) {post : Int32 → St → Prop} {σ : St} {x0 : Int32} (hw : w_X9_isKind post σ x0) {H : Heap} {locs : List Loc} {ls : Array Slot} (hP : va_P D CLS (wC cy ad σ) H) (hS : va_S (AC ad s.heap.size) s.heap H locs) (hl : lv_has ls 1 [(0, .int x0)]) : W p l e rm_X9_isKind s m args below meth c H locs 0 0 (MQ below (QI D cy (cellC cy ad) regsC ad s.heap.size (fun r u => (r = 0 ∨ r = 1) ∧ post r u)) args s 0 0 (AC ad s.heap.size)) (F0 m 0 ls []) := by
  obtain ⟨hx, hb, -⟩ := id E
  unfold w_X9_isKind at hw
  refine lv_iload_n hx hb dX9_isKind_0 rfl (lv_at hl 0 rfl) ?_
  refine lv_iconst (v := 0) hx hb dX9_isKind_1 (by decide) ?_
  refine lv_iconst (v := 5) hx hb dX9_isKind_2 (by decide) ?_
  refine g_cSi (As := [.int x0, .int 0, .int 5]) (rest := []) E hl.1 (c_X9_within l D cy ad ha hw _) ok_X9_within mw_370 ⟨(Nat.le_of_ble_eq_true rfl), (Nat.le_of_ble_eq_true rfl)⟩ ⟨rfl, rfl⟩ rfl rfl (Nat.le_of_ble_eq_true rfl) ⟨Nat.zero_le _, Nat.zero_le _⟩ hP hS dX9_isKind_3 (fun r1 s1 hw H locs hP hS => ?_)
  obtain ⟨z1, hw⟩ := hw
  exact g_zret E z1 hw hP hS dX9_isKind_6
theorem c_X9_isKind (l : Launch) (D : va_G) (cy : Nat → ClassId) (ad : Nat → Nat → Nat) (ha : Apart regsC ad) {post : Int32 → St → Prop} {σ : St} {x0 : Int32} (hw : w_X9_isKind post σ x0) (sz : Nat) : MetI l yX9_isKind cX9_isKind 1 .boolean rm_X9_isKind [.int x0] D cy (cellC cy ad) regsC ad σ sz (fun r u => (r = 0 ∨ r = 1) ∧ post r u) :=
  Met_inI ok_X9_isKind.2.2.2.2 (Nat.le_of_ble_eq_true rfl) (fun p e s m below meth c ls E hP hl => B_X9_isKind_0 E ha hw hP va_S.rf hl)
-- RoofWar.isHouse(I)Z
theorem dX9_isHouse_0 : decode cX9_isHouse 0 = .ok (.iload_n 0, 1) := by decide +kernel
theorem dX9_isHouse_1 : decode cX9_isHouse 1 = .ok (.iconst 0, 1) := by decide +kernel
theorem dX9_isHouse_2 : decode cX9_isHouse 2 = .ok (.bipush 11, 2) := by decide +kernel
theorem dX9_isHouse_4 : decode cX9_isHouse 4 = .ok (.invokestatic 87, 3) := by decide +kernel
theorem dX9_isHouse_7 : decode cX9_isHouse 7 = .ok (.ireturn, 1) := by decide +kernel
theorem ok_X9_isHouse : okS yX9_isHouse cX9_isHouse 1 (some .boolean) 1 := ⟨mw_374, mw_74, mw_375, by decide +kernel, by decide +kernel⟩
abbrev rm_X9_isHouse : Room := { frames := 1, cells := 0, slots := 0, locals := 22 }
def w_X9_isHouse (post : Int32 → St → Prop) (σ : St) (x0 : Int32) : Prop := w_X9_within (fun r1 s1 => post r1 s1) σ x0 (0 : Int32) (11 : Int32)
theorem B_X9_isHouse_0 (E : EnvW p s m args meth c D cy regsC ad "RoofWar" cX9_isHouse 1 (some .boolean)) (ha : Apart regsC ad) {post : Int32 → St → Prop} {σ : St} {x0 : Int32} (hw : w_X9_isHouse post σ x0) {H : Heap} {locs : List Loc} {ls : Array Slot} (hP : va_P D CLS (wC cy ad σ) H) (hS : va_S (AC ad s.heap.size) s.heap H locs) (hl : lv_has ls 1 [(0, .int x0)]) : W p l e rm_X9_isHouse s m args below meth c H locs 0 0 (MQ below (QI D cy (cellC cy ad) regsC ad s.heap.size (fun r u => (r = 0 ∨ r = 1) ∧ post r u)) args s 0 0 (AC ad s.heap.size)) (F0 m 0 ls []) := by
  obtain ⟨hx, hb, -⟩ := id E
  unfold w_X9_isHouse at hw
  refine lv_iload_n hx hb dX9_isHouse_0 rfl (lv_at hl 0 rfl) ?_
  refine lv_iconst (v := 0) hx hb dX9_isHouse_1 (by decide) ?_
  refine lv_bipush (v := 11) hx hb dX9_isHouse_2 (by decide) ?_
  refine g_cSi (As := [.int x0, .int 0, .int 11]) (rest := []) E hl.1 (c_X9_within l D cy ad ha hw _) ok_X9_within mw_370 ⟨(Nat.le_of_ble_eq_true rfl), (Nat.le_of_ble_eq_true rfl)⟩ ⟨rfl, rfl⟩ rfl rfl (Nat.le_of_ble_eq_true rfl) ⟨Nat.zero_le _, Nat.zero_le _⟩ hP hS dX9_isHouse_4 (fun r1 s1 hw H locs hP hS => ?_)
  obtain ⟨z1, hw⟩ := hw
  exact g_zret E z1 hw hP hS dX9_isHouse_7
theorem c_X9_isHouse (l : Launch) (D : va_G) (cy : Nat → ClassId) (ad : Nat → Nat → Nat) (ha : Apart regsC ad) {post : Int32 → St → Prop} {σ : St} {x0 : Int32} (hw : w_X9_isHouse post σ x0) (sz : Nat) : MetI l yX9_isHouse cX9_isHouse 1 .boolean rm_X9_isHouse [.int x0] D cy (cellC cy ad) regsC ad σ sz (fun r u => (r = 0 ∨ r = 1) ∧ post r u) :=
  Met_inI ok_X9_isHouse.2.2.2.2 (Nat.le_of_ble_eq_true rfl) (fun p e s m below meth c ls E hP hl => B_X9_isHouse_0 E ha hw hP va_S.rf hl)
-- RoofWar.roof(IIII)I
theorem dX9_roof_0 : decode cX9_roof 0 = .ok (.iload_n 1, 1) := by decide +kernel
theorem dX9_roof_1 : decode cX9_roof 1 = .ok (.invokestatic 83, 3) := by decide +kernel
theorem dX9_roof_4 : decode cX9_roof 4 = .ok (.ifCond .eq 31, 3) := by decide +kernel
theorem dX9_roof_7 : decode cX9_roof 7 = .ok (.iload_n 2, 1) := by decide +kernel
theorem dX9_roof_8 : decode cX9_roof 8 = .ok (.iconst 1, 1) := by decide +kernel
theorem dX9_roof_9 : decode cX9_roof 9 = .ok (.bipush 9, 2) := by decide +kernel
theorem dX9_roof_11 : decode cX9_roof 11 = .ok (.invokestatic 87, 3) := by decide +kernel
theorem dX9_roof_14 : decode cX9_roof 14 = .ok (.ifCond .eq 21, 3) := by decide +kernel
theorem dX9_roof_17 : decode cX9_roof 17 = .ok (.iload_n 3, 1) := by decide +kernel
theorem dX9_roof_18 : decode cX9_roof 18 = .ok (.iconst 0, 1) := by decide +kernel
theorem dX9_roof_19 : decode cX9_roof 19 = .ok (.bipush 99, 2) := by decide +kernel
theorem dX9_roof_21 : decode cX9_roof 21 = .ok (.invokestatic 87, 3) := by decide +kernel
theorem dX9_roof_24 : decode cX9_roof 24 = .ok (.ifCond .eq 11, 3) := by decide +kernel
theorem dX9_roof_27 : decode cX9_roof 27 = .ok (.iload 4, 2) := by decide +kernel
theorem dX9_roof_29 : decode cX9_roof 29 = .ok (.invokestatic 91, 3) := by decide +kernel
theorem dX9_roof_32 : decode cX9_roof 32 = .ok (.ifCond .ne 6, 3) := by decide +kernel
theorem dX9_roof_35 : decode cX9_roof 35 = .ok (.ldc 94, 2) := by decide +kernel
theorem dX9_roof_37 : decode cX9_roof 37 = .ok (.ireturn, 1) := by decide +kernel
theorem dX9_roof_38 : decode cX9_roof 38 = .ok (.aload_n 0, 1) := by decide +kernel
theorem dX9_roof_39 : decode cX9_roof 39 = .ok (.getfield 21, 3) := by decide +kernel
theorem dX9_roof_42 : decode cX9_roof 42 = .ok (.getfield 95, 3) := by decide +kernel
theorem dX9_roof_45 : decode cX9_roof 45 = .ok (.iload 4, 2) := by decide +kernel
theorem dX9_roof_47 : decode cX9_roof 47 = .ok (.iaload, 1) := by decide +kernel
theorem dX9_roof_48 : decode cX9_roof 48 = .ok (.ldc 98, 2) := by decide +kernel
theorem dX9_roof_50 : decode cX9_roof 50 = .ok (.if_icmp .eq 6, 3) := by decide +kernel
theorem dX9_roof_53 : decode cX9_roof 53 = .ok (.ldc 99, 2) := by decide +kernel
theorem dX9_roof_55 : decode cX9_roof 55 = .ok (.ireturn, 1) := by decide +kernel
theorem dX9_roof_56 : decode cX9_roof 56 = .ok (.aload_n 0, 1) := by decide +kernel
theorem dX9_roof_57 : decode cX9_roof 57 = .ok (.getfield 21, 3) := by decide +kernel
theorem dX9_roof_60 : decode cX9_roof 60 = .ok (.getfield 100, 3) := by decide +kernel
theorem dX9_roof_63 : decode cX9_roof 63 = .ok (.bipush 12, 2) := by decide +kernel
theorem dX9_roof_65 : decode cX9_roof 65 = .ok (.if_icmp .lt 6, 3) := by decide +kernel
theorem dX9_roof_68 : decode cX9_roof 68 = .ok (.ldc 103, 2) := by decide +kernel
theorem dX9_roof_70 : decode cX9_roof 70 = .ok (.ireturn, 1) := by decide +kernel
theorem dX9_roof_71 : decode cX9_roof 71 = .ok (.aload_n 0, 1) := by decide +kernel
theorem dX9_roof_72 : decode cX9_roof 72 = .ok (.getfield 21, 3) := by decide +kernel
theorem dX9_roof_75 : decode cX9_roof 75 = .ok (.iload_n 1, 1) := by decide +kernel
theorem dX9_roof_76 : decode cX9_roof 76 = .ok (.iload_n 2, 1) := by decide +kernel
theorem dX9_roof_77 : decode cX9_roof 77 = .ok (.iload_n 3, 1) := by decide +kernel
theorem dX9_roof_78 : decode cX9_roof 78 = .ok (.iload 4, 2) := by decide +kernel
theorem dX9_roof_80 : decode cX9_roof 80 = .ok (.invokevirtual 104, 3) := by decide +kernel
theorem dX9_roof_83 : decode cX9_roof 83 = .ok (.ireturn, 1) := by decide +kernel
theorem ok_X9_roof : okV yX9_roof cX9_roof 5 (some .int) 4 := ⟨mw_364, mw_365, mw_74, mw_366, by decide +kernel, by decide +kernel⟩
abbrev rm_X9_roof : Room := { frames := 2, cells := 0, slots := 0, locals := 42 }
def w_X9_roof (post : Int32 → St → Prop) (σ : St) (x1 : Int32) (x2 : Int32) (x3 : Int32) (x4 : Int32) : Prop := w_X9_isKind (fun r1 s1 => ((r1 = 0 → (post ((-1000000001)) s1)) ∧ (¬ r1 = 0 → (w_X9_within (fun r3 s3 => ((r3 = 0 → (post ((-1000000001)) s3)) ∧ (¬ r3 = 0 → (w_X9_within (fun r5 s5 => ((r5 = 0 → (post ((-1000000001)) s5)) ∧ (¬ r5 = 0 → (w_X9_isHouse (fun r7 s7 => ((¬ r7 = 0 → (vp_in x4 12 ∧ ((((s7 12 0 x4.toNatClampNeg) = ((-1000000005)) → ((((s7 5 0 0) < 12 → (w_X1_build (fun r12 s12 => post r12 s12) s7 0 x1 x2 x3 x4)) ∧ (¬ (s7 5 0 0) < 12 → (post ((-1000000003)) s7))))) ∧ (¬ (s7 12 0 x4.toNatClampNeg) = ((-1000000005)) → (post ((-1000000002)) s7)))))) ∧ (r7 = 0 → (post ((-1000000001)) s7)))) s5 x4)))) s3 x3 (0 : Int32) (99 : Int32))))) s1 x2 (1 : Int32) (9 : Int32))))) σ x1
theorem B_X9_roof_0 (E : EnvW p s m args meth c D cy regsC ad "RoofWar" cX9_roof 5 (some .int)) (ha : Apart regsC ad) {post : Int32 → St → Prop} {σ : St} {x1 : Int32} {x2 : Int32} {x3 : Int32} {x4 : Int32} (hw : w_X9_roof post σ x1 x2 x3 x4) {H : Heap} {locs : List Loc} {ls : Array Slot} (hP : va_P D CLS (wC cy ad σ) H) (hS : va_S (AC ad s.heap.size) s.heap H locs) (hl : lv_has ls 5 [(0, .ref (ad 0 0)), (1, .int x1), (2, .int x2), (3, .int x3), (4, .int x4)]) : W p l e rm_X9_roof s m args below meth c H locs 0 0 (MQ below (QI D cy (cellC cy ad) regsC ad s.heap.size post) args s 0 0 (AC ad s.heap.size)) (F0 m 0 ls []) := by
  obtain ⟨hx, hb, -⟩ := id E
  unfold w_X9_roof at hw
  refine lv_iload_n hx hb dX9_roof_0 rfl (lv_at hl 1 rfl) ?_
  refine g_cSi (As := [.int x1]) (rest := []) E hl.1 (c_X9_isKind l D cy ad ha hw _) ok_X9_isKind mw_367 ⟨(Nat.le_of_ble_eq_true rfl), (Nat.le_of_ble_eq_true rfl)⟩ ⟨rfl, rfl⟩ rfl rfl (Nat.le_of_ble_eq_true rfl) ⟨Nat.zero_le _, Nat.zero_le _⟩ hP hS dX9_roof_1 (fun r1 s1 hw H locs hP hS => ?_)
  obtain ⟨z1, hw⟩ := hw
  refine lv_if_eq (tgt := 35) hx hb dX9_roof_4 (by decide) (fun c2 => ?_) (fun c2 => ?_)
  · replace hw := hw.1 c2
    refine g_ldc (v := -1000000001) E mw_376 dX9_roof_35 ?_
    exact g_iret E hw hP hS dX9_roof_37
  · replace hw := hw.2 c2
    refine lv_iload_n hx hb dX9_roof_7 rfl (lv_at hl 2 rfl) ?_
    refine lv_iconst (v := 1) hx hb dX9_roof_8 (by decide) ?_
    refine lv_bipush (v := 9) hx hb dX9_roof_9 (by decide) ?_
    refine g_cSi (As := [.int x2, .int 1, .int 9]) (rest := []) E hl.1 (c_X9_within l D cy ad ha hw _) ok_X9_within mw_370 ⟨(Nat.le_of_ble_eq_true rfl), (Nat.le_of_ble_eq_true rfl)⟩ ⟨rfl, rfl⟩ rfl rfl (Nat.le_of_ble_eq_true rfl) ⟨Nat.zero_le _, Nat.zero_le _⟩ hP hS dX9_roof_11 (fun r3 s3 hw H locs hP hS => ?_)
    obtain ⟨z3, hw⟩ := hw
    refine lv_if_eq (tgt := 35) hx hb dX9_roof_14 (by decide) (fun c4 => ?_) (fun c4 => ?_)
    · replace hw := hw.1 c4
      refine g_ldc (v := -1000000001) E mw_376 dX9_roof_35 ?_
      exact g_iret E hw hP hS dX9_roof_37
    · replace hw := hw.2 c4
      refine lv_iload_n hx hb dX9_roof_17 rfl (lv_at hl 3 rfl) ?_
      refine lv_iconst (v := 0) hx hb dX9_roof_18 (by decide) ?_
      refine lv_bipush (v := 99) hx hb dX9_roof_19 (by decide) ?_
      refine g_cSi (As := [.int x3, .int 0, .int 99]) (rest := []) E hl.1 (c_X9_within l D cy ad ha hw _) ok_X9_within mw_370 ⟨(Nat.le_of_ble_eq_true rfl), (Nat.le_of_ble_eq_true rfl)⟩ ⟨rfl, rfl⟩ rfl rfl (Nat.le_of_ble_eq_true rfl) ⟨Nat.zero_le _, Nat.zero_le _⟩ hP hS dX9_roof_21 (fun r5 s5 hw H locs hP hS => ?_)
      obtain ⟨z5, hw⟩ := hw
      refine lv_if_eq (tgt := 35) hx hb dX9_roof_24 (by decide) (fun c6 => ?_) (fun c6 => ?_)
      · replace hw := hw.1 c6
        refine g_ldc (v := -1000000001) E mw_376 dX9_roof_35 ?_
        exact g_iret E hw hP hS dX9_roof_37
      · replace hw := hw.2 c6
        refine lv_iload hx hb dX9_roof_27 (lv_at hl 4 rfl) ?_
        refine g_cSi (As := [.int x4]) (rest := []) E hl.1 (c_X9_isHouse l D cy ad ha hw _) ok_X9_isHouse mw_373 ⟨(Nat.le_of_ble_eq_true rfl), (Nat.le_of_ble_eq_true rfl)⟩ ⟨rfl, rfl⟩ rfl rfl (Nat.le_of_ble_eq_true rfl) ⟨Nat.zero_le _, Nat.zero_le _⟩ hP hS dX9_roof_29 (fun r7 s7 hw H locs hP hS => ?_)
        obtain ⟨z7, hw⟩ := hw
        refine lv_if_ne (tgt := 38) hx hb dX9_roof_32 (by decide) (fun c8 => ?_) (fun c8 => ?_)
        · replace hw := hw.1 c8
          refine lv_aload_n hx hb dX9_roof_38 rfl (lv_at hl 0 rfl) ?_
          refine fX9_1 E hP mw_324 dX9_roof_39 ?_
          refine fX1_7 ((by decide : 0 < 3)) E hP mw_163 dX9_roof_42 ?_
          refine lv_iload hx hb dX9_roof_45 (lv_at hl 4 rfl) ?_
          obtain ⟨h9, hw⟩ := hw
          refine aC12 ((by decide : 0 < 3)) E hP h9 dX9_roof_47 ?_
          refine g_ldc (v := -1000000005) E mw_377 dX9_roof_48 ?_
          refine lv_icmp_eq (tgt := 56) hx hb dX9_roof_50 (by decide) (fun c10 => ?_) (fun c10 => ?_)
          · replace hw := hw.1 c10
            refine lv_aload_n hx hb dX9_roof_56 rfl (lv_at hl 0 rfl) ?_
            refine fX9_1 E hP mw_324 dX9_roof_57 ?_
            refine fX1_9 ((by decide : 0 < 3)) E hP mw_167 dX9_roof_60 ?_
            refine lv_bipush (v := 12) hx hb dX9_roof_63 (by decide) ?_
            refine lv_icmp_lt (tgt := 71) hx hb dX9_roof_65 (by decide) (fun c11 => ?_) (fun c11 => ?_)
            · replace hw := hw.1 c11
              refine lv_aload_n hx hb dX9_roof_71 rfl (lv_at hl 0 rfl) ?_
              refine fX9_1 E hP mw_324 dX9_roof_72 ?_
              refine lv_iload_n hx hb dX9_roof_75 rfl (lv_at hl 1 rfl) ?_
              refine lv_iload_n hx hb dX9_roof_76 rfl (lv_at hl 2 rfl) ?_
              refine lv_iload_n hx hb dX9_roof_77 rfl (lv_at hl 3 rfl) ?_
              refine lv_iload hx hb dX9_roof_78 (lv_at hl 4 rfl) ?_
              refine g_cVi (As := [.int x1, .int x2, .int x3, .int x4]) (rest := []) E hl.1 (c_X1_build l D cy ad ha ((by decide : 0 < 3)) hw _) ok_X1_build mw_380 ⟨(Nat.le_of_ble_eq_true rfl), (Nat.le_of_ble_eq_true rfl)⟩ ⟨rfl, rfl⟩ (rC5 (by decide : 0 < 3)) rfl rfl rfl rfl rfl (Nat.le_of_ble_eq_true rfl) ⟨Nat.zero_le _, Nat.zero_le _⟩ hP hS dX9_roof_80 (fun r12 s12 hw H locs hP hS => ?_)
              exact g_iret E hw hP hS dX9_roof_83
            · replace hw := hw.2 c11
              refine g_ldc (v := -1000000003) E mw_379 dX9_roof_68 ?_
              exact g_iret E hw hP hS dX9_roof_70
          · replace hw := hw.2 c10
            refine g_ldc (v := -1000000002) E mw_378 dX9_roof_53 ?_
            exact g_iret E hw hP hS dX9_roof_55
        · replace hw := hw.2 c8
          refine g_ldc (v := -1000000001) E mw_376 dX9_roof_35 ?_
          exact g_iret E hw hP hS dX9_roof_37
theorem c_X9_roof (l : Launch) (D : va_G) (cy : Nat → ClassId) (ad : Nat → Nat → Nat) (ha : Apart regsC ad) {post : Int32 → St → Prop} {σ : St} {x1 : Int32} {x2 : Int32} {x3 : Int32} {x4 : Int32} (hw : w_X9_roof post σ x1 x2 x3 x4) (sz : Nat) : MetI l yX9_roof cX9_roof 5 .int rm_X9_roof [.ref (ad 0 0), .int x1, .int x2, .int x3, .int x4] D cy (cellC cy ad) regsC ad σ sz post :=
  Met_inI ok_X9_roof.2.2.2.2.2 (Nat.le_of_ble_eq_true rfl) (fun p e s m below meth c ls E hP hl => B_X9_roof_0 E ha hw hP va_S.rf hl)
-- RoofWar.isRoof(I)Z
theorem dX9_isRoof_0 : decode cX9_isRoof 0 = .ok (.iload_n 1, 1) := by decide +kernel
theorem dX9_isRoof_1 : decode cX9_isRoof 1 = .ok (.iconst 0, 1) := by decide +kernel
theorem dX9_isRoof_2 : decode cX9_isRoof 2 = .ok (.aload_n 0, 1) := by decide +kernel
theorem dX9_isRoof_3 : decode cX9_isRoof 3 = .ok (.getfield 21, 3) := by decide +kernel
theorem dX9_isRoof_6 : decode cX9_isRoof 6 = .ok (.getfield 100, 3) := by decide +kernel
theorem dX9_isRoof_9 : decode cX9_isRoof 9 = .ok (.iconst 1, 1) := by decide +kernel
theorem dX9_isRoof_10 : decode cX9_isRoof 10 = .ok (.isub, 1) := by decide +kernel
theorem dX9_isRoof_11 : decode cX9_isRoof 11 = .ok (.invokestatic 87, 3) := by decide +kernel
theorem dX9_isRoof_14 : decode cX9_isRoof 14 = .ok (.ireturn, 1) := by decide +kernel
theorem ok_X9_isRoof : okV yX9_isRoof cX9_isRoof 2 (some .boolean) 1 := ⟨mw_389, mw_0, mw_74, mw_390, by decide +kernel, by decide +kernel⟩
abbrev rm_X9_isRoof : Room := { frames := 1, cells := 0, slots := 0, locals := 22 }
def w_X9_isRoof (post : Int32 → St → Prop) (σ : St) (x1 : Int32) : Prop := w_X9_within (fun r1 s1 => post r1 s1) σ x1 (0 : Int32) ((σ 5 0 0) - 1)
theorem B_X9_isRoof_0 (E : EnvW p s m args meth c D cy regsC ad "RoofWar" cX9_isRoof 2 (some .boolean)) (ha : Apart regsC ad) {post : Int32 → St → Prop} {σ : St} {x1 : Int32} (hw : w_X9_isRoof post σ x1) {H : Heap} {locs : List Loc} {ls : Array Slot} (hP : va_P D CLS (wC cy ad σ) H) (hS : va_S (AC ad s.heap.size) s.heap H locs) (hl : lv_has ls 2 [(0, .ref (ad 0 0)), (1, .int x1)]) : W p l e rm_X9_isRoof s m args below meth c H locs 0 0 (MQ below (QI D cy (cellC cy ad) regsC ad s.heap.size (fun r u => (r = 0 ∨ r = 1) ∧ post r u)) args s 0 0 (AC ad s.heap.size)) (F0 m 0 ls []) := by
  obtain ⟨hx, hb, -⟩ := id E
  unfold w_X9_isRoof at hw
  refine lv_iload_n hx hb dX9_isRoof_0 rfl (lv_at hl 1 rfl) ?_
  refine lv_iconst (v := 0) hx hb dX9_isRoof_1 (by decide) ?_
  refine lv_aload_n hx hb dX9_isRoof_2 rfl (lv_at hl 0 rfl) ?_
  refine fX9_1 E hP mw_324 dX9_isRoof_3 ?_
  refine fX1_9 ((by decide : 0 < 3)) E hP mw_167 dX9_isRoof_6 ?_
  refine lv_iconst (v := 1) hx hb dX9_isRoof_9 (by decide) ?_
  refine lv_isub hx hb dX9_isRoof_10 ?_
  refine g_cSi (As := [.int x1, .int 0, .int ((σ 5 0 0) - 1)]) (rest := []) E hl.1 (c_X9_within l D cy ad ha hw _) ok_X9_within mw_370 ⟨(Nat.le_of_ble_eq_true rfl), (Nat.le_of_ble_eq_true rfl)⟩ ⟨rfl, rfl⟩ rfl rfl (Nat.le_of_ble_eq_true rfl) ⟨Nat.zero_le _, Nat.zero_le _⟩ hP hS dX9_isRoof_11 (fun r1 s1 hw H locs hP hS => ?_)
  obtain ⟨z1, hw⟩ := hw
  exact g_zret E z1 hw hP hS dX9_isRoof_14
theorem c_X9_isRoof (l : Launch) (D : va_G) (cy : Nat → ClassId) (ad : Nat → Nat → Nat) (ha : Apart regsC ad) {post : Int32 → St → Prop} {σ : St} {x1 : Int32} (hw : w_X9_isRoof post σ x1) (sz : Nat) : MetI l yX9_isRoof cX9_isRoof 2 .boolean rm_X9_isRoof [.ref (ad 0 0), .int x1] D cy (cellC cy ad) regsC ad σ sz (fun r u => (r = 0 ∨ r = 1) ∧ post r u) :=
  Met_inI ok_X9_isRoof.2.2.2.2.2 (Nat.le_of_ble_eq_true rfl) (fun p e s m below meth c ls E hP hl => B_X9_isRoof_0 E ha hw hP va_S.rf hl)
-- RoofWar.told(II)I
theorem dX9_told_0 : decode cX9_told 0 = .ok (.aload_n 0, 1) := by decide +kernel
theorem dX9_told_1 : decode cX9_told 1 = .ok (.iload_n 1, 1) := by decide +kernel
theorem dX9_told_2 : decode cX9_told 2 = .ok (.invokevirtual 108, 3) := by decide +kernel
theorem dX9_told_5 : decode cX9_told 5 = .ok (.ifCond .ne 6, 3) := by decide +kernel
theorem dX9_told_8 : decode cX9_told 8 = .ok (.ldc 94, 2) := by decide +kernel
theorem dX9_told_10 : decode cX9_told 10 = .ok (.ireturn, 1) := by decide +kernel
theorem dX9_told_11 : decode cX9_told 11 = .ok (.aload_n 0, 1) := by decide +kernel
theorem dX9_told_12 : decode cX9_told 12 = .ok (.getfield 21, 3) := by decide +kernel
theorem dX9_told_15 : decode cX9_told 15 = .ok (.getfield 111, 3) := by decide +kernel
theorem dX9_told_18 : decode cX9_told 18 = .ok (.iload_n 1, 1) := by decide +kernel
theorem dX9_told_19 : decode cX9_told 19 = .ok (.iaload, 1) := by decide +kernel
theorem dX9_told_20 : decode cX9_told 20 = .ok (.istore_n 3, 1) := by decide +kernel
theorem dX9_told_21 : decode cX9_told 21 = .ok (.aload_n 0, 1) := by decide +kernel
theorem dX9_told_22 : decode cX9_told 22 = .ok (.getfield 21, 3) := by decide +kernel
theorem dX9_told_25 : decode cX9_told 25 = .ok (.getfield 114, 3) := by decide +kernel
theorem dX9_told_28 : decode cX9_told 28 = .ok (.iload_n 1, 1) := by decide +kernel
theorem dX9_told_29 : decode cX9_told 29 = .ok (.iaload, 1) := by decide +kernel
theorem dX9_told_30 : decode cX9_told 30 = .ok (.istore 4, 2) := by decide +kernel
theorem dX9_told_32 : decode cX9_told 32 = .ok (.iload_n 2, 1) := by decide +kernel
theorem dX9_told_33 : decode cX9_told 33 = .ok (.tableswitch 107 0 7 #[47, 49, 52, 62, 72, 79, 86, 100], 47) := by decide +kernel
theorem dX9_told_80 : decode cX9_told 80 = .ok (.iload_n 3, 1) := by decide +kernel
theorem dX9_told_81 : decode cX9_told 81 = .ok (.ireturn, 1) := by decide +kernel
theorem dX9_told_82 : decode cX9_told 82 = .ok (.iload 4, 2) := by decide +kernel
theorem dX9_told_84 : decode cX9_told 84 = .ok (.ireturn, 1) := by decide +kernel
theorem dX9_told_85 : decode cX9_told 85 = .ok (.aload_n 0, 1) := by decide +kernel
theorem dX9_told_86 : decode cX9_told 86 = .ok (.getfield 21, 3) := by decide +kernel
theorem dX9_told_89 : decode cX9_told 89 = .ok (.getfield 117, 3) := by decide +kernel
theorem dX9_told_92 : decode cX9_told 92 = .ok (.iload_n 1, 1) := by decide +kernel
theorem dX9_told_93 : decode cX9_told 93 = .ok (.iaload, 1) := by decide +kernel
theorem dX9_told_94 : decode cX9_told 94 = .ok (.ireturn, 1) := by decide +kernel
theorem dX9_told_95 : decode cX9_told 95 = .ok (.aload_n 0, 1) := by decide +kernel
theorem dX9_told_96 : decode cX9_told 96 = .ok (.getfield 21, 3) := by decide +kernel
theorem dX9_told_99 : decode cX9_told 99 = .ok (.getfield 120, 3) := by decide +kernel
theorem dX9_told_102 : decode cX9_told 102 = .ok (.iload_n 1, 1) := by decide +kernel
theorem dX9_told_103 : decode cX9_told 103 = .ok (.iaload, 1) := by decide +kernel
theorem dX9_told_104 : decode cX9_told 104 = .ok (.ireturn, 1) := by decide +kernel
theorem dX9_told_105 : decode cX9_told 105 = .ok (.iload_n 3, 1) := by decide +kernel
theorem dX9_told_106 : decode cX9_told 106 = .ok (.iload 4, 2) := by decide +kernel
theorem dX9_told_108 : decode cX9_told 108 = .ok (.invokestatic 123, 3) := by decide +kernel
theorem dX9_told_111 : decode cX9_told 111 = .ok (.ireturn, 1) := by decide +kernel
theorem dX9_told_112 : decode cX9_told 112 = .ok (.iload_n 3, 1) := by decide +kernel
theorem dX9_told_113 : decode cX9_told 113 = .ok (.iload 4, 2) := by decide +kernel
theorem dX9_told_115 : decode cX9_told 115 = .ok (.invokestatic 129, 3) := by decide +kernel
theorem dX9_told_118 : decode cX9_told 118 = .ok (.ireturn, 1) := by decide +kernel
theorem dX9_told_119 : decode cX9_told 119 = .ok (.iload_n 3, 1) := by decide +kernel
theorem dX9_told_120 : decode cX9_told 120 = .ok (.aload_n 0, 1) := by decide +kernel
theorem dX9_told_121 : decode cX9_told 121 = .ok (.getfield 21, 3) := by decide +kernel
theorem dX9_told_124 : decode cX9_told 124 = .ok (.getfield 117, 3) := by decide +kernel
theorem dX9_told_127 : decode cX9_told 127 = .ok (.iload_n 1, 1) := by decide +kernel
theorem dX9_told_128 : decode cX9_told 128 = .ok (.iaload, 1) := by decide +kernel
theorem dX9_told_129 : decode cX9_told 129 = .ok (.invokestatic 132, 3) := by decide +kernel
theorem dX9_told_132 : decode cX9_told 132 = .ok (.ireturn, 1) := by decide +kernel
theorem dX9_told_133 : decode cX9_told 133 = .ok (.iload_n 3, 1) := by decide +kernel
theorem dX9_told_134 : decode cX9_told 134 = .ok (.iload 4, 2) := by decide +kernel
theorem dX9_told_136 : decode cX9_told 136 = .ok (.invokestatic 135, 3) := by decide +kernel
theorem dX9_told_139 : decode cX9_told 139 = .ok (.ireturn, 1) := by decide +kernel
theorem dX9_told_140 : decode cX9_told 140 = .ok (.ldc 94, 2) := by decide +kernel
theorem dX9_told_142 : decode cX9_told 142 = .ok (.ireturn, 1) := by decide +kernel
theorem ok_X9_told : okV yX9_told cX9_told 5 (some .int) 2 := ⟨mw_385, mw_386, mw_74, mw_387, by decide +kernel, by decide +kernel⟩
abbrev rm_X9_told : Room := { frames := 2, cells := 0, slots := 0, locals := 43 }
def w_X9_told (post : Int32 → St → Prop) (σ : St) (x1 : Int32) (x2 : Int32) : Prop := w_X9_isRoof (fun r1 s1 => ((¬ r1 = 0 → (vp_in x1 12 ∧ (∀ v4 : Int32, v4 = s1 6 0 x1.toNatClampNeg → (vp_in x1 12 ∧ (∀ v6 : Int32, v6 = s1 7 0 x1.toNatClampNeg → (((x2 = 0 → (post v4 s1)) ∧ (¬ x2 = 0 → (((x2 = 1 → (post v6 s1)) ∧ (¬ x2 = 1 → (((x2 = 2 → (vp_in x1 12 ∧ (post (s1 8 0 x1.toNatClampNeg) s1))) ∧ (¬ x2 = 2 → (((x2 = 3 → (vp_in x1 12 ∧ (post (s1 9 0 x1.toNatClampNeg) s1))) ∧ (¬ x2 = 3 → (((x2 = 4 → (w_X2_weighs (fun r14 s14 => post r14 s14) s1 v4 v6)) ∧ (¬ x2 = 4 → (((x2 = 5 → (w_X2_covers (fun r16 s16 => post r16 s16) s1 v4 v6)) ∧ (¬ x2 = 5 → (((x2 = 6 → (vp_in x1 12 ∧ (w_X2_drips (fun r19 s19 => post r19 s19) s1 v4 (s1 8 0 x1.toNatClampNeg)))) ∧ (¬ x2 = 6 → (((x2 = 7 → (w_X2_worth (fun r21 s21 => post r21 s21) s1 v4 v6)) ∧ (¬ x2 = 7 → (post ((-1000000001)) s1)))))))))))))))))))))))))))))) ∧ (r1 = 0 → (post ((-1000000001)) s1)))) σ x1
theorem B_X9_told_0 (E : EnvW p s m args meth c D cy regsC ad "RoofWar" cX9_told 5 (some .int)) (ha : Apart regsC ad) {post : Int32 → St → Prop} {σ : St} {x1 : Int32} {x2 : Int32} (hw : w_X9_told post σ x1 x2) {H : Heap} {locs : List Loc} {ls : Array Slot} (hP : va_P D CLS (wC cy ad σ) H) (hS : va_S (AC ad s.heap.size) s.heap H locs) (hl : lv_has ls 5 [(0, .ref (ad 0 0)), (1, .int x1), (2, .int x2)]) : W p l e rm_X9_told s m args below meth c H locs 0 0 (MQ below (QI D cy (cellC cy ad) regsC ad s.heap.size post) args s 0 0 (AC ad s.heap.size)) (F0 m 0 ls []) := by
  obtain ⟨hx, hb, -⟩ := id E
  unfold w_X9_told at hw
  refine lv_aload_n hx hb dX9_told_0 rfl (lv_at hl 0 rfl) ?_
  refine lv_iload_n hx hb dX9_told_1 rfl (lv_at hl 1 rfl) ?_
  refine g_cVi (As := [.int x1]) (rest := []) E hl.1 (c_X9_isRoof l D cy ad ha hw _) ok_X9_isRoof mw_388 ⟨(Nat.le_of_ble_eq_true rfl), (Nat.le_of_ble_eq_true rfl)⟩ ⟨rfl, rfl⟩ rC0 rfl rfl rfl rfl rfl (Nat.le_of_ble_eq_true rfl) ⟨Nat.zero_le _, Nat.zero_le _⟩ hP hS dX9_told_2 (fun r1 s1 hw H locs hP hS => ?_)
  obtain ⟨z1, hw⟩ := hw
  refine lv_if_ne (tgt := 11) hx hb dX9_told_5 (by decide) (fun c2 => ?_) (fun c2 => ?_)
  · replace hw := hw.1 c2
    refine lv_aload_n hx hb dX9_told_11 rfl (lv_at hl 0 rfl) ?_
    refine fX9_1 E hP mw_324 dX9_told_12 ?_
    refine fX1_1 ((by decide : 0 < 3)) E hP mw_148 dX9_told_15 ?_
    refine lv_iload_n hx hb dX9_told_18 rfl (lv_at hl 1 rfl) ?_
    obtain ⟨h3, hw⟩ := hw
    refine aC6 ((by decide : 0 < 3)) E hP h3 dX9_told_19 ?_
    refine lv_topi (fun v4 ev4 => ?_)
    replace hw := hw v4 ev4
    refine lv_istore_n (lv' := [(3, .int v4), (0, .ref (ad 0 0)), (1, .int x1), (2, .int x2)]) hx hb dX9_told_20 rfl hl (by decide) rfl (fun ls hl => ?_)
    refine lv_aload_n hx hb dX9_told_21 rfl (lv_at hl 1 rfl) ?_
    refine fX9_1 E hP mw_324 dX9_told_22 ?_
    refine fX1_2 ((by decide : 0 < 3)) E hP mw_150 dX9_told_25 ?_
    refine lv_iload_n hx hb dX9_told_28 rfl (lv_at hl 2 rfl) ?_
    obtain ⟨h5, hw⟩ := hw
    refine aC7 ((by decide : 0 < 3)) E hP h5 dX9_told_29 ?_
    refine lv_topi (fun v6 ev6 => ?_)
    replace hw := hw v6 ev6
    refine lv_istore (lv' := [(4, .int v6), (3, .int v4), (0, .ref (ad 0 0)), (1, .int x1), (2, .int x2)]) hx hb dX9_told_30 hl (by decide) rfl (fun ls hl => ?_)
    refine lv_iload_n hx hb dX9_told_32 rfl (lv_at hl 4 rfl) ?_
    by_cases c7 : x2 = 0
    · replace hw := hw.1 c7
      refine lv_tableIn (off := 47) (tgt := 80) hx hb dX9_told_33 (by rw [c7]; decide) (by rw [c7]; decide) (by rw [c7]; rfl) (by decide) ?_
      refine lv_iload_n hx hb dX9_told_80 rfl (lv_at hl 1 rfl) ?_
      exact g_iret E hw hP hS dX9_told_81
    · replace hw := hw.2 c7
      by_cases c8 : x2 = 1
      · replace hw := hw.1 c8
        refine lv_tableIn (off := 49) (tgt := 82) hx hb dX9_told_33 (by rw [c8]; decide) (by rw [c8]; decide) (by rw [c8]; rfl) (by decide) ?_
        refine lv_iload hx hb dX9_told_82 (lv_at hl 0 rfl) ?_
        exact g_iret E hw hP hS dX9_told_84
      · replace hw := hw.2 c8
        by_cases c9 : x2 = 2
        · replace hw := hw.1 c9
          refine lv_tableIn (off := 52) (tgt := 85) hx hb dX9_told_33 (by rw [c9]; decide) (by rw [c9]; decide) (by rw [c9]; rfl) (by decide) ?_
          refine lv_aload_n hx hb dX9_told_85 rfl (lv_at hl 2 rfl) ?_
          refine fX9_1 E hP mw_324 dX9_told_86 ?_
          refine fX1_3 ((by decide : 0 < 3)) E hP mw_153 dX9_told_89 ?_
          refine lv_iload_n hx hb dX9_told_92 rfl (lv_at hl 3 rfl) ?_
          obtain ⟨h10, hw⟩ := hw
          refine aC8 ((by decide : 0 < 3)) E hP h10 dX9_told_93 ?_
          exact g_iret E hw hP hS dX9_told_94
        · replace hw := hw.2 c9
          by_cases c11 : x2 = 3
          · replace hw := hw.1 c11
            refine lv_tableIn (off := 62) (tgt := 95) hx hb dX9_told_33 (by rw [c11]; decide) (by rw [c11]; decide) (by rw [c11]; rfl) (by decide) ?_
            refine lv_aload_n hx hb dX9_told_95 rfl (lv_at hl 2 rfl) ?_
            refine fX9_1 E hP mw_324 dX9_told_96 ?_
            refine fX1_4 ((by decide : 0 < 3)) E hP mw_157 dX9_told_99 ?_
            refine lv_iload_n hx hb dX9_told_102 rfl (lv_at hl 3 rfl) ?_
            obtain ⟨h12, hw⟩ := hw
            refine aC9 ((by decide : 0 < 3)) E hP h12 dX9_told_103 ?_
            exact g_iret E hw hP hS dX9_told_104
          · replace hw := hw.2 c11
            by_cases c13 : x2 = 4
            · replace hw := hw.1 c13
              refine lv_tableIn (off := 72) (tgt := 105) hx hb dX9_told_33 (by rw [c13]; decide) (by rw [c13]; decide) (by rw [c13]; rfl) (by decide) ?_
              refine lv_iload_n hx hb dX9_told_105 rfl (lv_at hl 1 rfl) ?_
              refine lv_iload hx hb dX9_told_106 (lv_at hl 0 rfl) ?_
              refine g_cSi (As := [.int v4, .int v6]) (rest := []) E hl.1 (c_X2_weighs l D cy ad ha hw _) ok_X2_weighs mw_391 ⟨(Nat.le_of_ble_eq_true rfl), (Nat.le_of_ble_eq_true rfl)⟩ ⟨rfl, rfl⟩ rfl rfl (Nat.le_of_ble_eq_true rfl) ⟨Nat.zero_le _, Nat.zero_le _⟩ hP hS dX9_told_108 (fun r14 s14 hw H locs hP hS => ?_)
              exact g_iret E hw hP hS dX9_told_111
            · replace hw := hw.2 c13
              by_cases c15 : x2 = 5
              · replace hw := hw.1 c15
                refine lv_tableIn (off := 79) (tgt := 112) hx hb dX9_told_33 (by rw [c15]; decide) (by rw [c15]; decide) (by rw [c15]; rfl) (by decide) ?_
                refine lv_iload_n hx hb dX9_told_112 rfl (lv_at hl 1 rfl) ?_
                refine lv_iload hx hb dX9_told_113 (lv_at hl 0 rfl) ?_
                refine g_cSi (As := [.int v4, .int v6]) (rest := []) E hl.1 (c_X2_covers l D cy ad ha hw _) ok_X2_covers mw_394 ⟨(Nat.le_of_ble_eq_true rfl), (Nat.le_of_ble_eq_true rfl)⟩ ⟨rfl, rfl⟩ rfl rfl (Nat.le_of_ble_eq_true rfl) ⟨Nat.zero_le _, Nat.zero_le _⟩ hP hS dX9_told_115 (fun r16 s16 hw H locs hP hS => ?_)
                exact g_iret E hw hP hS dX9_told_118
              · replace hw := hw.2 c15
                by_cases c17 : x2 = 6
                · replace hw := hw.1 c17
                  refine lv_tableIn (off := 86) (tgt := 119) hx hb dX9_told_33 (by rw [c17]; decide) (by rw [c17]; decide) (by rw [c17]; rfl) (by decide) ?_
                  refine lv_iload_n hx hb dX9_told_119 rfl (lv_at hl 1 rfl) ?_
                  refine lv_aload_n hx hb dX9_told_120 rfl (lv_at hl 2 rfl) ?_
                  refine fX9_1 E hP mw_324 dX9_told_121 ?_
                  refine fX1_3 ((by decide : 0 < 3)) E hP mw_153 dX9_told_124 ?_
                  refine lv_iload_n hx hb dX9_told_127 rfl (lv_at hl 3 rfl) ?_
                  obtain ⟨h18, hw⟩ := hw
                  refine aC8 ((by decide : 0 < 3)) E hP h18 dX9_told_128 ?_
                  refine g_cSi (As := [.int v4, .int (s1 8 0 x1.toNatClampNeg)]) (rest := []) E hl.1 (c_X2_drips l D cy ad ha hw _) ok_X2_drips mw_397 ⟨(Nat.le_of_ble_eq_true rfl), (Nat.le_of_ble_eq_true rfl)⟩ ⟨rfl, rfl⟩ rfl rfl (Nat.le_of_ble_eq_true rfl) ⟨Nat.zero_le _, Nat.zero_le _⟩ hP hS dX9_told_129 (fun r19 s19 hw H locs hP hS => ?_)
                  exact g_iret E hw hP hS dX9_told_132
                · replace hw := hw.2 c17
                  by_cases c20 : x2 = 7
                  · replace hw := hw.1 c20
                    refine lv_tableIn (off := 100) (tgt := 133) hx hb dX9_told_33 (by rw [c20]; decide) (by rw [c20]; decide) (by rw [c20]; rfl) (by decide) ?_
                    refine lv_iload_n hx hb dX9_told_133 rfl (lv_at hl 1 rfl) ?_
                    refine lv_iload hx hb dX9_told_134 (lv_at hl 0 rfl) ?_
                    refine g_cSi (As := [.int v4, .int v6]) (rest := []) E hl.1 (c_X2_worth l D cy ad ha hw _) ok_X2_worth mw_400 ⟨(Nat.le_of_ble_eq_true rfl), (Nat.le_of_ble_eq_true rfl)⟩ ⟨rfl, rfl⟩ rfl rfl (Nat.le_of_ble_eq_true rfl) ⟨Nat.zero_le _, Nat.zero_le _⟩ hP hS dX9_told_136 (fun r21 s21 hw H locs hP hS => ?_)
                    exact g_iret E hw hP hS dX9_told_139
                  · replace hw := hw.2 c20
                    have e7 := ne_toI c7 (n := 0) (k := 0) (by decide)
                    have e8 := ne_toI c8 (n := 1) (k := 1) (by decide)
                    have e9 := ne_toI c9 (n := 2) (k := 2) (by decide)
                    have e11 := ne_toI c11 (n := 3) (k := 3) (by decide)
                    have e13 := ne_toI c13 (n := 4) (k := 4) (by decide)
                    have e15 := ne_toI c15 (n := 5) (k := 5) (by decide)
                    have e17 := ne_toI c17 (n := 6) (k := 6) (by decide)
                    have e20 := ne_toI c20 (n := 7) (k := 7) (by decide)
                    refine lv_tableOut (tgt := 140) hx hb dX9_told_33 (by omega) (by decide) ?_
                    refine g_ldc (v := -1000000001) E mw_376 dX9_told_140 ?_
                    exact g_iret E hw hP hS dX9_told_142
  · replace hw := hw.2 c2
    refine g_ldc (v := -1000000001) E mw_376 dX9_told_8 ?_
    exact g_iret E hw hP hS dX9_told_10
theorem c_X9_told (l : Launch) (D : va_G) (cy : Nat → ClassId) (ad : Nat → Nat → Nat) (ha : Apart regsC ad) {post : Int32 → St → Prop} {σ : St} {x1 : Int32} {x2 : Int32} (hw : w_X9_told post σ x1 x2) (sz : Nat) : MetI l yX9_told cX9_told 5 .int rm_X9_told [.ref (ad 0 0), .int x1, .int x2] D cy (cellC cy ad) regsC ad σ sz post :=
  Met_inI ok_X9_told.2.2.2.2.2 (Nat.le_of_ble_eq_true rfl) (fun p e s m below meth c ls E hP hl => B_X9_told_0 E ha hw hP va_S.rf hl)
-- RoofWar.as(II)I
theorem dX9_as_0 : decode cX9_as 0 = .ok (.aload_n 0, 1) := by decide +kernel
theorem dX9_as_1 : decode cX9_as 1 = .ok (.iload_n 1, 1) := by decide +kernel
theorem dX9_as_2 : decode cX9_as 2 = .ok (.invokevirtual 108, 3) := by decide +kernel
theorem dX9_as_5 : decode cX9_as 5 = .ok (.ifCond .eq 10, 3) := by decide +kernel
theorem dX9_as_8 : decode cX9_as 8 = .ok (.iload_n 2, 1) := by decide +kernel
theorem dX9_as_9 : decode cX9_as 9 = .ok (.invokestatic 83, 3) := by decide +kernel
theorem dX9_as_12 : decode cX9_as 12 = .ok (.ifCond .ne 6, 3) := by decide +kernel
theorem dX9_as_15 : decode cX9_as 15 = .ok (.ldc 94, 2) := by decide +kernel
theorem dX9_as_17 : decode cX9_as 17 = .ok (.ireturn, 1) := by decide +kernel
theorem dX9_as_18 : decode cX9_as 18 = .ok (.aload_n 0, 1) := by decide +kernel
theorem dX9_as_19 : decode cX9_as 19 = .ok (.getfield 21, 3) := by decide +kernel
theorem dX9_as_22 : decode cX9_as 22 = .ok (.getfield 111, 3) := by decide +kernel
theorem dX9_as_25 : decode cX9_as 25 = .ok (.iload_n 1, 1) := by decide +kernel
theorem dX9_as_26 : decode cX9_as 26 = .ok (.iaload, 1) := by decide +kernel
theorem dX9_as_27 : decode cX9_as 27 = .ok (.iload_n 2, 1) := by decide +kernel
theorem dX9_as_28 : decode cX9_as 28 = .ok (.invokestatic 138, 3) := by decide +kernel
theorem dX9_as_31 : decode cX9_as 31 = .ok (.ifCond .eq 15, 3) := by decide +kernel
theorem dX9_as_34 : decode cX9_as 34 = .ok (.aload_n 0, 1) := by decide +kernel
theorem dX9_as_35 : decode cX9_as 35 = .ok (.getfield 21, 3) := by decide +kernel
theorem dX9_as_38 : decode cX9_as 38 = .ok (.getfield 120, 3) := by decide +kernel
theorem dX9_as_41 : decode cX9_as 41 = .ok (.iload_n 1, 1) := by decide +kernel
theorem dX9_as_42 : decode cX9_as 42 = .ok (.iaload, 1) := by decide +kernel
theorem dX9_as_43 : decode cX9_as 43 = .ok (.goto 5, 3) := by decide +kernel
theorem dX9_as_46 : decode cX9_as 46 = .ok (.ldc 142, 2) := by decide +kernel
theorem dX9_as_48 : decode cX9_as 48 = .ok (.ireturn, 1) := by decide +kernel
theorem ok_X9_as : okV yX9_as cX9_as 3 (some .int) 2 := ⟨mw_404, mw_405, mw_74, mw_406, by decide +kernel, by decide +kernel⟩
abbrev rm_X9_as : Room := { frames := 2, cells := 0, slots := 0, locals := 43 }
def w_X9_as (post : Int32 → St → Prop) (σ : St) (x1 : Int32) (x2 : Int32) : Prop := w_X9_isRoof (fun r1 s1 => ((r1 = 0 → (post ((-1000000001)) s1)) ∧ (¬ r1 = 0 → (w_X9_isKind (fun r3 s3 => ((¬ r3 = 0 → (vp_in x1 12 ∧ (w_X2_isOne (fun r6 s6 => ((r6 = 0 → (post ((-1000000012)) s6)) ∧ (¬ r6 = 0 → (vp_in x1 12 ∧ (post (s6 9 0 x1.toNatClampNeg) s6))))) s3 (s3 6 0 x1.toNatClampNeg) x2))) ∧ (r3 = 0 → (post ((-1000000001)) s3)))) s1 x2)))) σ x1
theorem B_X9_as_0 (E : EnvW p s m args meth c D cy regsC ad "RoofWar" cX9_as 3 (some .int)) (ha : Apart regsC ad) {post : Int32 → St → Prop} {σ : St} {x1 : Int32} {x2 : Int32} (hw : w_X9_as post σ x1 x2) {H : Heap} {locs : List Loc} {ls : Array Slot} (hP : va_P D CLS (wC cy ad σ) H) (hS : va_S (AC ad s.heap.size) s.heap H locs) (hl : lv_has ls 3 [(0, .ref (ad 0 0)), (1, .int x1), (2, .int x2)]) : W p l e rm_X9_as s m args below meth c H locs 0 0 (MQ below (QI D cy (cellC cy ad) regsC ad s.heap.size post) args s 0 0 (AC ad s.heap.size)) (F0 m 0 ls []) := by
  obtain ⟨hx, hb, -⟩ := id E
  unfold w_X9_as at hw
  refine lv_aload_n hx hb dX9_as_0 rfl (lv_at hl 0 rfl) ?_
  refine lv_iload_n hx hb dX9_as_1 rfl (lv_at hl 1 rfl) ?_
  refine g_cVi (As := [.int x1]) (rest := []) E hl.1 (c_X9_isRoof l D cy ad ha hw _) ok_X9_isRoof mw_388 ⟨(Nat.le_of_ble_eq_true rfl), (Nat.le_of_ble_eq_true rfl)⟩ ⟨rfl, rfl⟩ rC0 rfl rfl rfl rfl rfl (Nat.le_of_ble_eq_true rfl) ⟨Nat.zero_le _, Nat.zero_le _⟩ hP hS dX9_as_2 (fun r1 s1 hw H locs hP hS => ?_)
  obtain ⟨z1, hw⟩ := hw
  refine lv_if_eq (tgt := 15) hx hb dX9_as_5 (by decide) (fun c2 => ?_) (fun c2 => ?_)
  · replace hw := hw.1 c2
    refine g_ldc (v := -1000000001) E mw_376 dX9_as_15 ?_
    exact g_iret E hw hP hS dX9_as_17
  · replace hw := hw.2 c2
    refine lv_iload_n hx hb dX9_as_8 rfl (lv_at hl 2 rfl) ?_
    refine g_cSi (As := [.int x2]) (rest := []) E hl.1 (c_X9_isKind l D cy ad ha hw _) ok_X9_isKind mw_367 ⟨(Nat.le_of_ble_eq_true rfl), (Nat.le_of_ble_eq_true rfl)⟩ ⟨rfl, rfl⟩ rfl rfl (Nat.le_of_ble_eq_true rfl) ⟨Nat.zero_le _, Nat.zero_le _⟩ hP hS dX9_as_9 (fun r3 s3 hw H locs hP hS => ?_)
    obtain ⟨z3, hw⟩ := hw
    refine lv_if_ne (tgt := 18) hx hb dX9_as_12 (by decide) (fun c4 => ?_) (fun c4 => ?_)
    · replace hw := hw.1 c4
      refine lv_aload_n hx hb dX9_as_18 rfl (lv_at hl 0 rfl) ?_
      refine fX9_1 E hP mw_324 dX9_as_19 ?_
      refine fX1_1 ((by decide : 0 < 3)) E hP mw_148 dX9_as_22 ?_
      refine lv_iload_n hx hb dX9_as_25 rfl (lv_at hl 1 rfl) ?_
      obtain ⟨h5, hw⟩ := hw
      refine aC6 ((by decide : 0 < 3)) E hP h5 dX9_as_26 ?_
      refine lv_iload_n hx hb dX9_as_27 rfl (lv_at hl 2 rfl) ?_
      refine g_cSi (As := [.int (s3 6 0 x1.toNatClampNeg), .int x2]) (rest := []) E hl.1 (c_X2_isOne l D cy ad ha hw _) ok_X2_isOne mw_407 ⟨(Nat.le_of_ble_eq_true rfl), (Nat.le_of_ble_eq_true rfl)⟩ ⟨rfl, rfl⟩ rfl rfl (Nat.le_of_ble_eq_true rfl) ⟨Nat.zero_le _, Nat.zero_le _⟩ hP hS dX9_as_28 (fun r6 s6 hw H locs hP hS => ?_)
      obtain ⟨z6, hw⟩ := hw
      refine lv_if_eq (tgt := 46) hx hb dX9_as_31 (by decide) (fun c7 => ?_) (fun c7 => ?_)
      · replace hw := hw.1 c7
        refine g_ldc (v := -1000000012) E mw_413 dX9_as_46 ?_
        exact g_iret E hw hP hS dX9_as_48
      · replace hw := hw.2 c7
        refine lv_aload_n hx hb dX9_as_34 rfl (lv_at hl 0 rfl) ?_
        refine fX9_1 E hP mw_324 dX9_as_35 ?_
        refine fX1_4 ((by decide : 0 < 3)) E hP mw_157 dX9_as_38 ?_
        refine lv_iload_n hx hb dX9_as_41 rfl (lv_at hl 1 rfl) ?_
        obtain ⟨h8, hw⟩ := hw
        refine aC9 ((by decide : 0 < 3)) E hP h8 dX9_as_42 ?_
        refine lv_goto (tgt := 48) hx hb dX9_as_43 (by decide) ?_
        exact g_iret E hw hP hS dX9_as_48
    · replace hw := hw.2 c4
      refine g_ldc (v := -1000000001) E mw_376 dX9_as_15 ?_
      exact g_iret E hw hP hS dX9_as_17
theorem c_X9_as (l : Launch) (D : va_G) (cy : Nat → ClassId) (ad : Nat → Nat → Nat) (ha : Apart regsC ad) {post : Int32 → St → Prop} {σ : St} {x1 : Int32} {x2 : Int32} (hw : w_X9_as post σ x1 x2) (sz : Nat) : MetI l yX9_as cX9_as 3 .int rm_X9_as [.ref (ad 0 0), .int x1, .int x2] D cy (cellC cy ad) regsC ad σ sz post :=
  Met_inI ok_X9_as.2.2.2.2.2 (Nat.le_of_ble_eq_true rfl) (fun p e s m below meth c ls E hP hl => B_X9_as_0 E ha hw hP va_S.rf hl)
-- RoofWar.turns(II)I
theorem dX9_turns_0 : decode cX9_turns 0 = .ok (.aload_n 0, 1) := by decide +kernel
theorem dX9_turns_1 : decode cX9_turns 1 = .ok (.iload_n 1, 1) := by decide +kernel
theorem dX9_turns_2 : decode cX9_turns 2 = .ok (.invokevirtual 108, 3) := by decide +kernel
theorem dX9_turns_5 : decode cX9_turns 5 = .ok (.ifCond .eq 10, 3) := by decide +kernel
theorem dX9_turns_8 : decode cX9_turns 8 = .ok (.iload_n 2, 1) := by decide +kernel
theorem dX9_turns_9 : decode cX9_turns 9 = .ok (.invokestatic 83, 3) := by decide +kernel
theorem dX9_turns_12 : decode cX9_turns 12 = .ok (.ifCond .ne 6, 3) := by decide +kernel
theorem dX9_turns_15 : decode cX9_turns 15 = .ok (.ldc 94, 2) := by decide +kernel
theorem dX9_turns_17 : decode cX9_turns 17 = .ok (.ireturn, 1) := by decide +kernel
theorem dX9_turns_18 : decode cX9_turns 18 = .ok (.aload_n 0, 1) := by decide +kernel
theorem dX9_turns_19 : decode cX9_turns 19 = .ok (.getfield 21, 3) := by decide +kernel
theorem dX9_turns_22 : decode cX9_turns 22 = .ok (.getfield 111, 3) := by decide +kernel
theorem dX9_turns_25 : decode cX9_turns 25 = .ok (.iload_n 1, 1) := by decide +kernel
theorem dX9_turns_26 : decode cX9_turns 26 = .ok (.iaload, 1) := by decide +kernel
theorem dX9_turns_27 : decode cX9_turns 27 = .ok (.istore_n 3, 1) := by decide +kernel
theorem dX9_turns_28 : decode cX9_turns 28 = .ok (.aload_n 0, 1) := by decide +kernel
theorem dX9_turns_29 : decode cX9_turns 29 = .ok (.getfield 21, 3) := by decide +kernel
theorem dX9_turns_32 : decode cX9_turns 32 = .ok (.getfield 111, 3) := by decide +kernel
theorem dX9_turns_35 : decode cX9_turns 35 = .ok (.iload_n 1, 1) := by decide +kernel
theorem dX9_turns_36 : decode cX9_turns 36 = .ok (.iload_n 2, 1) := by decide +kernel
theorem dX9_turns_37 : decode cX9_turns 37 = .ok (.iastore, 1) := by decide +kernel
theorem dX9_turns_38 : decode cX9_turns 38 = .ok (.iload_n 3, 1) := by decide +kernel
theorem dX9_turns_39 : decode cX9_turns 39 = .ok (.ireturn, 1) := by decide +kernel
theorem ok_X9_turns : okV yX9_turns cX9_turns 4 (some .int) 2 := ⟨mw_415, mw_416, mw_74, mw_417, by decide +kernel, by decide +kernel⟩
abbrev rm_X9_turns : Room := { frames := 2, cells := 0, slots := 0, locals := 43 }
def w_X9_turns (post : Int32 → St → Prop) (σ : St) (x1 : Int32) (x2 : Int32) : Prop := w_X9_isRoof (fun r1 s1 => ((r1 = 0 → (post ((-1000000001)) s1)) ∧ (¬ r1 = 0 → (w_X9_isKind (fun r3 s3 => ((¬ r3 = 0 → (vp_in x1 12 ∧ (∀ v6 : Int32, v6 = s3 6 0 x1.toNatClampNeg → (vp_in x1 12 ∧ (∀ s8 : St, s8 = wr s3 6 0 x1.toNatClampNeg x2 → (post v6 s8)))))) ∧ (r3 = 0 → (post ((-1000000001)) s3)))) s1 x2)))) σ x1
theorem B_X9_turns_0 (E : EnvW p s m args meth c D cy regsC ad "RoofWar" cX9_turns 4 (some .int)) (ha : Apart regsC ad) {post : Int32 → St → Prop} {σ : St} {x1 : Int32} {x2 : Int32} (hw : w_X9_turns post σ x1 x2) {H : Heap} {locs : List Loc} {ls : Array Slot} (hP : va_P D CLS (wC cy ad σ) H) (hS : va_S (AC ad s.heap.size) s.heap H locs) (hl : lv_has ls 4 [(0, .ref (ad 0 0)), (1, .int x1), (2, .int x2)]) : W p l e rm_X9_turns s m args below meth c H locs 0 0 (MQ below (QI D cy (cellC cy ad) regsC ad s.heap.size post) args s 0 0 (AC ad s.heap.size)) (F0 m 0 ls []) := by
  obtain ⟨hx, hb, -⟩ := id E
  unfold w_X9_turns at hw
  refine lv_aload_n hx hb dX9_turns_0 rfl (lv_at hl 0 rfl) ?_
  refine lv_iload_n hx hb dX9_turns_1 rfl (lv_at hl 1 rfl) ?_
  refine g_cVi (As := [.int x1]) (rest := []) E hl.1 (c_X9_isRoof l D cy ad ha hw _) ok_X9_isRoof mw_388 ⟨(Nat.le_of_ble_eq_true rfl), (Nat.le_of_ble_eq_true rfl)⟩ ⟨rfl, rfl⟩ rC0 rfl rfl rfl rfl rfl (Nat.le_of_ble_eq_true rfl) ⟨Nat.zero_le _, Nat.zero_le _⟩ hP hS dX9_turns_2 (fun r1 s1 hw H locs hP hS => ?_)
  obtain ⟨z1, hw⟩ := hw
  refine lv_if_eq (tgt := 15) hx hb dX9_turns_5 (by decide) (fun c2 => ?_) (fun c2 => ?_)
  · replace hw := hw.1 c2
    refine g_ldc (v := -1000000001) E mw_376 dX9_turns_15 ?_
    exact g_iret E hw hP hS dX9_turns_17
  · replace hw := hw.2 c2
    refine lv_iload_n hx hb dX9_turns_8 rfl (lv_at hl 2 rfl) ?_
    refine g_cSi (As := [.int x2]) (rest := []) E hl.1 (c_X9_isKind l D cy ad ha hw _) ok_X9_isKind mw_367 ⟨(Nat.le_of_ble_eq_true rfl), (Nat.le_of_ble_eq_true rfl)⟩ ⟨rfl, rfl⟩ rfl rfl (Nat.le_of_ble_eq_true rfl) ⟨Nat.zero_le _, Nat.zero_le _⟩ hP hS dX9_turns_9 (fun r3 s3 hw H locs hP hS => ?_)
    obtain ⟨z3, hw⟩ := hw
    refine lv_if_ne (tgt := 18) hx hb dX9_turns_12 (by decide) (fun c4 => ?_) (fun c4 => ?_)
    · replace hw := hw.1 c4
      refine lv_aload_n hx hb dX9_turns_18 rfl (lv_at hl 0 rfl) ?_
      refine fX9_1 E hP mw_324 dX9_turns_19 ?_
      refine fX1_1 ((by decide : 0 < 3)) E hP mw_148 dX9_turns_22 ?_
      refine lv_iload_n hx hb dX9_turns_25 rfl (lv_at hl 1 rfl) ?_
      obtain ⟨h5, hw⟩ := hw
      refine aC6 ((by decide : 0 < 3)) E hP h5 dX9_turns_26 ?_
      refine lv_topi (fun v6 ev6 => ?_)
      replace hw := hw v6 ev6
      refine lv_istore_n (lv' := [(3, .int v6), (0, .ref (ad 0 0)), (1, .int x1), (2, .int x2)]) hx hb dX9_turns_27 rfl hl (by decide) rfl (fun ls hl => ?_)
      refine lv_aload_n hx hb dX9_turns_28 rfl (lv_at hl 1 rfl) ?_
      refine fX9_1 E hP mw_324 dX9_turns_29 ?_
      refine fX1_1 ((by decide : 0 < 3)) E hP mw_148 dX9_turns_32 ?_
      refine lv_iload_n hx hb dX9_turns_35 rfl (lv_at hl 2 rfl) ?_
      refine lv_iload_n hx hb dX9_turns_36 rfl (lv_at hl 3 rfl) ?_
      obtain ⟨h7, hw⟩ := hw
      refine tC6 ((by decide : 0 < 3)) E ha h7 dX9_turns_37 hP hS (fun s8 es8 H locs hP hS => ?_)
      replace hw := hw s8 es8
      refine lv_iload_n hx hb dX9_turns_38 rfl (lv_at hl 0 rfl) ?_
      exact g_iret E hw hP hS dX9_turns_39
    · replace hw := hw.2 c4
      refine g_ldc (v := -1000000001) E mw_376 dX9_turns_15 ?_
      exact g_iret E hw hP hS dX9_turns_17
theorem c_X9_turns (l : Launch) (D : va_G) (cy : Nat → ClassId) (ad : Nat → Nat → Nat) (ha : Apart regsC ad) {post : Int32 → St → Prop} {σ : St} {x1 : Int32} {x2 : Int32} (hw : w_X9_turns post σ x1 x2) (sz : Nat) : MetI l yX9_turns cX9_turns 4 .int rm_X9_turns [.ref (ad 0 0), .int x1, .int x2] D cy (cellC cy ad) regsC ad σ sz post :=
  Met_inI ok_X9_turns.2.2.2.2.2 (Nat.le_of_ble_eq_true rfl) (fun p e s m below meth c ls E hP hl => B_X9_turns_0 E ha hw hP va_S.rf hl)
-- RoofWar.set(III)I
theorem dX9_set_0 : decode cX9_set 0 = .ok (.aload_n 0, 1) := by decide +kernel
theorem dX9_set_1 : decode cX9_set 1 = .ok (.iload_n 1, 1) := by decide +kernel
theorem dX9_set_2 : decode cX9_set 2 = .ok (.invokevirtual 108, 3) := by decide +kernel
theorem dX9_set_5 : decode cX9_set 5 = .ok (.ifCond .ne 6, 3) := by decide +kernel
theorem dX9_set_8 : decode cX9_set 8 = .ok (.ldc 94, 2) := by decide +kernel
theorem dX9_set_10 : decode cX9_set 10 = .ok (.ireturn, 1) := by decide +kernel
theorem dX9_set_11 : decode cX9_set 11 = .ok (.iload_n 2, 1) := by decide +kernel
theorem dX9_set_12 : decode cX9_set 12 = .ok (.iconst 1, 1) := by decide +kernel
theorem dX9_set_13 : decode cX9_set 13 = .ok (.if_icmp .ne 37, 3) := by decide +kernel
theorem dX9_set_16 : decode cX9_set 16 = .ok (.iload_n 3, 1) := by decide +kernel
theorem dX9_set_17 : decode cX9_set 17 = .ok (.iconst 1, 1) := by decide +kernel
theorem dX9_set_18 : decode cX9_set 18 = .ok (.bipush 9, 2) := by decide +kernel
theorem dX9_set_20 : decode cX9_set 20 = .ok (.invokestatic 87, 3) := by decide +kernel
theorem dX9_set_23 : decode cX9_set 23 = .ok (.ifCond .eq 27, 3) := by decide +kernel
theorem dX9_set_26 : decode cX9_set 26 = .ok (.aload_n 0, 1) := by decide +kernel
theorem dX9_set_27 : decode cX9_set 27 = .ok (.getfield 21, 3) := by decide +kernel
theorem dX9_set_30 : decode cX9_set 30 = .ok (.getfield 114, 3) := by decide +kernel
theorem dX9_set_33 : decode cX9_set 33 = .ok (.iload_n 1, 1) := by decide +kernel
theorem dX9_set_34 : decode cX9_set 34 = .ok (.iaload, 1) := by decide +kernel
theorem dX9_set_35 : decode cX9_set 35 = .ok (.istore 4, 2) := by decide +kernel
theorem dX9_set_37 : decode cX9_set 37 = .ok (.aload_n 0, 1) := by decide +kernel
theorem dX9_set_38 : decode cX9_set 38 = .ok (.getfield 21, 3) := by decide +kernel
theorem dX9_set_41 : decode cX9_set 41 = .ok (.getfield 114, 3) := by decide +kernel
theorem dX9_set_44 : decode cX9_set 44 = .ok (.iload_n 1, 1) := by decide +kernel
theorem dX9_set_45 : decode cX9_set 45 = .ok (.iload_n 3, 1) := by decide +kernel
theorem dX9_set_46 : decode cX9_set 46 = .ok (.iastore, 1) := by decide +kernel
theorem dX9_set_47 : decode cX9_set 47 = .ok (.iload 4, 2) := by decide +kernel
theorem dX9_set_49 : decode cX9_set 49 = .ok (.ireturn, 1) := by decide +kernel
theorem dX9_set_50 : decode cX9_set 50 = .ok (.iload_n 2, 1) := by decide +kernel
theorem dX9_set_51 : decode cX9_set 51 = .ok (.iconst 2, 1) := by decide +kernel
theorem dX9_set_52 : decode cX9_set 52 = .ok (.if_icmp .ne 37, 3) := by decide +kernel
theorem dX9_set_55 : decode cX9_set 55 = .ok (.iload_n 3, 1) := by decide +kernel
theorem dX9_set_56 : decode cX9_set 56 = .ok (.iconst 0, 1) := by decide +kernel
theorem dX9_set_57 : decode cX9_set 57 = .ok (.bipush 99, 2) := by decide +kernel
theorem dX9_set_59 : decode cX9_set 59 = .ok (.invokestatic 87, 3) := by decide +kernel
theorem dX9_set_62 : decode cX9_set 62 = .ok (.ifCond .eq 27, 3) := by decide +kernel
theorem dX9_set_65 : decode cX9_set 65 = .ok (.aload_n 0, 1) := by decide +kernel
theorem dX9_set_66 : decode cX9_set 66 = .ok (.getfield 21, 3) := by decide +kernel
theorem dX9_set_69 : decode cX9_set 69 = .ok (.getfield 117, 3) := by decide +kernel
theorem dX9_set_72 : decode cX9_set 72 = .ok (.iload_n 1, 1) := by decide +kernel
theorem dX9_set_73 : decode cX9_set 73 = .ok (.iaload, 1) := by decide +kernel
theorem dX9_set_74 : decode cX9_set 74 = .ok (.istore 4, 2) := by decide +kernel
theorem dX9_set_76 : decode cX9_set 76 = .ok (.aload_n 0, 1) := by decide +kernel
theorem dX9_set_77 : decode cX9_set 77 = .ok (.getfield 21, 3) := by decide +kernel
theorem dX9_set_80 : decode cX9_set 80 = .ok (.getfield 117, 3) := by decide +kernel
theorem dX9_set_83 : decode cX9_set 83 = .ok (.iload_n 1, 1) := by decide +kernel
theorem dX9_set_84 : decode cX9_set 84 = .ok (.iload_n 3, 1) := by decide +kernel
theorem dX9_set_85 : decode cX9_set 85 = .ok (.iastore, 1) := by decide +kernel
theorem dX9_set_86 : decode cX9_set 86 = .ok (.iload 4, 2) := by decide +kernel
theorem dX9_set_88 : decode cX9_set 88 = .ok (.ireturn, 1) := by decide +kernel
theorem dX9_set_89 : decode cX9_set 89 = .ok (.ldc 94, 2) := by decide +kernel
theorem dX9_set_91 : decode cX9_set 91 = .ok (.ireturn, 1) := by decide +kernel
theorem ok_X9_set : okV yX9_set cX9_set 5 (some .int) 3 := ⟨mw_419, mw_420, mw_74, mw_421, by decide +kernel, by decide +kernel⟩
abbrev rm_X9_set : Room := { frames := 2, cells := 0, slots := 0, locals := 43 }
def b_X9_set_50 (post : Int32 → St → Prop) (σ : St) (x1 : Int32) (x2 : Int32) (x3 : Int32) : Prop := ((¬ x2 = 2 → (post ((-1000000001)) σ)) ∧ (x2 = 2 → (w_X9_within (fun r2 s2 => ((r2 = 0 → (post ((-1000000001)) s2)) ∧ (¬ r2 = 0 → (vp_in x1 12 ∧ (∀ v5 : Int32, v5 = s2 8 0 x1.toNatClampNeg → (vp_in x1 12 ∧ (∀ s7 : St, s7 = wr s2 8 0 x1.toNatClampNeg x3 → (post v5 s7)))))))) σ x3 (0 : Int32) (99 : Int32))))
theorem B_X9_set_50 (E : EnvW p s m args meth c D cy regsC ad "RoofWar" cX9_set 5 (some .int)) (ha : Apart regsC ad) {post : Int32 → St → Prop} {σ : St} {x1 : Int32} {x2 : Int32} {x3 : Int32} (hw : b_X9_set_50 post σ x1 x2 x3) {H : Heap} {locs : List Loc} {ls : Array Slot} (hP : va_P D CLS (wC cy ad σ) H) (hS : va_S (AC ad s.heap.size) s.heap H locs) (hl : lv_has ls 5 [(0, .ref (ad 0 0)), (1, .int x1), (2, .int x2), (3, .int x3)]) : W p l e rm_X9_set s m args below meth c H locs 0 0 (MQ below (QI D cy (cellC cy ad) regsC ad s.heap.size post) args s 0 0 (AC ad s.heap.size)) (F0 m 50 ls []) := by
  obtain ⟨hx, hb, -⟩ := id E
  unfold b_X9_set_50 at hw
  refine lv_iload_n hx hb dX9_set_50 rfl (lv_at hl 2 rfl) ?_
  refine lv_iconst (v := 2) hx hb dX9_set_51 (by decide) ?_
  refine lv_icmp_ne (tgt := 89) hx hb dX9_set_52 (by decide) (fun c1 => ?_) (fun c1 => ?_)
  · replace hw := hw.1 c1
    refine g_ldc (v := -1000000001) E mw_376 dX9_set_89 ?_
    exact g_iret E hw hP hS dX9_set_91
  · replace hw := hw.2 c1
    refine lv_iload_n hx hb dX9_set_55 rfl (lv_at hl 3 rfl) ?_
    refine lv_iconst (v := 0) hx hb dX9_set_56 (by decide) ?_
    refine lv_bipush (v := 99) hx hb dX9_set_57 (by decide) ?_
    refine g_cSi (As := [.int x3, .int 0, .int 99]) (rest := []) E hl.1 (c_X9_within l D cy ad ha hw _) ok_X9_within mw_370 ⟨(Nat.le_of_ble_eq_true rfl), (Nat.le_of_ble_eq_true rfl)⟩ ⟨rfl, rfl⟩ rfl rfl (Nat.le_of_ble_eq_true rfl) ⟨Nat.zero_le _, Nat.zero_le _⟩ hP hS dX9_set_59 (fun r2 s2 hw H locs hP hS => ?_)
    obtain ⟨z2, hw⟩ := hw
    refine lv_if_eq (tgt := 89) hx hb dX9_set_62 (by decide) (fun c3 => ?_) (fun c3 => ?_)
    · replace hw := hw.1 c3
      refine g_ldc (v := -1000000001) E mw_376 dX9_set_89 ?_
      exact g_iret E hw hP hS dX9_set_91
    · replace hw := hw.2 c3
      refine lv_aload_n hx hb dX9_set_65 rfl (lv_at hl 0 rfl) ?_
      refine fX9_1 E hP mw_324 dX9_set_66 ?_
      refine fX1_3 ((by decide : 0 < 3)) E hP mw_153 dX9_set_69 ?_
      refine lv_iload_n hx hb dX9_set_72 rfl (lv_at hl 1 rfl) ?_
      obtain ⟨h4, hw⟩ := hw
      refine aC8 ((by decide : 0 < 3)) E hP h4 dX9_set_73 ?_
      refine lv_topi (fun v5 ev5 => ?_)
      replace hw := hw v5 ev5
      refine lv_istore (lv' := [(4, .int v5), (0, .ref (ad 0 0)), (1, .int x1), (2, .int x2), (3, .int x3)]) hx hb dX9_set_74 hl (by decide) rfl (fun ls hl => ?_)
      refine lv_aload_n hx hb dX9_set_76 rfl (lv_at hl 1 rfl) ?_
      refine fX9_1 E hP mw_324 dX9_set_77 ?_
      refine fX1_3 ((by decide : 0 < 3)) E hP mw_153 dX9_set_80 ?_
      refine lv_iload_n hx hb dX9_set_83 rfl (lv_at hl 2 rfl) ?_
      refine lv_iload_n hx hb dX9_set_84 rfl (lv_at hl 4 rfl) ?_
      obtain ⟨h6, hw⟩ := hw
      refine tC8 ((by decide : 0 < 3)) E ha h6 dX9_set_85 hP hS (fun s7 es7 H locs hP hS => ?_)
      replace hw := hw s7 es7
      refine lv_iload hx hb dX9_set_86 (lv_at hl 0 rfl) ?_
      exact g_iret E hw hP hS dX9_set_88
def w_X9_set (post : Int32 → St → Prop) (σ : St) (x1 : Int32) (x2 : Int32) (x3 : Int32) : Prop := w_X9_isRoof (fun r1 s1 => ((¬ r1 = 0 → (((¬ x2 = 1 → (b_X9_set_50 post s1 x1 x2 x3)) ∧ (x2 = 1 → (w_X9_within (fun r4 s4 => ((r4 = 0 → (b_X9_set_50 post s4 x1 x2 x3)) ∧ (¬ r4 = 0 → (vp_in x1 12 ∧ (∀ v7 : Int32, v7 = s4 7 0 x1.toNatClampNeg → (vp_in x1 12 ∧ (∀ s9 : St, s9 = wr s4 7 0 x1.toNatClampNeg x3 → (post v7 s9)))))))) s1 x3 (1 : Int32) (9 : Int32)))))) ∧ (r1 = 0 → (post ((-1000000001)) s1)))) σ x1
theorem B_X9_set_0 (E : EnvW p s m args meth c D cy regsC ad "RoofWar" cX9_set 5 (some .int)) (ha : Apart regsC ad) {post : Int32 → St → Prop} {σ : St} {x1 : Int32} {x2 : Int32} {x3 : Int32} (hw : w_X9_set post σ x1 x2 x3) {H : Heap} {locs : List Loc} {ls : Array Slot} (hP : va_P D CLS (wC cy ad σ) H) (hS : va_S (AC ad s.heap.size) s.heap H locs) (hl : lv_has ls 5 [(0, .ref (ad 0 0)), (1, .int x1), (2, .int x2), (3, .int x3)]) : W p l e rm_X9_set s m args below meth c H locs 0 0 (MQ below (QI D cy (cellC cy ad) regsC ad s.heap.size post) args s 0 0 (AC ad s.heap.size)) (F0 m 0 ls []) := by
  obtain ⟨hx, hb, -⟩ := id E
  unfold w_X9_set at hw
  refine lv_aload_n hx hb dX9_set_0 rfl (lv_at hl 0 rfl) ?_
  refine lv_iload_n hx hb dX9_set_1 rfl (lv_at hl 1 rfl) ?_
  refine g_cVi (As := [.int x1]) (rest := []) E hl.1 (c_X9_isRoof l D cy ad ha hw _) ok_X9_isRoof mw_388 ⟨(Nat.le_of_ble_eq_true rfl), (Nat.le_of_ble_eq_true rfl)⟩ ⟨rfl, rfl⟩ rC0 rfl rfl rfl rfl rfl (Nat.le_of_ble_eq_true rfl) ⟨Nat.zero_le _, Nat.zero_le _⟩ hP hS dX9_set_2 (fun r1 s1 hw H locs hP hS => ?_)
  obtain ⟨z1, hw⟩ := hw
  refine lv_if_ne (tgt := 11) hx hb dX9_set_5 (by decide) (fun c2 => ?_) (fun c2 => ?_)
  · replace hw := hw.1 c2
    refine lv_iload_n hx hb dX9_set_11 rfl (lv_at hl 2 rfl) ?_
    refine lv_iconst (v := 1) hx hb dX9_set_12 (by decide) ?_
    refine lv_icmp_ne (tgt := 50) hx hb dX9_set_13 (by decide) (fun c3 => ?_) (fun c3 => ?_)
    · replace hw := hw.1 c3
      exact B_X9_set_50 E ha hw hP hS (lv_sub hl [0, 1, 2, 3] rfl)
    · replace hw := hw.2 c3
      refine lv_iload_n hx hb dX9_set_16 rfl (lv_at hl 3 rfl) ?_
      refine lv_iconst (v := 1) hx hb dX9_set_17 (by decide) ?_
      refine lv_bipush (v := 9) hx hb dX9_set_18 (by decide) ?_
      refine g_cSi (As := [.int x3, .int 1, .int 9]) (rest := []) E hl.1 (c_X9_within l D cy ad ha hw _) ok_X9_within mw_370 ⟨(Nat.le_of_ble_eq_true rfl), (Nat.le_of_ble_eq_true rfl)⟩ ⟨rfl, rfl⟩ rfl rfl (Nat.le_of_ble_eq_true rfl) ⟨Nat.zero_le _, Nat.zero_le _⟩ hP hS dX9_set_20 (fun r4 s4 hw H locs hP hS => ?_)
      obtain ⟨z4, hw⟩ := hw
      refine lv_if_eq (tgt := 50) hx hb dX9_set_23 (by decide) (fun c5 => ?_) (fun c5 => ?_)
      · replace hw := hw.1 c5
        exact B_X9_set_50 E ha hw hP hS (lv_sub hl [0, 1, 2, 3] rfl)
      · replace hw := hw.2 c5
        refine lv_aload_n hx hb dX9_set_26 rfl (lv_at hl 0 rfl) ?_
        refine fX9_1 E hP mw_324 dX9_set_27 ?_
        refine fX1_2 ((by decide : 0 < 3)) E hP mw_150 dX9_set_30 ?_
        refine lv_iload_n hx hb dX9_set_33 rfl (lv_at hl 1 rfl) ?_
        obtain ⟨h6, hw⟩ := hw
        refine aC7 ((by decide : 0 < 3)) E hP h6 dX9_set_34 ?_
        refine lv_topi (fun v7 ev7 => ?_)
        replace hw := hw v7 ev7
        refine lv_istore (lv' := [(4, .int v7), (0, .ref (ad 0 0)), (1, .int x1), (2, .int x2), (3, .int x3)]) hx hb dX9_set_35 hl (by decide) rfl (fun ls hl => ?_)
        refine lv_aload_n hx hb dX9_set_37 rfl (lv_at hl 1 rfl) ?_
        refine fX9_1 E hP mw_324 dX9_set_38 ?_
        refine fX1_2 ((by decide : 0 < 3)) E hP mw_150 dX9_set_41 ?_
        refine lv_iload_n hx hb dX9_set_44 rfl (lv_at hl 2 rfl) ?_
        refine lv_iload_n hx hb dX9_set_45 rfl (lv_at hl 4 rfl) ?_
        obtain ⟨h8, hw⟩ := hw
        refine tC7 ((by decide : 0 < 3)) E ha h8 dX9_set_46 hP hS (fun s9 es9 H locs hP hS => ?_)
        replace hw := hw s9 es9
        refine lv_iload hx hb dX9_set_47 (lv_at hl 0 rfl) ?_
        exact g_iret E hw hP hS dX9_set_49
  · replace hw := hw.2 c2
    refine g_ldc (v := -1000000001) E mw_376 dX9_set_8 ?_
    exact g_iret E hw hP hS dX9_set_10
theorem c_X9_set (l : Launch) (D : va_G) (cy : Nat → ClassId) (ad : Nat → Nat → Nat) (ha : Apart regsC ad) {post : Int32 → St → Prop} {σ : St} {x1 : Int32} {x2 : Int32} {x3 : Int32} (hw : w_X9_set post σ x1 x2 x3) (sz : Nat) : MetI l yX9_set cX9_set 5 .int rm_X9_set [.ref (ad 0 0), .int x1, .int x2, .int x3] D cy (cellC cy ad) regsC ad σ sz post :=
  Met_inI ok_X9_set.2.2.2.2.2 (Nat.le_of_ble_eq_true rfl) (fun p e s m below meth c ls E hP hl => B_X9_set_0 E ha hw hP va_S.rf hl)
-- RoofWar.moves(II)I
theorem dX9_moves_0 : decode cX9_moves 0 = .ok (.aload_n 0, 1) := by decide +kernel
theorem dX9_moves_1 : decode cX9_moves 1 = .ok (.iload_n 1, 1) := by decide +kernel
theorem dX9_moves_2 : decode cX9_moves 2 = .ok (.invokevirtual 108, 3) := by decide +kernel
theorem dX9_moves_5 : decode cX9_moves 5 = .ok (.ifCond .eq 10, 3) := by decide +kernel
theorem dX9_moves_8 : decode cX9_moves 8 = .ok (.iload_n 2, 1) := by decide +kernel
theorem dX9_moves_9 : decode cX9_moves 9 = .ok (.invokestatic 91, 3) := by decide +kernel
theorem dX9_moves_12 : decode cX9_moves 12 = .ok (.ifCond .ne 6, 3) := by decide +kernel
theorem dX9_moves_15 : decode cX9_moves 15 = .ok (.ldc 94, 2) := by decide +kernel
theorem dX9_moves_17 : decode cX9_moves 17 = .ok (.ireturn, 1) := by decide +kernel
theorem dX9_moves_18 : decode cX9_moves 18 = .ok (.aload_n 0, 1) := by decide +kernel
theorem dX9_moves_19 : decode cX9_moves 19 = .ok (.getfield 21, 3) := by decide +kernel
theorem dX9_moves_22 : decode cX9_moves 22 = .ok (.getfield 95, 3) := by decide +kernel
theorem dX9_moves_25 : decode cX9_moves 25 = .ok (.iload_n 2, 1) := by decide +kernel
theorem dX9_moves_26 : decode cX9_moves 26 = .ok (.iaload, 1) := by decide +kernel
theorem dX9_moves_27 : decode cX9_moves 27 = .ok (.ldc 98, 2) := by decide +kernel
theorem dX9_moves_29 : decode cX9_moves 29 = .ok (.if_icmp .eq 6, 3) := by decide +kernel
theorem dX9_moves_32 : decode cX9_moves 32 = .ok (.ldc 99, 2) := by decide +kernel
theorem dX9_moves_34 : decode cX9_moves 34 = .ok (.ireturn, 1) := by decide +kernel
theorem dX9_moves_35 : decode cX9_moves 35 = .ok (.aload_n 0, 1) := by decide +kernel
theorem dX9_moves_36 : decode cX9_moves 36 = .ok (.getfield 21, 3) := by decide +kernel
theorem dX9_moves_39 : decode cX9_moves 39 = .ok (.getfield 120, 3) := by decide +kernel
theorem dX9_moves_42 : decode cX9_moves 42 = .ok (.iload_n 1, 1) := by decide +kernel
theorem dX9_moves_43 : decode cX9_moves 43 = .ok (.iaload, 1) := by decide +kernel
theorem dX9_moves_44 : decode cX9_moves 44 = .ok (.istore_n 3, 1) := by decide +kernel
theorem dX9_moves_45 : decode cX9_moves 45 = .ok (.aload_n 0, 1) := by decide +kernel
theorem dX9_moves_46 : decode cX9_moves 46 = .ok (.getfield 21, 3) := by decide +kernel
theorem dX9_moves_49 : decode cX9_moves 49 = .ok (.iload_n 1, 1) := by decide +kernel
theorem dX9_moves_50 : decode cX9_moves 50 = .ok (.iload_n 2, 1) := by decide +kernel
theorem dX9_moves_51 : decode cX9_moves 51 = .ok (.invokevirtual 143, 3) := by decide +kernel
theorem dX9_moves_54 : decode cX9_moves 54 = .ok (.iload_n 3, 1) := by decide +kernel
theorem dX9_moves_55 : decode cX9_moves 55 = .ok (.ireturn, 1) := by decide +kernel
theorem ok_X9_moves : okV yX9_moves cX9_moves 4 (some .int) 2 := ⟨mw_423, mw_424, mw_74, mw_425, by decide +kernel, by decide +kernel⟩
abbrev rm_X9_moves : Room := { frames := 2, cells := 0, slots := 0, locals := 43 }
def w_X9_moves (post : Int32 → St → Prop) (σ : St) (x1 : Int32) (x2 : Int32) : Prop := w_X9_isRoof (fun r1 s1 => ((r1 = 0 → (post ((-1000000001)) s1)) ∧ (¬ r1 = 0 → (w_X9_isHouse (fun r3 s3 => ((¬ r3 = 0 → (vp_in x2 12 ∧ ((((s3 12 0 x2.toNatClampNeg) = ((-1000000005)) → (vp_in x1 12 ∧ (∀ v8 : Int32, v8 = s3 9 0 x1.toNatClampNeg → (w_X1_put (fun s9 => post v8 s9) s3 0 x1 x2)))) ∧ (¬ (s3 12 0 x2.toNatClampNeg) = ((-1000000005)) → (post ((-1000000002)) s3)))))) ∧ (r3 = 0 → (post ((-1000000001)) s3)))) s1 x2)))) σ x1
theorem B_X9_moves_0 (E : EnvW p s m args meth c D cy regsC ad "RoofWar" cX9_moves 4 (some .int)) (ha : Apart regsC ad) {post : Int32 → St → Prop} {σ : St} {x1 : Int32} {x2 : Int32} (hw : w_X9_moves post σ x1 x2) {H : Heap} {locs : List Loc} {ls : Array Slot} (hP : va_P D CLS (wC cy ad σ) H) (hS : va_S (AC ad s.heap.size) s.heap H locs) (hl : lv_has ls 4 [(0, .ref (ad 0 0)), (1, .int x1), (2, .int x2)]) : W p l e rm_X9_moves s m args below meth c H locs 0 0 (MQ below (QI D cy (cellC cy ad) regsC ad s.heap.size post) args s 0 0 (AC ad s.heap.size)) (F0 m 0 ls []) := by
  obtain ⟨hx, hb, -⟩ := id E
  unfold w_X9_moves at hw
  refine lv_aload_n hx hb dX9_moves_0 rfl (lv_at hl 0 rfl) ?_
  refine lv_iload_n hx hb dX9_moves_1 rfl (lv_at hl 1 rfl) ?_
  refine g_cVi (As := [.int x1]) (rest := []) E hl.1 (c_X9_isRoof l D cy ad ha hw _) ok_X9_isRoof mw_388 ⟨(Nat.le_of_ble_eq_true rfl), (Nat.le_of_ble_eq_true rfl)⟩ ⟨rfl, rfl⟩ rC0 rfl rfl rfl rfl rfl (Nat.le_of_ble_eq_true rfl) ⟨Nat.zero_le _, Nat.zero_le _⟩ hP hS dX9_moves_2 (fun r1 s1 hw H locs hP hS => ?_)
  obtain ⟨z1, hw⟩ := hw
  refine lv_if_eq (tgt := 15) hx hb dX9_moves_5 (by decide) (fun c2 => ?_) (fun c2 => ?_)
  · replace hw := hw.1 c2
    refine g_ldc (v := -1000000001) E mw_376 dX9_moves_15 ?_
    exact g_iret E hw hP hS dX9_moves_17
  · replace hw := hw.2 c2
    refine lv_iload_n hx hb dX9_moves_8 rfl (lv_at hl 2 rfl) ?_
    refine g_cSi (As := [.int x2]) (rest := []) E hl.1 (c_X9_isHouse l D cy ad ha hw _) ok_X9_isHouse mw_373 ⟨(Nat.le_of_ble_eq_true rfl), (Nat.le_of_ble_eq_true rfl)⟩ ⟨rfl, rfl⟩ rfl rfl (Nat.le_of_ble_eq_true rfl) ⟨Nat.zero_le _, Nat.zero_le _⟩ hP hS dX9_moves_9 (fun r3 s3 hw H locs hP hS => ?_)
    obtain ⟨z3, hw⟩ := hw
    refine lv_if_ne (tgt := 18) hx hb dX9_moves_12 (by decide) (fun c4 => ?_) (fun c4 => ?_)
    · replace hw := hw.1 c4
      refine lv_aload_n hx hb dX9_moves_18 rfl (lv_at hl 0 rfl) ?_
      refine fX9_1 E hP mw_324 dX9_moves_19 ?_
      refine fX1_7 ((by decide : 0 < 3)) E hP mw_163 dX9_moves_22 ?_
      refine lv_iload_n hx hb dX9_moves_25 rfl (lv_at hl 2 rfl) ?_
      obtain ⟨h5, hw⟩ := hw
      refine aC12 ((by decide : 0 < 3)) E hP h5 dX9_moves_26 ?_
      refine g_ldc (v := -1000000005) E mw_377 dX9_moves_27 ?_
      refine lv_icmp_eq (tgt := 35) hx hb dX9_moves_29 (by decide) (fun c6 => ?_) (fun c6 => ?_)
      · replace hw := hw.1 c6
        refine lv_aload_n hx hb dX9_moves_35 rfl (lv_at hl 0 rfl) ?_
        refine fX9_1 E hP mw_324 dX9_moves_36 ?_
        refine fX1_4 ((by decide : 0 < 3)) E hP mw_157 dX9_moves_39 ?_
        refine lv_iload_n hx hb dX9_moves_42 rfl (lv_at hl 1 rfl) ?_
        obtain ⟨h7, hw⟩ := hw
        refine aC9 ((by decide : 0 < 3)) E hP h7 dX9_moves_43 ?_
        refine lv_topi (fun v8 ev8 => ?_)
        replace hw := hw v8 ev8
        refine lv_istore_n (lv' := [(3, .int v8), (0, .ref (ad 0 0)), (1, .int x1), (2, .int x2)]) hx hb dX9_moves_44 rfl hl (by decide) rfl (fun ls hl => ?_)
        refine lv_aload_n hx hb dX9_moves_45 rfl (lv_at hl 1 rfl) ?_
        refine fX9_1 E hP mw_324 dX9_moves_46 ?_
        refine lv_iload_n hx hb dX9_moves_49 rfl (lv_at hl 2 rfl) ?_
        refine lv_iload_n hx hb dX9_moves_50 rfl (lv_at hl 3 rfl) ?_
        refine g_cVv (As := [.int x1, .int x2]) (rest := []) E hl.1 (c_X1_put l D cy ad ha ((by decide : 0 < 3)) hw _) ok_X1_put mw_426 ⟨(Nat.le_of_ble_eq_true rfl), (Nat.le_of_ble_eq_true rfl)⟩ ⟨rfl, rfl⟩ (rC5 (by decide : 0 < 3)) rfl rfl rfl rfl rfl (Nat.le_of_ble_eq_true rfl) ⟨Nat.zero_le _, Nat.zero_le _⟩ hP hS dX9_moves_51 (fun s9 hw H locs hP hS => ?_)
        refine lv_iload_n hx hb dX9_moves_54 rfl (lv_at hl 0 rfl) ?_
        exact g_iret E hw hP hS dX9_moves_55
      · replace hw := hw.2 c6
        refine g_ldc (v := -1000000002) E mw_378 dX9_moves_32 ?_
        exact g_iret E hw hP hS dX9_moves_34
    · replace hw := hw.2 c4
      refine g_ldc (v := -1000000001) E mw_376 dX9_moves_15 ?_
      exact g_iret E hw hP hS dX9_moves_17
theorem c_X9_moves (l : Launch) (D : va_G) (cy : Nat → ClassId) (ad : Nat → Nat → Nat) (ha : Apart regsC ad) {post : Int32 → St → Prop} {σ : St} {x1 : Int32} {x2 : Int32} (hw : w_X9_moves post σ x1 x2) (sz : Nat) : MetI l yX9_moves cX9_moves 4 .int rm_X9_moves [.ref (ad 0 0), .int x1, .int x2] D cy (cellC cy ad) regsC ad σ sz post :=
  Met_inI ok_X9_moves.2.2.2.2.2 (Nat.le_of_ble_eq_true rfl) (fun p e s m below meth c ls E hP hl => B_X9_moves_0 E ha hw hP va_S.rf hl)
-- RoofWar.house(II)I
theorem dX9_house_0 : decode cX9_house 0 = .ok (.iload_n 1, 1) := by decide +kernel
theorem dX9_house_1 : decode cX9_house 1 = .ok (.invokestatic 91, 3) := by decide +kernel
theorem dX9_house_4 : decode cX9_house 4 = .ok (.ifCond .ne 6, 3) := by decide +kernel
theorem dX9_house_7 : decode cX9_house 7 = .ok (.ldc 94, 2) := by decide +kernel
theorem dX9_house_9 : decode cX9_house 9 = .ok (.ireturn, 1) := by decide +kernel
theorem dX9_house_10 : decode cX9_house 10 = .ok (.iload_n 2, 1) := by decide +kernel
theorem dX9_house_11 : decode cX9_house 11 = .ok (.tableswitch 68 0 3 #[29, 39, 49, 59], 29) := by decide +kernel
theorem dX9_house_40 : decode cX9_house 40 = .ok (.aload_n 0, 1) := by decide +kernel
theorem dX9_house_41 : decode cX9_house 41 = .ok (.getfield 21, 3) := by decide +kernel
theorem dX9_house_44 : decode cX9_house 44 = .ok (.getfield 147, 3) := by decide +kernel
theorem dX9_house_47 : decode cX9_house 47 = .ok (.iload_n 1, 1) := by decide +kernel
theorem dX9_house_48 : decode cX9_house 48 = .ok (.iaload, 1) := by decide +kernel
theorem dX9_house_49 : decode cX9_house 49 = .ok (.ireturn, 1) := by decide +kernel
theorem dX9_house_50 : decode cX9_house 50 = .ok (.aload_n 0, 1) := by decide +kernel
theorem dX9_house_51 : decode cX9_house 51 = .ok (.getfield 21, 3) := by decide +kernel
theorem dX9_house_54 : decode cX9_house 54 = .ok (.getfield 150, 3) := by decide +kernel
theorem dX9_house_57 : decode cX9_house 57 = .ok (.iload_n 1, 1) := by decide +kernel
theorem dX9_house_58 : decode cX9_house 58 = .ok (.iaload, 1) := by decide +kernel
theorem dX9_house_59 : decode cX9_house 59 = .ok (.ireturn, 1) := by decide +kernel
theorem dX9_house_60 : decode cX9_house 60 = .ok (.aload_n 0, 1) := by decide +kernel
theorem dX9_house_61 : decode cX9_house 61 = .ok (.getfield 21, 3) := by decide +kernel
theorem dX9_house_64 : decode cX9_house 64 = .ok (.getfield 95, 3) := by decide +kernel
theorem dX9_house_67 : decode cX9_house 67 = .ok (.iload_n 1, 1) := by decide +kernel
theorem dX9_house_68 : decode cX9_house 68 = .ok (.iaload, 1) := by decide +kernel
theorem dX9_house_69 : decode cX9_house 69 = .ok (.ireturn, 1) := by decide +kernel
theorem dX9_house_70 : decode cX9_house 70 = .ok (.aload_n 0, 1) := by decide +kernel
theorem dX9_house_71 : decode cX9_house 71 = .ok (.getfield 21, 3) := by decide +kernel
theorem dX9_house_74 : decode cX9_house 74 = .ok (.iload_n 1, 1) := by decide +kernel
theorem dX9_house_75 : decode cX9_house 75 = .ok (.invokevirtual 153, 3) := by decide +kernel
theorem dX9_house_78 : decode cX9_house 78 = .ok (.ireturn, 1) := by decide +kernel
theorem dX9_house_79 : decode cX9_house 79 = .ok (.ldc 94, 2) := by decide +kernel
theorem dX9_house_81 : decode cX9_house 81 = .ok (.ireturn, 1) := by decide +kernel
theorem ok_X9_house : okV yX9_house cX9_house 3 (some .int) 2 := ⟨mw_431, mw_432, mw_74, mw_433, by decide +kernel, by decide +kernel⟩
abbrev rm_X9_house : Room := { frames := 3, cells := 0, slots := 0, locals := 68 }
def w_X9_house (post : Int32 → St → Prop) (σ : St) (x1 : Int32) (x2 : Int32) : Prop := w_X9_isHouse (fun r1 s1 => ((¬ r1 = 0 → (((x2 = 0 → (vp_in x1 12 ∧ (post (s1 10 0 x1.toNatClampNeg) s1))) ∧ (¬ x2 = 0 → (((x2 = 1 → (vp_in x1 12 ∧ (post (s1 11 0 x1.toNatClampNeg) s1))) ∧ (¬ x2 = 1 → (((x2 = 2 → (vp_in x1 12 ∧ (post (s1 12 0 x1.toNatClampNeg) s1))) ∧ (¬ x2 = 2 → (((x2 = 3 → (w_X1_dryIn (fun r10 s10 => post r10 s10) s1 0 x1)) ∧ (¬ x2 = 3 → (post ((-1000000001)) s1)))))))))))))) ∧ (r1 = 0 → (post ((-1000000001)) s1)))) σ x1
theorem B_X9_house_0 (E : EnvW p s m args meth c D cy regsC ad "RoofWar" cX9_house 3 (some .int)) (ha : Apart regsC ad) {post : Int32 → St → Prop} {σ : St} {x1 : Int32} {x2 : Int32} (hw : w_X9_house post σ x1 x2) {H : Heap} {locs : List Loc} {ls : Array Slot} (hP : va_P D CLS (wC cy ad σ) H) (hS : va_S (AC ad s.heap.size) s.heap H locs) (hl : lv_has ls 3 [(0, .ref (ad 0 0)), (1, .int x1), (2, .int x2)]) : W p l e rm_X9_house s m args below meth c H locs 0 0 (MQ below (QI D cy (cellC cy ad) regsC ad s.heap.size post) args s 0 0 (AC ad s.heap.size)) (F0 m 0 ls []) := by
  obtain ⟨hx, hb, -⟩ := id E
  unfold w_X9_house at hw
  refine lv_iload_n hx hb dX9_house_0 rfl (lv_at hl 1 rfl) ?_
  refine g_cSi (As := [.int x1]) (rest := []) E hl.1 (c_X9_isHouse l D cy ad ha hw _) ok_X9_isHouse mw_373 ⟨(Nat.le_of_ble_eq_true rfl), (Nat.le_of_ble_eq_true rfl)⟩ ⟨rfl, rfl⟩ rfl rfl (Nat.le_of_ble_eq_true rfl) ⟨Nat.zero_le _, Nat.zero_le _⟩ hP hS dX9_house_1 (fun r1 s1 hw H locs hP hS => ?_)
  obtain ⟨z1, hw⟩ := hw
  refine lv_if_ne (tgt := 10) hx hb dX9_house_4 (by decide) (fun c2 => ?_) (fun c2 => ?_)
  · replace hw := hw.1 c2
    refine lv_iload_n hx hb dX9_house_10 rfl (lv_at hl 2 rfl) ?_
    by_cases c3 : x2 = 0
    · replace hw := hw.1 c3
      refine lv_tableIn (off := 29) (tgt := 40) hx hb dX9_house_11 (by rw [c3]; decide) (by rw [c3]; decide) (by rw [c3]; rfl) (by decide) ?_
      refine lv_aload_n hx hb dX9_house_40 rfl (lv_at hl 0 rfl) ?_
      refine fX9_1 E hP mw_324 dX9_house_41 ?_
      refine fX1_5 ((by decide : 0 < 3)) E hP mw_159 dX9_house_44 ?_
      refine lv_iload_n hx hb dX9_house_47 rfl (lv_at hl 1 rfl) ?_
      obtain ⟨h4, hw⟩ := hw
      refine aC10 ((by decide : 0 < 3)) E hP h4 dX9_house_48 ?_
      exact g_iret E hw hP hS dX9_house_49
    · replace hw := hw.2 c3
      by_cases c5 : x2 = 1
      · replace hw := hw.1 c5
        refine lv_tableIn (off := 39) (tgt := 50) hx hb dX9_house_11 (by rw [c5]; decide) (by rw [c5]; decide) (by rw [c5]; rfl) (by decide) ?_
        refine lv_aload_n hx hb dX9_house_50 rfl (lv_at hl 0 rfl) ?_
        refine fX9_1 E hP mw_324 dX9_house_51 ?_
        refine fX1_6 ((by decide : 0 < 3)) E hP mw_161 dX9_house_54 ?_
        refine lv_iload_n hx hb dX9_house_57 rfl (lv_at hl 1 rfl) ?_
        obtain ⟨h6, hw⟩ := hw
        refine aC11 ((by decide : 0 < 3)) E hP h6 dX9_house_58 ?_
        exact g_iret E hw hP hS dX9_house_59
      · replace hw := hw.2 c5
        by_cases c7 : x2 = 2
        · replace hw := hw.1 c7
          refine lv_tableIn (off := 49) (tgt := 60) hx hb dX9_house_11 (by rw [c7]; decide) (by rw [c7]; decide) (by rw [c7]; rfl) (by decide) ?_
          refine lv_aload_n hx hb dX9_house_60 rfl (lv_at hl 0 rfl) ?_
          refine fX9_1 E hP mw_324 dX9_house_61 ?_
          refine fX1_7 ((by decide : 0 < 3)) E hP mw_163 dX9_house_64 ?_
          refine lv_iload_n hx hb dX9_house_67 rfl (lv_at hl 1 rfl) ?_
          obtain ⟨h8, hw⟩ := hw
          refine aC12 ((by decide : 0 < 3)) E hP h8 dX9_house_68 ?_
          exact g_iret E hw hP hS dX9_house_69
        · replace hw := hw.2 c7
          by_cases c9 : x2 = 3
          · replace hw := hw.1 c9
            refine lv_tableIn (off := 59) (tgt := 70) hx hb dX9_house_11 (by rw [c9]; decide) (by rw [c9]; decide) (by rw [c9]; rfl) (by decide) ?_
            refine lv_aload_n hx hb dX9_house_70 rfl (lv_at hl 0 rfl) ?_
            refine fX9_1 E hP mw_324 dX9_house_71 ?_
            refine lv_iload_n hx hb dX9_house_74 rfl (lv_at hl 1 rfl) ?_
            refine g_cVi (As := [.int x1]) (rest := []) E hl.1 (c_X1_dryIn l D cy ad ha ((by decide : 0 < 3)) hw _) ok_X1_dryIn mw_434 ⟨(Nat.le_of_ble_eq_true rfl), (Nat.le_of_ble_eq_true rfl)⟩ ⟨rfl, rfl⟩ (rC5 (by decide : 0 < 3)) rfl rfl rfl rfl rfl (Nat.le_of_ble_eq_true rfl) ⟨Nat.zero_le _, Nat.zero_le _⟩ hP hS dX9_house_75 (fun r10 s10 hw H locs hP hS => ?_)
            exact g_iret E hw hP hS dX9_house_78
          · replace hw := hw.2 c9
            have e3 := ne_toI c3 (n := 0) (k := 0) (by decide)
            have e5 := ne_toI c5 (n := 1) (k := 1) (by decide)
            have e7 := ne_toI c7 (n := 2) (k := 2) (by decide)
            have e9 := ne_toI c9 (n := 3) (k := 3) (by decide)
            refine lv_tableOut (tgt := 79) hx hb dX9_house_11 (by omega) (by decide) ?_
            refine g_ldc (v := -1000000001) E mw_376 dX9_house_79 ?_
            exact g_iret E hw hP hS dX9_house_81
  · replace hw := hw.2 c2
    refine g_ldc (v := -1000000001) E mw_376 dX9_house_7 ?_
    exact g_iret E hw hP hS dX9_house_9
theorem c_X9_house (l : Launch) (D : va_G) (cy : Nat → ClassId) (ad : Nat → Nat → Nat) (ha : Apart regsC ad) {post : Int32 → St → Prop} {σ : St} {x1 : Int32} {x2 : Int32} (hw : w_X9_house post σ x1 x2) (sz : Nat) : MetI l yX9_house cX9_house 3 .int rm_X9_house [.ref (ad 0 0), .int x1, .int x2] D cy (cellC cy ad) regsC ad σ sz post :=
  Met_inI ok_X9_house.2.2.2.2.2 (Nat.le_of_ble_eq_true rfl) (fun p e s m below meth c ls E hP hl => B_X9_house_0 E ha hw hP va_S.rf hl)
-- RoofWar.lodges(III)I
theorem dX9_lodges_0 : decode cX9_lodges 0 = .ok (.iload_n 1, 1) := by decide +kernel
theorem dX9_lodges_1 : decode cX9_lodges 1 = .ok (.invokestatic 91, 3) := by decide +kernel
theorem dX9_lodges_4 : decode cX9_lodges 4 = .ok (.ifCond .ne 6, 3) := by decide +kernel
theorem dX9_lodges_7 : decode cX9_lodges 7 = .ok (.ldc 94, 2) := by decide +kernel
theorem dX9_lodges_9 : decode cX9_lodges 9 = .ok (.ireturn, 1) := by decide +kernel
theorem dX9_lodges_10 : decode cX9_lodges 10 = .ok (.iload_n 2, 1) := by decide +kernel
theorem dX9_lodges_11 : decode cX9_lodges 11 = .ok (.ifCond .ne 37, 3) := by decide +kernel
theorem dX9_lodges_14 : decode cX9_lodges 14 = .ok (.iload_n 3, 1) := by decide +kernel
theorem dX9_lodges_15 : decode cX9_lodges 15 = .ok (.iconst 0, 1) := by decide +kernel
theorem dX9_lodges_16 : decode cX9_lodges 16 = .ok (.bipush 9, 2) := by decide +kernel
theorem dX9_lodges_18 : decode cX9_lodges 18 = .ok (.invokestatic 87, 3) := by decide +kernel
theorem dX9_lodges_21 : decode cX9_lodges 21 = .ok (.ifCond .eq 27, 3) := by decide +kernel
theorem dX9_lodges_24 : decode cX9_lodges 24 = .ok (.aload_n 0, 1) := by decide +kernel
theorem dX9_lodges_25 : decode cX9_lodges 25 = .ok (.getfield 21, 3) := by decide +kernel
theorem dX9_lodges_28 : decode cX9_lodges 28 = .ok (.getfield 147, 3) := by decide +kernel
theorem dX9_lodges_31 : decode cX9_lodges 31 = .ok (.iload_n 1, 1) := by decide +kernel
theorem dX9_lodges_32 : decode cX9_lodges 32 = .ok (.iaload, 1) := by decide +kernel
theorem dX9_lodges_33 : decode cX9_lodges 33 = .ok (.istore 4, 2) := by decide +kernel
theorem dX9_lodges_35 : decode cX9_lodges 35 = .ok (.aload_n 0, 1) := by decide +kernel
theorem dX9_lodges_36 : decode cX9_lodges 36 = .ok (.getfield 21, 3) := by decide +kernel
theorem dX9_lodges_39 : decode cX9_lodges 39 = .ok (.getfield 147, 3) := by decide +kernel
theorem dX9_lodges_42 : decode cX9_lodges 42 = .ok (.iload_n 1, 1) := by decide +kernel
theorem dX9_lodges_43 : decode cX9_lodges 43 = .ok (.iload_n 3, 1) := by decide +kernel
theorem dX9_lodges_44 : decode cX9_lodges 44 = .ok (.iastore, 1) := by decide +kernel
theorem dX9_lodges_45 : decode cX9_lodges 45 = .ok (.iload 4, 2) := by decide +kernel
theorem dX9_lodges_47 : decode cX9_lodges 47 = .ok (.ireturn, 1) := by decide +kernel
theorem dX9_lodges_48 : decode cX9_lodges 48 = .ok (.iload_n 2, 1) := by decide +kernel
theorem dX9_lodges_49 : decode cX9_lodges 49 = .ok (.iconst 1, 1) := by decide +kernel
theorem dX9_lodges_50 : decode cX9_lodges 50 = .ok (.if_icmp .ne 37, 3) := by decide +kernel
theorem dX9_lodges_53 : decode cX9_lodges 53 = .ok (.iload_n 3, 1) := by decide +kernel
theorem dX9_lodges_54 : decode cX9_lodges 54 = .ok (.iconst 0, 1) := by decide +kernel
theorem dX9_lodges_55 : decode cX9_lodges 55 = .ok (.bipush 100, 2) := by decide +kernel
theorem dX9_lodges_57 : decode cX9_lodges 57 = .ok (.invokestatic 87, 3) := by decide +kernel
theorem dX9_lodges_60 : decode cX9_lodges 60 = .ok (.ifCond .eq 27, 3) := by decide +kernel
theorem dX9_lodges_63 : decode cX9_lodges 63 = .ok (.aload_n 0, 1) := by decide +kernel
theorem dX9_lodges_64 : decode cX9_lodges 64 = .ok (.getfield 21, 3) := by decide +kernel
theorem dX9_lodges_67 : decode cX9_lodges 67 = .ok (.getfield 150, 3) := by decide +kernel
theorem dX9_lodges_70 : decode cX9_lodges 70 = .ok (.iload_n 1, 1) := by decide +kernel
theorem dX9_lodges_71 : decode cX9_lodges 71 = .ok (.iaload, 1) := by decide +kernel
theorem dX9_lodges_72 : decode cX9_lodges 72 = .ok (.istore 4, 2) := by decide +kernel
theorem dX9_lodges_74 : decode cX9_lodges 74 = .ok (.aload_n 0, 1) := by decide +kernel
theorem dX9_lodges_75 : decode cX9_lodges 75 = .ok (.getfield 21, 3) := by decide +kernel
theorem dX9_lodges_78 : decode cX9_lodges 78 = .ok (.getfield 150, 3) := by decide +kernel
theorem dX9_lodges_81 : decode cX9_lodges 81 = .ok (.iload_n 1, 1) := by decide +kernel
theorem dX9_lodges_82 : decode cX9_lodges 82 = .ok (.iload_n 3, 1) := by decide +kernel
theorem dX9_lodges_83 : decode cX9_lodges 83 = .ok (.iastore, 1) := by decide +kernel
theorem dX9_lodges_84 : decode cX9_lodges 84 = .ok (.iload 4, 2) := by decide +kernel
theorem dX9_lodges_86 : decode cX9_lodges 86 = .ok (.ireturn, 1) := by decide +kernel
theorem dX9_lodges_87 : decode cX9_lodges 87 = .ok (.ldc 94, 2) := by decide +kernel
theorem dX9_lodges_89 : decode cX9_lodges 89 = .ok (.ireturn, 1) := by decide +kernel
theorem ok_X9_lodges : okV yX9_lodges cX9_lodges 5 (some .int) 3 := ⟨mw_447, mw_448, mw_74, mw_449, by decide +kernel, by decide +kernel⟩
abbrev rm_X9_lodges : Room := { frames := 2, cells := 0, slots := 0, locals := 42 }
def b_X9_lodges_48 (post : Int32 → St → Prop) (σ : St) (x1 : Int32) (x2 : Int32) (x3 : Int32) : Prop := ((¬ x2 = 1 → (post ((-1000000001)) σ)) ∧ (x2 = 1 → (w_X9_within (fun r2 s2 => ((r2 = 0 → (post ((-1000000001)) s2)) ∧ (¬ r2 = 0 → (vp_in x1 12 ∧ (∀ v5 : Int32, v5 = s2 11 0 x1.toNatClampNeg → (vp_in x1 12 ∧ (∀ s7 : St, s7 = wr s2 11 0 x1.toNatClampNeg x3 → (post v5 s7)))))))) σ x3 (0 : Int32) (100 : Int32))))
theorem B_X9_lodges_48 (E : EnvW p s m args meth c D cy regsC ad "RoofWar" cX9_lodges 5 (some .int)) (ha : Apart regsC ad) {post : Int32 → St → Prop} {σ : St} {x1 : Int32} {x2 : Int32} {x3 : Int32} (hw : b_X9_lodges_48 post σ x1 x2 x3) {H : Heap} {locs : List Loc} {ls : Array Slot} (hP : va_P D CLS (wC cy ad σ) H) (hS : va_S (AC ad s.heap.size) s.heap H locs) (hl : lv_has ls 5 [(0, .ref (ad 0 0)), (1, .int x1), (2, .int x2), (3, .int x3)]) : W p l e rm_X9_lodges s m args below meth c H locs 0 0 (MQ below (QI D cy (cellC cy ad) regsC ad s.heap.size post) args s 0 0 (AC ad s.heap.size)) (F0 m 48 ls []) := by
  obtain ⟨hx, hb, -⟩ := id E
  unfold b_X9_lodges_48 at hw
  refine lv_iload_n hx hb dX9_lodges_48 rfl (lv_at hl 2 rfl) ?_
  refine lv_iconst (v := 1) hx hb dX9_lodges_49 (by decide) ?_
  refine lv_icmp_ne (tgt := 87) hx hb dX9_lodges_50 (by decide) (fun c1 => ?_) (fun c1 => ?_)
  · replace hw := hw.1 c1
    refine g_ldc (v := -1000000001) E mw_376 dX9_lodges_87 ?_
    exact g_iret E hw hP hS dX9_lodges_89
  · replace hw := hw.2 c1
    refine lv_iload_n hx hb dX9_lodges_53 rfl (lv_at hl 3 rfl) ?_
    refine lv_iconst (v := 0) hx hb dX9_lodges_54 (by decide) ?_
    refine lv_bipush (v := 100) hx hb dX9_lodges_55 (by decide) ?_
    refine g_cSi (As := [.int x3, .int 0, .int 100]) (rest := []) E hl.1 (c_X9_within l D cy ad ha hw _) ok_X9_within mw_370 ⟨(Nat.le_of_ble_eq_true rfl), (Nat.le_of_ble_eq_true rfl)⟩ ⟨rfl, rfl⟩ rfl rfl (Nat.le_of_ble_eq_true rfl) ⟨Nat.zero_le _, Nat.zero_le _⟩ hP hS dX9_lodges_57 (fun r2 s2 hw H locs hP hS => ?_)
    obtain ⟨z2, hw⟩ := hw
    refine lv_if_eq (tgt := 87) hx hb dX9_lodges_60 (by decide) (fun c3 => ?_) (fun c3 => ?_)
    · replace hw := hw.1 c3
      refine g_ldc (v := -1000000001) E mw_376 dX9_lodges_87 ?_
      exact g_iret E hw hP hS dX9_lodges_89
    · replace hw := hw.2 c3
      refine lv_aload_n hx hb dX9_lodges_63 rfl (lv_at hl 0 rfl) ?_
      refine fX9_1 E hP mw_324 dX9_lodges_64 ?_
      refine fX1_6 ((by decide : 0 < 3)) E hP mw_161 dX9_lodges_67 ?_
      refine lv_iload_n hx hb dX9_lodges_70 rfl (lv_at hl 1 rfl) ?_
      obtain ⟨h4, hw⟩ := hw
      refine aC11 ((by decide : 0 < 3)) E hP h4 dX9_lodges_71 ?_
      refine lv_topi (fun v5 ev5 => ?_)
      replace hw := hw v5 ev5
      refine lv_istore (lv' := [(4, .int v5), (0, .ref (ad 0 0)), (1, .int x1), (2, .int x2), (3, .int x3)]) hx hb dX9_lodges_72 hl (by decide) rfl (fun ls hl => ?_)
      refine lv_aload_n hx hb dX9_lodges_74 rfl (lv_at hl 1 rfl) ?_
      refine fX9_1 E hP mw_324 dX9_lodges_75 ?_
      refine fX1_6 ((by decide : 0 < 3)) E hP mw_161 dX9_lodges_78 ?_
      refine lv_iload_n hx hb dX9_lodges_81 rfl (lv_at hl 2 rfl) ?_
      refine lv_iload_n hx hb dX9_lodges_82 rfl (lv_at hl 4 rfl) ?_
      obtain ⟨h6, hw⟩ := hw
      refine tC11 ((by decide : 0 < 3)) E ha h6 dX9_lodges_83 hP hS (fun s7 es7 H locs hP hS => ?_)
      replace hw := hw s7 es7
      refine lv_iload hx hb dX9_lodges_84 (lv_at hl 0 rfl) ?_
      exact g_iret E hw hP hS dX9_lodges_86
def w_X9_lodges (post : Int32 → St → Prop) (σ : St) (x1 : Int32) (x2 : Int32) (x3 : Int32) : Prop := w_X9_isHouse (fun r1 s1 => ((¬ r1 = 0 → (((¬ x2 = 0 → (b_X9_lodges_48 post s1 x1 x2 x3)) ∧ (x2 = 0 → (w_X9_within (fun r4 s4 => ((r4 = 0 → (b_X9_lodges_48 post s4 x1 x2 x3)) ∧ (¬ r4 = 0 → (vp_in x1 12 ∧ (∀ v7 : Int32, v7 = s4 10 0 x1.toNatClampNeg → (vp_in x1 12 ∧ (∀ s9 : St, s9 = wr s4 10 0 x1.toNatClampNeg x3 → (post v7 s9)))))))) s1 x3 (0 : Int32) (9 : Int32)))))) ∧ (r1 = 0 → (post ((-1000000001)) s1)))) σ x1
theorem B_X9_lodges_0 (E : EnvW p s m args meth c D cy regsC ad "RoofWar" cX9_lodges 5 (some .int)) (ha : Apart regsC ad) {post : Int32 → St → Prop} {σ : St} {x1 : Int32} {x2 : Int32} {x3 : Int32} (hw : w_X9_lodges post σ x1 x2 x3) {H : Heap} {locs : List Loc} {ls : Array Slot} (hP : va_P D CLS (wC cy ad σ) H) (hS : va_S (AC ad s.heap.size) s.heap H locs) (hl : lv_has ls 5 [(0, .ref (ad 0 0)), (1, .int x1), (2, .int x2), (3, .int x3)]) : W p l e rm_X9_lodges s m args below meth c H locs 0 0 (MQ below (QI D cy (cellC cy ad) regsC ad s.heap.size post) args s 0 0 (AC ad s.heap.size)) (F0 m 0 ls []) := by
  obtain ⟨hx, hb, -⟩ := id E
  unfold w_X9_lodges at hw
  refine lv_iload_n hx hb dX9_lodges_0 rfl (lv_at hl 1 rfl) ?_
  refine g_cSi (As := [.int x1]) (rest := []) E hl.1 (c_X9_isHouse l D cy ad ha hw _) ok_X9_isHouse mw_373 ⟨(Nat.le_of_ble_eq_true rfl), (Nat.le_of_ble_eq_true rfl)⟩ ⟨rfl, rfl⟩ rfl rfl (Nat.le_of_ble_eq_true rfl) ⟨Nat.zero_le _, Nat.zero_le _⟩ hP hS dX9_lodges_1 (fun r1 s1 hw H locs hP hS => ?_)
  obtain ⟨z1, hw⟩ := hw
  refine lv_if_ne (tgt := 10) hx hb dX9_lodges_4 (by decide) (fun c2 => ?_) (fun c2 => ?_)
  · replace hw := hw.1 c2
    refine lv_iload_n hx hb dX9_lodges_10 rfl (lv_at hl 2 rfl) ?_
    refine lv_if_ne (tgt := 48) hx hb dX9_lodges_11 (by decide) (fun c3 => ?_) (fun c3 => ?_)
    · replace hw := hw.1 c3
      exact B_X9_lodges_48 E ha hw hP hS (lv_sub hl [0, 1, 2, 3] rfl)
    · replace hw := hw.2 c3
      refine lv_iload_n hx hb dX9_lodges_14 rfl (lv_at hl 3 rfl) ?_
      refine lv_iconst (v := 0) hx hb dX9_lodges_15 (by decide) ?_
      refine lv_bipush (v := 9) hx hb dX9_lodges_16 (by decide) ?_
      refine g_cSi (As := [.int x3, .int 0, .int 9]) (rest := []) E hl.1 (c_X9_within l D cy ad ha hw _) ok_X9_within mw_370 ⟨(Nat.le_of_ble_eq_true rfl), (Nat.le_of_ble_eq_true rfl)⟩ ⟨rfl, rfl⟩ rfl rfl (Nat.le_of_ble_eq_true rfl) ⟨Nat.zero_le _, Nat.zero_le _⟩ hP hS dX9_lodges_18 (fun r4 s4 hw H locs hP hS => ?_)
      obtain ⟨z4, hw⟩ := hw
      refine lv_if_eq (tgt := 48) hx hb dX9_lodges_21 (by decide) (fun c5 => ?_) (fun c5 => ?_)
      · replace hw := hw.1 c5
        exact B_X9_lodges_48 E ha hw hP hS (lv_sub hl [0, 1, 2, 3] rfl)
      · replace hw := hw.2 c5
        refine lv_aload_n hx hb dX9_lodges_24 rfl (lv_at hl 0 rfl) ?_
        refine fX9_1 E hP mw_324 dX9_lodges_25 ?_
        refine fX1_5 ((by decide : 0 < 3)) E hP mw_159 dX9_lodges_28 ?_
        refine lv_iload_n hx hb dX9_lodges_31 rfl (lv_at hl 1 rfl) ?_
        obtain ⟨h6, hw⟩ := hw
        refine aC10 ((by decide : 0 < 3)) E hP h6 dX9_lodges_32 ?_
        refine lv_topi (fun v7 ev7 => ?_)
        replace hw := hw v7 ev7
        refine lv_istore (lv' := [(4, .int v7), (0, .ref (ad 0 0)), (1, .int x1), (2, .int x2), (3, .int x3)]) hx hb dX9_lodges_33 hl (by decide) rfl (fun ls hl => ?_)
        refine lv_aload_n hx hb dX9_lodges_35 rfl (lv_at hl 1 rfl) ?_
        refine fX9_1 E hP mw_324 dX9_lodges_36 ?_
        refine fX1_5 ((by decide : 0 < 3)) E hP mw_159 dX9_lodges_39 ?_
        refine lv_iload_n hx hb dX9_lodges_42 rfl (lv_at hl 2 rfl) ?_
        refine lv_iload_n hx hb dX9_lodges_43 rfl (lv_at hl 4 rfl) ?_
        obtain ⟨h8, hw⟩ := hw
        refine tC10 ((by decide : 0 < 3)) E ha h8 dX9_lodges_44 hP hS (fun s9 es9 H locs hP hS => ?_)
        replace hw := hw s9 es9
        refine lv_iload hx hb dX9_lodges_45 (lv_at hl 0 rfl) ?_
        exact g_iret E hw hP hS dX9_lodges_47
  · replace hw := hw.2 c2
    refine g_ldc (v := -1000000001) E mw_376 dX9_lodges_7 ?_
    exact g_iret E hw hP hS dX9_lodges_9
theorem c_X9_lodges (l : Launch) (D : va_G) (cy : Nat → ClassId) (ad : Nat → Nat → Nat) (ha : Apart regsC ad) {post : Int32 → St → Prop} {σ : St} {x1 : Int32} {x2 : Int32} {x3 : Int32} (hw : w_X9_lodges post σ x1 x2 x3) (sz : Nat) : MetI l yX9_lodges cX9_lodges 5 .int rm_X9_lodges [.ref (ad 0 0), .int x1, .int x2, .int x3] D cy (cellC cy ad) regsC ad σ sz post :=
  Met_inI ok_X9_lodges.2.2.2.2.2 (Nat.le_of_ble_eq_true rfl) (fun p e s m below meth c ls E hP hl => B_X9_lodges_0 E ha hw hP va_S.rf hl)
-- RoofWar.rule(II)I
theorem dX9_rule_0 : decode cX9_rule 0 = .ok (.iload_n 1, 1) := by decide +kernel
theorem dX9_rule_1 : decode cX9_rule 1 = .ok (.ifCond .eq 8, 3) := by decide +kernel
theorem dX9_rule_4 : decode cX9_rule 4 = .ok (.iload_n 1, 1) := by decide +kernel
theorem dX9_rule_5 : decode cX9_rule 5 = .ok (.iconst 1, 1) := by decide +kernel
theorem dX9_rule_6 : decode cX9_rule 6 = .ok (.if_icmp .ne 35, 3) := by decide +kernel
theorem dX9_rule_9 : decode cX9_rule 9 = .ok (.iload_n 2, 1) := by decide +kernel
theorem dX9_rule_10 : decode cX9_rule 10 = .ok (.iconst 0, 1) := by decide +kernel
theorem dX9_rule_11 : decode cX9_rule 11 = .ok (.bipush 99, 2) := by decide +kernel
theorem dX9_rule_13 : decode cX9_rule 13 = .ok (.invokestatic 87, 3) := by decide +kernel
theorem dX9_rule_16 : decode cX9_rule 16 = .ok (.ifCond .eq 25, 3) := by decide +kernel
theorem dX9_rule_19 : decode cX9_rule 19 = .ok (.aload_n 0, 1) := by decide +kernel
theorem dX9_rule_20 : decode cX9_rule 20 = .ok (.getfield 21, 3) := by decide +kernel
theorem dX9_rule_23 : decode cX9_rule 23 = .ok (.getfield 157, 3) := by decide +kernel
theorem dX9_rule_26 : decode cX9_rule 26 = .ok (.iload_n 1, 1) := by decide +kernel
theorem dX9_rule_27 : decode cX9_rule 27 = .ok (.iaload, 1) := by decide +kernel
theorem dX9_rule_28 : decode cX9_rule 28 = .ok (.istore_n 3, 1) := by decide +kernel
theorem dX9_rule_29 : decode cX9_rule 29 = .ok (.aload_n 0, 1) := by decide +kernel
theorem dX9_rule_30 : decode cX9_rule 30 = .ok (.getfield 21, 3) := by decide +kernel
theorem dX9_rule_33 : decode cX9_rule 33 = .ok (.getfield 157, 3) := by decide +kernel
theorem dX9_rule_36 : decode cX9_rule 36 = .ok (.iload_n 1, 1) := by decide +kernel
theorem dX9_rule_37 : decode cX9_rule 37 = .ok (.iload_n 2, 1) := by decide +kernel
theorem dX9_rule_38 : decode cX9_rule 38 = .ok (.iastore, 1) := by decide +kernel
theorem dX9_rule_39 : decode cX9_rule 39 = .ok (.iload_n 3, 1) := by decide +kernel
theorem dX9_rule_40 : decode cX9_rule 40 = .ok (.ireturn, 1) := by decide +kernel
theorem dX9_rule_41 : decode cX9_rule 41 = .ok (.iload_n 1, 1) := by decide +kernel
theorem dX9_rule_42 : decode cX9_rule 42 = .ok (.iconst 2, 1) := by decide +kernel
theorem dX9_rule_43 : decode cX9_rule 43 = .ok (.if_icmp .ne 31, 3) := by decide +kernel
theorem dX9_rule_46 : decode cX9_rule 46 = .ok (.iload_n 2, 1) := by decide +kernel
theorem dX9_rule_47 : decode cX9_rule 47 = .ok (.iconst 0, 1) := by decide +kernel
theorem dX9_rule_48 : decode cX9_rule 48 = .ok (.bipush 100, 2) := by decide +kernel
theorem dX9_rule_50 : decode cX9_rule 50 = .ok (.invokestatic 87, 3) := by decide +kernel
theorem dX9_rule_53 : decode cX9_rule 53 = .ok (.ifCond .eq 21, 3) := by decide +kernel
theorem dX9_rule_56 : decode cX9_rule 56 = .ok (.aload_n 0, 1) := by decide +kernel
theorem dX9_rule_57 : decode cX9_rule 57 = .ok (.getfield 21, 3) := by decide +kernel
theorem dX9_rule_60 : decode cX9_rule 60 = .ok (.getfield 160, 3) := by decide +kernel
theorem dX9_rule_63 : decode cX9_rule 63 = .ok (.istore_n 3, 1) := by decide +kernel
theorem dX9_rule_64 : decode cX9_rule 64 = .ok (.aload_n 0, 1) := by decide +kernel
theorem dX9_rule_65 : decode cX9_rule 65 = .ok (.getfield 21, 3) := by decide +kernel
theorem dX9_rule_68 : decode cX9_rule 68 = .ok (.iload_n 2, 1) := by decide +kernel
theorem dX9_rule_69 : decode cX9_rule 69 = .ok (.putfield 160, 3) := by decide +kernel
theorem dX9_rule_72 : decode cX9_rule 72 = .ok (.iload_n 3, 1) := by decide +kernel
theorem dX9_rule_73 : decode cX9_rule 73 = .ok (.ireturn, 1) := by decide +kernel
theorem dX9_rule_74 : decode cX9_rule 74 = .ok (.ldc 94, 2) := by decide +kernel
theorem dX9_rule_76 : decode cX9_rule 76 = .ok (.ireturn, 1) := by decide +kernel
theorem ok_X9_rule : okV yX9_rule cX9_rule 4 (some .int) 2 := ⟨mw_451, mw_452, mw_74, mw_453, by decide +kernel, by decide +kernel⟩
abbrev rm_X9_rule : Room := { frames := 1, cells := 0, slots := 0, locals := 22 }
def b_X9_rule_41 (post : Int32 → St → Prop) (σ : St) (x1 : Int32) (x2 : Int32) : Prop := ((¬ x1 = 2 → (post ((-1000000001)) σ)) ∧ (x1 = 2 → (w_X9_within (fun r2 s2 => ((r2 = 0 → (post ((-1000000001)) s2)) ∧ (¬ r2 = 0 → (∀ v4 : Int32, v4 = s2 5 0 1 → (∀ s5 : St, s5 = wr s2 5 0 1 x2 → (post v4 s5)))))) σ x2 (0 : Int32) (100 : Int32))))
theorem B_X9_rule_41 (E : EnvW p s m args meth c D cy regsC ad "RoofWar" cX9_rule 4 (some .int)) (ha : Apart regsC ad) {post : Int32 → St → Prop} {σ : St} {x1 : Int32} {x2 : Int32} (hw : b_X9_rule_41 post σ x1 x2) {H : Heap} {locs : List Loc} {ls : Array Slot} (hP : va_P D CLS (wC cy ad σ) H) (hS : va_S (AC ad s.heap.size) s.heap H locs) (hl : lv_has ls 4 [(0, .ref (ad 0 0)), (1, .int x1), (2, .int x2)]) : W p l e rm_X9_rule s m args below meth c H locs 0 0 (MQ below (QI D cy (cellC cy ad) regsC ad s.heap.size post) args s 0 0 (AC ad s.heap.size)) (F0 m 41 ls []) := by
  obtain ⟨hx, hb, -⟩ := id E
  unfold b_X9_rule_41 at hw
  refine lv_iload_n hx hb dX9_rule_41 rfl (lv_at hl 1 rfl) ?_
  refine lv_iconst (v := 2) hx hb dX9_rule_42 (by decide) ?_
  refine lv_icmp_ne (tgt := 74) hx hb dX9_rule_43 (by decide) (fun c1 => ?_) (fun c1 => ?_)
  · replace hw := hw.1 c1
    refine g_ldc (v := -1000000001) E mw_376 dX9_rule_74 ?_
    exact g_iret E hw hP hS dX9_rule_76
  · replace hw := hw.2 c1
    refine lv_iload_n hx hb dX9_rule_46 rfl (lv_at hl 2 rfl) ?_
    refine lv_iconst (v := 0) hx hb dX9_rule_47 (by decide) ?_
    refine lv_bipush (v := 100) hx hb dX9_rule_48 (by decide) ?_
    refine g_cSi (As := [.int x2, .int 0, .int 100]) (rest := []) E hl.1 (c_X9_within l D cy ad ha hw _) ok_X9_within mw_370 ⟨(Nat.le_of_ble_eq_true rfl), (Nat.le_of_ble_eq_true rfl)⟩ ⟨rfl, rfl⟩ rfl rfl (Nat.le_of_ble_eq_true rfl) ⟨Nat.zero_le _, Nat.zero_le _⟩ hP hS dX9_rule_50 (fun r2 s2 hw H locs hP hS => ?_)
    obtain ⟨z2, hw⟩ := hw
    refine lv_if_eq (tgt := 74) hx hb dX9_rule_53 (by decide) (fun c3 => ?_) (fun c3 => ?_)
    · replace hw := hw.1 c3
      refine g_ldc (v := -1000000001) E mw_376 dX9_rule_74 ?_
      exact g_iret E hw hP hS dX9_rule_76
    · replace hw := hw.2 c3
      refine lv_aload_n hx hb dX9_rule_56 rfl (lv_at hl 0 rfl) ?_
      refine fX9_1 E hP mw_324 dX9_rule_57 ?_
      refine fX1_10 ((by decide : 0 < 3)) E hP mw_170 dX9_rule_60 ?_
      refine lv_topi (fun v4 ev4 => ?_)
      replace hw := hw v4 ev4
      refine lv_istore_n (lv' := [(3, .int v4), (0, .ref (ad 0 0)), (1, .int x1), (2, .int x2)]) hx hb dX9_rule_63 rfl hl (by decide) rfl (fun ls hl => ?_)
      refine lv_aload_n hx hb dX9_rule_64 rfl (lv_at hl 1 rfl) ?_
      refine fX9_1 E hP mw_324 dX9_rule_65 ?_
      refine lv_iload_n hx hb dX9_rule_68 rfl (lv_at hl 3 rfl) ?_
      refine uX1_10 ((by decide : 0 < 3)) E ha mw_170 dX9_rule_69 hP hS (fun s5 es5 H locs hP hS => ?_)
      replace hw := hw s5 es5
      refine lv_iload_n hx hb dX9_rule_72 rfl (lv_at hl 0 rfl) ?_
      exact g_iret E hw hP hS dX9_rule_73
def b_X9_rule_9 (post : Int32 → St → Prop) (σ : St) (x1 : Int32) (x2 : Int32) : Prop := w_X9_within (fun r1 s1 => ((r1 = 0 → (b_X9_rule_41 post s1 x1 x2)) ∧ (¬ r1 = 0 → (vp_in x1 2 ∧ (∀ v4 : Int32, v4 = s1 13 0 x1.toNatClampNeg → (vp_in x1 2 ∧ (∀ s6 : St, s6 = wr s1 13 0 x1.toNatClampNeg x2 → (post v4 s6)))))))) σ x2 (0 : Int32) (99 : Int32)
theorem B_X9_rule_9 (E : EnvW p s m args meth c D cy regsC ad "RoofWar" cX9_rule 4 (some .int)) (ha : Apart regsC ad) {post : Int32 → St → Prop} {σ : St} {x1 : Int32} {x2 : Int32} (hw : b_X9_rule_9 post σ x1 x2) {H : Heap} {locs : List Loc} {ls : Array Slot} (hP : va_P D CLS (wC cy ad σ) H) (hS : va_S (AC ad s.heap.size) s.heap H locs) (hl : lv_has ls 4 [(0, .ref (ad 0 0)), (1, .int x1), (2, .int x2)]) : W p l e rm_X9_rule s m args below meth c H locs 0 0 (MQ below (QI D cy (cellC cy ad) regsC ad s.heap.size post) args s 0 0 (AC ad s.heap.size)) (F0 m 9 ls []) := by
  obtain ⟨hx, hb, -⟩ := id E
  unfold b_X9_rule_9 at hw
  refine lv_iload_n hx hb dX9_rule_9 rfl (lv_at hl 2 rfl) ?_
  refine lv_iconst (v := 0) hx hb dX9_rule_10 (by decide) ?_
  refine lv_bipush (v := 99) hx hb dX9_rule_11 (by decide) ?_
  refine g_cSi (As := [.int x2, .int 0, .int 99]) (rest := []) E hl.1 (c_X9_within l D cy ad ha hw _) ok_X9_within mw_370 ⟨(Nat.le_of_ble_eq_true rfl), (Nat.le_of_ble_eq_true rfl)⟩ ⟨rfl, rfl⟩ rfl rfl (Nat.le_of_ble_eq_true rfl) ⟨Nat.zero_le _, Nat.zero_le _⟩ hP hS dX9_rule_13 (fun r1 s1 hw H locs hP hS => ?_)
  obtain ⟨z1, hw⟩ := hw
  refine lv_if_eq (tgt := 41) hx hb dX9_rule_16 (by decide) (fun c2 => ?_) (fun c2 => ?_)
  · replace hw := hw.1 c2
    exact B_X9_rule_41 E ha hw hP hS (lv_sub hl [0, 1, 2] rfl)
  · replace hw := hw.2 c2
    refine lv_aload_n hx hb dX9_rule_19 rfl (lv_at hl 0 rfl) ?_
    refine fX9_1 E hP mw_324 dX9_rule_20 ?_
    refine fX1_8 ((by decide : 0 < 3)) E hP mw_165 dX9_rule_23 ?_
    refine lv_iload_n hx hb dX9_rule_26 rfl (lv_at hl 1 rfl) ?_
    obtain ⟨h3, hw⟩ := hw
    refine aC13 ((by decide : 0 < 3)) E hP h3 dX9_rule_27 ?_
    refine lv_topi (fun v4 ev4 => ?_)
    replace hw := hw v4 ev4
    refine lv_istore_n (lv' := [(3, .int v4), (0, .ref (ad 0 0)), (1, .int x1), (2, .int x2)]) hx hb dX9_rule_28 rfl hl (by decide) rfl (fun ls hl => ?_)
    refine lv_aload_n hx hb dX9_rule_29 rfl (lv_at hl 1 rfl) ?_
    refine fX9_1 E hP mw_324 dX9_rule_30 ?_
    refine fX1_8 ((by decide : 0 < 3)) E hP mw_165 dX9_rule_33 ?_
    refine lv_iload_n hx hb dX9_rule_36 rfl (lv_at hl 2 rfl) ?_
    refine lv_iload_n hx hb dX9_rule_37 rfl (lv_at hl 3 rfl) ?_
    obtain ⟨h5, hw⟩ := hw
    refine tC13 ((by decide : 0 < 3)) E ha h5 dX9_rule_38 hP hS (fun s6 es6 H locs hP hS => ?_)
    replace hw := hw s6 es6
    refine lv_iload_n hx hb dX9_rule_39 rfl (lv_at hl 0 rfl) ?_
    exact g_iret E hw hP hS dX9_rule_40
def w_X9_rule (post : Int32 → St → Prop) (σ : St) (x1 : Int32) (x2 : Int32) : Prop := ((x1 = 0 → (b_X9_rule_9 post σ x1 x2)) ∧ (¬ x1 = 0 → (((¬ x1 = 1 → (b_X9_rule_41 post σ x1 x2)) ∧ (x1 = 1 → (b_X9_rule_9 post σ x1 x2))))))
theorem B_X9_rule_0 (E : EnvW p s m args meth c D cy regsC ad "RoofWar" cX9_rule 4 (some .int)) (ha : Apart regsC ad) {post : Int32 → St → Prop} {σ : St} {x1 : Int32} {x2 : Int32} (hw : w_X9_rule post σ x1 x2) {H : Heap} {locs : List Loc} {ls : Array Slot} (hP : va_P D CLS (wC cy ad σ) H) (hS : va_S (AC ad s.heap.size) s.heap H locs) (hl : lv_has ls 4 [(0, .ref (ad 0 0)), (1, .int x1), (2, .int x2)]) : W p l e rm_X9_rule s m args below meth c H locs 0 0 (MQ below (QI D cy (cellC cy ad) regsC ad s.heap.size post) args s 0 0 (AC ad s.heap.size)) (F0 m 0 ls []) := by
  obtain ⟨hx, hb, -⟩ := id E
  unfold w_X9_rule at hw
  refine lv_iload_n hx hb dX9_rule_0 rfl (lv_at hl 1 rfl) ?_
  refine lv_if_eq (tgt := 9) hx hb dX9_rule_1 (by decide) (fun c1 => ?_) (fun c1 => ?_)
  · replace hw := hw.1 c1
    exact B_X9_rule_9 E ha hw hP hS (lv_sub hl [0, 1, 2] rfl)
  · replace hw := hw.2 c1
    refine lv_iload_n hx hb dX9_rule_4 rfl (lv_at hl 1 rfl) ?_
    refine lv_iconst (v := 1) hx hb dX9_rule_5 (by decide) ?_
    refine lv_icmp_ne (tgt := 41) hx hb dX9_rule_6 (by decide) (fun c2 => ?_) (fun c2 => ?_)
    · replace hw := hw.1 c2
      exact B_X9_rule_41 E ha hw hP hS (lv_sub hl [0, 1, 2] rfl)
    · replace hw := hw.2 c2
      exact B_X9_rule_9 E ha hw hP hS (lv_sub hl [0, 1, 2] rfl)
theorem c_X9_rule (l : Launch) (D : va_G) (cy : Nat → ClassId) (ad : Nat → Nat → Nat) (ha : Apart regsC ad) {post : Int32 → St → Prop} {σ : St} {x1 : Int32} {x2 : Int32} (hw : w_X9_rule post σ x1 x2) (sz : Nat) : MetI l yX9_rule cX9_rule 4 .int rm_X9_rule [.ref (ad 0 0), .int x1, .int x2] D cy (cellC cy ad) regsC ad σ sz post :=
  Met_inI ok_X9_rule.2.2.2.2.2 (Nat.le_of_ble_eq_true rfl) (fun p e s m below meth c ls E hP hl => B_X9_rule_0 E ha hw hP va_S.rf hl)
-- RoofWar.deal(I)I
theorem dX9_deal_0 : decode cX9_deal 0 = .ok (.iload_n 1, 1) := by decide +kernel
theorem dX9_deal_1 : decode cX9_deal 1 = .ok (.iconst 1, 1) := by decide +kernel
theorem dX9_deal_2 : decode cX9_deal 2 = .ok (.bipush 12, 2) := by decide +kernel
theorem dX9_deal_4 : decode cX9_deal 4 = .ok (.invokestatic 87, 3) := by decide +kernel
theorem dX9_deal_7 : decode cX9_deal 7 = .ok (.ifCond .ne 6, 3) := by decide +kernel
theorem dX9_deal_10 : decode cX9_deal 10 = .ok (.ldc 94, 2) := by decide +kernel
theorem dX9_deal_12 : decode cX9_deal 12 = .ok (.ireturn, 1) := by decide +kernel
theorem dX9_deal_13 : decode cX9_deal 13 = .ok (.iload_n 1, 1) := by decide +kernel
theorem dX9_deal_14 : decode cX9_deal 14 = .ok (.bipush 12, 2) := by decide +kernel
theorem dX9_deal_16 : decode cX9_deal 16 = .ok (.aload_n 0, 1) := by decide +kernel
theorem dX9_deal_17 : decode cX9_deal 17 = .ok (.getfield 21, 3) := by decide +kernel
theorem dX9_deal_20 : decode cX9_deal 20 = .ok (.getfield 100, 3) := by decide +kernel
theorem dX9_deal_23 : decode cX9_deal 23 = .ok (.isub, 1) := by decide +kernel
theorem dX9_deal_24 : decode cX9_deal 24 = .ok (.invokestatic 163, 3) := by decide +kernel
theorem dX9_deal_27 : decode cX9_deal 27 = .ok (.istore_n 2, 1) := by decide +kernel
theorem dX9_deal_28 : decode cX9_deal 28 = .ok (.iconst 0, 1) := by decide +kernel
theorem dX9_deal_29 : decode cX9_deal 29 = .ok (.istore_n 3, 1) := by decide +kernel
theorem dX9_deal_30 : decode cX9_deal 30 = .ok (.iload_n 3, 1) := by decide +kernel
theorem dX9_deal_31 : decode cX9_deal 31 = .ok (.iload_n 2, 1) := by decide +kernel
theorem dX9_deal_32 : decode cX9_deal 32 = .ok (.if_icmp .ge 16, 3) := by decide +kernel
theorem dX9_deal_35 : decode cX9_deal 35 = .ok (.aload_n 0, 1) := by decide +kernel
theorem dX9_deal_36 : decode cX9_deal 36 = .ok (.getfield 21, 3) := by decide +kernel
theorem dX9_deal_39 : decode cX9_deal 39 = .ok (.invokevirtual 168, 3) := by decide +kernel
theorem dX9_deal_42 : decode cX9_deal 42 = .ok (.iinc 3 1, 3) := by decide +kernel
theorem dX9_deal_45 : decode cX9_deal 45 = .ok (.goto (-15), 3) := by decide +kernel
theorem dX9_deal_48 : decode cX9_deal 48 = .ok (.iload_n 2, 1) := by decide +kernel
theorem dX9_deal_49 : decode cX9_deal 49 = .ok (.ireturn, 1) := by decide +kernel
theorem ok_X9_deal : okV yX9_deal cX9_deal 4 (some .int) 1 := ⟨mw_455, mw_456, mw_74, mw_457, by decide +kernel, by decide +kernel⟩
abbrev rm_X9_deal : Room := { frames := 2, cells := 0, slots := 0, locals := 50 }
def b_X9_deal_30 (K30 : St → Int32 → Int32 → Prop) (post : Int32 → St → Prop) (σ : St) (x2 : Int32) (x3 : Int32) : Prop := ((x2 ≤ x3 → (post x2 σ)) ∧ (¬ x2 ≤ x3 → (w_X1_drawRoof (fun s2 => ∀ v3 : Int32, v3 = x3 + 1 → (K30 s2 x2 v3)) σ 0)))
noncomputable def l_X9_deal_30 (post : Int32 → St → Prop) : Nat → St → Int32 → Int32 → Prop := fun n => Nat.rec (motive := fun _ => St → Int32 → Int32 → Prop) (fun _ _ _ => False) (fun _ ih => b_X9_deal_30 ih post) n
theorem L_X9_deal_30 (E : EnvW p s m args meth c D cy regsC ad "RoofWar" cX9_deal 4 (some .int)) (ha : Apart regsC ad) {post : Int32 → St → Prop} : ∀ (n : Nat), ∀ (σ : St) (x2 : Int32) (x3 : Int32), l_X9_deal_30 post n σ x2 x3 → ∀ (H : Heap) (locs : List Loc) (ls : Array Slot), va_P D CLS (wC cy ad σ) H → va_S (AC ad s.heap.size) s.heap H locs → lv_has ls 4 [(0, .ref (ad 0 0)), (2, .int x2), (3, .int x3)] → W p l e rm_X9_deal s m args below meth c H locs 0 0 (MQ below (QI D cy (cellC cy ad) regsC ad s.heap.size post) args s 0 0 (AC ad s.heap.size)) (F0 m 30 ls []) := by
  obtain ⟨hx, hb, -⟩ := id E
  intro n
  induction n with
  | zero => intro σ x2 x3 hw; exact hw.elim
  | succ n hk30 =>
    intro σ x2 x3 hw H locs ls hP hS hl
    replace hw : b_X9_deal_30 (l_X9_deal_30 post n) post σ x2 x3 := hw
    unfold b_X9_deal_30 at hw
    refine lv_iload_n hx hb dX9_deal_30 rfl (lv_at hl 2 rfl) ?_
    refine lv_iload_n hx hb dX9_deal_31 rfl (lv_at hl 1 rfl) ?_
    refine lv_icmp_ge (tgt := 48) hx hb dX9_deal_32 (by decide) (fun c1 => ?_) (fun c1 => ?_)
    · replace hw := hw.1 c1
      refine lv_iload_n hx hb dX9_deal_48 rfl (lv_at hl 1 rfl) ?_
      exact g_iret E hw hP hS dX9_deal_49
    · replace hw := hw.2 c1
      refine lv_aload_n hx hb dX9_deal_35 rfl (lv_at hl 0 rfl) ?_
      refine fX9_1 E hP mw_324 dX9_deal_36 ?_
      refine g_cVv (As := []) (rest := []) E hl.1 (c_X1_drawRoof l D cy ad ha ((by decide : 0 < 3)) hw _) ok_X1_drawRoof mw_459 ⟨(Nat.le_of_ble_eq_true rfl), (Nat.le_of_ble_eq_true rfl)⟩ ⟨rfl, rfl⟩ (rC5 (by decide : 0 < 3)) rfl rfl rfl rfl rfl (Nat.le_of_ble_eq_true rfl) ⟨Nat.zero_le _, Nat.zero_le _⟩ hP hS dX9_deal_39 (fun s2 hw H locs hP hS => ?_)
      obtain ⟨v3, ev3⟩ : ∃ y : Int32, y = x3 + 1 := ⟨_, rfl⟩
      replace hw := hw v3 ev3
      refine lv_iinc (v := v3) (lv' := [(3, .int v3), (0, .ref (ad 0 0)), (2, .int x2)]) hx hb dX9_deal_42 hl (k := 2) rfl (by rw [ev3]; rfl) (by decide) rfl (fun ls hl => ?_)
      refine lv_goto (tgt := 30) hx hb dX9_deal_45 (by decide) ?_
      exact hk30 s2 x2 v3 hw _ _ _ hP hS (lv_sub hl [1, 2, 0] rfl)
def w_X9_deal (post : Int32 → St → Prop) (σ : St) (x1 : Int32) : Prop := w_X9_within (fun r1 s1 => ((¬ r1 = 0 → (∀ v3 : Int32, v3 = (if (12 - (s1 5 0 0)) < x1 then (12 - (s1 5 0 0)) else x1) → (∃ n4 : Nat, l_X9_deal_30 post n4 s1 v3 (0 : Int32)))) ∧ (r1 = 0 → (post ((-1000000001)) s1)))) σ x1 (1 : Int32) (12 : Int32)
theorem B_X9_deal_0 (E : EnvW p s m args meth c D cy regsC ad "RoofWar" cX9_deal 4 (some .int)) (ha : Apart regsC ad) {post : Int32 → St → Prop} {σ : St} {x1 : Int32} (hw : w_X9_deal post σ x1) {H : Heap} {locs : List Loc} {ls : Array Slot} (hP : va_P D CLS (wC cy ad σ) H) (hS : va_S (AC ad s.heap.size) s.heap H locs) (hl : lv_has ls 4 [(0, .ref (ad 0 0)), (1, .int x1)]) : W p l e rm_X9_deal s m args below meth c H locs 0 0 (MQ below (QI D cy (cellC cy ad) regsC ad s.heap.size post) args s 0 0 (AC ad s.heap.size)) (F0 m 0 ls []) := by
  obtain ⟨hx, hb, -⟩ := id E
  unfold w_X9_deal at hw
  refine lv_iload_n hx hb dX9_deal_0 rfl (lv_at hl 1 rfl) ?_
  refine lv_iconst (v := 1) hx hb dX9_deal_1 (by decide) ?_
  refine lv_bipush (v := 12) hx hb dX9_deal_2 (by decide) ?_
  refine g_cSi (As := [.int x1, .int 1, .int 12]) (rest := []) E hl.1 (c_X9_within l D cy ad ha hw _) ok_X9_within mw_370 ⟨(Nat.le_of_ble_eq_true rfl), (Nat.le_of_ble_eq_true rfl)⟩ ⟨rfl, rfl⟩ rfl rfl (Nat.le_of_ble_eq_true rfl) ⟨Nat.zero_le _, Nat.zero_le _⟩ hP hS dX9_deal_4 (fun r1 s1 hw H locs hP hS => ?_)
  obtain ⟨z1, hw⟩ := hw
  refine lv_if_ne (tgt := 13) hx hb dX9_deal_7 (by decide) (fun c2 => ?_) (fun c2 => ?_)
  · replace hw := hw.1 c2
    refine lv_iload_n hx hb dX9_deal_13 rfl (lv_at hl 1 rfl) ?_
    refine lv_bipush (v := 12) hx hb dX9_deal_14 (by decide) ?_
    refine lv_aload_n hx hb dX9_deal_16 rfl (lv_at hl 0 rfl) ?_
    refine fX9_1 E hP mw_324 dX9_deal_17 ?_
    refine fX1_9 ((by decide : 0 < 3)) E hP mw_167 dX9_deal_20 ?_
    refine lv_isub hx hb dX9_deal_23 ?_
    refine g_min E hl.1 mw_458 mw_444 mw_85 mw_445 ⟨(Nat.le_of_ble_eq_true rfl), (Nat.le_of_ble_eq_true rfl)⟩ ⟨Nat.zero_le _, Nat.zero_le _⟩ dX9_deal_24 ?_
    refine lv_topi (fun v3 ev3 => ?_)
    replace hw := hw v3 ev3
    refine lv_istore_n (lv' := [(2, .int v3), (0, .ref (ad 0 0)), (1, .int x1)]) hx hb dX9_deal_27 rfl hl (by decide) rfl (fun ls hl => ?_)
    refine lv_iconst (v := 0) hx hb dX9_deal_28 (by decide) ?_
    refine lv_istore_n (lv' := [(3, .int 0), (2, .int v3), (0, .ref (ad 0 0)), (1, .int x1)]) hx hb dX9_deal_29 rfl hl (by decide) rfl (fun ls hl => ?_)
    obtain ⟨n4, hw⟩ := hw
    exact L_X9_deal_30 E ha n4 s1 v3 (0 : Int32) hw _ _ _ hP hS (lv_sub hl [2, 1, 0] rfl)
  · replace hw := hw.2 c2
    refine g_ldc (v := -1000000001) E mw_376 dX9_deal_10 ?_
    exact g_iret E hw hP hS dX9_deal_12
theorem c_X9_deal (l : Launch) (D : va_G) (cy : Nat → ClassId) (ad : Nat → Nat → Nat) (ha : Apart regsC ad) {post : Int32 → St → Prop} {σ : St} {x1 : Int32} (hw : w_X9_deal post σ x1) (sz : Nat) : MetI l yX9_deal cX9_deal 4 .int rm_X9_deal [.ref (ad 0 0), .int x1] D cy (cellC cy ad) regsC ad σ sz post :=
  Met_inI ok_X9_deal.2.2.2.2.2 (Nat.le_of_ble_eq_true rfl) (fun p e s m below meth c ls E hP hl => B_X9_deal_0 E ha hw hP va_S.rf hl)
-- RoofWar.seed(I)I
theorem dX9_seed_0 : decode cX9_seed 0 = .ok (.aload_n 0, 1) := by decide +kernel
theorem dX9_seed_1 : decode cX9_seed 1 = .ok (.getfield 21, 3) := by decide +kernel
theorem dX9_seed_4 : decode cX9_seed 4 = .ok (.getfield 171, 3) := by decide +kernel
theorem dX9_seed_7 : decode cX9_seed 7 = .ok (.istore_n 2, 1) := by decide +kernel
theorem dX9_seed_8 : decode cX9_seed 8 = .ok (.aload_n 0, 1) := by decide +kernel
theorem dX9_seed_9 : decode cX9_seed 9 = .ok (.getfield 21, 3) := by decide +kernel
theorem dX9_seed_12 : decode cX9_seed 12 = .ok (.iload_n 1, 1) := by decide +kernel
theorem dX9_seed_13 : decode cX9_seed 13 = .ok (.putfield 171, 3) := by decide +kernel
theorem dX9_seed_16 : decode cX9_seed 16 = .ok (.iload_n 2, 1) := by decide +kernel
theorem dX9_seed_17 : decode cX9_seed 17 = .ok (.ireturn, 1) := by decide +kernel
theorem ok_X9_seed : okV yX9_seed cX9_seed 3 (some .int) 1 := ⟨mw_470, mw_471, mw_74, mw_472, by decide +kernel, by decide +kernel⟩
abbrev rm_X9_seed : Room := { frames := 0, cells := 0, slots := 0, locals := 0 }
def w_X9_seed (post : Int32 → St → Prop) (σ : St) (x1 : Int32) : Prop := ∀ v1 : Int32, v1 = σ 5 0 6 → (∀ s2 : St, s2 = wr σ 5 0 6 x1 → (post v1 s2))
theorem B_X9_seed_0 (E : EnvW p s m args meth c D cy regsC ad "RoofWar" cX9_seed 3 (some .int)) (ha : Apart regsC ad) {post : Int32 → St → Prop} {σ : St} {x1 : Int32} (hw : w_X9_seed post σ x1) {H : Heap} {locs : List Loc} {ls : Array Slot} (hP : va_P D CLS (wC cy ad σ) H) (hS : va_S (AC ad s.heap.size) s.heap H locs) (hl : lv_has ls 3 [(0, .ref (ad 0 0)), (1, .int x1)]) : W p l e rm_X9_seed s m args below meth c H locs 0 0 (MQ below (QI D cy (cellC cy ad) regsC ad s.heap.size post) args s 0 0 (AC ad s.heap.size)) (F0 m 0 ls []) := by
  obtain ⟨hx, hb, -⟩ := id E
  unfold w_X9_seed at hw
  refine lv_aload_n hx hb dX9_seed_0 rfl (lv_at hl 0 rfl) ?_
  refine fX9_1 E hP mw_324 dX9_seed_1 ?_
  refine fX1_15 ((by decide : 0 < 3)) E hP mw_181 dX9_seed_4 ?_
  refine lv_topi (fun v1 ev1 => ?_)
  replace hw := hw v1 ev1
  refine lv_istore_n (lv' := [(2, .int v1), (0, .ref (ad 0 0)), (1, .int x1)]) hx hb dX9_seed_7 rfl hl (by decide) rfl (fun ls hl => ?_)
  refine lv_aload_n hx hb dX9_seed_8 rfl (lv_at hl 1 rfl) ?_
  refine fX9_1 E hP mw_324 dX9_seed_9 ?_
  refine lv_iload_n hx hb dX9_seed_12 rfl (lv_at hl 2 rfl) ?_
  refine uX1_15 ((by decide : 0 < 3)) E ha mw_181 dX9_seed_13 hP hS (fun s2 es2 H locs hP hS => ?_)
  replace hw := hw s2 es2
  refine lv_iload_n hx hb dX9_seed_16 rfl (lv_at hl 0 rfl) ?_
  exact g_iret E hw hP hS dX9_seed_17
theorem c_X9_seed (l : Launch) (D : va_G) (cy : Nat → ClassId) (ad : Nat → Nat → Nat) (ha : Apart regsC ad) {post : Int32 → St → Prop} {σ : St} {x1 : Int32} (hw : w_X9_seed post σ x1) (sz : Nat) : MetI l yX9_seed cX9_seed 3 .int rm_X9_seed [.ref (ad 0 0), .int x1] D cy (cellC cy ad) regsC ad σ sz post :=
  Met_inI ok_X9_seed.2.2.2.2.2 (Nat.le_of_ble_eq_true rfl) (fun p e s m below meth c ls E hP hl => B_X9_seed_0 E ha hw hP va_S.rf hl)
-- RoofWar.nights(I)I
theorem dX9_nights_0 : decode cX9_nights 0 = .ok (.iload_n 1, 1) := by decide +kernel
theorem dX9_nights_1 : decode cX9_nights 1 = .ok (.iconst 1, 1) := by decide +kernel
theorem dX9_nights_2 : decode cX9_nights 2 = .ok (.bipush 100, 2) := by decide +kernel
theorem dX9_nights_4 : decode cX9_nights 4 = .ok (.invokestatic 87, 3) := by decide +kernel
theorem dX9_nights_7 : decode cX9_nights 7 = .ok (.ifCond .ne 6, 3) := by decide +kernel
theorem dX9_nights_10 : decode cX9_nights 10 = .ok (.ldc 94, 2) := by decide +kernel
theorem dX9_nights_12 : decode cX9_nights 12 = .ok (.ireturn, 1) := by decide +kernel
theorem dX9_nights_13 : decode cX9_nights 13 = .ok (.aload_n 0, 1) := by decide +kernel
theorem dX9_nights_14 : decode cX9_nights 14 = .ok (.getfield 21, 3) := by decide +kernel
theorem dX9_nights_17 : decode cX9_nights 17 = .ok (.getfield 174, 3) := by decide +kernel
theorem dX9_nights_20 : decode cX9_nights 20 = .ok (.istore_n 2, 1) := by decide +kernel
theorem dX9_nights_21 : decode cX9_nights 21 = .ok (.aload_n 0, 1) := by decide +kernel
theorem dX9_nights_22 : decode cX9_nights 22 = .ok (.getfield 21, 3) := by decide +kernel
theorem dX9_nights_25 : decode cX9_nights 25 = .ok (.iload_n 1, 1) := by decide +kernel
theorem dX9_nights_26 : decode cX9_nights 26 = .ok (.sipush 9999, 3) := by decide +kernel
theorem dX9_nights_29 : decode cX9_nights 29 = .ok (.aload_n 0, 1) := by decide +kernel
theorem dX9_nights_30 : decode cX9_nights 30 = .ok (.getfield 21, 3) := by decide +kernel
theorem dX9_nights_33 : decode cX9_nights 33 = .ok (.getfield 177, 3) := by decide +kernel
theorem dX9_nights_36 : decode cX9_nights 36 = .ok (.isub, 1) := by decide +kernel
theorem dX9_nights_37 : decode cX9_nights 37 = .ok (.invokestatic 163, 3) := by decide +kernel
theorem dX9_nights_40 : decode cX9_nights 40 = .ok (.invokevirtual 180, 3) := by decide +kernel
theorem dX9_nights_43 : decode cX9_nights 43 = .ok (.aload_n 0, 1) := by decide +kernel
theorem dX9_nights_44 : decode cX9_nights 44 = .ok (.getfield 21, 3) := by decide +kernel
theorem dX9_nights_47 : decode cX9_nights 47 = .ok (.getfield 174, 3) := by decide +kernel
theorem dX9_nights_50 : decode cX9_nights 50 = .ok (.iload_n 2, 1) := by decide +kernel
theorem dX9_nights_51 : decode cX9_nights 51 = .ok (.isub, 1) := by decide +kernel
theorem dX9_nights_52 : decode cX9_nights 52 = .ok (.ireturn, 1) := by decide +kernel
theorem ok_X9_nights : okV yX9_nights cX9_nights 3 (some .int) 1 := ⟨mw_474, mw_475, mw_74, mw_476, by decide +kernel, by decide +kernel⟩
abbrev rm_X9_nights : Room := { frames := 6, cells := 0, slots := 0, locals := 145 }
def w_X9_nights (post : Int32 → St → Prop) (σ : St) (x1 : Int32) : Prop := w_X9_within (fun r1 s1 => ((¬ r1 = 0 → (∀ v3 : Int32, v3 = s1 5 0 2 → (∀ v4 : Int32, v4 = (if (9999 - (s1 5 0 5)) < x1 then (9999 - (s1 5 0 5)) else x1) → (w_X1_pass (fun s5 => post ((s5 5 0 2) - v3) s5) s1 0 v4)))) ∧ (r1 = 0 → (post ((-1000000001)) s1)))) σ x1 (1 : Int32) (100 : Int32)
theorem B_X9_nights_0 (E : EnvW p s m args meth c D cy regsC ad "RoofWar" cX9_nights 3 (some .int)) (ha : Apart regsC ad) {post : Int32 → St → Prop} {σ : St} {x1 : Int32} (hw : w_X9_nights post σ x1) {H : Heap} {locs : List Loc} {ls : Array Slot} (hP : va_P D CLS (wC cy ad σ) H) (hS : va_S (AC ad s.heap.size) s.heap H locs) (hl : lv_has ls 3 [(0, .ref (ad 0 0)), (1, .int x1)]) : W p l e rm_X9_nights s m args below meth c H locs 0 0 (MQ below (QI D cy (cellC cy ad) regsC ad s.heap.size post) args s 0 0 (AC ad s.heap.size)) (F0 m 0 ls []) := by
  obtain ⟨hx, hb, -⟩ := id E
  unfold w_X9_nights at hw
  refine lv_iload_n hx hb dX9_nights_0 rfl (lv_at hl 1 rfl) ?_
  refine lv_iconst (v := 1) hx hb dX9_nights_1 (by decide) ?_
  refine lv_bipush (v := 100) hx hb dX9_nights_2 (by decide) ?_
  refine g_cSi (As := [.int x1, .int 1, .int 100]) (rest := []) E hl.1 (c_X9_within l D cy ad ha hw _) ok_X9_within mw_370 ⟨(Nat.le_of_ble_eq_true rfl), (Nat.le_of_ble_eq_true rfl)⟩ ⟨rfl, rfl⟩ rfl rfl (Nat.le_of_ble_eq_true rfl) ⟨Nat.zero_le _, Nat.zero_le _⟩ hP hS dX9_nights_4 (fun r1 s1 hw H locs hP hS => ?_)
  obtain ⟨z1, hw⟩ := hw
  refine lv_if_ne (tgt := 13) hx hb dX9_nights_7 (by decide) (fun c2 => ?_) (fun c2 => ?_)
  · replace hw := hw.1 c2
    refine lv_aload_n hx hb dX9_nights_13 rfl (lv_at hl 0 rfl) ?_
    refine fX9_1 E hP mw_324 dX9_nights_14 ?_
    refine fX1_11 ((by decide : 0 < 3)) E hP mw_172 dX9_nights_17 ?_
    refine lv_topi (fun v3 ev3 => ?_)
    replace hw := hw v3 ev3
    refine lv_istore_n (lv' := [(2, .int v3), (0, .ref (ad 0 0)), (1, .int x1)]) hx hb dX9_nights_20 rfl hl (by decide) rfl (fun ls hl => ?_)
    refine lv_aload_n hx hb dX9_nights_21 rfl (lv_at hl 1 rfl) ?_
    refine fX9_1 E hP mw_324 dX9_nights_22 ?_
    refine lv_iload_n hx hb dX9_nights_25 rfl (lv_at hl 2 rfl) ?_
    refine lv_sipush (v := 9999) hx hb dX9_nights_26 (by decide) ?_
    refine lv_aload_n hx hb dX9_nights_29 rfl (lv_at hl 1 rfl) ?_
    refine fX9_1 E hP mw_324 dX9_nights_30 ?_
    refine fX1_14 ((by decide : 0 < 3)) E hP mw_179 dX9_nights_33 ?_
    refine lv_isub hx hb dX9_nights_36 ?_
    refine g_min E hl.1 mw_458 mw_444 mw_85 mw_445 ⟨(Nat.le_of_ble_eq_true rfl), (Nat.le_of_ble_eq_true rfl)⟩ ⟨Nat.zero_le _, Nat.zero_le _⟩ dX9_nights_37 ?_
    refine lv_topi (fun v4 ev4 => ?_)
    replace hw := hw v4 ev4
    refine g_cVv (As := [.int v4]) (rest := []) E hl.1 (c_X1_pass l D cy ad ha ((by decide : 0 < 3)) hw _) ok_X1_pass mw_477 ⟨(Nat.le_of_ble_eq_true rfl), (Nat.le_of_ble_eq_true rfl)⟩ ⟨rfl, rfl⟩ (rC5 (by decide : 0 < 3)) rfl rfl rfl rfl rfl (Nat.le_of_ble_eq_true rfl) ⟨Nat.zero_le _, Nat.zero_le _⟩ hP hS dX9_nights_40 (fun s5 hw H locs hP hS => ?_)
    refine lv_aload_n hx hb dX9_nights_43 rfl (lv_at hl 1 rfl) ?_
    refine fX9_1 E hP mw_324 dX9_nights_44 ?_
    refine fX1_11 ((by decide : 0 < 3)) E hP mw_172 dX9_nights_47 ?_
    refine lv_iload_n hx hb dX9_nights_50 rfl (lv_at hl 0 rfl) ?_
    refine lv_isub hx hb dX9_nights_51 ?_
    exact g_iret E hw hP hS dX9_nights_52
  · replace hw := hw.2 c2
    refine g_ldc (v := -1000000001) E mw_376 dX9_nights_10 ?_
    exact g_iret E hw hP hS dX9_nights_12
theorem c_X9_nights (l : Launch) (D : va_G) (cy : Nat → ClassId) (ad : Nat → Nat → Nat) (ha : Apart regsC ad) {post : Int32 → St → Prop} {σ : St} {x1 : Int32} (hw : w_X9_nights post σ x1) (sz : Nat) : MetI l yX9_nights cX9_nights 3 .int rm_X9_nights [.ref (ad 0 0), .int x1] D cy (cellC cy ad) regsC ad σ sz post :=
  Met_inI ok_X9_nights.2.2.2.2.2 (Nat.le_of_ble_eq_true rfl) (fun p e s m below meth c ls E hP hl => B_X9_nights_0 E ha hw hP va_S.rf hl)
-- RoofWar.hill(I)I
theorem dX9_hill_0 : decode cX9_hill 0 = .ok (.iload_n 1, 1) := by decide +kernel
theorem dX9_hill_1 : decode cX9_hill 1 = .ok (.tableswitch 89 0 5 #[39, 47, 55, 63, 72, 81], 39) := by decide +kernel
theorem dX9_hill_40 : decode cX9_hill 40 = .ok (.aload_n 0, 1) := by decide +kernel
theorem dX9_hill_41 : decode cX9_hill 41 = .ok (.getfield 21, 3) := by decide +kernel
theorem dX9_hill_44 : decode cX9_hill 44 = .ok (.getfield 174, 3) := by decide +kernel
theorem dX9_hill_47 : decode cX9_hill 47 = .ok (.ireturn, 1) := by decide +kernel
theorem dX9_hill_48 : decode cX9_hill 48 = .ok (.aload_n 0, 1) := by decide +kernel
theorem dX9_hill_49 : decode cX9_hill 49 = .ok (.getfield 21, 3) := by decide +kernel
theorem dX9_hill_52 : decode cX9_hill 52 = .ok (.getfield 184, 3) := by decide +kernel
theorem dX9_hill_55 : decode cX9_hill 55 = .ok (.ireturn, 1) := by decide +kernel
theorem dX9_hill_56 : decode cX9_hill 56 = .ok (.aload_n 0, 1) := by decide +kernel
theorem dX9_hill_57 : decode cX9_hill 57 = .ok (.getfield 21, 3) := by decide +kernel
theorem dX9_hill_60 : decode cX9_hill 60 = .ok (.getfield 187, 3) := by decide +kernel
theorem dX9_hill_63 : decode cX9_hill 63 = .ok (.ireturn, 1) := by decide +kernel
theorem dX9_hill_64 : decode cX9_hill 64 = .ok (.aload_n 0, 1) := by decide +kernel
theorem dX9_hill_65 : decode cX9_hill 65 = .ok (.getfield 21, 3) := by decide +kernel
theorem dX9_hill_68 : decode cX9_hill 68 = .ok (.iconst 0, 1) := by decide +kernel
theorem dX9_hill_69 : decode cX9_hill 69 = .ok (.invokevirtual 190, 3) := by decide +kernel
theorem dX9_hill_72 : decode cX9_hill 72 = .ok (.ireturn, 1) := by decide +kernel
theorem dX9_hill_73 : decode cX9_hill 73 = .ok (.aload_n 0, 1) := by decide +kernel
theorem dX9_hill_74 : decode cX9_hill 74 = .ok (.getfield 21, 3) := by decide +kernel
theorem dX9_hill_77 : decode cX9_hill 77 = .ok (.iconst 1, 1) := by decide +kernel
theorem dX9_hill_78 : decode cX9_hill 78 = .ok (.invokevirtual 190, 3) := by decide +kernel
theorem dX9_hill_81 : decode cX9_hill 81 = .ok (.ireturn, 1) := by decide +kernel
theorem dX9_hill_82 : decode cX9_hill 82 = .ok (.aload_n 0, 1) := by decide +kernel
theorem dX9_hill_83 : decode cX9_hill 83 = .ok (.getfield 21, 3) := by decide +kernel
theorem dX9_hill_86 : decode cX9_hill 86 = .ok (.invokevirtual 193, 3) := by decide +kernel
theorem dX9_hill_89 : decode cX9_hill 89 = .ok (.ireturn, 1) := by decide +kernel
theorem dX9_hill_90 : decode cX9_hill 90 = .ok (.ldc 94, 2) := by decide +kernel
theorem dX9_hill_92 : decode cX9_hill 92 = .ok (.ireturn, 1) := by decide +kernel
theorem ok_X9_hill : okV yX9_hill cX9_hill 2 (some .int) 1 := ⟨mw_548, mw_549, mw_74, mw_550, by decide +kernel, by decide +kernel⟩
abbrev rm_X9_hill : Room := { frames := 4, cells := 0, slots := 0, locals := 92 }
def w_X9_hill (post : Int32 → St → Prop) (σ : St) (x1 : Int32) : Prop := ((x1 = 0 → (post (σ 5 0 2) σ)) ∧ (¬ x1 = 0 → (((x1 = 1 → (post (σ 5 0 3) σ)) ∧ (¬ x1 = 1 → (((x1 = 2 → (post (σ 5 0 4) σ)) ∧ (¬ x1 = 2 → (((x1 = 3 → (w_X1_dryOf (fun r5 s5 => post r5 s5) σ 0 (0 : Int32))) ∧ (¬ x1 = 3 → (((x1 = 4 → (w_X1_dryOf (fun r7 s7 => post r7 s7) σ 0 (1 : Int32))) ∧ (¬ x1 = 4 → (((x1 = 5 → (w_X1_leakOfAll (fun r9 s9 => post r9 s9) σ 0)) ∧ (¬ x1 = 5 → (post ((-1000000001)) σ))))))))))))))))))
theorem B_X9_hill_0 (E : EnvW p s m args meth c D cy regsC ad "RoofWar" cX9_hill 2 (some .int)) (ha : Apart regsC ad) {post : Int32 → St → Prop} {σ : St} {x1 : Int32} (hw : w_X9_hill post σ x1) {H : Heap} {locs : List Loc} {ls : Array Slot} (hP : va_P D CLS (wC cy ad σ) H) (hS : va_S (AC ad s.heap.size) s.heap H locs) (hl : lv_has ls 2 [(0, .ref (ad 0 0)), (1, .int x1)]) : W p l e rm_X9_hill s m args below meth c H locs 0 0 (MQ below (QI D cy (cellC cy ad) regsC ad s.heap.size post) args s 0 0 (AC ad s.heap.size)) (F0 m 0 ls []) := by
  obtain ⟨hx, hb, -⟩ := id E
  unfold w_X9_hill at hw
  refine lv_iload_n hx hb dX9_hill_0 rfl (lv_at hl 1 rfl) ?_
  by_cases c1 : x1 = 0
  · replace hw := hw.1 c1
    refine lv_tableIn (off := 39) (tgt := 40) hx hb dX9_hill_1 (by rw [c1]; decide) (by rw [c1]; decide) (by rw [c1]; rfl) (by decide) ?_
    refine lv_aload_n hx hb dX9_hill_40 rfl (lv_at hl 0 rfl) ?_
    refine fX9_1 E hP mw_324 dX9_hill_41 ?_
    refine fX1_11 ((by decide : 0 < 3)) E hP mw_172 dX9_hill_44 ?_
    exact g_iret E hw hP hS dX9_hill_47
  · replace hw := hw.2 c1
    by_cases c2 : x1 = 1
    · replace hw := hw.1 c2
      refine lv_tableIn (off := 47) (tgt := 48) hx hb dX9_hill_1 (by rw [c2]; decide) (by rw [c2]; decide) (by rw [c2]; rfl) (by decide) ?_
      refine lv_aload_n hx hb dX9_hill_48 rfl (lv_at hl 0 rfl) ?_
      refine fX9_1 E hP mw_324 dX9_hill_49 ?_
      refine fX1_12 ((by decide : 0 < 3)) E hP mw_174 dX9_hill_52 ?_
      exact g_iret E hw hP hS dX9_hill_55
    · replace hw := hw.2 c2
      by_cases c3 : x1 = 2
      · replace hw := hw.1 c3
        refine lv_tableIn (off := 55) (tgt := 56) hx hb dX9_hill_1 (by rw [c3]; decide) (by rw [c3]; decide) (by rw [c3]; rfl) (by decide) ?_
        refine lv_aload_n hx hb dX9_hill_56 rfl (lv_at hl 0 rfl) ?_
        refine fX9_1 E hP mw_324 dX9_hill_57 ?_
        refine fX1_13 ((by decide : 0 < 3)) E hP mw_176 dX9_hill_60 ?_
        exact g_iret E hw hP hS dX9_hill_63
      · replace hw := hw.2 c3
        by_cases c4 : x1 = 3
        · replace hw := hw.1 c4
          refine lv_tableIn (off := 63) (tgt := 64) hx hb dX9_hill_1 (by rw [c4]; decide) (by rw [c4]; decide) (by rw [c4]; rfl) (by decide) ?_
          refine lv_aload_n hx hb dX9_hill_64 rfl (lv_at hl 0 rfl) ?_
          refine fX9_1 E hP mw_324 dX9_hill_65 ?_
          refine lv_iconst (v := 0) hx hb dX9_hill_68 (by decide) ?_
          refine g_cVi (As := [.int 0]) (rest := []) E hl.1 (c_X1_dryOf l D cy ad ha ((by decide : 0 < 3)) hw _) ok_X1_dryOf mw_551 ⟨(Nat.le_of_ble_eq_true rfl), (Nat.le_of_ble_eq_true rfl)⟩ ⟨rfl, rfl⟩ (rC5 (by decide : 0 < 3)) rfl rfl rfl rfl rfl (Nat.le_of_ble_eq_true rfl) ⟨Nat.zero_le _, Nat.zero_le _⟩ hP hS dX9_hill_69 (fun r5 s5 hw H locs hP hS => ?_)
          exact g_iret E hw hP hS dX9_hill_72
        · replace hw := hw.2 c4
          by_cases c6 : x1 = 4
          · replace hw := hw.1 c6
            refine lv_tableIn (off := 72) (tgt := 73) hx hb dX9_hill_1 (by rw [c6]; decide) (by rw [c6]; decide) (by rw [c6]; rfl) (by decide) ?_
            refine lv_aload_n hx hb dX9_hill_73 rfl (lv_at hl 0 rfl) ?_
            refine fX9_1 E hP mw_324 dX9_hill_74 ?_
            refine lv_iconst (v := 1) hx hb dX9_hill_77 (by decide) ?_
            refine g_cVi (As := [.int 1]) (rest := []) E hl.1 (c_X1_dryOf l D cy ad ha ((by decide : 0 < 3)) hw _) ok_X1_dryOf mw_551 ⟨(Nat.le_of_ble_eq_true rfl), (Nat.le_of_ble_eq_true rfl)⟩ ⟨rfl, rfl⟩ (rC5 (by decide : 0 < 3)) rfl rfl rfl rfl rfl (Nat.le_of_ble_eq_true rfl) ⟨Nat.zero_le _, Nat.zero_le _⟩ hP hS dX9_hill_78 (fun r7 s7 hw H locs hP hS => ?_)
            exact g_iret E hw hP hS dX9_hill_81
          · replace hw := hw.2 c6
            by_cases c8 : x1 = 5
            · replace hw := hw.1 c8
              refine lv_tableIn (off := 81) (tgt := 82) hx hb dX9_hill_1 (by rw [c8]; decide) (by rw [c8]; decide) (by rw [c8]; rfl) (by decide) ?_
              refine lv_aload_n hx hb dX9_hill_82 rfl (lv_at hl 0 rfl) ?_
              refine fX9_1 E hP mw_324 dX9_hill_83 ?_
              refine g_cVi (As := []) (rest := []) E hl.1 (c_X1_leakOfAll l D cy ad ha ((by decide : 0 < 3)) hw _) ok_X1_leakOfAll mw_556 ⟨(Nat.le_of_ble_eq_true rfl), (Nat.le_of_ble_eq_true rfl)⟩ ⟨rfl, rfl⟩ (rC5 (by decide : 0 < 3)) rfl rfl rfl rfl rfl (Nat.le_of_ble_eq_true rfl) ⟨Nat.zero_le _, Nat.zero_le _⟩ hP hS dX9_hill_86 (fun r9 s9 hw H locs hP hS => ?_)
              exact g_iret E hw hP hS dX9_hill_89
            · replace hw := hw.2 c8
              have e1 := ne_toI c1 (n := 0) (k := 0) (by decide)
              have e2 := ne_toI c2 (n := 1) (k := 1) (by decide)
              have e3 := ne_toI c3 (n := 2) (k := 2) (by decide)
              have e4 := ne_toI c4 (n := 3) (k := 3) (by decide)
              have e6 := ne_toI c6 (n := 4) (k := 4) (by decide)
              have e8 := ne_toI c8 (n := 5) (k := 5) (by decide)
              refine lv_tableOut (tgt := 90) hx hb dX9_hill_1 (by omega) (by decide) ?_
              refine g_ldc (v := -1000000001) E mw_376 dX9_hill_90 ?_
              exact g_iret E hw hP hS dX9_hill_92
theorem c_X9_hill (l : Launch) (D : va_G) (cy : Nat → ClassId) (ad : Nat → Nat → Nat) (ha : Apart regsC ad) {post : Int32 → St → Prop} {σ : St} {x1 : Int32} (hw : w_X9_hill post σ x1) (sz : Nat) : MetI l yX9_hill cX9_hill 2 .int rm_X9_hill [.ref (ad 0 0), .int x1] D cy (cellC cy ad) regsC ad σ sz post :=
  Met_inI ok_X9_hill.2.2.2.2.2 (Nat.le_of_ble_eq_true rfl) (fun p e s m below meth c ls E hP hl => B_X9_hill_0 E ha hw hP va_S.rf hl)
-- RoofWar.isTown(I)Z
theorem dX9_isTown_0 : decode cX9_isTown 0 = .ok (.iload_n 0, 1) := by decide +kernel
theorem dX9_isTown_1 : decode cX9_isTown 1 = .ok (.iconst 0, 1) := by decide +kernel
theorem dX9_isTown_2 : decode cX9_isTown 2 = .ok (.iconst 1, 1) := by decide +kernel
theorem dX9_isTown_3 : decode cX9_isTown 3 = .ok (.invokestatic 87, 3) := by decide +kernel
theorem dX9_isTown_6 : decode cX9_isTown 6 = .ok (.ireturn, 1) := by decide +kernel
theorem ok_X9_isTown : okS yX9_isTown cX9_isTown 1 (some .boolean) 1 := ⟨mw_565, mw_74, mw_566, by decide +kernel, by decide +kernel⟩
abbrev rm_X9_isTown : Room := { frames := 1, cells := 0, slots := 0, locals := 22 }
def w_X9_isTown (post : Int32 → St → Prop) (σ : St) (x0 : Int32) : Prop := w_X9_within (fun r1 s1 => post r1 s1) σ x0 (0 : Int32) (1 : Int32)
theorem B_X9_isTown_0 (E : EnvW p s m args meth c D cy regsC ad "RoofWar" cX9_isTown 1 (some .boolean)) (ha : Apart regsC ad) {post : Int32 → St → Prop} {σ : St} {x0 : Int32} (hw : w_X9_isTown post σ x0) {H : Heap} {locs : List Loc} {ls : Array Slot} (hP : va_P D CLS (wC cy ad σ) H) (hS : va_S (AC ad s.heap.size) s.heap H locs) (hl : lv_has ls 1 [(0, .int x0)]) : W p l e rm_X9_isTown s m args below meth c H locs 0 0 (MQ below (QI D cy (cellC cy ad) regsC ad s.heap.size (fun r u => (r = 0 ∨ r = 1) ∧ post r u)) args s 0 0 (AC ad s.heap.size)) (F0 m 0 ls []) := by
  obtain ⟨hx, hb, -⟩ := id E
  unfold w_X9_isTown at hw
  refine lv_iload_n hx hb dX9_isTown_0 rfl (lv_at hl 0 rfl) ?_
  refine lv_iconst (v := 0) hx hb dX9_isTown_1 (by decide) ?_
  refine lv_iconst (v := 1) hx hb dX9_isTown_2 (by decide) ?_
  refine g_cSi (As := [.int x0, .int 0, .int 1]) (rest := []) E hl.1 (c_X9_within l D cy ad ha hw _) ok_X9_within mw_370 ⟨(Nat.le_of_ble_eq_true rfl), (Nat.le_of_ble_eq_true rfl)⟩ ⟨rfl, rfl⟩ rfl rfl (Nat.le_of_ble_eq_true rfl) ⟨Nat.zero_le _, Nat.zero_le _⟩ hP hS dX9_isTown_3 (fun r1 s1 hw H locs hP hS => ?_)
  obtain ⟨z1, hw⟩ := hw
  exact g_zret E z1 hw hP hS dX9_isTown_6
theorem c_X9_isTown (l : Launch) (D : va_G) (cy : Nat → ClassId) (ad : Nat → Nat → Nat) (ha : Apart regsC ad) {post : Int32 → St → Prop} {σ : St} {x0 : Int32} (hw : w_X9_isTown post σ x0) (sz : Nat) : MetI l yX9_isTown cX9_isTown 1 .boolean rm_X9_isTown [.int x0] D cy (cellC cy ad) regsC ad σ sz (fun r u => (r = 0 ∨ r = 1) ∧ post r u) :=
  Met_inI ok_X9_isTown.2.2.2.2 (Nat.le_of_ble_eq_true rfl) (fun p e s m below meth c ls E hP hl => B_X9_isTown_0 E ha hw hP va_S.rf hl)
-- RoofWar.loot(II)I
theorem dX9_loot_0 : decode cX9_loot 0 = .ok (.iload_n 1, 1) := by decide +kernel
theorem dX9_loot_1 : decode cX9_loot 1 = .ok (.invokestatic 197, 3) := by decide +kernel
theorem dX9_loot_4 : decode cX9_loot 4 = .ok (.ifCond .eq 12, 3) := by decide +kernel
theorem dX9_loot_7 : decode cX9_loot 7 = .ok (.iload_n 2, 1) := by decide +kernel
theorem dX9_loot_8 : decode cX9_loot 8 = .ok (.iconst 0, 1) := by decide +kernel
theorem dX9_loot_9 : decode cX9_loot 9 = .ok (.iconst 1, 1) := by decide +kernel
theorem dX9_loot_10 : decode cX9_loot 10 = .ok (.invokestatic 87, 3) := by decide +kernel
theorem dX9_loot_13 : decode cX9_loot 13 = .ok (.ifCond .ne 6, 3) := by decide +kernel
theorem dX9_loot_16 : decode cX9_loot 16 = .ok (.ldc 94, 2) := by decide +kernel
theorem dX9_loot_18 : decode cX9_loot 18 = .ok (.ireturn, 1) := by decide +kernel
theorem dX9_loot_19 : decode cX9_loot 19 = .ok (.iload_n 2, 1) := by decide +kernel
theorem dX9_loot_20 : decode cX9_loot 20 = .ok (.ifCond .ne 14, 3) := by decide +kernel
theorem dX9_loot_23 : decode cX9_loot 23 = .ok (.aload_n 0, 1) := by decide +kernel
theorem dX9_loot_24 : decode cX9_loot 24 = .ok (.getfield 21, 3) := by decide +kernel
theorem dX9_loot_27 : decode cX9_loot 27 = .ok (.iload_n 1, 1) := by decide +kernel
theorem dX9_loot_28 : decode cX9_loot 28 = .ok (.invokevirtual 200, 3) := by decide +kernel
theorem dX9_loot_31 : decode cX9_loot 31 = .ok (.goto 11, 3) := by decide +kernel
theorem dX9_loot_34 : decode cX9_loot 34 = .ok (.aload_n 0, 1) := by decide +kernel
theorem dX9_loot_35 : decode cX9_loot 35 = .ok (.getfield 21, 3) := by decide +kernel
theorem dX9_loot_38 : decode cX9_loot 38 = .ok (.iload_n 1, 1) := by decide +kernel
theorem dX9_loot_39 : decode cX9_loot 39 = .ok (.invokevirtual 203, 3) := by decide +kernel
theorem dX9_loot_42 : decode cX9_loot 42 = .ok (.ireturn, 1) := by decide +kernel
theorem ok_X9_loot : okV yX9_loot cX9_loot 3 (some .int) 2 := ⟨mw_561, mw_562, mw_74, mw_563, by decide +kernel, by decide +kernel⟩
abbrev rm_X9_loot : Room := { frames := 2, cells := 0, slots := 0, locals := 45 }
def w_X9_loot (post : Int32 → St → Prop) (σ : St) (x1 : Int32) (x2 : Int32) : Prop := w_X9_isTown (fun r1 s1 => ((r1 = 0 → (post ((-1000000001)) s1)) ∧ (¬ r1 = 0 → (w_X9_within (fun r3 s3 => ((¬ r3 = 0 → (((¬ x2 = 0 → (w_X1_homeOf (fun r6 s6 => post r6 s6) s3 0 x1)) ∧ (x2 = 0 → (w_X1_mayCarry (fun r7 s7 => post r7 s7) s3 0 x1))))) ∧ (r3 = 0 → (post ((-1000000001)) s3)))) s1 x2 (0 : Int32) (1 : Int32))))) σ x1
theorem B_X9_loot_0 (E : EnvW p s m args meth c D cy regsC ad "RoofWar" cX9_loot 3 (some .int)) (ha : Apart regsC ad) {post : Int32 → St → Prop} {σ : St} {x1 : Int32} {x2 : Int32} (hw : w_X9_loot post σ x1 x2) {H : Heap} {locs : List Loc} {ls : Array Slot} (hP : va_P D CLS (wC cy ad σ) H) (hS : va_S (AC ad s.heap.size) s.heap H locs) (hl : lv_has ls 3 [(0, .ref (ad 0 0)), (1, .int x1), (2, .int x2)]) : W p l e rm_X9_loot s m args below meth c H locs 0 0 (MQ below (QI D cy (cellC cy ad) regsC ad s.heap.size post) args s 0 0 (AC ad s.heap.size)) (F0 m 0 ls []) := by
  obtain ⟨hx, hb, -⟩ := id E
  unfold w_X9_loot at hw
  refine lv_iload_n hx hb dX9_loot_0 rfl (lv_at hl 1 rfl) ?_
  refine g_cSi (As := [.int x1]) (rest := []) E hl.1 (c_X9_isTown l D cy ad ha hw _) ok_X9_isTown mw_564 ⟨(Nat.le_of_ble_eq_true rfl), (Nat.le_of_ble_eq_true rfl)⟩ ⟨rfl, rfl⟩ rfl rfl (Nat.le_of_ble_eq_true rfl) ⟨Nat.zero_le _, Nat.zero_le _⟩ hP hS dX9_loot_1 (fun r1 s1 hw H locs hP hS => ?_)
  obtain ⟨z1, hw⟩ := hw
  refine lv_if_eq (tgt := 16) hx hb dX9_loot_4 (by decide) (fun c2 => ?_) (fun c2 => ?_)
  · replace hw := hw.1 c2
    refine g_ldc (v := -1000000001) E mw_376 dX9_loot_16 ?_
    exact g_iret E hw hP hS dX9_loot_18
  · replace hw := hw.2 c2
    refine lv_iload_n hx hb dX9_loot_7 rfl (lv_at hl 2 rfl) ?_
    refine lv_iconst (v := 0) hx hb dX9_loot_8 (by decide) ?_
    refine lv_iconst (v := 1) hx hb dX9_loot_9 (by decide) ?_
    refine g_cSi (As := [.int x2, .int 0, .int 1]) (rest := []) E hl.1 (c_X9_within l D cy ad ha hw _) ok_X9_within mw_370 ⟨(Nat.le_of_ble_eq_true rfl), (Nat.le_of_ble_eq_true rfl)⟩ ⟨rfl, rfl⟩ rfl rfl (Nat.le_of_ble_eq_true rfl) ⟨Nat.zero_le _, Nat.zero_le _⟩ hP hS dX9_loot_10 (fun r3 s3 hw H locs hP hS => ?_)
    obtain ⟨z3, hw⟩ := hw
    refine lv_if_ne (tgt := 19) hx hb dX9_loot_13 (by decide) (fun c4 => ?_) (fun c4 => ?_)
    · replace hw := hw.1 c4
      refine lv_iload_n hx hb dX9_loot_19 rfl (lv_at hl 2 rfl) ?_
      refine lv_if_ne (tgt := 34) hx hb dX9_loot_20 (by decide) (fun c5 => ?_) (fun c5 => ?_)
      · replace hw := hw.1 c5
        refine lv_aload_n hx hb dX9_loot_34 rfl (lv_at hl 0 rfl) ?_
        refine fX9_1 E hP mw_324 dX9_loot_35 ?_
        refine lv_iload_n hx hb dX9_loot_38 rfl (lv_at hl 1 rfl) ?_
        refine g_cVi (As := [.int x1]) (rest := []) E hl.1 (c_X1_homeOf l D cy ad ha ((by decide : 0 < 3)) hw _) ok_X1_homeOf mw_568 ⟨(Nat.le_of_ble_eq_true rfl), (Nat.le_of_ble_eq_true rfl)⟩ ⟨rfl, rfl⟩ (rC5 (by decide : 0 < 3)) rfl rfl rfl rfl rfl (Nat.le_of_ble_eq_true rfl) ⟨Nat.zero_le _, Nat.zero_le _⟩ hP hS dX9_loot_39 (fun r6 s6 hw H locs hP hS => ?_)
        exact g_iret E hw hP hS dX9_loot_42
      · replace hw := hw.2 c5
        refine lv_aload_n hx hb dX9_loot_23 rfl (lv_at hl 0 rfl) ?_
        refine fX9_1 E hP mw_324 dX9_loot_24 ?_
        refine lv_iload_n hx hb dX9_loot_27 rfl (lv_at hl 1 rfl) ?_
        refine g_cVi (As := [.int x1]) (rest := []) E hl.1 (c_X1_mayCarry l D cy ad ha ((by decide : 0 < 3)) hw _) ok_X1_mayCarry mw_567 ⟨(Nat.le_of_ble_eq_true rfl), (Nat.le_of_ble_eq_true rfl)⟩ ⟨rfl, rfl⟩ (rC5 (by decide : 0 < 3)) rfl rfl rfl rfl rfl (Nat.le_of_ble_eq_true rfl) ⟨Nat.zero_le _, Nat.zero_le _⟩ hP hS dX9_loot_28 (fun r7 s7 hw H locs hP hS => ?_)
        refine lv_goto (tgt := 42) hx hb dX9_loot_31 (by decide) ?_
        exact g_iret E hw hP hS dX9_loot_42
    · replace hw := hw.2 c4
      refine g_ldc (v := -1000000001) E mw_376 dX9_loot_16 ?_
      exact g_iret E hw hP hS dX9_loot_18
theorem c_X9_loot (l : Launch) (D : va_G) (cy : Nat → ClassId) (ad : Nat → Nat → Nat) (ha : Apart regsC ad) {post : Int32 → St → Prop} {σ : St} {x1 : Int32} {x2 : Int32} (hw : w_X9_loot post σ x1 x2) (sz : Nat) : MetI l yX9_loot cX9_loot 3 .int rm_X9_loot [.ref (ad 0 0), .int x1, .int x2] D cy (cellC cy ad) regsC ad σ sz post :=
  Met_inI ok_X9_loot.2.2.2.2.2 (Nat.le_of_ble_eq_true rfl) (fun p e s m below meth c ls E hP hl => B_X9_loot_0 E ha hw hP va_S.rf hl)
-- RoofWar.steals(I)I
theorem dX9_steals_0 : decode cX9_steals 0 = .ok (.aload_n 0, 1) := by decide +kernel
theorem dX9_steals_1 : decode cX9_steals 1 = .ok (.iload_n 1, 1) := by decide +kernel
theorem dX9_steals_2 : decode cX9_steals 2 = .ok (.invokevirtual 108, 3) := by decide +kernel
theorem dX9_steals_5 : decode cX9_steals 5 = .ok (.ifCond .ne 6, 3) := by decide +kernel
theorem dX9_steals_8 : decode cX9_steals 8 = .ok (.ldc 94, 2) := by decide +kernel
theorem dX9_steals_10 : decode cX9_steals 10 = .ok (.ireturn, 1) := by decide +kernel
theorem dX9_steals_11 : decode cX9_steals 11 = .ok (.aload_n 0, 1) := by decide +kernel
theorem dX9_steals_12 : decode cX9_steals 12 = .ok (.getfield 21, 3) := by decide +kernel
theorem dX9_steals_15 : decode cX9_steals 15 = .ok (.getfield 120, 3) := by decide +kernel
theorem dX9_steals_18 : decode cX9_steals 18 = .ok (.iload_n 1, 1) := by decide +kernel
theorem dX9_steals_19 : decode cX9_steals 19 = .ok (.iaload, 1) := by decide +kernel
theorem dX9_steals_20 : decode cX9_steals 20 = .ok (.invokestatic 206, 3) := by decide +kernel
theorem dX9_steals_23 : decode cX9_steals 23 = .ok (.invokestatic 209, 3) := by decide +kernel
theorem dX9_steals_26 : decode cX9_steals 26 = .ok (.istore_n 2, 1) := by decide +kernel
theorem dX9_steals_27 : decode cX9_steals 27 = .ok (.aload_n 0, 1) := by decide +kernel
theorem dX9_steals_28 : decode cX9_steals 28 = .ok (.getfield 21, 3) := by decide +kernel
theorem dX9_steals_31 : decode cX9_steals 31 = .ok (.iload_n 2, 1) := by decide +kernel
theorem dX9_steals_32 : decode cX9_steals 32 = .ok (.invokevirtual 203, 3) := by decide +kernel
theorem dX9_steals_35 : decode cX9_steals 35 = .ok (.istore_n 3, 1) := by decide +kernel
theorem dX9_steals_36 : decode cX9_steals 36 = .ok (.iload_n 3, 1) := by decide +kernel
theorem dX9_steals_37 : decode cX9_steals 37 = .ok (.ldc 98, 2) := by decide +kernel
theorem dX9_steals_39 : decode cX9_steals 39 = .ok (.if_icmp .eq 18, 3) := by decide +kernel
theorem dX9_steals_42 : decode cX9_steals 42 = .ok (.aload_n 0, 1) := by decide +kernel
theorem dX9_steals_43 : decode cX9_steals 43 = .ok (.getfield 21, 3) := by decide +kernel
theorem dX9_steals_46 : decode cX9_steals 46 = .ok (.iload_n 2, 1) := by decide +kernel
theorem dX9_steals_47 : decode cX9_steals 47 = .ok (.invokevirtual 200, 3) := by decide +kernel
theorem dX9_steals_50 : decode cX9_steals 50 = .ok (.iload_n 1, 1) := by decide +kernel
theorem dX9_steals_51 : decode cX9_steals 51 = .ok (.invokestatic 212, 3) := by decide +kernel
theorem dX9_steals_54 : decode cX9_steals 54 = .ok (.ifCond .ne 6, 3) := by decide +kernel
theorem dX9_steals_57 : decode cX9_steals 57 = .ok (.ldc 99, 2) := by decide +kernel
theorem dX9_steals_59 : decode cX9_steals 59 = .ok (.ireturn, 1) := by decide +kernel
theorem dX9_steals_60 : decode cX9_steals 60 = .ok (.aload_n 0, 1) := by decide +kernel
theorem dX9_steals_61 : decode cX9_steals 61 = .ok (.getfield 21, 3) := by decide +kernel
theorem dX9_steals_64 : decode cX9_steals 64 = .ok (.iload_n 1, 1) := by decide +kernel
theorem dX9_steals_65 : decode cX9_steals 65 = .ok (.iload_n 3, 1) := by decide +kernel
theorem dX9_steals_66 : decode cX9_steals 66 = .ok (.invokevirtual 215, 3) := by decide +kernel
theorem dX9_steals_69 : decode cX9_steals 69 = .ok (.iload_n 3, 1) := by decide +kernel
theorem dX9_steals_70 : decode cX9_steals 70 = .ok (.ireturn, 1) := by decide +kernel
theorem ok_X9_steals : okV yX9_steals cX9_steals 4 (some .int) 1 := ⟨mw_570, mw_571, mw_74, mw_572, by decide +kernel, by decide +kernel⟩
abbrev rm_X9_steals : Room := { frames := 4, cells := 0, slots := 0, locals := 96 }
def w_X9_steals (post : Int32 → St → Prop) (σ : St) (x1 : Int32) : Prop := w_X9_isRoof (fun r1 s1 => ((¬ r1 = 0 → (vp_in x1 12 ∧ (w_X9_townOf (fun r4 s4 => w_X9_otherTown (fun r5 s5 => w_X1_homeOf (fun r6 s6 => ((r6 = ((-1000000005)) → (post ((-1000000002)) s6)) ∧ (¬ r6 = ((-1000000005)) → (w_X1_mayCarry (fun r8 s8 => w_X9_inSet (fun r9 s9 => ((¬ r9 = 0 → (w_X1_carry (fun s11 => post r6 s11) s9 0 x1 r6)) ∧ (r9 = 0 → (post ((-1000000002)) s9)))) s8 r8 x1) s6 0 r5)))) s5 0 r5) s4 r4) s1 (s1 9 0 x1.toNatClampNeg)))) ∧ (r1 = 0 → (post ((-1000000001)) s1)))) σ x1
theorem B_X9_steals_0 (E : EnvW p s m args meth c D cy regsC ad "RoofWar" cX9_steals 4 (some .int)) (ha : Apart regsC ad) {post : Int32 → St → Prop} {σ : St} {x1 : Int32} (hw : w_X9_steals post σ x1) {H : Heap} {locs : List Loc} {ls : Array Slot} (hP : va_P D CLS (wC cy ad σ) H) (hS : va_S (AC ad s.heap.size) s.heap H locs) (hl : lv_has ls 4 [(0, .ref (ad 0 0)), (1, .int x1)]) : W p l e rm_X9_steals s m args below meth c H locs 0 0 (MQ below (QI D cy (cellC cy ad) regsC ad s.heap.size post) args s 0 0 (AC ad s.heap.size)) (F0 m 0 ls []) := by
  obtain ⟨hx, hb, -⟩ := id E
  unfold w_X9_steals at hw
  refine lv_aload_n hx hb dX9_steals_0 rfl (lv_at hl 0 rfl) ?_
  refine lv_iload_n hx hb dX9_steals_1 rfl (lv_at hl 1 rfl) ?_
  refine g_cVi (As := [.int x1]) (rest := []) E hl.1 (c_X9_isRoof l D cy ad ha hw _) ok_X9_isRoof mw_388 ⟨(Nat.le_of_ble_eq_true rfl), (Nat.le_of_ble_eq_true rfl)⟩ ⟨rfl, rfl⟩ rC0 rfl rfl rfl rfl rfl (Nat.le_of_ble_eq_true rfl) ⟨Nat.zero_le _, Nat.zero_le _⟩ hP hS dX9_steals_2 (fun r1 s1 hw H locs hP hS => ?_)
  obtain ⟨z1, hw⟩ := hw
  refine lv_if_ne (tgt := 11) hx hb dX9_steals_5 (by decide) (fun c2 => ?_) (fun c2 => ?_)
  · replace hw := hw.1 c2
    refine lv_aload_n hx hb dX9_steals_11 rfl (lv_at hl 0 rfl) ?_
    refine fX9_1 E hP mw_324 dX9_steals_12 ?_
    refine fX1_4 ((by decide : 0 < 3)) E hP mw_157 dX9_steals_15 ?_
    refine lv_iload_n hx hb dX9_steals_18 rfl (lv_at hl 1 rfl) ?_
    obtain ⟨h3, hw⟩ := hw
    refine aC9 ((by decide : 0 < 3)) E hP h3 dX9_steals_19 ?_
    refine g_cSi (As := [.int (s1 9 0 x1.toNatClampNeg)]) (rest := []) E hl.1 (c_X9_townOf l D cy ad ha hw _) ok_X9_townOf mw_573 ⟨(Nat.le_of_ble_eq_true rfl), (Nat.le_of_ble_eq_true rfl)⟩ ⟨rfl, rfl⟩ rfl rfl (Nat.le_of_ble_eq_true rfl) ⟨Nat.zero_le _, Nat.zero_le _⟩ hP hS dX9_steals_20 (fun r4 s4 hw H locs hP hS => ?_)
    refine g_cSi (As := [.int r4]) (rest := []) E hl.1 (c_X9_otherTown l D cy ad ha hw _) ok_X9_otherTown mw_574 ⟨(Nat.le_of_ble_eq_true rfl), (Nat.le_of_ble_eq_true rfl)⟩ ⟨rfl, rfl⟩ rfl rfl (Nat.le_of_ble_eq_true rfl) ⟨Nat.zero_le _, Nat.zero_le _⟩ hP hS dX9_steals_23 (fun r5 s5 hw H locs hP hS => ?_)
    refine lv_istore_n (lv' := [(2, .int r5), (0, .ref (ad 0 0)), (1, .int x1)]) hx hb dX9_steals_26 rfl hl (by decide) rfl (fun ls hl => ?_)
    refine lv_aload_n hx hb dX9_steals_27 rfl (lv_at hl 1 rfl) ?_
    refine fX9_1 E hP mw_324 dX9_steals_28 ?_
    refine lv_iload_n hx hb dX9_steals_31 rfl (lv_at hl 0 rfl) ?_
    refine g_cVi (As := [.int r5]) (rest := []) E hl.1 (c_X1_homeOf l D cy ad ha ((by decide : 0 < 3)) hw _) ok_X1_homeOf mw_568 ⟨(Nat.le_of_ble_eq_true rfl), (Nat.le_of_ble_eq_true rfl)⟩ ⟨rfl, rfl⟩ (rC5 (by decide : 0 < 3)) rfl rfl rfl rfl rfl (Nat.le_of_ble_eq_true rfl) ⟨Nat.zero_le _, Nat.zero_le _⟩ hP hS dX9_steals_32 (fun r6 s6 hw H locs hP hS => ?_)
    refine lv_istore_n (lv' := [(3, .int r6), (2, .int r5), (0, .ref (ad 0 0)), (1, .int x1)]) hx hb dX9_steals_35 rfl hl (by decide) rfl (fun ls hl => ?_)
    refine lv_iload_n hx hb dX9_steals_36 rfl (lv_at hl 0 rfl) ?_
    refine g_ldc (v := -1000000005) E mw_377 dX9_steals_37 ?_
    refine lv_icmp_eq (tgt := 57) hx hb dX9_steals_39 (by decide) (fun c7 => ?_) (fun c7 => ?_)
    · replace hw := hw.1 c7
      refine g_ldc (v := -1000000002) E mw_378 dX9_steals_57 ?_
      exact g_iret E hw hP hS dX9_steals_59
    · replace hw := hw.2 c7
      refine lv_aload_n hx hb dX9_steals_42 rfl (lv_at hl 2 rfl) ?_
      refine fX9_1 E hP mw_324 dX9_steals_43 ?_
      refine lv_iload_n hx hb dX9_steals_46 rfl (lv_at hl 1 rfl) ?_
      refine g_cVi (As := [.int r5]) (rest := []) E hl.1 (c_X1_mayCarry l D cy ad ha ((by decide : 0 < 3)) hw _) ok_X1_mayCarry mw_567 ⟨(Nat.le_of_ble_eq_true rfl), (Nat.le_of_ble_eq_true rfl)⟩ ⟨rfl, rfl⟩ (rC5 (by decide : 0 < 3)) rfl rfl rfl rfl rfl (Nat.le_of_ble_eq_true rfl) ⟨Nat.zero_le _, Nat.zero_le _⟩ hP hS dX9_steals_47 (fun r8 s8 hw H locs hP hS => ?_)
      refine lv_iload_n hx hb dX9_steals_50 rfl (lv_at hl 3 rfl) ?_
      refine g_cSi (As := [.int r8, .int x1]) (rest := []) E hl.1 (c_X9_inSet l D cy ad ha hw _) ok_X9_inSet mw_575 ⟨(Nat.le_of_ble_eq_true rfl), (Nat.le_of_ble_eq_true rfl)⟩ ⟨rfl, rfl⟩ rfl rfl (Nat.le_of_ble_eq_true rfl) ⟨Nat.zero_le _, Nat.zero_le _⟩ hP hS dX9_steals_51 (fun r9 s9 hw H locs hP hS => ?_)
      obtain ⟨z9, hw⟩ := hw
      refine lv_if_ne (tgt := 60) hx hb dX9_steals_54 (by decide) (fun c10 => ?_) (fun c10 => ?_)
      · replace hw := hw.1 c10
        refine lv_aload_n hx hb dX9_steals_60 rfl (lv_at hl 2 rfl) ?_
        refine fX9_1 E hP mw_324 dX9_steals_61 ?_
        refine lv_iload_n hx hb dX9_steals_64 rfl (lv_at hl 3 rfl) ?_
        refine lv_iload_n hx hb dX9_steals_65 rfl (lv_at hl 0 rfl) ?_
        refine g_cVv (As := [.int x1, .int r6]) (rest := []) E hl.1 (c_X1_carry l D cy ad ha ((by decide : 0 < 3)) hw _) ok_X1_carry mw_576 ⟨(Nat.le_of_ble_eq_true rfl), (Nat.le_of_ble_eq_true rfl)⟩ ⟨rfl, rfl⟩ (rC5 (by decide : 0 < 3)) rfl rfl rfl rfl rfl (Nat.le_of_ble_eq_true rfl) ⟨Nat.zero_le _, Nat.zero_le _⟩ hP hS dX9_steals_66 (fun s11 hw H locs hP hS => ?_)
        refine lv_iload_n hx hb dX9_steals_69 rfl (lv_at hl 0 rfl) ?_
        exact g_iret E hw hP hS dX9_steals_70
      · replace hw := hw.2 c10
        refine g_ldc (v := -1000000002) E mw_378 dX9_steals_57 ?_
        exact g_iret E hw hP hS dX9_steals_59
  · replace hw := hw.2 c2
    refine g_ldc (v := -1000000001) E mw_376 dX9_steals_8 ?_
    exact g_iret E hw hP hS dX9_steals_10
theorem c_X9_steals (l : Launch) (D : va_G) (cy : Nat → ClassId) (ad : Nat → Nat → Nat) (ha : Apart regsC ad) {post : Int32 → St → Prop} {σ : St} {x1 : Int32} (hw : w_X9_steals post σ x1) (sz : Nat) : MetI l yX9_steals cX9_steals 4 .int rm_X9_steals [.ref (ad 0 0), .int x1] D cy (cellC cy ad) regsC ad σ sz post :=
  Met_inI ok_X9_steals.2.2.2.2.2 (Nat.le_of_ble_eq_true rfl) (fun p e s m below meth c ls E hP hl => B_X9_steals_0 E ha hw hP va_S.rf hl)
-- RoofWar.fits(II)I
theorem dX9_fits_0 : decode cX9_fits 0 = .ok (.iload_n 1, 1) := by decide +kernel
theorem dX9_fits_1 : decode cX9_fits 1 = .ok (.invokestatic 197, 3) := by decide +kernel
theorem dX9_fits_4 : decode cX9_fits 4 = .ok (.ifCond .eq 12, 3) := by decide +kernel
theorem dX9_fits_7 : decode cX9_fits 7 = .ok (.iload_n 2, 1) := by decide +kernel
theorem dX9_fits_8 : decode cX9_fits 8 = .ok (.iconst (-1), 1) := by decide +kernel
theorem dX9_fits_9 : decode cX9_fits 9 = .ok (.iconst 5, 1) := by decide +kernel
theorem dX9_fits_10 : decode cX9_fits 10 = .ok (.invokestatic 87, 3) := by decide +kernel
theorem dX9_fits_13 : decode cX9_fits 13 = .ok (.ifCond .ne 6, 3) := by decide +kernel
theorem dX9_fits_16 : decode cX9_fits 16 = .ok (.ldc 94, 2) := by decide +kernel
theorem dX9_fits_18 : decode cX9_fits 18 = .ok (.ireturn, 1) := by decide +kernel
theorem dX9_fits_19 : decode cX9_fits 19 = .ok (.aload_n 0, 1) := by decide +kernel
theorem dX9_fits_20 : decode cX9_fits 20 = .ok (.getfield 38, 3) := by decide +kernel
theorem dX9_fits_23 : decode cX9_fits 23 = .ok (.aload_n 0, 1) := by decide +kernel
theorem dX9_fits_24 : decode cX9_fits 24 = .ok (.getfield 21, 3) := by decide +kernel
theorem dX9_fits_27 : decode cX9_fits 27 = .ok (.iload_n 1, 1) := by decide +kernel
theorem dX9_fits_28 : decode cX9_fits 28 = .ok (.invokevirtual 218, 3) := by decide +kernel
theorem dX9_fits_31 : decode cX9_fits 31 = .ok (.iload_n 2, 1) := by decide +kernel
theorem dX9_fits_32 : decode cX9_fits 32 = .ok (.iconst (-1), 1) := by decide +kernel
theorem dX9_fits_33 : decode cX9_fits 33 = .ok (.if_icmp .ne 13, 3) := by decide +kernel
theorem dX9_fits_36 : decode cX9_fits 36 = .ok (.aload_n 0, 1) := by decide +kernel
theorem dX9_fits_37 : decode cX9_fits 37 = .ok (.getfield 38, 3) := by decide +kernel
theorem dX9_fits_40 : decode cX9_fits 40 = .ok (.invokevirtual 222, 3) := by decide +kernel
theorem dX9_fits_43 : decode cX9_fits 43 = .ok (.goto 11, 3) := by decide +kernel
theorem dX9_fits_46 : decode cX9_fits 46 = .ok (.aload_n 0, 1) := by decide +kernel
theorem dX9_fits_47 : decode cX9_fits 47 = .ok (.getfield 38, 3) := by decide +kernel
theorem dX9_fits_50 : decode cX9_fits 50 = .ok (.iload_n 2, 1) := by decide +kernel
theorem dX9_fits_51 : decode cX9_fits 51 = .ok (.invokevirtual 225, 3) := by decide +kernel
theorem dX9_fits_54 : decode cX9_fits 54 = .ok (.ireturn, 1) := by decide +kernel
theorem ok_X9_fits : okV yX9_fits cX9_fits 3 (some .int) 2 := ⟨mw_578, mw_579, mw_74, mw_580, by decide +kernel, by decide +kernel⟩
abbrev rm_X9_fits : Room := { frames := 6, cells := 0, slots := 0, locals := 145 }
def w_X9_fits (post : Int32 → St → Prop) (σ : St) (x1 : Int32) (x2 : Int32) : Prop := w_X9_isTown (fun r1 s1 => ((r1 = 0 → (post ((-1000000001)) s1)) ∧ (¬ r1 = 0 → (w_X9_within (fun r3 s3 => ((¬ r3 = 0 → (w_X0_think (fun s5 => ((¬ x2 = ((-1)) → (w_X0_roofFor (fun r7 s7 => post r7 s7) s5 x2)) ∧ (x2 = ((-1)) → (w_X0_dry (fun r8 s8 => post r8 s8) s5)))) s3 0 x1)) ∧ (r3 = 0 → (post ((-1000000001)) s3)))) s1 x2 (-1 : Int32) (5 : Int32))))) σ x1
theorem B_X9_fits_0 (E : EnvW p s m args meth c D cy regsC ad "RoofWar" cX9_fits 3 (some .int)) (ha : Apart regsC ad) {post : Int32 → St → Prop} {σ : St} {x1 : Int32} {x2 : Int32} (hw : w_X9_fits post σ x1 x2) {H : Heap} {locs : List Loc} {ls : Array Slot} (hP : va_P D CLS (wC cy ad σ) H) (hS : va_S (AC ad s.heap.size) s.heap H locs) (hl : lv_has ls 3 [(0, .ref (ad 0 0)), (1, .int x1), (2, .int x2)]) : W p l e rm_X9_fits s m args below meth c H locs 0 0 (MQ below (QI D cy (cellC cy ad) regsC ad s.heap.size post) args s 0 0 (AC ad s.heap.size)) (F0 m 0 ls []) := by
  obtain ⟨hx, hb, -⟩ := id E
  unfold w_X9_fits at hw
  refine lv_iload_n hx hb dX9_fits_0 rfl (lv_at hl 1 rfl) ?_
  refine g_cSi (As := [.int x1]) (rest := []) E hl.1 (c_X9_isTown l D cy ad ha hw _) ok_X9_isTown mw_564 ⟨(Nat.le_of_ble_eq_true rfl), (Nat.le_of_ble_eq_true rfl)⟩ ⟨rfl, rfl⟩ rfl rfl (Nat.le_of_ble_eq_true rfl) ⟨Nat.zero_le _, Nat.zero_le _⟩ hP hS dX9_fits_1 (fun r1 s1 hw H locs hP hS => ?_)
  obtain ⟨z1, hw⟩ := hw
  refine lv_if_eq (tgt := 16) hx hb dX9_fits_4 (by decide) (fun c2 => ?_) (fun c2 => ?_)
  · replace hw := hw.1 c2
    refine g_ldc (v := -1000000001) E mw_376 dX9_fits_16 ?_
    exact g_iret E hw hP hS dX9_fits_18
  · replace hw := hw.2 c2
    refine lv_iload_n hx hb dX9_fits_7 rfl (lv_at hl 2 rfl) ?_
    refine lv_iconst (v := -1) hx hb dX9_fits_8 (by decide) ?_
    refine lv_iconst (v := 5) hx hb dX9_fits_9 (by decide) ?_
    refine g_cSi (As := [.int x2, .int ((-1)), .int 5]) (rest := []) E hl.1 (c_X9_within l D cy ad ha hw _) ok_X9_within mw_370 ⟨(Nat.le_of_ble_eq_true rfl), (Nat.le_of_ble_eq_true rfl)⟩ ⟨rfl, rfl⟩ rfl rfl (Nat.le_of_ble_eq_true rfl) ⟨Nat.zero_le _, Nat.zero_le _⟩ hP hS dX9_fits_10 (fun r3 s3 hw H locs hP hS => ?_)
    obtain ⟨z3, hw⟩ := hw
    refine lv_if_ne (tgt := 19) hx hb dX9_fits_13 (by decide) (fun c4 => ?_) (fun c4 => ?_)
    · replace hw := hw.1 c4
      refine lv_aload_n hx hb dX9_fits_19 rfl (lv_at hl 0 rfl) ?_
      refine fX9_5 E hP mw_328 dX9_fits_20 ?_
      refine lv_aload_n hx hb dX9_fits_23 rfl (lv_at hl 0 rfl) ?_
      refine fX9_1 E hP mw_324 dX9_fits_24 ?_
      refine lv_iload_n hx hb dX9_fits_27 rfl (lv_at hl 1 rfl) ?_
      refine g_cVv (As := [.ref (ad 5 0), .int x1]) (rest := []) E hl.1 (c_X0_think l D cy ad ha ((by decide : 0 < 3)) hw _) ok_X0_think mw_581 ⟨(Nat.le_of_ble_eq_true rfl), (Nat.le_of_ble_eq_true rfl)⟩ ⟨rfl, rfl⟩ rC25 rfl rfl rfl rfl rfl (Nat.le_of_ble_eq_true rfl) ⟨Nat.zero_le _, Nat.zero_le _⟩ hP hS dX9_fits_28 (fun s5 hw H locs hP hS => ?_)
      refine lv_iload_n hx hb dX9_fits_31 rfl (lv_at hl 2 rfl) ?_
      refine lv_iconst (v := -1) hx hb dX9_fits_32 (by decide) ?_
      refine lv_icmp_ne (tgt := 46) hx hb dX9_fits_33 (by decide) (fun c6 => ?_) (fun c6 => ?_)
      · replace hw := hw.1 c6
        refine lv_aload_n hx hb dX9_fits_46 rfl (lv_at hl 0 rfl) ?_
        refine fX9_5 E hP mw_328 dX9_fits_47 ?_
        refine lv_iload_n hx hb dX9_fits_50 rfl (lv_at hl 2 rfl) ?_
        refine g_cVi (As := [.int x2]) (rest := []) E hl.1 (c_X0_roofFor l D cy ad ha hw _) ok_X0_roofFor mw_604 ⟨(Nat.le_of_ble_eq_true rfl), (Nat.le_of_ble_eq_true rfl)⟩ ⟨rfl, rfl⟩ rC25 rfl rfl rfl rfl rfl (Nat.le_of_ble_eq_true rfl) ⟨Nat.zero_le _, Nat.zero_le _⟩ hP hS dX9_fits_51 (fun r7 s7 hw H locs hP hS => ?_)
        exact g_iret E hw hP hS dX9_fits_54
      · replace hw := hw.2 c6
        refine lv_aload_n hx hb dX9_fits_36 rfl (lv_at hl 0 rfl) ?_
        refine fX9_5 E hP mw_328 dX9_fits_37 ?_
        refine g_cVi (As := []) (rest := []) E hl.1 (c_X0_dry l D cy ad ha hw _) ok_X0_dry mw_600 ⟨(Nat.le_of_ble_eq_true rfl), (Nat.le_of_ble_eq_true rfl)⟩ ⟨rfl, rfl⟩ rC25 rfl rfl rfl rfl rfl (Nat.le_of_ble_eq_true rfl) ⟨Nat.zero_le _, Nat.zero_le _⟩ hP hS dX9_fits_40 (fun r8 s8 hw H locs hP hS => ?_)
        refine lv_goto (tgt := 54) hx hb dX9_fits_43 (by decide) ?_
        exact g_iret E hw hP hS dX9_fits_54
    · replace hw := hw.2 c4
      refine g_ldc (v := -1000000001) E mw_376 dX9_fits_16 ?_
      exact g_iret E hw hP hS dX9_fits_18
theorem c_X9_fits (l : Launch) (D : va_G) (cy : Nat → ClassId) (ad : Nat → Nat → Nat) (ha : Apart regsC ad) {post : Int32 → St → Prop} {σ : St} {x1 : Int32} {x2 : Int32} (hw : w_X9_fits post σ x1 x2) (sz : Nat) : MetI l yX9_fits cX9_fits 3 .int rm_X9_fits [.ref (ad 0 0), .int x1, .int x2] D cy (cellC cy ad) regsC ad σ sz post :=
  Met_inI ok_X9_fits.2.2.2.2.2 (Nat.le_of_ble_eq_true rfl) (fun p e s m below meth c ls E hP hl => B_X9_fits_0 E ha hw hP va_S.rf hl)
-- RoofWar.prize(II)I
theorem dX9_prize_0 : decode cX9_prize 0 = .ok (.iload_n 1, 1) := by decide +kernel
theorem dX9_prize_1 : decode cX9_prize 1 = .ok (.invokestatic 197, 3) := by decide +kernel
theorem dX9_prize_4 : decode cX9_prize 4 = .ok (.ifCond .eq 12, 3) := by decide +kernel
theorem dX9_prize_7 : decode cX9_prize 7 = .ok (.iload_n 2, 1) := by decide +kernel
theorem dX9_prize_8 : decode cX9_prize 8 = .ok (.iconst 0, 1) := by decide +kernel
theorem dX9_prize_9 : decode cX9_prize 9 = .ok (.iconst 1, 1) := by decide +kernel
theorem dX9_prize_10 : decode cX9_prize 10 = .ok (.invokestatic 87, 3) := by decide +kernel
theorem dX9_prize_13 : decode cX9_prize 13 = .ok (.ifCond .ne 6, 3) := by decide +kernel
theorem dX9_prize_16 : decode cX9_prize 16 = .ok (.ldc 94, 2) := by decide +kernel
theorem dX9_prize_18 : decode cX9_prize 18 = .ok (.ireturn, 1) := by decide +kernel
theorem dX9_prize_19 : decode cX9_prize 19 = .ok (.aload_n 0, 1) := by decide +kernel
theorem dX9_prize_20 : decode cX9_prize 20 = .ok (.getfield 21, 3) := by decide +kernel
theorem dX9_prize_23 : decode cX9_prize 23 = .ok (.iload_n 1, 1) := by decide +kernel
theorem dX9_prize_24 : decode cX9_prize 24 = .ok (.invokevirtual 203, 3) := by decide +kernel
theorem dX9_prize_27 : decode cX9_prize 27 = .ok (.istore_n 3, 1) := by decide +kernel
theorem dX9_prize_28 : decode cX9_prize 28 = .ok (.aload_n 0, 1) := by decide +kernel
theorem dX9_prize_29 : decode cX9_prize 29 = .ok (.getfield 21, 3) := by decide +kernel
theorem dX9_prize_32 : decode cX9_prize 32 = .ok (.iload_n 1, 1) := by decide +kernel
theorem dX9_prize_33 : decode cX9_prize 33 = .ok (.invokevirtual 200, 3) := by decide +kernel
theorem dX9_prize_36 : decode cX9_prize 36 = .ok (.istore 4, 2) := by decide +kernel
theorem dX9_prize_38 : decode cX9_prize 38 = .ok (.iload_n 3, 1) := by decide +kernel
theorem dX9_prize_39 : decode cX9_prize 39 = .ok (.ldc 98, 2) := by decide +kernel
theorem dX9_prize_41 : decode cX9_prize 41 = .ok (.if_icmp .eq 8, 3) := by decide +kernel
theorem dX9_prize_44 : decode cX9_prize 44 = .ok (.iload 4, 2) := by decide +kernel
theorem dX9_prize_46 : decode cX9_prize 46 = .ok (.ifCond .ne 6, 3) := by decide +kernel
theorem dX9_prize_49 : decode cX9_prize 49 = .ok (.ldc 98, 2) := by decide +kernel
theorem dX9_prize_51 : decode cX9_prize 51 = .ok (.ireturn, 1) := by decide +kernel
theorem dX9_prize_52 : decode cX9_prize 52 = .ok (.aload_n 0, 1) := by decide +kernel
theorem dX9_prize_53 : decode cX9_prize 53 = .ok (.getfield 21, 3) := by decide +kernel
theorem dX9_prize_56 : decode cX9_prize 56 = .ok (.iload_n 1, 1) := by decide +kernel
theorem dX9_prize_57 : decode cX9_prize 57 = .ok (.invokevirtual 190, 3) := by decide +kernel
theorem dX9_prize_60 : decode cX9_prize 60 = .ok (.aload_n 0, 1) := by decide +kernel
theorem dX9_prize_61 : decode cX9_prize 61 = .ok (.getfield 21, 3) := by decide +kernel
theorem dX9_prize_64 : decode cX9_prize 64 = .ok (.iload_n 1, 1) := by decide +kernel
theorem dX9_prize_65 : decode cX9_prize 65 = .ok (.invokestatic 209, 3) := by decide +kernel
theorem dX9_prize_68 : decode cX9_prize 68 = .ok (.invokevirtual 190, 3) := by decide +kernel
theorem dX9_prize_71 : decode cX9_prize 71 = .ok (.isub, 1) := by decide +kernel
theorem dX9_prize_72 : decode cX9_prize 72 = .ok (.istore 5, 2) := by decide +kernel
theorem dX9_prize_74 : decode cX9_prize 74 = .ok (.ldc 98, 2) := by decide +kernel
theorem dX9_prize_76 : decode cX9_prize 76 = .ok (.istore 6, 2) := by decide +kernel
theorem dX9_prize_78 : decode cX9_prize 78 = .ok (.iconst 0, 1) := by decide +kernel
theorem dX9_prize_79 : decode cX9_prize 79 = .ok (.istore 7, 2) := by decide +kernel
theorem dX9_prize_81 : decode cX9_prize 81 = .ok (.iconst 0, 1) := by decide +kernel
theorem dX9_prize_82 : decode cX9_prize 82 = .ok (.istore 8, 2) := by decide +kernel
theorem dX9_prize_84 : decode cX9_prize 84 = .ok (.iload 8, 2) := by decide +kernel
theorem dX9_prize_86 : decode cX9_prize 86 = .ok (.aload_n 0, 1) := by decide +kernel
theorem dX9_prize_87 : decode cX9_prize 87 = .ok (.getfield 21, 3) := by decide +kernel
theorem dX9_prize_90 : decode cX9_prize 90 = .ok (.getfield 100, 3) := by decide +kernel
theorem dX9_prize_93 : decode cX9_prize 93 = .ok (.if_icmp .ge 74, 3) := by decide +kernel
theorem dX9_prize_96 : decode cX9_prize 96 = .ok (.iload 4, 2) := by decide +kernel
theorem dX9_prize_98 : decode cX9_prize 98 = .ok (.iload 8, 2) := by decide +kernel
theorem dX9_prize_100 : decode cX9_prize 100 = .ok (.invokestatic 212, 3) := by decide +kernel
theorem dX9_prize_103 : decode cX9_prize 103 = .ok (.ifCond .eq 58, 3) := by decide +kernel
theorem dX9_prize_106 : decode cX9_prize 106 = .ok (.iload 5, 2) := by decide +kernel
theorem dX9_prize_108 : decode cX9_prize 108 = .ok (.aload_n 0, 1) := by decide +kernel
theorem dX9_prize_109 : decode cX9_prize 109 = .ok (.getfield 21, 3) := by decide +kernel
theorem dX9_prize_112 : decode cX9_prize 112 = .ok (.iload 8, 2) := by decide +kernel
theorem dX9_prize_114 : decode cX9_prize 114 = .ok (.iload_n 3, 1) := by decide +kernel
theorem dX9_prize_115 : decode cX9_prize 115 = .ok (.invokevirtual 228, 3) := by decide +kernel
theorem dX9_prize_118 : decode cX9_prize 118 = .ok (.iadd, 1) := by decide +kernel
theorem dX9_prize_119 : decode cX9_prize 119 = .ok (.aload_n 0, 1) := by decide +kernel
theorem dX9_prize_120 : decode cX9_prize 120 = .ok (.getfield 21, 3) := by decide +kernel
theorem dX9_prize_123 : decode cX9_prize 123 = .ok (.aload_n 0, 1) := by decide +kernel
theorem dX9_prize_124 : decode cX9_prize 124 = .ok (.getfield 21, 3) := by decide +kernel
theorem dX9_prize_127 : decode cX9_prize 127 = .ok (.getfield 120, 3) := by decide +kernel
theorem dX9_prize_130 : decode cX9_prize 130 = .ok (.iload 8, 2) := by decide +kernel
theorem dX9_prize_132 : decode cX9_prize 132 = .ok (.iaload, 1) := by decide +kernel
theorem dX9_prize_133 : decode cX9_prize 133 = .ok (.invokevirtual 153, 3) := by decide +kernel
theorem dX9_prize_136 : decode cX9_prize 136 = .ok (.iadd, 1) := by decide +kernel
theorem dX9_prize_137 : decode cX9_prize 137 = .ok (.istore 9, 2) := by decide +kernel
theorem dX9_prize_139 : decode cX9_prize 139 = .ok (.iload 6, 2) := by decide +kernel
theorem dX9_prize_141 : decode cX9_prize 141 = .ok (.ldc 98, 2) := by decide +kernel
theorem dX9_prize_143 : decode cX9_prize 143 = .ok (.if_icmp .eq 10, 3) := by decide +kernel
theorem dX9_prize_146 : decode cX9_prize 146 = .ok (.iload 9, 2) := by decide +kernel
theorem dX9_prize_148 : decode cX9_prize 148 = .ok (.iload 7, 2) := by decide +kernel
theorem dX9_prize_150 : decode cX9_prize 150 = .ok (.if_icmp .le 11, 3) := by decide +kernel
theorem dX9_prize_153 : decode cX9_prize 153 = .ok (.iload 8, 2) := by decide +kernel
theorem dX9_prize_155 : decode cX9_prize 155 = .ok (.istore 6, 2) := by decide +kernel
theorem dX9_prize_157 : decode cX9_prize 157 = .ok (.iload 9, 2) := by decide +kernel
theorem dX9_prize_159 : decode cX9_prize 159 = .ok (.istore 7, 2) := by decide +kernel
theorem dX9_prize_161 : decode cX9_prize 161 = .ok (.iinc 8 1, 3) := by decide +kernel
theorem dX9_prize_164 : decode cX9_prize 164 = .ok (.goto (-80), 3) := by decide +kernel
theorem dX9_prize_167 : decode cX9_prize 167 = .ok (.iload_n 2, 1) := by decide +kernel
theorem dX9_prize_168 : decode cX9_prize 168 = .ok (.ifCond .ne 8, 3) := by decide +kernel
theorem dX9_prize_171 : decode cX9_prize 171 = .ok (.iload 6, 2) := by decide +kernel
theorem dX9_prize_173 : decode cX9_prize 173 = .ok (.goto 5, 3) := by decide +kernel
theorem dX9_prize_176 : decode cX9_prize 176 = .ok (.iload 7, 2) := by decide +kernel
theorem dX9_prize_178 : decode cX9_prize 178 = .ok (.ireturn, 1) := by decide +kernel
theorem ok_X9_prize : okV yX9_prize cX9_prize 10 (some .int) 2 := ⟨mw_609, mw_610, mw_74, mw_611, by decide +kernel, by decide +kernel⟩
abbrev rm_X9_prize : Room := { frames := 4, cells := 0, slots := 0, locals := 92 }
def b_X9_prize_84 (K84 : St → Int32 → Int32 → Int32 → Int32 → Int32 → Int32 → Int32 → Prop) (post : Int32 → St → Prop) (σ : St) (x2 : Int32) (x3 : Int32) (x4 : Int32) (x5 : Int32) (x6 : Int32) (x7 : Int32) (x8 : Int32) : Prop := (((σ 5 0 0) ≤ x8 → (((¬ x2 = 0 → (post x7 σ)) ∧ (x2 = 0 → (post x6 σ))))) ∧ (¬ (σ 5 0 0) ≤ x8 → (w_X9_inSet (fun r3 s3 => ((r3 = 0 → (∀ v5 : Int32, v5 = x8 + 1 → (K84 s3 x2 x3 x4 x5 x6 x7 v5))) ∧ (¬ r3 = 0 → (w_X1_dryWere (fun r6 s6 => vp_in x8 12 ∧ (w_X1_dryIn (fun r8 s8 => ∀ v9 : Int32, v9 = (x5 + r6) + r8 → (((x6 = ((-1000000005)) → (∀ v11 : Int32, v11 = x8 + 1 → (K84 s8 x2 x3 x4 x5 x8 v9 v11))) ∧ (¬ x6 = ((-1000000005)) → (((v9 ≤ x7 → (∀ v13 : Int32, v13 = x8 + 1 → (K84 s8 x2 x3 x4 x5 x6 x7 v13))) ∧ (¬ v9 ≤ x7 → (∀ v14 : Int32, v14 = x8 + 1 → (K84 s8 x2 x3 x4 x5 x8 v9 v14))))))))) s6 0 (s6 9 0 x8.toNatClampNeg))) s3 0 x8 x3)))) σ x4 x8)))
noncomputable def l_X9_prize_84 (post : Int32 → St → Prop) : Nat → St → Int32 → Int32 → Int32 → Int32 → Int32 → Int32 → Int32 → Prop := fun n => Nat.rec (motive := fun _ => St → Int32 → Int32 → Int32 → Int32 → Int32 → Int32 → Int32 → Prop) (fun _ _ _ _ _ _ _ _ => False) (fun _ ih => b_X9_prize_84 ih post) n
theorem L_X9_prize_84 (E : EnvW p s m args meth c D cy regsC ad "RoofWar" cX9_prize 10 (some .int)) (ha : Apart regsC ad) {post : Int32 → St → Prop} : ∀ (n : Nat), ∀ (σ : St) (x2 : Int32) (x3 : Int32) (x4 : Int32) (x5 : Int32) (x6 : Int32) (x7 : Int32) (x8 : Int32), l_X9_prize_84 post n σ x2 x3 x4 x5 x6 x7 x8 → ∀ (H : Heap) (locs : List Loc) (ls : Array Slot), va_P D CLS (wC cy ad σ) H → va_S (AC ad s.heap.size) s.heap H locs → lv_has ls 10 [(0, .ref (ad 0 0)), (2, .int x2), (3, .int x3), (4, .int x4), (5, .int x5), (6, .int x6), (7, .int x7), (8, .int x8)] → W p l e rm_X9_prize s m args below meth c H locs 0 0 (MQ below (QI D cy (cellC cy ad) regsC ad s.heap.size post) args s 0 0 (AC ad s.heap.size)) (F0 m 84 ls []) := by
  obtain ⟨hx, hb, -⟩ := id E
  intro n
  induction n with
  | zero => intro σ x2 x3 x4 x5 x6 x7 x8 hw; exact hw.elim
  | succ n hk84 =>
    intro σ x2 x3 x4 x5 x6 x7 x8 hw H locs ls hP hS hl
    replace hw : b_X9_prize_84 (l_X9_prize_84 post n) post σ x2 x3 x4 x5 x6 x7 x8 := hw
    unfold b_X9_prize_84 at hw
    refine lv_iload hx hb dX9_prize_84 (lv_at hl 7 rfl) ?_
    refine lv_aload_n hx hb dX9_prize_86 rfl (lv_at hl 0 rfl) ?_
    refine fX9_1 E hP mw_324 dX9_prize_87 ?_
    refine fX1_9 ((by decide : 0 < 3)) E hP mw_167 dX9_prize_90 ?_
    refine lv_icmp_ge (tgt := 167) hx hb dX9_prize_93 (by decide) (fun c1 => ?_) (fun c1 => ?_)
    · replace hw := hw.1 c1
      refine lv_iload_n hx hb dX9_prize_167 rfl (lv_at hl 1 rfl) ?_
      refine lv_if_ne (tgt := 176) hx hb dX9_prize_168 (by decide) (fun c2 => ?_) (fun c2 => ?_)
      · replace hw := hw.1 c2
        refine lv_iload hx hb dX9_prize_176 (lv_at hl 6 rfl) ?_
        exact g_iret E hw hP hS dX9_prize_178
      · replace hw := hw.2 c2
        refine lv_iload hx hb dX9_prize_171 (lv_at hl 5 rfl) ?_
        refine lv_goto (tgt := 178) hx hb dX9_prize_173 (by decide) ?_
        exact g_iret E hw hP hS dX9_prize_178
    · replace hw := hw.2 c1
      refine lv_iload hx hb dX9_prize_96 (lv_at hl 3 rfl) ?_
      refine lv_iload hx hb dX9_prize_98 (lv_at hl 7 rfl) ?_
      refine g_cSi (As := [.int x4, .int x8]) (rest := []) E hl.1 (c_X9_inSet l D cy ad ha hw _) ok_X9_inSet mw_575 ⟨(Nat.le_of_ble_eq_true rfl), (Nat.le_of_ble_eq_true rfl)⟩ ⟨rfl, rfl⟩ rfl rfl (Nat.le_of_ble_eq_true rfl) ⟨Nat.zero_le _, Nat.zero_le _⟩ hP hS dX9_prize_100 (fun r3 s3 hw H locs hP hS => ?_)
      obtain ⟨z3, hw⟩ := hw
      refine lv_if_eq (tgt := 161) hx hb dX9_prize_103 (by decide) (fun c4 => ?_) (fun c4 => ?_)
      · replace hw := hw.1 c4
        obtain ⟨v5, ev5⟩ : ∃ y : Int32, y = x8 + 1 := ⟨_, rfl⟩
        replace hw := hw v5 ev5
        refine lv_iinc (v := v5) (lv' := [(8, .int v5), (0, .ref (ad 0 0)), (2, .int x2), (3, .int x3), (4, .int x4), (5, .int x5), (6, .int x6), (7, .int x7)]) hx hb dX9_prize_161 hl (k := 7) rfl (by rw [ev5]; rfl) (by decide) rfl (fun ls hl => ?_)
        refine lv_goto (tgt := 84) hx hb dX9_prize_164 (by decide) ?_
        exact hk84 s3 x2 x3 x4 x5 x6 x7 v5 hw _ _ _ hP hS (lv_sub hl [1, 2, 3, 4, 5, 6, 7, 0] rfl)
      · replace hw := hw.2 c4
        refine lv_iload hx hb dX9_prize_106 (lv_at hl 4 rfl) ?_
        refine lv_aload_n hx hb dX9_prize_108 rfl (lv_at hl 0 rfl) ?_
        refine fX9_1 E hP mw_324 dX9_prize_109 ?_
        refine lv_iload hx hb dX9_prize_112 (lv_at hl 7 rfl) ?_
        refine lv_iload_n hx hb dX9_prize_114 rfl (lv_at hl 2 rfl) ?_
        refine g_cVi (As := [.int x8, .int x3]) (rest := [.int x5]) E hl.1 (c_X1_dryWere l D cy ad ha ((by decide : 0 < 3)) hw _) ok_X1_dryWere mw_612 ⟨(Nat.le_of_ble_eq_true rfl), (Nat.le_of_ble_eq_true rfl)⟩ ⟨rfl, rfl⟩ (rC5 (by decide : 0 < 3)) rfl rfl rfl rfl rfl (Nat.le_of_ble_eq_true rfl) ⟨Nat.zero_le _, Nat.zero_le _⟩ hP hS dX9_prize_115 (fun r6 s6 hw H locs hP hS => ?_)
        refine lv_iadd hx hb dX9_prize_118 ?_
        refine lv_aload_n hx hb dX9_prize_119 rfl (lv_at hl 0 rfl) ?_
        refine fX9_1 E hP mw_324 dX9_prize_120 ?_
        refine lv_aload_n hx hb dX9_prize_123 rfl (lv_at hl 0 rfl) ?_
        refine fX9_1 E hP mw_324 dX9_prize_124 ?_
        refine fX1_4 ((by decide : 0 < 3)) E hP mw_157 dX9_prize_127 ?_
        refine lv_iload hx hb dX9_prize_130 (lv_at hl 7 rfl) ?_
        obtain ⟨h7, hw⟩ := hw
        refine aC9 ((by decide : 0 < 3)) E hP h7 dX9_prize_132 ?_
        refine g_cVi (As := [.int (s6 9 0 x8.toNatClampNeg)]) (rest := [.int (x5 + r6)]) E hl.1 (c_X1_dryIn l D cy ad ha ((by decide : 0 < 3)) hw _) ok_X1_dryIn mw_434 ⟨(Nat.le_of_ble_eq_true rfl), (Nat.le_of_ble_eq_true rfl)⟩ ⟨rfl, rfl⟩ (rC5 (by decide : 0 < 3)) rfl rfl rfl rfl rfl (Nat.le_of_ble_eq_true rfl) ⟨Nat.zero_le _, Nat.zero_le _⟩ hP hS dX9_prize_133 (fun r8 s8 hw H locs hP hS => ?_)
        refine lv_iadd hx hb dX9_prize_136 ?_
        refine lv_topi (fun v9 ev9 => ?_)
        replace hw := hw v9 ev9
        refine lv_istore (lv' := [(9, .int v9), (0, .ref (ad 0 0)), (2, .int x2), (3, .int x3), (4, .int x4), (5, .int x5), (6, .int x6), (7, .int x7), (8, .int x8)]) hx hb dX9_prize_137 hl (by decide) rfl (fun ls hl => ?_)
        refine lv_iload hx hb dX9_prize_139 (lv_at hl 6 rfl) ?_
        refine g_ldc (v := -1000000005) E mw_377 dX9_prize_141 ?_
        refine lv_icmp_eq (tgt := 153) hx hb dX9_prize_143 (by decide) (fun c10 => ?_) (fun c10 => ?_)
        · replace hw := hw.1 c10
          refine lv_iload hx hb dX9_prize_153 (lv_at hl 8 rfl) ?_
          refine lv_istore (lv' := [(6, .int x8), (9, .int v9), (0, .ref (ad 0 0)), (2, .int x2), (3, .int x3), (4, .int x4), (5, .int x5), (7, .int x7), (8, .int x8)]) hx hb dX9_prize_155 hl (by decide) rfl (fun ls hl => ?_)
          refine lv_iload hx hb dX9_prize_157 (lv_at hl 1 rfl) ?_
          refine lv_istore (lv' := [(7, .int v9), (6, .int x8), (9, .int v9), (0, .ref (ad 0 0)), (2, .int x2), (3, .int x3), (4, .int x4), (5, .int x5), (8, .int x8)]) hx hb dX9_prize_159 hl (by decide) rfl (fun ls hl => ?_)
          obtain ⟨v11, ev11⟩ : ∃ y : Int32, y = x8 + 1 := ⟨_, rfl⟩
          replace hw := hw v11 ev11
          refine lv_iinc (v := v11) (lv' := [(8, .int v11), (7, .int v9), (6, .int x8), (9, .int v9), (0, .ref (ad 0 0)), (2, .int x2), (3, .int x3), (4, .int x4), (5, .int x5)]) hx hb dX9_prize_161 hl (k := 8) rfl (by rw [ev11]; rfl) (by decide) rfl (fun ls hl => ?_)
          refine lv_goto (tgt := 84) hx hb dX9_prize_164 (by decide) ?_
          exact hk84 s8 x2 x3 x4 x5 x8 v9 v11 hw _ _ _ hP hS (lv_sub hl [4, 5, 6, 7, 8, 2, 1, 0] rfl)
        · replace hw := hw.2 c10
          refine lv_iload hx hb dX9_prize_146 (lv_at hl 0 rfl) ?_
          refine lv_iload hx hb dX9_prize_148 (lv_at hl 7 rfl) ?_
          refine lv_icmp_le (tgt := 161) hx hb dX9_prize_150 (by decide) (fun c12 => ?_) (fun c12 => ?_)
          · replace hw := hw.1 c12
            obtain ⟨v13, ev13⟩ : ∃ y : Int32, y = x8 + 1 := ⟨_, rfl⟩
            replace hw := hw v13 ev13
            refine lv_iinc (v := v13) (lv' := [(8, .int v13), (9, .int v9), (0, .ref (ad 0 0)), (2, .int x2), (3, .int x3), (4, .int x4), (5, .int x5), (6, .int x6), (7, .int x7)]) hx hb dX9_prize_161 hl (k := 8) rfl (by rw [ev13]; rfl) (by decide) rfl (fun ls hl => ?_)
            refine lv_goto (tgt := 84) hx hb dX9_prize_164 (by decide) ?_
            exact hk84 s8 x2 x3 x4 x5 x6 x7 v13 hw _ _ _ hP hS (lv_sub hl [2, 3, 4, 5, 6, 7, 8, 0] rfl)
          · replace hw := hw.2 c12
            refine lv_iload hx hb dX9_prize_153 (lv_at hl 8 rfl) ?_
            refine lv_istore (lv' := [(6, .int x8), (9, .int v9), (0, .ref (ad 0 0)), (2, .int x2), (3, .int x3), (4, .int x4), (5, .int x5), (7, .int x7), (8, .int x8)]) hx hb dX9_prize_155 hl (by decide) rfl (fun ls hl => ?_)
            refine lv_iload hx hb dX9_prize_157 (lv_at hl 1 rfl) ?_
            refine lv_istore (lv' := [(7, .int v9), (6, .int x8), (9, .int v9), (0, .ref (ad 0 0)), (2, .int x2), (3, .int x3), (4, .int x4), (5, .int x5), (8, .int x8)]) hx hb dX9_prize_159 hl (by decide) rfl (fun ls hl => ?_)
            obtain ⟨v14, ev14⟩ : ∃ y : Int32, y = x8 + 1 := ⟨_, rfl⟩
            replace hw := hw v14 ev14
            refine lv_iinc (v := v14) (lv' := [(8, .int v14), (7, .int v9), (6, .int x8), (9, .int v9), (0, .ref (ad 0 0)), (2, .int x2), (3, .int x3), (4, .int x4), (5, .int x5)]) hx hb dX9_prize_161 hl (k := 8) rfl (by rw [ev14]; rfl) (by decide) rfl (fun ls hl => ?_)
            refine lv_goto (tgt := 84) hx hb dX9_prize_164 (by decide) ?_
            exact hk84 s8 x2 x3 x4 x5 x8 v9 v14 hw _ _ _ hP hS (lv_sub hl [4, 5, 6, 7, 8, 2, 1, 0] rfl)
def w_X9_prize (post : Int32 → St → Prop) (σ : St) (x1 : Int32) (x2 : Int32) : Prop := w_X9_isTown (fun r1 s1 => ((r1 = 0 → (post ((-1000000001)) s1)) ∧ (¬ r1 = 0 → (w_X9_within (fun r3 s3 => ((¬ r3 = 0 → (w_X1_homeOf (fun r5 s5 => w_X1_mayCarry (fun r6 s6 => ((r5 = ((-1000000005)) → (post ((-1000000005)) s6)) ∧ (¬ r5 = ((-1000000005)) → (((¬ r6 = 0 → (w_X1_dryOf (fun r9 s9 => w_X9_otherTown (fun r10 s10 => w_X1_dryOf (fun r11 s11 => ∀ v12 : Int32, v12 = r9 - r11 → (∃ n13 : Nat, l_X9_prize_84 post n13 s11 x2 r5 r6 v12 (-1000000005 : Int32) (0 : Int32) (0 : Int32))) s10 0 r10) s9 x1) s6 0 x1)) ∧ (r6 = 0 → (post ((-1000000005)) s6))))))) s5 0 x1) s3 0 x1)) ∧ (r3 = 0 → (post ((-1000000001)) s3)))) s1 x2 (0 : Int32) (1 : Int32))))) σ x1
theorem B_X9_prize_0 (E : EnvW p s m args meth c D cy regsC ad "RoofWar" cX9_prize 10 (some .int)) (ha : Apart regsC ad) {post : Int32 → St → Prop} {σ : St} {x1 : Int32} {x2 : Int32} (hw : w_X9_prize post σ x1 x2) {H : Heap} {locs : List Loc} {ls : Array Slot} (hP : va_P D CLS (wC cy ad σ) H) (hS : va_S (AC ad s.heap.size) s.heap H locs) (hl : lv_has ls 10 [(0, .ref (ad 0 0)), (1, .int x1), (2, .int x2)]) : W p l e rm_X9_prize s m args below meth c H locs 0 0 (MQ below (QI D cy (cellC cy ad) regsC ad s.heap.size post) args s 0 0 (AC ad s.heap.size)) (F0 m 0 ls []) := by
  obtain ⟨hx, hb, -⟩ := id E
  unfold w_X9_prize at hw
  refine lv_iload_n hx hb dX9_prize_0 rfl (lv_at hl 1 rfl) ?_
  refine g_cSi (As := [.int x1]) (rest := []) E hl.1 (c_X9_isTown l D cy ad ha hw _) ok_X9_isTown mw_564 ⟨(Nat.le_of_ble_eq_true rfl), (Nat.le_of_ble_eq_true rfl)⟩ ⟨rfl, rfl⟩ rfl rfl (Nat.le_of_ble_eq_true rfl) ⟨Nat.zero_le _, Nat.zero_le _⟩ hP hS dX9_prize_1 (fun r1 s1 hw H locs hP hS => ?_)
  obtain ⟨z1, hw⟩ := hw
  refine lv_if_eq (tgt := 16) hx hb dX9_prize_4 (by decide) (fun c2 => ?_) (fun c2 => ?_)
  · replace hw := hw.1 c2
    refine g_ldc (v := -1000000001) E mw_376 dX9_prize_16 ?_
    exact g_iret E hw hP hS dX9_prize_18
  · replace hw := hw.2 c2
    refine lv_iload_n hx hb dX9_prize_7 rfl (lv_at hl 2 rfl) ?_
    refine lv_iconst (v := 0) hx hb dX9_prize_8 (by decide) ?_
    refine lv_iconst (v := 1) hx hb dX9_prize_9 (by decide) ?_
    refine g_cSi (As := [.int x2, .int 0, .int 1]) (rest := []) E hl.1 (c_X9_within l D cy ad ha hw _) ok_X9_within mw_370 ⟨(Nat.le_of_ble_eq_true rfl), (Nat.le_of_ble_eq_true rfl)⟩ ⟨rfl, rfl⟩ rfl rfl (Nat.le_of_ble_eq_true rfl) ⟨Nat.zero_le _, Nat.zero_le _⟩ hP hS dX9_prize_10 (fun r3 s3 hw H locs hP hS => ?_)
    obtain ⟨z3, hw⟩ := hw
    refine lv_if_ne (tgt := 19) hx hb dX9_prize_13 (by decide) (fun c4 => ?_) (fun c4 => ?_)
    · replace hw := hw.1 c4
      refine lv_aload_n hx hb dX9_prize_19 rfl (lv_at hl 0 rfl) ?_
      refine fX9_1 E hP mw_324 dX9_prize_20 ?_
      refine lv_iload_n hx hb dX9_prize_23 rfl (lv_at hl 1 rfl) ?_
      refine g_cVi (As := [.int x1]) (rest := []) E hl.1 (c_X1_homeOf l D cy ad ha ((by decide : 0 < 3)) hw _) ok_X1_homeOf mw_568 ⟨(Nat.le_of_ble_eq_true rfl), (Nat.le_of_ble_eq_true rfl)⟩ ⟨rfl, rfl⟩ (rC5 (by decide : 0 < 3)) rfl rfl rfl rfl rfl (Nat.le_of_ble_eq_true rfl) ⟨Nat.zero_le _, Nat.zero_le _⟩ hP hS dX9_prize_24 (fun r5 s5 hw H locs hP hS => ?_)
      refine lv_istore_n (lv' := [(3, .int r5), (0, .ref (ad 0 0)), (1, .int x1), (2, .int x2)]) hx hb dX9_prize_27 rfl hl (by decide) rfl (fun ls hl => ?_)
      refine lv_aload_n hx hb dX9_prize_28 rfl (lv_at hl 1 rfl) ?_
      refine fX9_1 E hP mw_324 dX9_prize_29 ?_
      refine lv_iload_n hx hb dX9_prize_32 rfl (lv_at hl 2 rfl) ?_
      refine g_cVi (As := [.int x1]) (rest := []) E hl.1 (c_X1_mayCarry l D cy ad ha ((by decide : 0 < 3)) hw _) ok_X1_mayCarry mw_567 ⟨(Nat.le_of_ble_eq_true rfl), (Nat.le_of_ble_eq_true rfl)⟩ ⟨rfl, rfl⟩ (rC5 (by decide : 0 < 3)) rfl rfl rfl rfl rfl (Nat.le_of_ble_eq_true rfl) ⟨Nat.zero_le _, Nat.zero_le _⟩ hP hS dX9_prize_33 (fun r6 s6 hw H locs hP hS => ?_)
      refine lv_istore (lv' := [(4, .int r6), (3, .int r5), (0, .ref (ad 0 0)), (1, .int x1), (2, .int x2)]) hx hb dX9_prize_36 hl (by decide) rfl (fun ls hl => ?_)
      refine lv_iload_n hx hb dX9_prize_38 rfl (lv_at hl 1 rfl) ?_
      refine g_ldc (v := -1000000005) E mw_377 dX9_prize_39 ?_
      refine lv_icmp_eq (tgt := 49) hx hb dX9_prize_41 (by decide) (fun c7 => ?_) (fun c7 => ?_)
      · replace hw := hw.1 c7
        refine g_ldc (v := -1000000005) E mw_377 dX9_prize_49 ?_
        exact g_iret E hw hP hS dX9_prize_51
      · replace hw := hw.2 c7
        refine lv_iload hx hb dX9_prize_44 (lv_at hl 0 rfl) ?_
        refine lv_if_ne (tgt := 52) hx hb dX9_prize_46 (by decide) (fun c8 => ?_) (fun c8 => ?_)
        · replace hw := hw.1 c8
          refine lv_aload_n hx hb dX9_prize_52 rfl (lv_at hl 2 rfl) ?_
          refine fX9_1 E hP mw_324 dX9_prize_53 ?_
          refine lv_iload_n hx hb dX9_prize_56 rfl (lv_at hl 3 rfl) ?_
          refine g_cVi (As := [.int x1]) (rest := []) E hl.1 (c_X1_dryOf l D cy ad ha ((by decide : 0 < 3)) hw _) ok_X1_dryOf mw_551 ⟨(Nat.le_of_ble_eq_true rfl), (Nat.le_of_ble_eq_true rfl)⟩ ⟨rfl, rfl⟩ (rC5 (by decide : 0 < 3)) rfl rfl rfl rfl rfl (Nat.le_of_ble_eq_true rfl) ⟨Nat.zero_le _, Nat.zero_le _⟩ hP hS dX9_prize_57 (fun r9 s9 hw H locs hP hS => ?_)
          refine lv_aload_n hx hb dX9_prize_60 rfl (lv_at hl 2 rfl) ?_
          refine fX9_1 E hP mw_324 dX9_prize_61 ?_
          refine lv_iload_n hx hb dX9_prize_64 rfl (lv_at hl 3 rfl) ?_
          refine g_cSi (As := [.int x1]) (rest := [.ref (ad 5 0), .int r9]) E hl.1 (c_X9_otherTown l D cy ad ha hw _) ok_X9_otherTown mw_574 ⟨(Nat.le_of_ble_eq_true rfl), (Nat.le_of_ble_eq_true rfl)⟩ ⟨rfl, rfl⟩ rfl rfl (Nat.le_of_ble_eq_true rfl) ⟨Nat.zero_le _, Nat.zero_le _⟩ hP hS dX9_prize_65 (fun r10 s10 hw H locs hP hS => ?_)
          refine g_cVi (As := [.int r10]) (rest := [.int r9]) E hl.1 (c_X1_dryOf l D cy ad ha ((by decide : 0 < 3)) hw _) ok_X1_dryOf mw_551 ⟨(Nat.le_of_ble_eq_true rfl), (Nat.le_of_ble_eq_true rfl)⟩ ⟨rfl, rfl⟩ (rC5 (by decide : 0 < 3)) rfl rfl rfl rfl rfl (Nat.le_of_ble_eq_true rfl) ⟨Nat.zero_le _, Nat.zero_le _⟩ hP hS dX9_prize_68 (fun r11 s11 hw H locs hP hS => ?_)
          refine lv_isub hx hb dX9_prize_71 ?_
          refine lv_topi (fun v12 ev12 => ?_)
          replace hw := hw v12 ev12
          refine lv_istore (lv' := [(5, .int v12), (4, .int r6), (3, .int r5), (0, .ref (ad 0 0)), (1, .int x1), (2, .int x2)]) hx hb dX9_prize_72 hl (by decide) rfl (fun ls hl => ?_)
          refine g_ldc (v := -1000000005) E mw_377 dX9_prize_74 ?_
          refine lv_istore (lv' := [(6, .int ((-1000000005))), (5, .int v12), (4, .int r6), (3, .int r5), (0, .ref (ad 0 0)), (1, .int x1), (2, .int x2)]) hx hb dX9_prize_76 hl (by decide) rfl (fun ls hl => ?_)
          refine lv_iconst (v := 0) hx hb dX9_prize_78 (by decide) ?_
          refine lv_istore (lv' := [(7, .int 0), (6, .int ((-1000000005))), (5, .int v12), (4, .int r6), (3, .int r5), (0, .ref (ad 0 0)), (1, .int x1), (2, .int x2)]) hx hb dX9_prize_79 hl (by decide) rfl (fun ls hl => ?_)
          refine lv_iconst (v := 0) hx hb dX9_prize_81 (by decide) ?_
          refine lv_istore (lv' := [(8, .int 0), (7, .int 0), (6, .int ((-1000000005))), (5, .int v12), (4, .int r6), (3, .int r5), (0, .ref (ad 0 0)), (1, .int x1), (2, .int x2)]) hx hb dX9_prize_82 hl (by decide) rfl (fun ls hl => ?_)
          obtain ⟨n13, hw⟩ := hw
          exact L_X9_prize_84 E ha n13 s11 x2 r5 r6 v12 (-1000000005 : Int32) (0 : Int32) (0 : Int32) hw _ _ _ hP hS (lv_sub hl [6, 8, 5, 4, 3, 2, 1, 0] rfl)
        · replace hw := hw.2 c8
          refine g_ldc (v := -1000000005) E mw_377 dX9_prize_49 ?_
          exact g_iret E hw hP hS dX9_prize_51
    · replace hw := hw.2 c4
      refine g_ldc (v := -1000000001) E mw_376 dX9_prize_16 ?_
      exact g_iret E hw hP hS dX9_prize_18
theorem c_X9_prize (l : Launch) (D : va_G) (cy : Nat → ClassId) (ad : Nat → Nat → Nat) (ha : Apart regsC ad) {post : Int32 → St → Prop} {σ : St} {x1 : Int32} {x2 : Int32} (hw : w_X9_prize post σ x1 x2) (sz : Nat) : MetI l yX9_prize cX9_prize 10 .int rm_X9_prize [.ref (ad 0 0), .int x1, .int x2] D cy (cellC cy ad) regsC ad σ sz post :=
  Met_inI ok_X9_prize.2.2.2.2.2 (Nat.le_of_ble_eq_true rfl) (fun p e s m below meth c ls E hP hl => B_X9_prize_0 E ha hw hP va_S.rf hl)
-- RoofWar.behind(II)I
theorem dX9_behind_0 : decode cX9_behind 0 = .ok (.iload_n 1, 1) := by decide +kernel
theorem dX9_behind_1 : decode cX9_behind 1 = .ok (.iconst 0, 1) := by decide +kernel
theorem dX9_behind_2 : decode cX9_behind 2 = .ok (.bipush 100, 2) := by decide +kernel
theorem dX9_behind_4 : decode cX9_behind 4 = .ok (.invokestatic 87, 3) := by decide +kernel
theorem dX9_behind_7 : decode cX9_behind 7 = .ok (.ifCond .eq 20, 3) := by decide +kernel
theorem dX9_behind_10 : decode cX9_behind 10 = .ok (.iload_n 2, 1) := by decide +kernel
theorem dX9_behind_11 : decode cX9_behind 11 = .ok (.iconst 0, 1) := by decide +kernel
theorem dX9_behind_12 : decode cX9_behind 12 = .ok (.iconst 4, 1) := by decide +kernel
theorem dX9_behind_13 : decode cX9_behind 13 = .ok (.aload_n 0, 1) := by decide +kernel
theorem dX9_behind_14 : decode cX9_behind 14 = .ok (.getfield 21, 3) := by decide +kernel
theorem dX9_behind_17 : decode cX9_behind 17 = .ok (.getfield 100, 3) := by decide +kernel
theorem dX9_behind_20 : decode cX9_behind 20 = .ok (.iadd, 1) := by decide +kernel
theorem dX9_behind_21 : decode cX9_behind 21 = .ok (.invokestatic 87, 3) := by decide +kernel
theorem dX9_behind_24 : decode cX9_behind 24 = .ok (.ifCond .ne 6, 3) := by decide +kernel
theorem dX9_behind_27 : decode cX9_behind 27 = .ok (.ldc 94, 2) := by decide +kernel
theorem dX9_behind_29 : decode cX9_behind 29 = .ok (.ireturn, 1) := by decide +kernel
theorem dX9_behind_30 : decode cX9_behind 30 = .ok (.aload_n 0, 1) := by decide +kernel
theorem dX9_behind_31 : decode cX9_behind 31 = .ok (.getfield 28, 3) := by decide +kernel
theorem dX9_behind_34 : decode cX9_behind 34 = .ok (.aload_n 0, 1) := by decide +kernel
theorem dX9_behind_35 : decode cX9_behind 35 = .ok (.getfield 21, 3) := by decide +kernel
theorem dX9_behind_38 : decode cX9_behind 38 = .ok (.invokevirtual 231, 3) := by decide +kernel
theorem dX9_behind_41 : decode cX9_behind 41 = .ok (.aload_n 0, 1) := by decide +kernel
theorem dX9_behind_42 : decode cX9_behind 42 = .ok (.getfield 28, 3) := by decide +kernel
theorem dX9_behind_45 : decode cX9_behind 45 = .ok (.iload_n 1, 1) := by decide +kernel
theorem dX9_behind_46 : decode cX9_behind 46 = .ok (.invokevirtual 180, 3) := by decide +kernel
theorem dX9_behind_49 : decode cX9_behind 49 = .ok (.iload_n 2, 1) := by decide +kernel
theorem dX9_behind_50 : decode cX9_behind 50 = .ok (.tableswitch 76 0 4 #[34, 42, 50, 58, 67], 34) := by decide +kernel
theorem dX9_behind_84 : decode cX9_behind 84 = .ok (.aload_n 0, 1) := by decide +kernel
theorem dX9_behind_85 : decode cX9_behind 85 = .ok (.getfield 28, 3) := by decide +kernel
theorem dX9_behind_88 : decode cX9_behind 88 = .ok (.getfield 174, 3) := by decide +kernel
theorem dX9_behind_91 : decode cX9_behind 91 = .ok (.ireturn, 1) := by decide +kernel
theorem dX9_behind_92 : decode cX9_behind 92 = .ok (.aload_n 0, 1) := by decide +kernel
theorem dX9_behind_93 : decode cX9_behind 93 = .ok (.getfield 28, 3) := by decide +kernel
theorem dX9_behind_96 : decode cX9_behind 96 = .ok (.getfield 184, 3) := by decide +kernel
theorem dX9_behind_99 : decode cX9_behind 99 = .ok (.ireturn, 1) := by decide +kernel
theorem dX9_behind_100 : decode cX9_behind 100 = .ok (.aload_n 0, 1) := by decide +kernel
theorem dX9_behind_101 : decode cX9_behind 101 = .ok (.getfield 28, 3) := by decide +kernel
theorem dX9_behind_104 : decode cX9_behind 104 = .ok (.getfield 187, 3) := by decide +kernel
theorem dX9_behind_107 : decode cX9_behind 107 = .ok (.ireturn, 1) := by decide +kernel
theorem dX9_behind_108 : decode cX9_behind 108 = .ok (.aload_n 0, 1) := by decide +kernel
theorem dX9_behind_109 : decode cX9_behind 109 = .ok (.getfield 28, 3) := by decide +kernel
theorem dX9_behind_112 : decode cX9_behind 112 = .ok (.iconst 0, 1) := by decide +kernel
theorem dX9_behind_113 : decode cX9_behind 113 = .ok (.invokevirtual 190, 3) := by decide +kernel
theorem dX9_behind_116 : decode cX9_behind 116 = .ok (.ireturn, 1) := by decide +kernel
theorem dX9_behind_117 : decode cX9_behind 117 = .ok (.aload_n 0, 1) := by decide +kernel
theorem dX9_behind_118 : decode cX9_behind 118 = .ok (.getfield 28, 3) := by decide +kernel
theorem dX9_behind_121 : decode cX9_behind 121 = .ok (.iconst 1, 1) := by decide +kernel
theorem dX9_behind_122 : decode cX9_behind 122 = .ok (.invokevirtual 190, 3) := by decide +kernel
theorem dX9_behind_125 : decode cX9_behind 125 = .ok (.ireturn, 1) := by decide +kernel
theorem dX9_behind_126 : decode cX9_behind 126 = .ok (.aload_n 0, 1) := by decide +kernel
theorem dX9_behind_127 : decode cX9_behind 127 = .ok (.getfield 28, 3) := by decide +kernel
theorem dX9_behind_130 : decode cX9_behind 130 = .ok (.getfield 120, 3) := by decide +kernel
theorem dX9_behind_133 : decode cX9_behind 133 = .ok (.iload_n 2, 1) := by decide +kernel
theorem dX9_behind_134 : decode cX9_behind 134 = .ok (.iconst 5, 1) := by decide +kernel
theorem dX9_behind_135 : decode cX9_behind 135 = .ok (.isub, 1) := by decide +kernel
theorem dX9_behind_136 : decode cX9_behind 136 = .ok (.iaload, 1) := by decide +kernel
theorem dX9_behind_137 : decode cX9_behind 137 = .ok (.ireturn, 1) := by decide +kernel
theorem ok_X9_behind : okV yX9_behind cX9_behind 3 (some .int) 2 := ⟨mw_614, mw_615, mw_74, mw_616, by decide +kernel, by decide +kernel⟩
abbrev rm_X9_behind : Room := { frames := 6, cells := 0, slots := 0, locals := 145 }
def w_X9_behind (post : Int32 → St → Prop) (σ : St) (x1 : Int32) (x2 : Int32) : Prop := w_X9_within (fun r1 s1 => ((r1 = 0 → (post ((-1000000001)) s1)) ∧ (¬ r1 = 0 → (w_X9_within (fun r3 s3 => ((¬ r3 = 0 → (w_X1_becomeLike (fun s5 => w_X1_pass (fun s6 => ((x2 = 0 → (post (s6 5 2 2) s6)) ∧ (¬ x2 = 0 → (((x2 = 1 → (post (s6 5 2 3) s6)) ∧ (¬ x2 = 1 → (((x2 = 2 → (post (s6 5 2 4) s6)) ∧ (¬ x2 = 2 → (((x2 = 3 → (w_X1_dryOf (fun r11 s11 => post r11 s11) s6 2 (0 : Int32))) ∧ (¬ x2 = 3 → (((x2 = 4 → (w_X1_dryOf (fun r13 s13 => post r13 s13) s6 2 (1 : Int32))) ∧ (¬ x2 = 4 → (vp_in (x2 - 5) 12 ∧ (post (s6 9 2 (x2 - 5).toNatClampNeg) s6))))))))))))))))) s5 2 x1) s3 2 0)) ∧ (r3 = 0 → (post ((-1000000001)) s3)))) s1 x2 (0 : Int32) (4 + (s1 5 0 0)))))) σ x1 (0 : Int32) (100 : Int32)
theorem B_X9_behind_0 (E : EnvW p s m args meth c D cy regsC ad "RoofWar" cX9_behind 3 (some .int)) (ha : Apart regsC ad) {post : Int32 → St → Prop} {σ : St} {x1 : Int32} {x2 : Int32} (hw : w_X9_behind post σ x1 x2) {H : Heap} {locs : List Loc} {ls : Array Slot} (hP : va_P D CLS (wC cy ad σ) H) (hS : va_S (AC ad s.heap.size) s.heap H locs) (hl : lv_has ls 3 [(0, .ref (ad 0 0)), (1, .int x1), (2, .int x2)]) : W p l e rm_X9_behind s m args below meth c H locs 0 0 (MQ below (QI D cy (cellC cy ad) regsC ad s.heap.size post) args s 0 0 (AC ad s.heap.size)) (F0 m 0 ls []) := by
  obtain ⟨hx, hb, -⟩ := id E
  unfold w_X9_behind at hw
  refine lv_iload_n hx hb dX9_behind_0 rfl (lv_at hl 1 rfl) ?_
  refine lv_iconst (v := 0) hx hb dX9_behind_1 (by decide) ?_
  refine lv_bipush (v := 100) hx hb dX9_behind_2 (by decide) ?_
  refine g_cSi (As := [.int x1, .int 0, .int 100]) (rest := []) E hl.1 (c_X9_within l D cy ad ha hw _) ok_X9_within mw_370 ⟨(Nat.le_of_ble_eq_true rfl), (Nat.le_of_ble_eq_true rfl)⟩ ⟨rfl, rfl⟩ rfl rfl (Nat.le_of_ble_eq_true rfl) ⟨Nat.zero_le _, Nat.zero_le _⟩ hP hS dX9_behind_4 (fun r1 s1 hw H locs hP hS => ?_)
  obtain ⟨z1, hw⟩ := hw
  refine lv_if_eq (tgt := 27) hx hb dX9_behind_7 (by decide) (fun c2 => ?_) (fun c2 => ?_)
  · replace hw := hw.1 c2
    refine g_ldc (v := -1000000001) E mw_376 dX9_behind_27 ?_
    exact g_iret E hw hP hS dX9_behind_29
  · replace hw := hw.2 c2
    refine lv_iload_n hx hb dX9_behind_10 rfl (lv_at hl 2 rfl) ?_
    refine lv_iconst (v := 0) hx hb dX9_behind_11 (by decide) ?_
    refine lv_iconst (v := 4) hx hb dX9_behind_12 (by decide) ?_
    refine lv_aload_n hx hb dX9_behind_13 rfl (lv_at hl 0 rfl) ?_
    refine fX9_1 E hP mw_324 dX9_behind_14 ?_
    refine fX1_9 ((by decide : 0 < 3)) E hP mw_167 dX9_behind_17 ?_
    refine lv_iadd hx hb dX9_behind_20 ?_
    refine g_cSi (As := [.int x2, .int 0, .int (4 + (s1 5 0 0))]) (rest := []) E hl.1 (c_X9_within l D cy ad ha hw _) ok_X9_within mw_370 ⟨(Nat.le_of_ble_eq_true rfl), (Nat.le_of_ble_eq_true rfl)⟩ ⟨rfl, rfl⟩ rfl rfl (Nat.le_of_ble_eq_true rfl) ⟨Nat.zero_le _, Nat.zero_le _⟩ hP hS dX9_behind_21 (fun r3 s3 hw H locs hP hS => ?_)
    obtain ⟨z3, hw⟩ := hw
    refine lv_if_ne (tgt := 30) hx hb dX9_behind_24 (by decide) (fun c4 => ?_) (fun c4 => ?_)
    · replace hw := hw.1 c4
      refine lv_aload_n hx hb dX9_behind_30 rfl (lv_at hl 0 rfl) ?_
      refine fX9_3 E hP mw_326 dX9_behind_31 ?_
      refine lv_aload_n hx hb dX9_behind_34 rfl (lv_at hl 0 rfl) ?_
      refine fX9_1 E hP mw_324 dX9_behind_35 ?_
      refine g_cVv (As := [.ref (ad 5 0)]) (rest := []) E hl.1 (c_X1_becomeLike l D cy ad ha ((by decide : 2 < 3)) ((by decide : 0 < 3)) hw _) ok_X1_becomeLike mw_617 ⟨(Nat.le_of_ble_eq_true rfl), (Nat.le_of_ble_eq_true rfl)⟩ ⟨rfl, rfl⟩ (rC5 (by decide : 2 < 3)) rfl rfl rfl rfl rfl (Nat.le_of_ble_eq_true rfl) ⟨Nat.zero_le _, Nat.zero_le _⟩ hP hS dX9_behind_38 (fun s5 hw H locs hP hS => ?_)
      refine lv_aload_n hx hb dX9_behind_41 rfl (lv_at hl 0 rfl) ?_
      refine fX9_3 E hP mw_326 dX9_behind_42 ?_
      refine lv_iload_n hx hb dX9_behind_45 rfl (lv_at hl 1 rfl) ?_
      refine g_cVv (As := [.int x1]) (rest := []) E hl.1 (c_X1_pass l D cy ad ha ((by decide : 2 < 3)) hw _) ok_X1_pass mw_477 ⟨(Nat.le_of_ble_eq_true rfl), (Nat.le_of_ble_eq_true rfl)⟩ ⟨rfl, rfl⟩ (rC5 (by decide : 2 < 3)) rfl rfl rfl rfl rfl (Nat.le_of_ble_eq_true rfl) ⟨Nat.zero_le _, Nat.zero_le _⟩ hP hS dX9_behind_46 (fun s6 hw H locs hP hS => ?_)
      refine lv_iload_n hx hb dX9_behind_49 rfl (lv_at hl 2 rfl) ?_
      by_cases c7 : x2 = 0
      · replace hw := hw.1 c7
        refine lv_tableIn (off := 34) (tgt := 84) hx hb dX9_behind_50 (by rw [c7]; decide) (by rw [c7]; decide) (by rw [c7]; rfl) (by decide) ?_
        refine lv_aload_n hx hb dX9_behind_84 rfl (lv_at hl 0 rfl) ?_
        refine fX9_3 E hP mw_326 dX9_behind_85 ?_
        refine fX1_11 ((by decide : 2 < 3)) E hP mw_172 dX9_behind_88 ?_
        exact g_iret E hw hP hS dX9_behind_91
      · replace hw := hw.2 c7
        by_cases c8 : x2 = 1
        · replace hw := hw.1 c8
          refine lv_tableIn (off := 42) (tgt := 92) hx hb dX9_behind_50 (by rw [c8]; decide) (by rw [c8]; decide) (by rw [c8]; rfl) (by decide) ?_
          refine lv_aload_n hx hb dX9_behind_92 rfl (lv_at hl 0 rfl) ?_
          refine fX9_3 E hP mw_326 dX9_behind_93 ?_
          refine fX1_12 ((by decide : 2 < 3)) E hP mw_174 dX9_behind_96 ?_
          exact g_iret E hw hP hS dX9_behind_99
        · replace hw := hw.2 c8
          by_cases c9 : x2 = 2
          · replace hw := hw.1 c9
            refine lv_tableIn (off := 50) (tgt := 100) hx hb dX9_behind_50 (by rw [c9]; decide) (by rw [c9]; decide) (by rw [c9]; rfl) (by decide) ?_
            refine lv_aload_n hx hb dX9_behind_100 rfl (lv_at hl 0 rfl) ?_
            refine fX9_3 E hP mw_326 dX9_behind_101 ?_
            refine fX1_13 ((by decide : 2 < 3)) E hP mw_176 dX9_behind_104 ?_
            exact g_iret E hw hP hS dX9_behind_107
          · replace hw := hw.2 c9
            by_cases c10 : x2 = 3
            · replace hw := hw.1 c10
              refine lv_tableIn (off := 58) (tgt := 108) hx hb dX9_behind_50 (by rw [c10]; decide) (by rw [c10]; decide) (by rw [c10]; rfl) (by decide) ?_
              refine lv_aload_n hx hb dX9_behind_108 rfl (lv_at hl 0 rfl) ?_
              refine fX9_3 E hP mw_326 dX9_behind_109 ?_
              refine lv_iconst (v := 0) hx hb dX9_behind_112 (by decide) ?_
              refine g_cVi (As := [.int 0]) (rest := []) E hl.1 (c_X1_dryOf l D cy ad ha ((by decide : 2 < 3)) hw _) ok_X1_dryOf mw_551 ⟨(Nat.le_of_ble_eq_true rfl), (Nat.le_of_ble_eq_true rfl)⟩ ⟨rfl, rfl⟩ (rC5 (by decide : 2 < 3)) rfl rfl rfl rfl rfl (Nat.le_of_ble_eq_true rfl) ⟨Nat.zero_le _, Nat.zero_le _⟩ hP hS dX9_behind_113 (fun r11 s11 hw H locs hP hS => ?_)
              exact g_iret E hw hP hS dX9_behind_116
            · replace hw := hw.2 c10
              by_cases c12 : x2 = 4
              · replace hw := hw.1 c12
                refine lv_tableIn (off := 67) (tgt := 117) hx hb dX9_behind_50 (by rw [c12]; decide) (by rw [c12]; decide) (by rw [c12]; rfl) (by decide) ?_
                refine lv_aload_n hx hb dX9_behind_117 rfl (lv_at hl 0 rfl) ?_
                refine fX9_3 E hP mw_326 dX9_behind_118 ?_
                refine lv_iconst (v := 1) hx hb dX9_behind_121 (by decide) ?_
                refine g_cVi (As := [.int 1]) (rest := []) E hl.1 (c_X1_dryOf l D cy ad ha ((by decide : 2 < 3)) hw _) ok_X1_dryOf mw_551 ⟨(Nat.le_of_ble_eq_true rfl), (Nat.le_of_ble_eq_true rfl)⟩ ⟨rfl, rfl⟩ (rC5 (by decide : 2 < 3)) rfl rfl rfl rfl rfl (Nat.le_of_ble_eq_true rfl) ⟨Nat.zero_le _, Nat.zero_le _⟩ hP hS dX9_behind_122 (fun r13 s13 hw H locs hP hS => ?_)
                exact g_iret E hw hP hS dX9_behind_125
              · replace hw := hw.2 c12
                have e7 := ne_toI c7 (n := 0) (k := 0) (by decide)
                have e8 := ne_toI c8 (n := 1) (k := 1) (by decide)
                have e9 := ne_toI c9 (n := 2) (k := 2) (by decide)
                have e10 := ne_toI c10 (n := 3) (k := 3) (by decide)
                have e12 := ne_toI c12 (n := 4) (k := 4) (by decide)
                refine lv_tableOut (tgt := 126) hx hb dX9_behind_50 (by omega) (by decide) ?_
                refine lv_aload_n hx hb dX9_behind_126 rfl (lv_at hl 0 rfl) ?_
                refine fX9_3 E hP mw_326 dX9_behind_127 ?_
                refine fX1_4 ((by decide : 2 < 3)) E hP mw_157 dX9_behind_130 ?_
                refine lv_iload_n hx hb dX9_behind_133 rfl (lv_at hl 2 rfl) ?_
                refine lv_iconst (v := 5) hx hb dX9_behind_134 (by decide) ?_
                refine lv_isub hx hb dX9_behind_135 ?_
                obtain ⟨h14, hw⟩ := hw
                refine aC9 ((by decide : 2 < 3)) E hP h14 dX9_behind_136 ?_
                exact g_iret E hw hP hS dX9_behind_137
    · replace hw := hw.2 c4
      refine g_ldc (v := -1000000001) E mw_376 dX9_behind_27 ?_
      exact g_iret E hw hP hS dX9_behind_29
theorem c_X9_behind (l : Launch) (D : va_G) (cy : Nat → ClassId) (ad : Nat → Nat → Nat) (ha : Apart regsC ad) {post : Int32 → St → Prop} {σ : St} {x1 : Int32} {x2 : Int32} (hw : w_X9_behind post σ x1 x2) (sz : Nat) : MetI l yX9_behind cX9_behind 3 .int rm_X9_behind [.ref (ad 0 0), .int x1, .int x2] D cy (cellC cy ad) regsC ad σ sz post :=
  Met_inI ok_X9_behind.2.2.2.2.2 (Nat.le_of_ble_eq_true rfl) (fun p e s m below meth c ls E hP hl => B_X9_behind_0 E ha hw hP va_S.rf hl)
-- RoofWar.gone(I)I
theorem dX9_gone_0 : decode cX9_gone 0 = .ok (.aload_n 0, 1) := by decide +kernel
theorem dX9_gone_1 : decode cX9_gone 1 = .ok (.iload_n 1, 1) := by decide +kernel
theorem dX9_gone_2 : decode cX9_gone 2 = .ok (.invokevirtual 108, 3) := by decide +kernel
theorem dX9_gone_5 : decode cX9_gone 5 = .ok (.ifCond .ne 6, 3) := by decide +kernel
theorem dX9_gone_8 : decode cX9_gone 8 = .ok (.ldc 94, 2) := by decide +kernel
theorem dX9_gone_10 : decode cX9_gone 10 = .ok (.ireturn, 1) := by decide +kernel
theorem dX9_gone_11 : decode cX9_gone 11 = .ok (.aload_n 0, 1) := by decide +kernel
theorem dX9_gone_12 : decode cX9_gone 12 = .ok (.getfield 21, 3) := by decide +kernel
theorem dX9_gone_15 : decode cX9_gone 15 = .ok (.getfield 120, 3) := by decide +kernel
theorem dX9_gone_18 : decode cX9_gone 18 = .ok (.iload_n 1, 1) := by decide +kernel
theorem dX9_gone_19 : decode cX9_gone 19 = .ok (.iaload, 1) := by decide +kernel
theorem dX9_gone_20 : decode cX9_gone 20 = .ok (.invokestatic 206, 3) := by decide +kernel
theorem dX9_gone_23 : decode cX9_gone 23 = .ok (.istore_n 2, 1) := by decide +kernel
theorem dX9_gone_24 : decode cX9_gone 24 = .ok (.aload_n 0, 1) := by decide +kernel
theorem dX9_gone_25 : decode cX9_gone 25 = .ok (.getfield 28, 3) := by decide +kernel
theorem dX9_gone_28 : decode cX9_gone 28 = .ok (.aload_n 0, 1) := by decide +kernel
theorem dX9_gone_29 : decode cX9_gone 29 = .ok (.getfield 21, 3) := by decide +kernel
theorem dX9_gone_32 : decode cX9_gone 32 = .ok (.invokevirtual 231, 3) := by decide +kernel
theorem dX9_gone_35 : decode cX9_gone 35 = .ok (.iconst 1, 1) := by decide +kernel
theorem dX9_gone_36 : decode cX9_gone 36 = .ok (.istore_n 3, 1) := by decide +kernel
theorem dX9_gone_37 : decode cX9_gone 37 = .ok (.iload_n 3, 1) := by decide +kernel
theorem dX9_gone_38 : decode cX9_gone 38 = .ok (.sipush 200, 3) := by decide +kernel
theorem dX9_gone_41 : decode cX9_gone 41 = .ok (.if_icmp .gt 35, 3) := by decide +kernel
theorem dX9_gone_44 : decode cX9_gone 44 = .ok (.aload_n 0, 1) := by decide +kernel
theorem dX9_gone_45 : decode cX9_gone 45 = .ok (.getfield 28, 3) := by decide +kernel
theorem dX9_gone_48 : decode cX9_gone 48 = .ok (.iconst 1, 1) := by decide +kernel
theorem dX9_gone_49 : decode cX9_gone 49 = .ok (.invokevirtual 180, 3) := by decide +kernel
theorem dX9_gone_52 : decode cX9_gone 52 = .ok (.aload_n 0, 1) := by decide +kernel
theorem dX9_gone_53 : decode cX9_gone 53 = .ok (.getfield 28, 3) := by decide +kernel
theorem dX9_gone_56 : decode cX9_gone 56 = .ok (.getfield 120, 3) := by decide +kernel
theorem dX9_gone_59 : decode cX9_gone 59 = .ok (.iload_n 1, 1) := by decide +kernel
theorem dX9_gone_60 : decode cX9_gone 60 = .ok (.iaload, 1) := by decide +kernel
theorem dX9_gone_61 : decode cX9_gone 61 = .ok (.invokestatic 206, 3) := by decide +kernel
theorem dX9_gone_64 : decode cX9_gone 64 = .ok (.iload_n 2, 1) := by decide +kernel
theorem dX9_gone_65 : decode cX9_gone 65 = .ok (.if_icmp .eq 5, 3) := by decide +kernel
theorem dX9_gone_68 : decode cX9_gone 68 = .ok (.iload_n 3, 1) := by decide +kernel
theorem dX9_gone_69 : decode cX9_gone 69 = .ok (.ireturn, 1) := by decide +kernel
theorem dX9_gone_70 : decode cX9_gone 70 = .ok (.iinc 3 1, 3) := by decide +kernel
theorem dX9_gone_73 : decode cX9_gone 73 = .ok (.goto (-36), 3) := by decide +kernel
theorem dX9_gone_76 : decode cX9_gone 76 = .ok (.ldc 98, 2) := by decide +kernel
theorem dX9_gone_78 : decode cX9_gone 78 = .ok (.ireturn, 1) := by decide +kernel
theorem ok_X9_gone : okV yX9_gone cX9_gone 4 (some .int) 1 := ⟨mw_625, mw_626, mw_74, mw_627, by decide +kernel, by decide +kernel⟩
abbrev rm_X9_gone : Room := { frames := 6, cells := 0, slots := 0, locals := 145 }
def b_X9_gone_37 (K37 : St → Int32 → Int32 → Int32 → Prop) (post : Int32 → St → Prop) (σ : St) (x1 : Int32) (x2 : Int32) (x3 : Int32) : Prop := ((200 < x3 → (post ((-1000000005)) σ)) ∧ (¬ 200 < x3 → (w_X1_pass (fun s2 => vp_in x1 12 ∧ (w_X9_townOf (fun r4 s4 => ((r4 = x2 → (∀ v6 : Int32, v6 = x3 + 1 → (K37 s4 x1 x2 v6))) ∧ (¬ r4 = x2 → (post x3 s4)))) s2 (s2 9 2 x1.toNatClampNeg))) σ 2 (1 : Int32))))
noncomputable def l_X9_gone_37 (post : Int32 → St → Prop) : Nat → St → Int32 → Int32 → Int32 → Prop := fun n => Nat.rec (motive := fun _ => St → Int32 → Int32 → Int32 → Prop) (fun _ _ _ _ => False) (fun _ ih => b_X9_gone_37 ih post) n
theorem L_X9_gone_37 (E : EnvW p s m args meth c D cy regsC ad "RoofWar" cX9_gone 4 (some .int)) (ha : Apart regsC ad) {post : Int32 → St → Prop} : ∀ (n : Nat), ∀ (σ : St) (x1 : Int32) (x2 : Int32) (x3 : Int32), l_X9_gone_37 post n σ x1 x2 x3 → ∀ (H : Heap) (locs : List Loc) (ls : Array Slot), va_P D CLS (wC cy ad σ) H → va_S (AC ad s.heap.size) s.heap H locs → lv_has ls 4 [(0, .ref (ad 0 0)), (1, .int x1), (2, .int x2), (3, .int x3)] → W p l e rm_X9_gone s m args below meth c H locs 0 0 (MQ below (QI D cy (cellC cy ad) regsC ad s.heap.size post) args s 0 0 (AC ad s.heap.size)) (F0 m 37 ls []) := by
  obtain ⟨hx, hb, -⟩ := id E
  intro n
  induction n with
  | zero => intro σ x1 x2 x3 hw; exact hw.elim
  | succ n hk37 =>
    intro σ x1 x2 x3 hw H locs ls hP hS hl
    replace hw : b_X9_gone_37 (l_X9_gone_37 post n) post σ x1 x2 x3 := hw
    unfold b_X9_gone_37 at hw
    refine lv_iload_n hx hb dX9_gone_37 rfl (lv_at hl 3 rfl) ?_
    refine lv_sipush (v := 200) hx hb dX9_gone_38 (by decide) ?_
    refine lv_icmp_gt (tgt := 76) hx hb dX9_gone_41 (by decide) (fun c1 => ?_) (fun c1 => ?_)
    · replace hw := hw.1 c1
      refine g_ldc (v := -1000000005) E mw_377 dX9_gone_76 ?_
      exact g_iret E hw hP hS dX9_gone_78
    · replace hw := hw.2 c1
      refine lv_aload_n hx hb dX9_gone_44 rfl (lv_at hl 0 rfl) ?_
      refine fX9_3 E hP mw_326 dX9_gone_45 ?_
      refine lv_iconst (v := 1) hx hb dX9_gone_48 (by decide) ?_
      refine g_cVv (As := [.int 1]) (rest := []) E hl.1 (c_X1_pass l D cy ad ha ((by decide : 2 < 3)) hw _) ok_X1_pass mw_477 ⟨(Nat.le_of_ble_eq_true rfl), (Nat.le_of_ble_eq_true rfl)⟩ ⟨rfl, rfl⟩ (rC5 (by decide : 2 < 3)) rfl rfl rfl rfl rfl (Nat.le_of_ble_eq_true rfl) ⟨Nat.zero_le _, Nat.zero_le _⟩ hP hS dX9_gone_49 (fun s2 hw H locs hP hS => ?_)
      refine lv_aload_n hx hb dX9_gone_52 rfl (lv_at hl 0 rfl) ?_
      refine fX9_3 E hP mw_326 dX9_gone_53 ?_
      refine fX1_4 ((by decide : 2 < 3)) E hP mw_157 dX9_gone_56 ?_
      refine lv_iload_n hx hb dX9_gone_59 rfl (lv_at hl 1 rfl) ?_
      obtain ⟨h3, hw⟩ := hw
      refine aC9 ((by decide : 2 < 3)) E hP h3 dX9_gone_60 ?_
      refine g_cSi (As := [.int (s2 9 2 x1.toNatClampNeg)]) (rest := []) E hl.1 (c_X9_townOf l D cy ad ha hw _) ok_X9_townOf mw_573 ⟨(Nat.le_of_ble_eq_true rfl), (Nat.le_of_ble_eq_true rfl)⟩ ⟨rfl, rfl⟩ rfl rfl (Nat.le_of_ble_eq_true rfl) ⟨Nat.zero_le _, Nat.zero_le _⟩ hP hS dX9_gone_61 (fun r4 s4 hw H locs hP hS => ?_)
      refine lv_iload_n hx hb dX9_gone_64 rfl (lv_at hl 2 rfl) ?_
      refine lv_icmp_eq (tgt := 70) hx hb dX9_gone_65 (by decide) (fun c5 => ?_) (fun c5 => ?_)
      · replace hw := hw.1 c5
        obtain ⟨v6, ev6⟩ : ∃ y : Int32, y = x3 + 1 := ⟨_, rfl⟩
        replace hw := hw v6 ev6
        refine lv_iinc (v := v6) (lv' := [(3, .int v6), (0, .ref (ad 0 0)), (1, .int x1), (2, .int x2)]) hx hb dX9_gone_70 hl (k := 3) rfl (by rw [ev6]; rfl) (by decide) rfl (fun ls hl => ?_)
        refine lv_goto (tgt := 37) hx hb dX9_gone_73 (by decide) ?_
        exact hk37 s4 x1 x2 v6 hw _ _ _ hP hS (lv_sub hl [1, 2, 3, 0] rfl)
      · replace hw := hw.2 c5
        refine lv_iload_n hx hb dX9_gone_68 rfl (lv_at hl 3 rfl) ?_
        exact g_iret E hw hP hS dX9_gone_69
def w_X9_gone (post : Int32 → St → Prop) (σ : St) (x1 : Int32) : Prop := w_X9_isRoof (fun r1 s1 => ((¬ r1 = 0 → (vp_in x1 12 ∧ (w_X9_townOf (fun r4 s4 => w_X1_becomeLike (fun s5 => ∃ n6 : Nat, l_X9_gone_37 post n6 s5 x1 r4 (1 : Int32)) s4 2 0) s1 (s1 9 0 x1.toNatClampNeg)))) ∧ (r1 = 0 → (post ((-1000000001)) s1)))) σ x1
theorem B_X9_gone_0 (E : EnvW p s m args meth c D cy regsC ad "RoofWar" cX9_gone 4 (some .int)) (ha : Apart regsC ad) {post : Int32 → St → Prop} {σ : St} {x1 : Int32} (hw : w_X9_gone post σ x1) {H : Heap} {locs : List Loc} {ls : Array Slot} (hP : va_P D CLS (wC cy ad σ) H) (hS : va_S (AC ad s.heap.size) s.heap H locs) (hl : lv_has ls 4 [(0, .ref (ad 0 0)), (1, .int x1)]) : W p l e rm_X9_gone s m args below meth c H locs 0 0 (MQ below (QI D cy (cellC cy ad) regsC ad s.heap.size post) args s 0 0 (AC ad s.heap.size)) (F0 m 0 ls []) := by
  obtain ⟨hx, hb, -⟩ := id E
  unfold w_X9_gone at hw
  refine lv_aload_n hx hb dX9_gone_0 rfl (lv_at hl 0 rfl) ?_
  refine lv_iload_n hx hb dX9_gone_1 rfl (lv_at hl 1 rfl) ?_
  refine g_cVi (As := [.int x1]) (rest := []) E hl.1 (c_X9_isRoof l D cy ad ha hw _) ok_X9_isRoof mw_388 ⟨(Nat.le_of_ble_eq_true rfl), (Nat.le_of_ble_eq_true rfl)⟩ ⟨rfl, rfl⟩ rC0 rfl rfl rfl rfl rfl (Nat.le_of_ble_eq_true rfl) ⟨Nat.zero_le _, Nat.zero_le _⟩ hP hS dX9_gone_2 (fun r1 s1 hw H locs hP hS => ?_)
  obtain ⟨z1, hw⟩ := hw
  refine lv_if_ne (tgt := 11) hx hb dX9_gone_5 (by decide) (fun c2 => ?_) (fun c2 => ?_)
  · replace hw := hw.1 c2
    refine lv_aload_n hx hb dX9_gone_11 rfl (lv_at hl 0 rfl) ?_
    refine fX9_1 E hP mw_324 dX9_gone_12 ?_
    refine fX1_4 ((by decide : 0 < 3)) E hP mw_157 dX9_gone_15 ?_
    refine lv_iload_n hx hb dX9_gone_18 rfl (lv_at hl 1 rfl) ?_
    obtain ⟨h3, hw⟩ := hw
    refine aC9 ((by decide : 0 < 3)) E hP h3 dX9_gone_19 ?_
    refine g_cSi (As := [.int (s1 9 0 x1.toNatClampNeg)]) (rest := []) E hl.1 (c_X9_townOf l D cy ad ha hw _) ok_X9_townOf mw_573 ⟨(Nat.le_of_ble_eq_true rfl), (Nat.le_of_ble_eq_true rfl)⟩ ⟨rfl, rfl⟩ rfl rfl (Nat.le_of_ble_eq_true rfl) ⟨Nat.zero_le _, Nat.zero_le _⟩ hP hS dX9_gone_20 (fun r4 s4 hw H locs hP hS => ?_)
    refine lv_istore_n (lv' := [(2, .int r4), (0, .ref (ad 0 0)), (1, .int x1)]) hx hb dX9_gone_23 rfl hl (by decide) rfl (fun ls hl => ?_)
    refine lv_aload_n hx hb dX9_gone_24 rfl (lv_at hl 1 rfl) ?_
    refine fX9_3 E hP mw_326 dX9_gone_25 ?_
    refine lv_aload_n hx hb dX9_gone_28 rfl (lv_at hl 1 rfl) ?_
    refine fX9_1 E hP mw_324 dX9_gone_29 ?_
    refine g_cVv (As := [.ref (ad 5 0)]) (rest := []) E hl.1 (c_X1_becomeLike l D cy ad ha ((by decide : 2 < 3)) ((by decide : 0 < 3)) hw _) ok_X1_becomeLike mw_617 ⟨(Nat.le_of_ble_eq_true rfl), (Nat.le_of_ble_eq_true rfl)⟩ ⟨rfl, rfl⟩ (rC5 (by decide : 2 < 3)) rfl rfl rfl rfl rfl (Nat.le_of_ble_eq_true rfl) ⟨Nat.zero_le _, Nat.zero_le _⟩ hP hS dX9_gone_32 (fun s5 hw H locs hP hS => ?_)
    refine lv_iconst (v := 1) hx hb dX9_gone_35 (by decide) ?_
    refine lv_istore_n (lv' := [(3, .int 1), (2, .int r4), (0, .ref (ad 0 0)), (1, .int x1)]) hx hb dX9_gone_36 rfl hl (by decide) rfl (fun ls hl => ?_)
    obtain ⟨n6, hw⟩ := hw
    exact L_X9_gone_37 E ha n6 s5 x1 r4 (1 : Int32) hw _ _ _ hP hS (lv_sub hl [2, 3, 1, 0] rfl)
  · replace hw := hw.2 c2
    refine g_ldc (v := -1000000001) E mw_376 dX9_gone_8 ?_
    exact g_iret E hw hP hS dX9_gone_10
theorem c_X9_gone (l : Launch) (D : va_G) (cy : Nat → ClassId) (ad : Nat → Nat → Nat) (ha : Apart regsC ad) {post : Int32 → St → Prop} {σ : St} {x1 : Int32} (hw : w_X9_gone post σ x1) (sz : Nat) : MetI l yX9_gone cX9_gone 4 .int rm_X9_gone [.ref (ad 0 0), .int x1] D cy (cellC cy ad) regsC ad σ sz post :=
  Met_inI ok_X9_gone.2.2.2.2.2 (Nat.le_of_ble_eq_true rfl) (fun p e s m below meth c ls E hP hl => B_X9_gone_0 E ha hw hP va_S.rf hl)
-- RoofWar.guard(III)I
theorem dX9_guard_0 : decode cX9_guard 0 = .ok (.iload_n 1, 1) := by decide +kernel
theorem dX9_guard_1 : decode cX9_guard 1 = .ok (.invokestatic 197, 3) := by decide +kernel
theorem dX9_guard_4 : decode cX9_guard 4 = .ok (.ifCond .eq 22, 3) := by decide +kernel
theorem dX9_guard_7 : decode cX9_guard 7 = .ok (.iload_n 2, 1) := by decide +kernel
theorem dX9_guard_8 : decode cX9_guard 8 = .ok (.iconst 1, 1) := by decide +kernel
theorem dX9_guard_9 : decode cX9_guard 9 = .ok (.bipush 60, 2) := by decide +kernel
theorem dX9_guard_11 : decode cX9_guard 11 = .ok (.invokestatic 87, 3) := by decide +kernel
theorem dX9_guard_14 : decode cX9_guard 14 = .ok (.ifCond .eq 12, 3) := by decide +kernel
theorem dX9_guard_17 : decode cX9_guard 17 = .ok (.iload_n 3, 1) := by decide +kernel
theorem dX9_guard_18 : decode cX9_guard 18 = .ok (.iconst 0, 1) := by decide +kernel
theorem dX9_guard_19 : decode cX9_guard 19 = .ok (.iconst 1, 1) := by decide +kernel
theorem dX9_guard_20 : decode cX9_guard 20 = .ok (.invokestatic 87, 3) := by decide +kernel
theorem dX9_guard_23 : decode cX9_guard 23 = .ok (.ifCond .ne 6, 3) := by decide +kernel
theorem dX9_guard_26 : decode cX9_guard 26 = .ok (.ldc 94, 2) := by decide +kernel
theorem dX9_guard_28 : decode cX9_guard 28 = .ok (.ireturn, 1) := by decide +kernel
theorem dX9_guard_29 : decode cX9_guard 29 = .ok (.iload_n 1, 1) := by decide +kernel
theorem dX9_guard_30 : decode cX9_guard 30 = .ok (.invokestatic 235, 3) := by decide +kernel
theorem dX9_guard_33 : decode cX9_guard 33 = .ok (.istore 4, 2) := by decide +kernel
theorem dX9_guard_35 : decode cX9_guard 35 = .ok (.iload 4, 2) := by decide +kernel
theorem dX9_guard_37 : decode cX9_guard 37 = .ok (.istore 5, 2) := by decide +kernel
theorem dX9_guard_39 : decode cX9_guard 39 = .ok (.iconst (-1), 1) := by decide +kernel
theorem dX9_guard_40 : decode cX9_guard 40 = .ok (.istore 6, 2) := by decide +kernel
theorem dX9_guard_42 : decode cX9_guard 42 = .ok (.iload 4, 2) := by decide +kernel
theorem dX9_guard_44 : decode cX9_guard 44 = .ok (.istore 7, 2) := by decide +kernel
theorem dX9_guard_46 : decode cX9_guard 46 = .ok (.iload 7, 2) := by decide +kernel
theorem dX9_guard_48 : decode cX9_guard 48 = .ok (.iload 4, 2) := by decide +kernel
theorem dX9_guard_50 : decode cX9_guard 50 = .ok (.bipush 6, 2) := by decide +kernel
theorem dX9_guard_52 : decode cX9_guard 52 = .ok (.iadd, 1) := by decide +kernel
theorem dX9_guard_53 : decode cX9_guard 53 = .ok (.if_icmp .ge 65, 3) := by decide +kernel
theorem dX9_guard_56 : decode cX9_guard 56 = .ok (.aload_n 0, 1) := by decide +kernel
theorem dX9_guard_57 : decode cX9_guard 57 = .ok (.getfield 28, 3) := by decide +kernel
theorem dX9_guard_60 : decode cX9_guard 60 = .ok (.aload_n 0, 1) := by decide +kernel
theorem dX9_guard_61 : decode cX9_guard 61 = .ok (.getfield 21, 3) := by decide +kernel
theorem dX9_guard_64 : decode cX9_guard 64 = .ok (.invokevirtual 231, 3) := by decide +kernel
theorem dX9_guard_67 : decode cX9_guard 67 = .ok (.aload_n 0, 1) := by decide +kernel
theorem dX9_guard_68 : decode cX9_guard 68 = .ok (.getfield 28, 3) := by decide +kernel
theorem dX9_guard_71 : decode cX9_guard 71 = .ok (.getfield 150, 3) := by decide +kernel
theorem dX9_guard_74 : decode cX9_guard 74 = .ok (.iload 7, 2) := by decide +kernel
theorem dX9_guard_76 : decode cX9_guard 76 = .ok (.bipush 100, 2) := by decide +kernel
theorem dX9_guard_78 : decode cX9_guard 78 = .ok (.iastore, 1) := by decide +kernel
theorem dX9_guard_79 : decode cX9_guard 79 = .ok (.aload_n 0, 1) := by decide +kernel
theorem dX9_guard_80 : decode cX9_guard 80 = .ok (.getfield 28, 3) := by decide +kernel
theorem dX9_guard_83 : decode cX9_guard 83 = .ok (.iload_n 2, 1) := by decide +kernel
theorem dX9_guard_84 : decode cX9_guard 84 = .ok (.invokevirtual 180, 3) := by decide +kernel
theorem dX9_guard_87 : decode cX9_guard 87 = .ok (.aload_n 0, 1) := by decide +kernel
theorem dX9_guard_88 : decode cX9_guard 88 = .ok (.getfield 28, 3) := by decide +kernel
theorem dX9_guard_91 : decode cX9_guard 91 = .ok (.iload_n 1, 1) := by decide +kernel
theorem dX9_guard_92 : decode cX9_guard 92 = .ok (.invokevirtual 190, 3) := by decide +kernel
theorem dX9_guard_95 : decode cX9_guard 95 = .ok (.istore 8, 2) := by decide +kernel
theorem dX9_guard_97 : decode cX9_guard 97 = .ok (.iload 8, 2) := by decide +kernel
theorem dX9_guard_99 : decode cX9_guard 99 = .ok (.iload 6, 2) := by decide +kernel
theorem dX9_guard_101 : decode cX9_guard 101 = .ok (.if_icmp .le 11, 3) := by decide +kernel
theorem dX9_guard_104 : decode cX9_guard 104 = .ok (.iload 7, 2) := by decide +kernel
theorem dX9_guard_106 : decode cX9_guard 106 = .ok (.istore 5, 2) := by decide +kernel
theorem dX9_guard_108 : decode cX9_guard 108 = .ok (.iload 8, 2) := by decide +kernel
theorem dX9_guard_110 : decode cX9_guard 110 = .ok (.istore 6, 2) := by decide +kernel
theorem dX9_guard_112 : decode cX9_guard 112 = .ok (.iinc 7 1, 3) := by decide +kernel
theorem dX9_guard_115 : decode cX9_guard 115 = .ok (.goto (-69), 3) := by decide +kernel
theorem dX9_guard_118 : decode cX9_guard 118 = .ok (.iload_n 3, 1) := by decide +kernel
theorem dX9_guard_119 : decode cX9_guard 119 = .ok (.ifCond .ne 8, 3) := by decide +kernel
theorem dX9_guard_122 : decode cX9_guard 122 = .ok (.iload 5, 2) := by decide +kernel
theorem dX9_guard_124 : decode cX9_guard 124 = .ok (.goto 5, 3) := by decide +kernel
theorem dX9_guard_127 : decode cX9_guard 127 = .ok (.iload 6, 2) := by decide +kernel
theorem dX9_guard_129 : decode cX9_guard 129 = .ok (.ireturn, 1) := by decide +kernel
theorem ok_X9_guard : okV yX9_guard cX9_guard 9 (some .int) 3 := ⟨mw_629, mw_630, mw_74, mw_631, by decide +kernel, by decide +kernel⟩
abbrev rm_X9_guard : Room := { frames := 6, cells := 0, slots := 0, locals := 145 }
def b_X9_guard_46 (K46 : St → Int32 → Int32 → Int32 → Int32 → Int32 → Int32 → Int32 → Prop) (post : Int32 → St → Prop) (σ : St) (x1 : Int32) (x2 : Int32) (x3 : Int32) (x4 : Int32) (x5 : Int32) (x6 : Int32) (x7 : Int32) : Prop := (((x4 + 6) ≤ x7 → (((¬ x3 = 0 → (post x6 σ)) ∧ (x3 = 0 → (post x5 σ))))) ∧ (¬ (x4 + 6) ≤ x7 → (w_X1_becomeLike (fun s3 => vp_in x7 12 ∧ (∀ s5 : St, s5 = wr s3 11 2 x7.toNatClampNeg 100 → (w_X1_pass (fun s6 => w_X1_dryOf (fun r7 s7 => ((r7 ≤ x6 → (∀ v9 : Int32, v9 = x7 + 1 → (K46 s7 x1 x2 x3 x4 x5 x6 v9))) ∧ (¬ r7 ≤ x6 → (∀ v10 : Int32, v10 = x7 + 1 → (K46 s7 x1 x2 x3 x4 x7 r7 v10))))) s6 2 x1) s5 2 x2))) σ 2 0)))
noncomputable def l_X9_guard_46 (post : Int32 → St → Prop) : Nat → St → Int32 → Int32 → Int32 → Int32 → Int32 → Int32 → Int32 → Prop := fun n => Nat.rec (motive := fun _ => St → Int32 → Int32 → Int32 → Int32 → Int32 → Int32 → Int32 → Prop) (fun _ _ _ _ _ _ _ _ => False) (fun _ ih => b_X9_guard_46 ih post) n
theorem L_X9_guard_46 (E : EnvW p s m args meth c D cy regsC ad "RoofWar" cX9_guard 9 (some .int)) (ha : Apart regsC ad) {post : Int32 → St → Prop} : ∀ (n : Nat), ∀ (σ : St) (x1 : Int32) (x2 : Int32) (x3 : Int32) (x4 : Int32) (x5 : Int32) (x6 : Int32) (x7 : Int32), l_X9_guard_46 post n σ x1 x2 x3 x4 x5 x6 x7 → ∀ (H : Heap) (locs : List Loc) (ls : Array Slot), va_P D CLS (wC cy ad σ) H → va_S (AC ad s.heap.size) s.heap H locs → lv_has ls 9 [(0, .ref (ad 0 0)), (1, .int x1), (2, .int x2), (3, .int x3), (4, .int x4), (5, .int x5), (6, .int x6), (7, .int x7)] → W p l e rm_X9_guard s m args below meth c H locs 0 0 (MQ below (QI D cy (cellC cy ad) regsC ad s.heap.size post) args s 0 0 (AC ad s.heap.size)) (F0 m 46 ls []) := by
  obtain ⟨hx, hb, -⟩ := id E
  intro n
  induction n with
  | zero => intro σ x1 x2 x3 x4 x5 x6 x7 hw; exact hw.elim
  | succ n hk46 =>
    intro σ x1 x2 x3 x4 x5 x6 x7 hw H locs ls hP hS hl
    replace hw : b_X9_guard_46 (l_X9_guard_46 post n) post σ x1 x2 x3 x4 x5 x6 x7 := hw
    unfold b_X9_guard_46 at hw
    refine lv_iload hx hb dX9_guard_46 (lv_at hl 7 rfl) ?_
    refine lv_iload hx hb dX9_guard_48 (lv_at hl 4 rfl) ?_
    refine lv_bipush (v := 6) hx hb dX9_guard_50 (by decide) ?_
    refine lv_iadd hx hb dX9_guard_52 ?_
    refine lv_icmp_ge (tgt := 118) hx hb dX9_guard_53 (by decide) (fun c1 => ?_) (fun c1 => ?_)
    · replace hw := hw.1 c1
      refine lv_iload_n hx hb dX9_guard_118 rfl (lv_at hl 3 rfl) ?_
      refine lv_if_ne (tgt := 127) hx hb dX9_guard_119 (by decide) (fun c2 => ?_) (fun c2 => ?_)
      · replace hw := hw.1 c2
        refine lv_iload hx hb dX9_guard_127 (lv_at hl 6 rfl) ?_
        exact g_iret E hw hP hS dX9_guard_129
      · replace hw := hw.2 c2
        refine lv_iload hx hb dX9_guard_122 (lv_at hl 5 rfl) ?_
        refine lv_goto (tgt := 129) hx hb dX9_guard_124 (by decide) ?_
        exact g_iret E hw hP hS dX9_guard_129
    · replace hw := hw.2 c1
      refine lv_aload_n hx hb dX9_guard_56 rfl (lv_at hl 0 rfl) ?_
      refine fX9_3 E hP mw_326 dX9_guard_57 ?_
      refine lv_aload_n hx hb dX9_guard_60 rfl (lv_at hl 0 rfl) ?_
      refine fX9_1 E hP mw_324 dX9_guard_61 ?_
      refine g_cVv (As := [.ref (ad 5 0)]) (rest := []) E hl.1 (c_X1_becomeLike l D cy ad ha ((by decide : 2 < 3)) ((by decide : 0 < 3)) hw _) ok_X1_becomeLike mw_617 ⟨(Nat.le_of_ble_eq_true rfl), (Nat.le_of_ble_eq_true rfl)⟩ ⟨rfl, rfl⟩ (rC5 (by decide : 2 < 3)) rfl rfl rfl rfl rfl (Nat.le_of_ble_eq_true rfl) ⟨Nat.zero_le _, Nat.zero_le _⟩ hP hS dX9_guard_64 (fun s3 hw H locs hP hS => ?_)
      refine lv_aload_n hx hb dX9_guard_67 rfl (lv_at hl 0 rfl) ?_
      refine fX9_3 E hP mw_326 dX9_guard_68 ?_
      refine fX1_6 ((by decide : 2 < 3)) E hP mw_161 dX9_guard_71 ?_
      refine lv_iload hx hb dX9_guard_74 (lv_at hl 7 rfl) ?_
      refine lv_bipush (v := 100) hx hb dX9_guard_76 (by decide) ?_
      obtain ⟨h4, hw⟩ := hw
      refine tC11 ((by decide : 2 < 3)) E ha h4 dX9_guard_78 hP hS (fun s5 es5 H locs hP hS => ?_)
      replace hw := hw s5 es5
      refine lv_aload_n hx hb dX9_guard_79 rfl (lv_at hl 0 rfl) ?_
      refine fX9_3 E hP mw_326 dX9_guard_80 ?_
      refine lv_iload_n hx hb dX9_guard_83 rfl (lv_at hl 2 rfl) ?_
      refine g_cVv (As := [.int x2]) (rest := []) E hl.1 (c_X1_pass l D cy ad ha ((by decide : 2 < 3)) hw _) ok_X1_pass mw_477 ⟨(Nat.le_of_ble_eq_true rfl), (Nat.le_of_ble_eq_true rfl)⟩ ⟨rfl, rfl⟩ (rC5 (by decide : 2 < 3)) rfl rfl rfl rfl rfl (Nat.le_of_ble_eq_true rfl) ⟨Nat.zero_le _, Nat.zero_le _⟩ hP hS dX9_guard_84 (fun s6 hw H locs hP hS => ?_)
      refine lv_aload_n hx hb dX9_guard_87 rfl (lv_at hl 0 rfl) ?_
      refine fX9_3 E hP mw_326 dX9_guard_88 ?_
      refine lv_iload_n hx hb dX9_guard_91 rfl (lv_at hl 1 rfl) ?_
      refine g_cVi (As := [.int x1]) (rest := []) E hl.1 (c_X1_dryOf l D cy ad ha ((by decide : 2 < 3)) hw _) ok_X1_dryOf mw_551 ⟨(Nat.le_of_ble_eq_true rfl), (Nat.le_of_ble_eq_true rfl)⟩ ⟨rfl, rfl⟩ (rC5 (by decide : 2 < 3)) rfl rfl rfl rfl rfl (Nat.le_of_ble_eq_true rfl) ⟨Nat.zero_le _, Nat.zero_le _⟩ hP hS dX9_guard_92 (fun r7 s7 hw H locs hP hS => ?_)
      refine lv_istore (lv' := [(8, .int r7), (0, .ref (ad 0 0)), (1, .int x1), (2, .int x2), (3, .int x3), (4, .int x4), (5, .int x5), (6, .int x6), (7, .int x7)]) hx hb dX9_guard_95 hl (by decide) rfl (fun ls hl => ?_)
      refine lv_iload hx hb dX9_guard_97 (lv_at hl 0 rfl) ?_
      refine lv_iload hx hb dX9_guard_99 (lv_at hl 7 rfl) ?_
      refine lv_icmp_le (tgt := 112) hx hb dX9_guard_101 (by decide) (fun c8 => ?_) (fun c8 => ?_)
      · replace hw := hw.1 c8
        obtain ⟨v9, ev9⟩ : ∃ y : Int32, y = x7 + 1 := ⟨_, rfl⟩
        replace hw := hw v9 ev9
        refine lv_iinc (v := v9) (lv' := [(7, .int v9), (8, .int r7), (0, .ref (ad 0 0)), (1, .int x1), (2, .int x2), (3, .int x3), (4, .int x4), (5, .int x5), (6, .int x6)]) hx hb dX9_guard_112 hl (k := 8) rfl (by rw [ev9]; rfl) (by decide) rfl (fun ls hl => ?_)
        refine lv_goto (tgt := 46) hx hb dX9_guard_115 (by decide) ?_
        exact hk46 s7 x1 x2 x3 x4 x5 x6 v9 hw _ _ _ hP hS (lv_sub hl [2, 3, 4, 5, 6, 7, 8, 0] rfl)
      · replace hw := hw.2 c8
        refine lv_iload hx hb dX9_guard_104 (lv_at hl 8 rfl) ?_
        refine lv_istore (lv' := [(5, .int x7), (8, .int r7), (0, .ref (ad 0 0)), (1, .int x1), (2, .int x2), (3, .int x3), (4, .int x4), (6, .int x6), (7, .int x7)]) hx hb dX9_guard_106 hl (by decide) rfl (fun ls hl => ?_)
        refine lv_iload hx hb dX9_guard_108 (lv_at hl 1 rfl) ?_
        refine lv_istore (lv' := [(6, .int r7), (5, .int x7), (8, .int r7), (0, .ref (ad 0 0)), (1, .int x1), (2, .int x2), (3, .int x3), (4, .int x4), (7, .int x7)]) hx hb dX9_guard_110 hl (by decide) rfl (fun ls hl => ?_)
        obtain ⟨v10, ev10⟩ : ∃ y : Int32, y = x7 + 1 := ⟨_, rfl⟩
        replace hw := hw v10 ev10
        refine lv_iinc (v := v10) (lv' := [(7, .int v10), (6, .int r7), (5, .int x7), (8, .int r7), (0, .ref (ad 0 0)), (1, .int x1), (2, .int x2), (3, .int x3), (4, .int x4)]) hx hb dX9_guard_112 hl (k := 8) rfl (by rw [ev10]; rfl) (by decide) rfl (fun ls hl => ?_)
        refine lv_goto (tgt := 46) hx hb dX9_guard_115 (by decide) ?_
        exact hk46 s7 x1 x2 x3 x4 x7 r7 v10 hw _ _ _ hP hS (lv_sub hl [4, 5, 6, 7, 8, 2, 1, 0] rfl)
def w_X9_guard (post : Int32 → St → Prop) (σ : St) (x1 : Int32) (x2 : Int32) (x3 : Int32) : Prop := w_X9_isTown (fun r1 s1 => ((r1 = 0 → (post ((-1000000001)) s1)) ∧ (¬ r1 = 0 → (w_X9_within (fun r3 s3 => ((r3 = 0 → (post ((-1000000001)) s3)) ∧ (¬ r3 = 0 → (w_X9_within (fun r5 s5 => ((¬ r5 = 0 → (w_X9_firstHouse (fun r7 s7 => ∃ n8 : Nat, l_X9_guard_46 post n8 s7 x1 x2 x3 r7 r7 (-1 : Int32) r7) s5 x1)) ∧ (r5 = 0 → (post ((-1000000001)) s5)))) s3 x3 (0 : Int32) (1 : Int32))))) s1 x2 (1 : Int32) (60 : Int32))))) σ x1
theorem B_X9_guard_0 (E : EnvW p s m args meth c D cy regsC ad "RoofWar" cX9_guard 9 (some .int)) (ha : Apart regsC ad) {post : Int32 → St → Prop} {σ : St} {x1 : Int32} {x2 : Int32} {x3 : Int32} (hw : w_X9_guard post σ x1 x2 x3) {H : Heap} {locs : List Loc} {ls : Array Slot} (hP : va_P D CLS (wC cy ad σ) H) (hS : va_S (AC ad s.heap.size) s.heap H locs) (hl : lv_has ls 9 [(0, .ref (ad 0 0)), (1, .int x1), (2, .int x2), (3, .int x3)]) : W p l e rm_X9_guard s m args below meth c H locs 0 0 (MQ below (QI D cy (cellC cy ad) regsC ad s.heap.size post) args s 0 0 (AC ad s.heap.size)) (F0 m 0 ls []) := by
  obtain ⟨hx, hb, -⟩ := id E
  unfold w_X9_guard at hw
  refine lv_iload_n hx hb dX9_guard_0 rfl (lv_at hl 1 rfl) ?_
  refine g_cSi (As := [.int x1]) (rest := []) E hl.1 (c_X9_isTown l D cy ad ha hw _) ok_X9_isTown mw_564 ⟨(Nat.le_of_ble_eq_true rfl), (Nat.le_of_ble_eq_true rfl)⟩ ⟨rfl, rfl⟩ rfl rfl (Nat.le_of_ble_eq_true rfl) ⟨Nat.zero_le _, Nat.zero_le _⟩ hP hS dX9_guard_1 (fun r1 s1 hw H locs hP hS => ?_)
  obtain ⟨z1, hw⟩ := hw
  refine lv_if_eq (tgt := 26) hx hb dX9_guard_4 (by decide) (fun c2 => ?_) (fun c2 => ?_)
  · replace hw := hw.1 c2
    refine g_ldc (v := -1000000001) E mw_376 dX9_guard_26 ?_
    exact g_iret E hw hP hS dX9_guard_28
  · replace hw := hw.2 c2
    refine lv_iload_n hx hb dX9_guard_7 rfl (lv_at hl 2 rfl) ?_
    refine lv_iconst (v := 1) hx hb dX9_guard_8 (by decide) ?_
    refine lv_bipush (v := 60) hx hb dX9_guard_9 (by decide) ?_
    refine g_cSi (As := [.int x2, .int 1, .int 60]) (rest := []) E hl.1 (c_X9_within l D cy ad ha hw _) ok_X9_within mw_370 ⟨(Nat.le_of_ble_eq_true rfl), (Nat.le_of_ble_eq_true rfl)⟩ ⟨rfl, rfl⟩ rfl rfl (Nat.le_of_ble_eq_true rfl) ⟨Nat.zero_le _, Nat.zero_le _⟩ hP hS dX9_guard_11 (fun r3 s3 hw H locs hP hS => ?_)
    obtain ⟨z3, hw⟩ := hw
    refine lv_if_eq (tgt := 26) hx hb dX9_guard_14 (by decide) (fun c4 => ?_) (fun c4 => ?_)
    · replace hw := hw.1 c4
      refine g_ldc (v := -1000000001) E mw_376 dX9_guard_26 ?_
      exact g_iret E hw hP hS dX9_guard_28
    · replace hw := hw.2 c4
      refine lv_iload_n hx hb dX9_guard_17 rfl (lv_at hl 3 rfl) ?_
      refine lv_iconst (v := 0) hx hb dX9_guard_18 (by decide) ?_
      refine lv_iconst (v := 1) hx hb dX9_guard_19 (by decide) ?_
      refine g_cSi (As := [.int x3, .int 0, .int 1]) (rest := []) E hl.1 (c_X9_within l D cy ad ha hw _) ok_X9_within mw_370 ⟨(Nat.le_of_ble_eq_true rfl), (Nat.le_of_ble_eq_true rfl)⟩ ⟨rfl, rfl⟩ rfl rfl (Nat.le_of_ble_eq_true rfl) ⟨Nat.zero_le _, Nat.zero_le _⟩ hP hS dX9_guard_20 (fun r5 s5 hw H locs hP hS => ?_)
      obtain ⟨z5, hw⟩ := hw
      refine lv_if_ne (tgt := 29) hx hb dX9_guard_23 (by decide) (fun c6 => ?_) (fun c6 => ?_)
      · replace hw := hw.1 c6
        refine lv_iload_n hx hb dX9_guard_29 rfl (lv_at hl 1 rfl) ?_
        refine g_cSi (As := [.int x1]) (rest := []) E hl.1 (c_X9_firstHouse l D cy ad ha hw _) ok_X9_firstHouse mw_632 ⟨(Nat.le_of_ble_eq_true rfl), (Nat.le_of_ble_eq_true rfl)⟩ ⟨rfl, rfl⟩ rfl rfl (Nat.le_of_ble_eq_true rfl) ⟨Nat.zero_le _, Nat.zero_le _⟩ hP hS dX9_guard_30 (fun r7 s7 hw H locs hP hS => ?_)
        refine lv_istore (lv' := [(4, .int r7), (0, .ref (ad 0 0)), (1, .int x1), (2, .int x2), (3, .int x3)]) hx hb dX9_guard_33 hl (by decide) rfl (fun ls hl => ?_)
        refine lv_iload hx hb dX9_guard_35 (lv_at hl 0 rfl) ?_
        refine lv_istore (lv' := [(5, .int r7), (4, .int r7), (0, .ref (ad 0 0)), (1, .int x1), (2, .int x2), (3, .int x3)]) hx hb dX9_guard_37 hl (by decide) rfl (fun ls hl => ?_)
        refine lv_iconst (v := -1) hx hb dX9_guard_39 (by decide) ?_
        refine lv_istore (lv' := [(6, .int ((-1))), (5, .int r7), (4, .int r7), (0, .ref (ad 0 0)), (1, .int x1), (2, .int x2), (3, .int x3)]) hx hb dX9_guard_40 hl (by decide) rfl (fun ls hl => ?_)
        refine lv_iload hx hb dX9_guard_42 (lv_at hl 2 rfl) ?_
        refine lv_istore (lv' := [(7, .int r7), (6, .int ((-1))), (5, .int r7), (4, .int r7), (0, .ref (ad 0 0)), (1, .int x1), (2, .int x2), (3, .int x3)]) hx hb dX9_guard_44 hl (by decide) rfl (fun ls hl => ?_)
        obtain ⟨n8, hw⟩ := hw
        exact L_X9_guard_46 E ha n8 s7 x1 x2 x3 r7 r7 (-1 : Int32) r7 hw _ _ _ hP hS (lv_sub hl [4, 5, 6, 7, 3, 2, 1, 0] rfl)
      · replace hw := hw.2 c6
        refine g_ldc (v := -1000000001) E mw_376 dX9_guard_26 ?_
        exact g_iret E hw hP hS dX9_guard_28
theorem c_X9_guard (l : Launch) (D : va_G) (cy : Nat → ClassId) (ad : Nat → Nat → Nat) (ha : Apart regsC ad) {post : Int32 → St → Prop} {σ : St} {x1 : Int32} {x2 : Int32} {x3 : Int32} (hw : w_X9_guard post σ x1 x2 x3) (sz : Nat) : MetI l yX9_guard cX9_guard 9 .int rm_X9_guard [.ref (ad 0 0), .int x1, .int x2, .int x3] D cy (cellC cy ad) regsC ad σ sz post :=
  Met_inI ok_X9_guard.2.2.2.2.2 (Nat.le_of_ble_eq_true rfl) (fun p e s m below meth c ls E hP hl => B_X9_guard_0 E ha hw hP va_S.rf hl)
-- RoofWar.becomes(III)I
theorem dX9_becomes_0 : decode cX9_becomes 0 = .ok (.aload_n 0, 1) := by decide +kernel
theorem dX9_becomes_1 : decode cX9_becomes 1 = .ok (.iload_n 1, 1) := by decide +kernel
theorem dX9_becomes_2 : decode cX9_becomes 2 = .ok (.invokevirtual 108, 3) := by decide +kernel
theorem dX9_becomes_5 : decode cX9_becomes 5 = .ok (.ifCond .eq 22, 3) := by decide +kernel
theorem dX9_becomes_8 : decode cX9_becomes 8 = .ok (.iload_n 2, 1) := by decide +kernel
theorem dX9_becomes_9 : decode cX9_becomes 9 = .ok (.iconst 1, 1) := by decide +kernel
theorem dX9_becomes_10 : decode cX9_becomes 10 = .ok (.bipush 60, 2) := by decide +kernel
theorem dX9_becomes_12 : decode cX9_becomes 12 = .ok (.invokestatic 87, 3) := by decide +kernel
theorem dX9_becomes_15 : decode cX9_becomes 15 = .ok (.ifCond .eq 12, 3) := by decide +kernel
theorem dX9_becomes_18 : decode cX9_becomes 18 = .ok (.iload_n 3, 1) := by decide +kernel
theorem dX9_becomes_19 : decode cX9_becomes 19 = .ok (.iconst 0, 1) := by decide +kernel
theorem dX9_becomes_20 : decode cX9_becomes 20 = .ok (.iconst 1, 1) := by decide +kernel
theorem dX9_becomes_21 : decode cX9_becomes 21 = .ok (.invokestatic 87, 3) := by decide +kernel
theorem dX9_becomes_24 : decode cX9_becomes 24 = .ok (.ifCond .ne 6, 3) := by decide +kernel
theorem dX9_becomes_27 : decode cX9_becomes 27 = .ok (.ldc 94, 2) := by decide +kernel
theorem dX9_becomes_29 : decode cX9_becomes 29 = .ok (.ireturn, 1) := by decide +kernel
theorem dX9_becomes_30 : decode cX9_becomes 30 = .ok (.aload_n 0, 1) := by decide +kernel
theorem dX9_becomes_31 : decode cX9_becomes 31 = .ok (.getfield 21, 3) := by decide +kernel
theorem dX9_becomes_34 : decode cX9_becomes 34 = .ok (.getfield 120, 3) := by decide +kernel
theorem dX9_becomes_37 : decode cX9_becomes 37 = .ok (.iload_n 1, 1) := by decide +kernel
theorem dX9_becomes_38 : decode cX9_becomes 38 = .ok (.iaload, 1) := by decide +kernel
theorem dX9_becomes_39 : decode cX9_becomes 39 = .ok (.invokestatic 206, 3) := by decide +kernel
theorem dX9_becomes_42 : decode cX9_becomes 42 = .ok (.istore 4, 2) := by decide +kernel
theorem dX9_becomes_44 : decode cX9_becomes 44 = .ok (.iconst 0, 1) := by decide +kernel
theorem dX9_becomes_45 : decode cX9_becomes 45 = .ok (.istore 5, 2) := by decide +kernel
theorem dX9_becomes_47 : decode cX9_becomes 47 = .ok (.iconst (-1), 1) := by decide +kernel
theorem dX9_becomes_48 : decode cX9_becomes 48 = .ok (.istore 6, 2) := by decide +kernel
theorem dX9_becomes_50 : decode cX9_becomes 50 = .ok (.iconst 0, 1) := by decide +kernel
theorem dX9_becomes_51 : decode cX9_becomes 51 = .ok (.istore 7, 2) := by decide +kernel
theorem dX9_becomes_53 : decode cX9_becomes 53 = .ok (.iload 7, 2) := by decide +kernel
theorem dX9_becomes_55 : decode cX9_becomes 55 = .ok (.bipush 6, 2) := by decide +kernel
theorem dX9_becomes_57 : decode cX9_becomes 57 = .ok (.if_icmp .ge 65, 3) := by decide +kernel
theorem dX9_becomes_60 : decode cX9_becomes 60 = .ok (.aload_n 0, 1) := by decide +kernel
theorem dX9_becomes_61 : decode cX9_becomes 61 = .ok (.getfield 28, 3) := by decide +kernel
theorem dX9_becomes_64 : decode cX9_becomes 64 = .ok (.aload_n 0, 1) := by decide +kernel
theorem dX9_becomes_65 : decode cX9_becomes 65 = .ok (.getfield 21, 3) := by decide +kernel
theorem dX9_becomes_68 : decode cX9_becomes 68 = .ok (.invokevirtual 231, 3) := by decide +kernel
theorem dX9_becomes_71 : decode cX9_becomes 71 = .ok (.aload_n 0, 1) := by decide +kernel
theorem dX9_becomes_72 : decode cX9_becomes 72 = .ok (.getfield 28, 3) := by decide +kernel
theorem dX9_becomes_75 : decode cX9_becomes 75 = .ok (.getfield 111, 3) := by decide +kernel
theorem dX9_becomes_78 : decode cX9_becomes 78 = .ok (.iload_n 1, 1) := by decide +kernel
theorem dX9_becomes_79 : decode cX9_becomes 79 = .ok (.iload 7, 2) := by decide +kernel
theorem dX9_becomes_81 : decode cX9_becomes 81 = .ok (.iastore, 1) := by decide +kernel
theorem dX9_becomes_82 : decode cX9_becomes 82 = .ok (.aload_n 0, 1) := by decide +kernel
theorem dX9_becomes_83 : decode cX9_becomes 83 = .ok (.getfield 28, 3) := by decide +kernel
theorem dX9_becomes_86 : decode cX9_becomes 86 = .ok (.iload_n 2, 1) := by decide +kernel
theorem dX9_becomes_87 : decode cX9_becomes 87 = .ok (.invokevirtual 180, 3) := by decide +kernel
theorem dX9_becomes_90 : decode cX9_becomes 90 = .ok (.aload_n 0, 1) := by decide +kernel
theorem dX9_becomes_91 : decode cX9_becomes 91 = .ok (.getfield 28, 3) := by decide +kernel
theorem dX9_becomes_94 : decode cX9_becomes 94 = .ok (.iload 4, 2) := by decide +kernel
theorem dX9_becomes_96 : decode cX9_becomes 96 = .ok (.invokevirtual 190, 3) := by decide +kernel
theorem dX9_becomes_99 : decode cX9_becomes 99 = .ok (.istore 8, 2) := by decide +kernel
theorem dX9_becomes_101 : decode cX9_becomes 101 = .ok (.iload 8, 2) := by decide +kernel
theorem dX9_becomes_103 : decode cX9_becomes 103 = .ok (.iload 6, 2) := by decide +kernel
theorem dX9_becomes_105 : decode cX9_becomes 105 = .ok (.if_icmp .le 11, 3) := by decide +kernel
theorem dX9_becomes_108 : decode cX9_becomes 108 = .ok (.iload 7, 2) := by decide +kernel
theorem dX9_becomes_110 : decode cX9_becomes 110 = .ok (.istore 5, 2) := by decide +kernel
theorem dX9_becomes_112 : decode cX9_becomes 112 = .ok (.iload 8, 2) := by decide +kernel
theorem dX9_becomes_114 : decode cX9_becomes 114 = .ok (.istore 6, 2) := by decide +kernel
theorem dX9_becomes_116 : decode cX9_becomes 116 = .ok (.iinc 7 1, 3) := by decide +kernel
theorem dX9_becomes_119 : decode cX9_becomes 119 = .ok (.goto (-66), 3) := by decide +kernel
theorem dX9_becomes_122 : decode cX9_becomes 122 = .ok (.iload_n 3, 1) := by decide +kernel
theorem dX9_becomes_123 : decode cX9_becomes 123 = .ok (.ifCond .ne 8, 3) := by decide +kernel
theorem dX9_becomes_126 : decode cX9_becomes 126 = .ok (.iload 5, 2) := by decide +kernel
theorem dX9_becomes_128 : decode cX9_becomes 128 = .ok (.goto 5, 3) := by decide +kernel
theorem dX9_becomes_131 : decode cX9_becomes 131 = .ok (.iload 6, 2) := by decide +kernel
theorem dX9_becomes_133 : decode cX9_becomes 133 = .ok (.ireturn, 1) := by decide +kernel
theorem ok_X9_becomes : okV yX9_becomes cX9_becomes 9 (some .int) 3 := ⟨mw_634, mw_635, mw_74, mw_636, by decide +kernel, by decide +kernel⟩
abbrev rm_X9_becomes : Room := { frames := 6, cells := 0, slots := 0, locals := 145 }
def b_X9_becomes_53 (K53 : St → Int32 → Int32 → Int32 → Int32 → Int32 → Int32 → Int32 → Prop) (post : Int32 → St → Prop) (σ : St) (x1 : Int32) (x2 : Int32) (x3 : Int32) (x4 : Int32) (x5 : Int32) (x6 : Int32) (x7 : Int32) : Prop := ((6 ≤ x7 → (((¬ x3 = 0 → (post x6 σ)) ∧ (x3 = 0 → (post x5 σ))))) ∧ (¬ 6 ≤ x7 → (w_X1_becomeLike (fun s3 => vp_in x1 12 ∧ (∀ s5 : St, s5 = wr s3 6 2 x1.toNatClampNeg x7 → (w_X1_pass (fun s6 => w_X1_dryOf (fun r7 s7 => ((r7 ≤ x6 → (∀ v9 : Int32, v9 = x7 + 1 → (K53 s7 x1 x2 x3 x4 x5 x6 v9))) ∧ (¬ r7 ≤ x6 → (∀ v10 : Int32, v10 = x7 + 1 → (K53 s7 x1 x2 x3 x4 x7 r7 v10))))) s6 2 x4) s5 2 x2))) σ 2 0)))
noncomputable def l_X9_becomes_53 (post : Int32 → St → Prop) : Nat → St → Int32 → Int32 → Int32 → Int32 → Int32 → Int32 → Int32 → Prop := fun n => Nat.rec (motive := fun _ => St → Int32 → Int32 → Int32 → Int32 → Int32 → Int32 → Int32 → Prop) (fun _ _ _ _ _ _ _ _ => False) (fun _ ih => b_X9_becomes_53 ih post) n
theorem L_X9_becomes_53 (E : EnvW p s m args meth c D cy regsC ad "RoofWar" cX9_becomes 9 (some .int)) (ha : Apart regsC ad) {post : Int32 → St → Prop} : ∀ (n : Nat), ∀ (σ : St) (x1 : Int32) (x2 : Int32) (x3 : Int32) (x4 : Int32) (x5 : Int32) (x6 : Int32) (x7 : Int32), l_X9_becomes_53 post n σ x1 x2 x3 x4 x5 x6 x7 → ∀ (H : Heap) (locs : List Loc) (ls : Array Slot), va_P D CLS (wC cy ad σ) H → va_S (AC ad s.heap.size) s.heap H locs → lv_has ls 9 [(0, .ref (ad 0 0)), (1, .int x1), (2, .int x2), (3, .int x3), (4, .int x4), (5, .int x5), (6, .int x6), (7, .int x7)] → W p l e rm_X9_becomes s m args below meth c H locs 0 0 (MQ below (QI D cy (cellC cy ad) regsC ad s.heap.size post) args s 0 0 (AC ad s.heap.size)) (F0 m 53 ls []) := by
  obtain ⟨hx, hb, -⟩ := id E
  intro n
  induction n with
  | zero => intro σ x1 x2 x3 x4 x5 x6 x7 hw; exact hw.elim
  | succ n hk53 =>
    intro σ x1 x2 x3 x4 x5 x6 x7 hw H locs ls hP hS hl
    replace hw : b_X9_becomes_53 (l_X9_becomes_53 post n) post σ x1 x2 x3 x4 x5 x6 x7 := hw
    unfold b_X9_becomes_53 at hw
    refine lv_iload hx hb dX9_becomes_53 (lv_at hl 7 rfl) ?_
    refine lv_bipush (v := 6) hx hb dX9_becomes_55 (by decide) ?_
    refine lv_icmp_ge (tgt := 122) hx hb dX9_becomes_57 (by decide) (fun c1 => ?_) (fun c1 => ?_)
    · replace hw := hw.1 c1
      refine lv_iload_n hx hb dX9_becomes_122 rfl (lv_at hl 3 rfl) ?_
      refine lv_if_ne (tgt := 131) hx hb dX9_becomes_123 (by decide) (fun c2 => ?_) (fun c2 => ?_)
      · replace hw := hw.1 c2
        refine lv_iload hx hb dX9_becomes_131 (lv_at hl 6 rfl) ?_
        exact g_iret E hw hP hS dX9_becomes_133
      · replace hw := hw.2 c2
        refine lv_iload hx hb dX9_becomes_126 (lv_at hl 5 rfl) ?_
        refine lv_goto (tgt := 133) hx hb dX9_becomes_128 (by decide) ?_
        exact g_iret E hw hP hS dX9_becomes_133
    · replace hw := hw.2 c1
      refine lv_aload_n hx hb dX9_becomes_60 rfl (lv_at hl 0 rfl) ?_
      refine fX9_3 E hP mw_326 dX9_becomes_61 ?_
      refine lv_aload_n hx hb dX9_becomes_64 rfl (lv_at hl 0 rfl) ?_
      refine fX9_1 E hP mw_324 dX9_becomes_65 ?_
      refine g_cVv (As := [.ref (ad 5 0)]) (rest := []) E hl.1 (c_X1_becomeLike l D cy ad ha ((by decide : 2 < 3)) ((by decide : 0 < 3)) hw _) ok_X1_becomeLike mw_617 ⟨(Nat.le_of_ble_eq_true rfl), (Nat.le_of_ble_eq_true rfl)⟩ ⟨rfl, rfl⟩ (rC5 (by decide : 2 < 3)) rfl rfl rfl rfl rfl (Nat.le_of_ble_eq_true rfl) ⟨Nat.zero_le _, Nat.zero_le _⟩ hP hS dX9_becomes_68 (fun s3 hw H locs hP hS => ?_)
      refine lv_aload_n hx hb dX9_becomes_71 rfl (lv_at hl 0 rfl) ?_
      refine fX9_3 E hP mw_326 dX9_becomes_72 ?_
      refine fX1_1 ((by decide : 2 < 3)) E hP mw_148 dX9_becomes_75 ?_
      refine lv_iload_n hx hb dX9_becomes_78 rfl (lv_at hl 1 rfl) ?_
      refine lv_iload hx hb dX9_becomes_79 (lv_at hl 7 rfl) ?_
      obtain ⟨h4, hw⟩ := hw
      refine tC6 ((by decide : 2 < 3)) E ha h4 dX9_becomes_81 hP hS (fun s5 es5 H locs hP hS => ?_)
      replace hw := hw s5 es5
      refine lv_aload_n hx hb dX9_becomes_82 rfl (lv_at hl 0 rfl) ?_
      refine fX9_3 E hP mw_326 dX9_becomes_83 ?_
      refine lv_iload_n hx hb dX9_becomes_86 rfl (lv_at hl 2 rfl) ?_
      refine g_cVv (As := [.int x2]) (rest := []) E hl.1 (c_X1_pass l D cy ad ha ((by decide : 2 < 3)) hw _) ok_X1_pass mw_477 ⟨(Nat.le_of_ble_eq_true rfl), (Nat.le_of_ble_eq_true rfl)⟩ ⟨rfl, rfl⟩ (rC5 (by decide : 2 < 3)) rfl rfl rfl rfl rfl (Nat.le_of_ble_eq_true rfl) ⟨Nat.zero_le _, Nat.zero_le _⟩ hP hS dX9_becomes_87 (fun s6 hw H locs hP hS => ?_)
      refine lv_aload_n hx hb dX9_becomes_90 rfl (lv_at hl 0 rfl) ?_
      refine fX9_3 E hP mw_326 dX9_becomes_91 ?_
      refine lv_iload hx hb dX9_becomes_94 (lv_at hl 4 rfl) ?_
      refine g_cVi (As := [.int x4]) (rest := []) E hl.1 (c_X1_dryOf l D cy ad ha ((by decide : 2 < 3)) hw _) ok_X1_dryOf mw_551 ⟨(Nat.le_of_ble_eq_true rfl), (Nat.le_of_ble_eq_true rfl)⟩ ⟨rfl, rfl⟩ (rC5 (by decide : 2 < 3)) rfl rfl rfl rfl rfl (Nat.le_of_ble_eq_true rfl) ⟨Nat.zero_le _, Nat.zero_le _⟩ hP hS dX9_becomes_96 (fun r7 s7 hw H locs hP hS => ?_)
      refine lv_istore (lv' := [(8, .int r7), (0, .ref (ad 0 0)), (1, .int x1), (2, .int x2), (3, .int x3), (4, .int x4), (5, .int x5), (6, .int x6), (7, .int x7)]) hx hb dX9_becomes_99 hl (by decide) rfl (fun ls hl => ?_)
      refine lv_iload hx hb dX9_becomes_101 (lv_at hl 0 rfl) ?_
      refine lv_iload hx hb dX9_becomes_103 (lv_at hl 7 rfl) ?_
      refine lv_icmp_le (tgt := 116) hx hb dX9_becomes_105 (by decide) (fun c8 => ?_) (fun c8 => ?_)
      · replace hw := hw.1 c8
        obtain ⟨v9, ev9⟩ : ∃ y : Int32, y = x7 + 1 := ⟨_, rfl⟩
        replace hw := hw v9 ev9
        refine lv_iinc (v := v9) (lv' := [(7, .int v9), (8, .int r7), (0, .ref (ad 0 0)), (1, .int x1), (2, .int x2), (3, .int x3), (4, .int x4), (5, .int x5), (6, .int x6)]) hx hb dX9_becomes_116 hl (k := 8) rfl (by rw [ev9]; rfl) (by decide) rfl (fun ls hl => ?_)
        refine lv_goto (tgt := 53) hx hb dX9_becomes_119 (by decide) ?_
        exact hk53 s7 x1 x2 x3 x4 x5 x6 v9 hw _ _ _ hP hS (lv_sub hl [2, 3, 4, 5, 6, 7, 8, 0] rfl)
      · replace hw := hw.2 c8
        refine lv_iload hx hb dX9_becomes_108 (lv_at hl 8 rfl) ?_
        refine lv_istore (lv' := [(5, .int x7), (8, .int r7), (0, .ref (ad 0 0)), (1, .int x1), (2, .int x2), (3, .int x3), (4, .int x4), (6, .int x6), (7, .int x7)]) hx hb dX9_becomes_110 hl (by decide) rfl (fun ls hl => ?_)
        refine lv_iload hx hb dX9_becomes_112 (lv_at hl 1 rfl) ?_
        refine lv_istore (lv' := [(6, .int r7), (5, .int x7), (8, .int r7), (0, .ref (ad 0 0)), (1, .int x1), (2, .int x2), (3, .int x3), (4, .int x4), (7, .int x7)]) hx hb dX9_becomes_114 hl (by decide) rfl (fun ls hl => ?_)
        obtain ⟨v10, ev10⟩ : ∃ y : Int32, y = x7 + 1 := ⟨_, rfl⟩
        replace hw := hw v10 ev10
        refine lv_iinc (v := v10) (lv' := [(7, .int v10), (6, .int r7), (5, .int x7), (8, .int r7), (0, .ref (ad 0 0)), (1, .int x1), (2, .int x2), (3, .int x3), (4, .int x4)]) hx hb dX9_becomes_116 hl (k := 8) rfl (by rw [ev10]; rfl) (by decide) rfl (fun ls hl => ?_)
        refine lv_goto (tgt := 53) hx hb dX9_becomes_119 (by decide) ?_
        exact hk53 s7 x1 x2 x3 x4 x7 r7 v10 hw _ _ _ hP hS (lv_sub hl [4, 5, 6, 7, 8, 2, 1, 0] rfl)
def w_X9_becomes (post : Int32 → St → Prop) (σ : St) (x1 : Int32) (x2 : Int32) (x3 : Int32) : Prop := w_X9_isRoof (fun r1 s1 => ((r1 = 0 → (post ((-1000000001)) s1)) ∧ (¬ r1 = 0 → (w_X9_within (fun r3 s3 => ((r3 = 0 → (post ((-1000000001)) s3)) ∧ (¬ r3 = 0 → (w_X9_within (fun r5 s5 => ((¬ r5 = 0 → (vp_in x1 12 ∧ (w_X9_townOf (fun r8 s8 => ∃ n9 : Nat, l_X9_becomes_53 post n9 s8 x1 x2 x3 r8 (0 : Int32) (-1 : Int32) (0 : Int32)) s5 (s5 9 0 x1.toNatClampNeg)))) ∧ (r5 = 0 → (post ((-1000000001)) s5)))) s3 x3 (0 : Int32) (1 : Int32))))) s1 x2 (1 : Int32) (60 : Int32))))) σ x1
theorem B_X9_becomes_0 (E : EnvW p s m args meth c D cy regsC ad "RoofWar" cX9_becomes 9 (some .int)) (ha : Apart regsC ad) {post : Int32 → St → Prop} {σ : St} {x1 : Int32} {x2 : Int32} {x3 : Int32} (hw : w_X9_becomes post σ x1 x2 x3) {H : Heap} {locs : List Loc} {ls : Array Slot} (hP : va_P D CLS (wC cy ad σ) H) (hS : va_S (AC ad s.heap.size) s.heap H locs) (hl : lv_has ls 9 [(0, .ref (ad 0 0)), (1, .int x1), (2, .int x2), (3, .int x3)]) : W p l e rm_X9_becomes s m args below meth c H locs 0 0 (MQ below (QI D cy (cellC cy ad) regsC ad s.heap.size post) args s 0 0 (AC ad s.heap.size)) (F0 m 0 ls []) := by
  obtain ⟨hx, hb, -⟩ := id E
  unfold w_X9_becomes at hw
  refine lv_aload_n hx hb dX9_becomes_0 rfl (lv_at hl 0 rfl) ?_
  refine lv_iload_n hx hb dX9_becomes_1 rfl (lv_at hl 1 rfl) ?_
  refine g_cVi (As := [.int x1]) (rest := []) E hl.1 (c_X9_isRoof l D cy ad ha hw _) ok_X9_isRoof mw_388 ⟨(Nat.le_of_ble_eq_true rfl), (Nat.le_of_ble_eq_true rfl)⟩ ⟨rfl, rfl⟩ rC0 rfl rfl rfl rfl rfl (Nat.le_of_ble_eq_true rfl) ⟨Nat.zero_le _, Nat.zero_le _⟩ hP hS dX9_becomes_2 (fun r1 s1 hw H locs hP hS => ?_)
  obtain ⟨z1, hw⟩ := hw
  refine lv_if_eq (tgt := 27) hx hb dX9_becomes_5 (by decide) (fun c2 => ?_) (fun c2 => ?_)
  · replace hw := hw.1 c2
    refine g_ldc (v := -1000000001) E mw_376 dX9_becomes_27 ?_
    exact g_iret E hw hP hS dX9_becomes_29
  · replace hw := hw.2 c2
    refine lv_iload_n hx hb dX9_becomes_8 rfl (lv_at hl 2 rfl) ?_
    refine lv_iconst (v := 1) hx hb dX9_becomes_9 (by decide) ?_
    refine lv_bipush (v := 60) hx hb dX9_becomes_10 (by decide) ?_
    refine g_cSi (As := [.int x2, .int 1, .int 60]) (rest := []) E hl.1 (c_X9_within l D cy ad ha hw _) ok_X9_within mw_370 ⟨(Nat.le_of_ble_eq_true rfl), (Nat.le_of_ble_eq_true rfl)⟩ ⟨rfl, rfl⟩ rfl rfl (Nat.le_of_ble_eq_true rfl) ⟨Nat.zero_le _, Nat.zero_le _⟩ hP hS dX9_becomes_12 (fun r3 s3 hw H locs hP hS => ?_)
    obtain ⟨z3, hw⟩ := hw
    refine lv_if_eq (tgt := 27) hx hb dX9_becomes_15 (by decide) (fun c4 => ?_) (fun c4 => ?_)
    · replace hw := hw.1 c4
      refine g_ldc (v := -1000000001) E mw_376 dX9_becomes_27 ?_
      exact g_iret E hw hP hS dX9_becomes_29
    · replace hw := hw.2 c4
      refine lv_iload_n hx hb dX9_becomes_18 rfl (lv_at hl 3 rfl) ?_
      refine lv_iconst (v := 0) hx hb dX9_becomes_19 (by decide) ?_
      refine lv_iconst (v := 1) hx hb dX9_becomes_20 (by decide) ?_
      refine g_cSi (As := [.int x3, .int 0, .int 1]) (rest := []) E hl.1 (c_X9_within l D cy ad ha hw _) ok_X9_within mw_370 ⟨(Nat.le_of_ble_eq_true rfl), (Nat.le_of_ble_eq_true rfl)⟩ ⟨rfl, rfl⟩ rfl rfl (Nat.le_of_ble_eq_true rfl) ⟨Nat.zero_le _, Nat.zero_le _⟩ hP hS dX9_becomes_21 (fun r5 s5 hw H locs hP hS => ?_)
      obtain ⟨z5, hw⟩ := hw
      refine lv_if_ne (tgt := 30) hx hb dX9_becomes_24 (by decide) (fun c6 => ?_) (fun c6 => ?_)
      · replace hw := hw.1 c6
        refine lv_aload_n hx hb dX9_becomes_30 rfl (lv_at hl 0 rfl) ?_
        refine fX9_1 E hP mw_324 dX9_becomes_31 ?_
        refine fX1_4 ((by decide : 0 < 3)) E hP mw_157 dX9_becomes_34 ?_
        refine lv_iload_n hx hb dX9_becomes_37 rfl (lv_at hl 1 rfl) ?_
        obtain ⟨h7, hw⟩ := hw
        refine aC9 ((by decide : 0 < 3)) E hP h7 dX9_becomes_38 ?_
        refine g_cSi (As := [.int (s5 9 0 x1.toNatClampNeg)]) (rest := []) E hl.1 (c_X9_townOf l D cy ad ha hw _) ok_X9_townOf mw_573 ⟨(Nat.le_of_ble_eq_true rfl), (Nat.le_of_ble_eq_true rfl)⟩ ⟨rfl, rfl⟩ rfl rfl (Nat.le_of_ble_eq_true rfl) ⟨Nat.zero_le _, Nat.zero_le _⟩ hP hS dX9_becomes_39 (fun r8 s8 hw H locs hP hS => ?_)
        refine lv_istore (lv' := [(4, .int r8), (0, .ref (ad 0 0)), (1, .int x1), (2, .int x2), (3, .int x3)]) hx hb dX9_becomes_42 hl (by decide) rfl (fun ls hl => ?_)
        refine lv_iconst (v := 0) hx hb dX9_becomes_44 (by decide) ?_
        refine lv_istore (lv' := [(5, .int 0), (4, .int r8), (0, .ref (ad 0 0)), (1, .int x1), (2, .int x2), (3, .int x3)]) hx hb dX9_becomes_45 hl (by decide) rfl (fun ls hl => ?_)
        refine lv_iconst (v := -1) hx hb dX9_becomes_47 (by decide) ?_
        refine lv_istore (lv' := [(6, .int ((-1))), (5, .int 0), (4, .int r8), (0, .ref (ad 0 0)), (1, .int x1), (2, .int x2), (3, .int x3)]) hx hb dX9_becomes_48 hl (by decide) rfl (fun ls hl => ?_)
        refine lv_iconst (v := 0) hx hb dX9_becomes_50 (by decide) ?_
        refine lv_istore (lv' := [(7, .int 0), (6, .int ((-1))), (5, .int 0), (4, .int r8), (0, .ref (ad 0 0)), (1, .int x1), (2, .int x2), (3, .int x3)]) hx hb dX9_becomes_51 hl (by decide) rfl (fun ls hl => ?_)
        obtain ⟨n9, hw⟩ := hw
        exact L_X9_becomes_53 E ha n9 s8 x1 x2 x3 r8 (0 : Int32) (-1 : Int32) (0 : Int32) hw _ _ _ hP hS (lv_sub hl [4, 5, 6, 7, 3, 2, 1, 0] rfl)
      · replace hw := hw.2 c6
        refine g_ldc (v := -1000000001) E mw_376 dX9_becomes_27 ?_
        exact g_iret E hw hP hS dX9_becomes_29
theorem c_X9_becomes (l : Launch) (D : va_G) (cy : Nat → ClassId) (ad : Nat → Nat → Nat) (ha : Apart regsC ad) {post : Int32 → St → Prop} {σ : St} {x1 : Int32} {x2 : Int32} {x3 : Int32} (hw : w_X9_becomes post σ x1 x2 x3) (sz : Nat) : MetI l yX9_becomes cX9_becomes 9 .int rm_X9_becomes [.ref (ad 0 0), .int x1, .int x2, .int x3] D cy (cellC cy ad) regsC ad σ sz post :=
  Met_inI ok_X9_becomes.2.2.2.2.2 (Nat.le_of_ble_eq_true rfl) (fun p e s m below meth c ls E hP hl => B_X9_becomes_0 E ha hw hP va_S.rf hl)
-- RoofWar.isSheet(I)Z
theorem dX9_isSheet_0 : decode cX9_isSheet 0 = .ok (.iload_n 0, 1) := by decide +kernel
theorem dX9_isSheet_1 : decode cX9_isSheet 1 = .ok (.iconst 0, 1) := by decide +kernel
theorem dX9_isSheet_2 : decode cX9_isSheet 2 = .ok (.iconst 3, 1) := by decide +kernel
theorem dX9_isSheet_3 : decode cX9_isSheet 3 = .ok (.invokestatic 87, 3) := by decide +kernel
theorem dX9_isSheet_6 : decode cX9_isSheet 6 = .ok (.ireturn, 1) := by decide +kernel
theorem ok_X9_isSheet : okS yX9_isSheet cX9_isSheet 1 (some .boolean) 1 := ⟨mw_642, mw_74, mw_643, by decide +kernel, by decide +kernel⟩
abbrev rm_X9_isSheet : Room := { frames := 1, cells := 0, slots := 0, locals := 22 }
def w_X9_isSheet (post : Int32 → St → Prop) (σ : St) (x0 : Int32) : Prop := w_X9_within (fun r1 s1 => post r1 s1) σ x0 (0 : Int32) (3 : Int32)
theorem B_X9_isSheet_0 (E : EnvW p s m args meth c D cy regsC ad "RoofWar" cX9_isSheet 1 (some .boolean)) (ha : Apart regsC ad) {post : Int32 → St → Prop} {σ : St} {x0 : Int32} (hw : w_X9_isSheet post σ x0) {H : Heap} {locs : List Loc} {ls : Array Slot} (hP : va_P D CLS (wC cy ad σ) H) (hS : va_S (AC ad s.heap.size) s.heap H locs) (hl : lv_has ls 1 [(0, .int x0)]) : W p l e rm_X9_isSheet s m args below meth c H locs 0 0 (MQ below (QI D cy (cellC cy ad) regsC ad s.heap.size (fun r u => (r = 0 ∨ r = 1) ∧ post r u)) args s 0 0 (AC ad s.heap.size)) (F0 m 0 ls []) := by
  obtain ⟨hx, hb, -⟩ := id E
  unfold w_X9_isSheet at hw
  refine lv_iload_n hx hb dX9_isSheet_0 rfl (lv_at hl 0 rfl) ?_
  refine lv_iconst (v := 0) hx hb dX9_isSheet_1 (by decide) ?_
  refine lv_iconst (v := 3) hx hb dX9_isSheet_2 (by decide) ?_
  refine g_cSi (As := [.int x0, .int 0, .int 3]) (rest := []) E hl.1 (c_X9_within l D cy ad ha hw _) ok_X9_within mw_370 ⟨(Nat.le_of_ble_eq_true rfl), (Nat.le_of_ble_eq_true rfl)⟩ ⟨rfl, rfl⟩ rfl rfl (Nat.le_of_ble_eq_true rfl) ⟨Nat.zero_le _, Nat.zero_le _⟩ hP hS dX9_isSheet_3 (fun r1 s1 hw H locs hP hS => ?_)
  obtain ⟨z1, hw⟩ := hw
  exact g_zret E z1 hw hP hS dX9_isSheet_6
theorem c_X9_isSheet (l : Launch) (D : va_G) (cy : Nat → ClassId) (ad : Nat → Nat → Nat) (ha : Apart regsC ad) {post : Int32 → St → Prop} {σ : St} {x0 : Int32} (hw : w_X9_isSheet post σ x0) (sz : Nat) : MetI l yX9_isSheet cX9_isSheet 1 .boolean rm_X9_isSheet [.int x0] D cy (cellC cy ad) regsC ad σ sz (fun r u => (r = 0 ∨ r = 1) ∧ post r u) :=
  Met_inI ok_X9_isSheet.2.2.2.2 (Nat.le_of_ble_eq_true rfl) (fun p e s m below meth c ls E hP hl => B_X9_isSheet_0 E ha hw hP va_S.rf hl)
-- RoofWar.countHits(LRoofWar$Row;)V
theorem dX9_countHits_0 : decode cX9_countHits 0 = .ok (.iconst 0, 1) := by decide +kernel
theorem dX9_countHits_1 : decode cX9_countHits 1 = .ok (.istore_n 2, 1) := by decide +kernel
theorem dX9_countHits_2 : decode cX9_countHits 2 = .ok (.iload_n 2, 1) := by decide +kernel
theorem dX9_countHits_3 : decode cX9_countHits 3 = .ok (.aload_n 0, 1) := by decide +kernel
theorem dX9_countHits_4 : decode cX9_countHits 4 = .ok (.getfield 21, 3) := by decide +kernel
theorem dX9_countHits_7 : decode cX9_countHits 7 = .ok (.getfield 100, 3) := by decide +kernel
theorem dX9_countHits_10 : decode cX9_countHits 10 = .ok (.if_icmp .ge 16, 3) := by decide +kernel
theorem dX9_countHits_13 : decode cX9_countHits 13 = .ok (.aload_n 0, 1) := by decide +kernel
theorem dX9_countHits_14 : decode cX9_countHits 14 = .ok (.getfield 80, 3) := by decide +kernel
theorem dX9_countHits_17 : decode cX9_countHits 17 = .ok (.iload_n 2, 1) := by decide +kernel
theorem dX9_countHits_18 : decode cX9_countHits 18 = .ok (.iconst 0, 1) := by decide +kernel
theorem dX9_countHits_19 : decode cX9_countHits 19 = .ok (.iastore, 1) := by decide +kernel
theorem dX9_countHits_20 : decode cX9_countHits 20 = .ok (.iinc 2 1, 3) := by decide +kernel
theorem dX9_countHits_23 : decode cX9_countHits 23 = .ok (.goto (-21), 3) := by decide +kernel
theorem dX9_countHits_26 : decode cX9_countHits 26 = .ok (.aload_n 0, 1) := by decide +kernel
theorem dX9_countHits_27 : decode cX9_countHits 27 = .ok (.getfield 28, 3) := by decide +kernel
theorem dX9_countHits_30 : decode cX9_countHits 30 = .ok (.aload_n 0, 1) := by decide +kernel
theorem dX9_countHits_31 : decode cX9_countHits 31 = .ok (.getfield 21, 3) := by decide +kernel
theorem dX9_countHits_34 : decode cX9_countHits 34 = .ok (.invokevirtual 231, 3) := by decide +kernel
theorem dX9_countHits_37 : decode cX9_countHits 37 = .ok (.iconst 0, 1) := by decide +kernel
theorem dX9_countHits_38 : decode cX9_countHits 38 = .ok (.istore_n 2, 1) := by decide +kernel
theorem dX9_countHits_39 : decode cX9_countHits 39 = .ok (.iload_n 2, 1) := by decide +kernel
theorem dX9_countHits_40 : decode cX9_countHits 40 = .ok (.aload_n 1, 1) := by decide +kernel
theorem dX9_countHits_41 : decode cX9_countHits 41 = .ok (.getfield 302, 3) := by decide +kernel
theorem dX9_countHits_44 : decode cX9_countHits 44 = .ok (.if_icmp .ge 76, 3) := by decide +kernel
theorem dX9_countHits_47 : decode cX9_countHits 47 = .ok (.iload_n 2, 1) := by decide +kernel
theorem dX9_countHits_48 : decode cX9_countHits 48 = .ok (.ifCond .le 11, 3) := by decide +kernel
theorem dX9_countHits_51 : decode cX9_countHits 51 = .ok (.aload_n 0, 1) := by decide +kernel
theorem dX9_countHits_52 : decode cX9_countHits 52 = .ok (.getfield 28, 3) := by decide +kernel
theorem dX9_countHits_55 : decode cX9_countHits 55 = .ok (.iconst 1, 1) := by decide +kernel
theorem dX9_countHits_56 : decode cX9_countHits 56 = .ok (.invokevirtual 180, 3) := by decide +kernel
theorem dX9_countHits_59 : decode cX9_countHits 59 = .ok (.iconst 0, 1) := by decide +kernel
theorem dX9_countHits_60 : decode cX9_countHits 60 = .ok (.istore_n 3, 1) := by decide +kernel
theorem dX9_countHits_61 : decode cX9_countHits 61 = .ok (.iload_n 3, 1) := by decide +kernel
theorem dX9_countHits_62 : decode cX9_countHits 62 = .ok (.aload_n 0, 1) := by decide +kernel
theorem dX9_countHits_63 : decode cX9_countHits 63 = .ok (.getfield 21, 3) := by decide +kernel
theorem dX9_countHits_66 : decode cX9_countHits 66 = .ok (.getfield 100, 3) := by decide +kernel
theorem dX9_countHits_69 : decode cX9_countHits 69 = .ok (.if_icmp .ge 45, 3) := by decide +kernel
theorem dX9_countHits_72 : decode cX9_countHits 72 = .ok (.aload_n 1, 1) := by decide +kernel
theorem dX9_countHits_73 : decode cX9_countHits 73 = .ok (.iload_n 2, 1) := by decide +kernel
theorem dX9_countHits_74 : decode cX9_countHits 74 = .ok (.invokevirtual 303, 3) := by decide +kernel
theorem dX9_countHits_77 : decode cX9_countHits 77 = .ok (.ifCond .eq 31, 3) := by decide +kernel
theorem dX9_countHits_80 : decode cX9_countHits 80 = .ok (.aload_n 1, 1) := by decide +kernel
theorem dX9_countHits_81 : decode cX9_countHits 81 = .ok (.getfield 297, 3) := by decide +kernel
theorem dX9_countHits_84 : decode cX9_countHits 84 = .ok (.iload_n 2, 1) := by decide +kernel
theorem dX9_countHits_85 : decode cX9_countHits 85 = .ok (.iaload, 1) := by decide +kernel
theorem dX9_countHits_86 : decode cX9_countHits 86 = .ok (.aload_n 0, 1) := by decide +kernel
theorem dX9_countHits_87 : decode cX9_countHits 87 = .ok (.getfield 28, 3) := by decide +kernel
theorem dX9_countHits_90 : decode cX9_countHits 90 = .ok (.getfield 120, 3) := by decide +kernel
theorem dX9_countHits_93 : decode cX9_countHits 93 = .ok (.iload_n 3, 1) := by decide +kernel
theorem dX9_countHits_94 : decode cX9_countHits 94 = .ok (.iaload, 1) := by decide +kernel
theorem dX9_countHits_95 : decode cX9_countHits 95 = .ok (.if_icmp .ne 13, 3) := by decide +kernel
theorem dX9_countHits_98 : decode cX9_countHits 98 = .ok (.aload_n 0, 1) := by decide +kernel
theorem dX9_countHits_99 : decode cX9_countHits 99 = .ok (.getfield 80, 3) := by decide +kernel
theorem dX9_countHits_102 : decode cX9_countHits 102 = .ok (.iload_n 3, 1) := by decide +kernel
theorem dX9_countHits_103 : decode cX9_countHits 103 = .ok (.dup2, 1) := by decide +kernel
theorem dX9_countHits_104 : decode cX9_countHits 104 = .ok (.iaload, 1) := by decide +kernel
theorem dX9_countHits_105 : decode cX9_countHits 105 = .ok (.iconst 1, 1) := by decide +kernel
theorem dX9_countHits_106 : decode cX9_countHits 106 = .ok (.iadd, 1) := by decide +kernel
theorem dX9_countHits_107 : decode cX9_countHits 107 = .ok (.iastore, 1) := by decide +kernel
theorem dX9_countHits_108 : decode cX9_countHits 108 = .ok (.iinc 3 1, 3) := by decide +kernel
theorem dX9_countHits_111 : decode cX9_countHits 111 = .ok (.goto (-50), 3) := by decide +kernel
theorem dX9_countHits_114 : decode cX9_countHits 114 = .ok (.iinc 2 1, 3) := by decide +kernel
theorem dX9_countHits_117 : decode cX9_countHits 117 = .ok (.goto (-78), 3) := by decide +kernel
theorem dX9_countHits_120 : decode cX9_countHits 120 = .ok (.return_, 1) := by decide +kernel
theorem ok_X9_countHits : okV yX9_countHits cX9_countHits 4 none 1 := ⟨mw_650, mw_8, mw_74, mw_651, by decide +kernel, by decide +kernel⟩
abbrev rm_X9_countHits : Room := { frames := 6, cells := 0, slots := 0, locals := 145 }
def b_X9_countHits_61 (K39 : St → Nat → Int32 → Prop) (K61 : St → Nat → Int32 → Int32 → Prop) (post : St → Prop) (σ : St) (i1 : Nat) (x2 : Int32) (x3 : Int32) : Prop := (((σ 5 0 0) ≤ x3 → (∀ v2 : Int32, v2 = x2 + 1 → (K39 σ i1 v2))) ∧ (¬ (σ 5 0 0) ≤ x3 → (w_X6_isNumber (fun r3 s3 => ((r3 = 0 → (∀ v5 : Int32, v5 = x3 + 1 → (K61 s3 i1 x2 v5))) ∧ (¬ r3 = 0 → (vp_in x2 24 ∧ (vp_in x3 12 ∧ (((¬ (s3 23 i1 x2.toNatClampNeg) = (s3 9 2 x3.toNatClampNeg) → (∀ v9 : Int32, v9 = x3 + 1 → (K61 s3 i1 x2 v9))) ∧ ((s3 23 i1 x2.toNatClampNeg) = (s3 9 2 x3.toNatClampNeg) → (vp_in x3 12 ∧ (vp_in x3 12 ∧ (∀ s12 : St, s12 = wr s3 2 0 x3.toNatClampNeg ((s3 2 0 x3.toNatClampNeg) + 1) → (∀ v13 : Int32, v13 = x3 + 1 → (K61 s12 i1 x2 v13))))))))))))) σ i1 x2)))
noncomputable def l_X9_countHits_61 (K39 : St → Nat → Int32 → Prop) (post : St → Prop) : Nat → St → Nat → Int32 → Int32 → Prop := fun n => Nat.rec (motive := fun _ => St → Nat → Int32 → Int32 → Prop) (fun _ _ _ _ => False) (fun _ ih => b_X9_countHits_61 K39 ih post) n
theorem L_X9_countHits_61 (E : EnvW p s m args meth c D cy regsC ad "RoofWar" cX9_countHits 4 none) (ha : Apart regsC ad) {post : St → Prop} {K39 : St → Nat → Int32 → Prop} (hk39 : ∀ (σ : St) (i1 : Nat) (x2 : Int32), i1 < 9 → K39 σ i1 x2 → ∀ (H : Heap) (locs : List Loc) (ls : Array Slot), va_P D CLS (wC cy ad σ) H → va_S (AC ad s.heap.size) s.heap H locs → lv_has ls 4 [(0, .ref (ad 0 0)), (1, .ref (ad 22 i1)), (2, .int x2)] → W p l e rm_X9_countHits s m args below meth c H locs 0 0 (MQ below (QV D cy (cellC cy ad) regsC ad s.heap.size post) args s 0 0 (AC ad s.heap.size)) (F0 m 39 ls [])) : ∀ (n : Nat), ∀ (σ : St) (i1 : Nat) (x2 : Int32) (x3 : Int32), i1 < 9 → l_X9_countHits_61 K39 post n σ i1 x2 x3 → ∀ (H : Heap) (locs : List Loc) (ls : Array Slot), va_P D CLS (wC cy ad σ) H → va_S (AC ad s.heap.size) s.heap H locs → lv_has ls 4 [(0, .ref (ad 0 0)), (1, .ref (ad 22 i1)), (2, .int x2), (3, .int x3)] → W p l e rm_X9_countHits s m args below meth c H locs 0 0 (MQ below (QV D cy (cellC cy ad) regsC ad s.heap.size post) args s 0 0 (AC ad s.heap.size)) (F0 m 61 ls []) := by
  obtain ⟨hx, hb, -⟩ := id E
  intro n
  induction n with
  | zero => intro σ i1 x2 x3 hi1 hw; exact hw.elim
  | succ n hk61 =>
    intro σ i1 x2 x3 hi1 hw H locs ls hP hS hl
    replace hw : b_X9_countHits_61 K39 (l_X9_countHits_61 K39 post n) post σ i1 x2 x3 := hw
    unfold b_X9_countHits_61 at hw
    refine lv_iload_n hx hb dX9_countHits_61 rfl (lv_at hl 3 rfl) ?_
    refine lv_aload_n hx hb dX9_countHits_62 rfl (lv_at hl 0 rfl) ?_
    refine fX9_1 E hP mw_324 dX9_countHits_63 ?_
    refine fX1_9 ((by decide : 0 < 3)) E hP mw_167 dX9_countHits_66 ?_
    refine lv_icmp_ge (tgt := 114) hx hb dX9_countHits_69 (by decide) (fun c1 => ?_) (fun c1 => ?_)
    · replace hw := hw.1 c1
      obtain ⟨v2, ev2⟩ : ∃ y : Int32, y = x2 + 1 := ⟨_, rfl⟩
      replace hw := hw v2 ev2
      refine lv_iinc (v := v2) (lv' := [(2, .int v2), (0, .ref (ad 0 0)), (1, .ref (ad 22 i1)), (3, .int x3)]) hx hb dX9_countHits_114 hl (k := 2) rfl (by rw [ev2]; rfl) (by decide) rfl (fun ls hl => ?_)
      refine lv_goto (tgt := 39) hx hb dX9_countHits_117 (by decide) ?_
      exact hk39 σ i1 v2 hi1 hw _ _ _ hP hS (lv_sub hl [1, 2, 0] rfl)
    · replace hw := hw.2 c1
      refine lv_aload_n hx hb dX9_countHits_72 rfl (lv_at hl 1 rfl) ?_
      refine lv_iload_n hx hb dX9_countHits_73 rfl (lv_at hl 2 rfl) ?_
      refine g_cVi (As := [.int x2]) (rest := []) E hl.1 (c_X6_isNumber l D cy ad ha hi1 hw _) ok_X6_isNumber mw_652 ⟨(Nat.le_of_ble_eq_true rfl), (Nat.le_of_ble_eq_true rfl)⟩ ⟨rfl, rfl⟩ (rC22 hi1) rfl rfl rfl rfl rfl (Nat.le_of_ble_eq_true rfl) ⟨Nat.zero_le _, Nat.zero_le _⟩ hP hS dX9_countHits_74 (fun r3 s3 hw H locs hP hS => ?_)
      obtain ⟨z3, hw⟩ := hw
      refine lv_if_eq (tgt := 108) hx hb dX9_countHits_77 (by decide) (fun c4 => ?_) (fun c4 => ?_)
      · replace hw := hw.1 c4
        obtain ⟨v5, ev5⟩ : ∃ y : Int32, y = x3 + 1 := ⟨_, rfl⟩
        replace hw := hw v5 ev5
        refine lv_iinc (v := v5) (lv' := [(3, .int v5), (0, .ref (ad 0 0)), (1, .ref (ad 22 i1)), (2, .int x2)]) hx hb dX9_countHits_108 hl (k := 3) rfl (by rw [ev5]; rfl) (by decide) rfl (fun ls hl => ?_)
        refine lv_goto (tgt := 61) hx hb dX9_countHits_111 (by decide) ?_
        exact hk61 s3 i1 x2 v5 hi1 hw _ _ _ hP hS (lv_sub hl [1, 2, 3, 0] rfl)
      · replace hw := hw.2 c4
        refine lv_aload_n hx hb dX9_countHits_80 rfl (lv_at hl 1 rfl) ?_
        refine fX6_2 hi1 E hP mw_292 dX9_countHits_81 ?_
        refine lv_iload_n hx hb dX9_countHits_84 rfl (lv_at hl 2 rfl) ?_
        obtain ⟨h6, hw⟩ := hw
        refine aC23 hi1 E hP h6 dX9_countHits_85 ?_
        refine lv_aload_n hx hb dX9_countHits_86 rfl (lv_at hl 0 rfl) ?_
        refine fX9_3 E hP mw_326 dX9_countHits_87 ?_
        refine fX1_4 ((by decide : 2 < 3)) E hP mw_157 dX9_countHits_90 ?_
        refine lv_iload_n hx hb dX9_countHits_93 rfl (lv_at hl 3 rfl) ?_
        obtain ⟨h7, hw⟩ := hw
        refine aC9 ((by decide : 2 < 3)) E hP h7 dX9_countHits_94 ?_
        refine lv_icmp_ne (tgt := 108) hx hb dX9_countHits_95 (by decide) (fun c8 => ?_) (fun c8 => ?_)
        · replace hw := hw.1 c8
          obtain ⟨v9, ev9⟩ : ∃ y : Int32, y = x3 + 1 := ⟨_, rfl⟩
          replace hw := hw v9 ev9
          refine lv_iinc (v := v9) (lv' := [(3, .int v9), (0, .ref (ad 0 0)), (1, .ref (ad 22 i1)), (2, .int x2)]) hx hb dX9_countHits_108 hl (k := 3) rfl (by rw [ev9]; rfl) (by decide) rfl (fun ls hl => ?_)
          refine lv_goto (tgt := 61) hx hb dX9_countHits_111 (by decide) ?_
          exact hk61 s3 i1 x2 v9 hi1 hw _ _ _ hP hS (lv_sub hl [1, 2, 3, 0] rfl)
        · replace hw := hw.2 c8
          refine lv_aload_n hx hb dX9_countHits_98 rfl (lv_at hl 0 rfl) ?_
          refine fX9_12 E hP mw_335 dX9_countHits_99 ?_
          refine lv_iload_n hx hb dX9_countHits_102 rfl (lv_at hl 3 rfl) ?_
          refine lv_dup2_11 hx hb dX9_countHits_103 rfl rfl ?_
          obtain ⟨h10, hw⟩ := hw
          refine aC2 E hP h10 dX9_countHits_104 ?_
          refine lv_iconst (v := 1) hx hb dX9_countHits_105 (by decide) ?_
          refine lv_iadd hx hb dX9_countHits_106 ?_
          obtain ⟨h11, hw⟩ := hw
          refine tC2 E ha h11 dX9_countHits_107 hP hS (fun s12 es12 H locs hP hS => ?_)
          replace hw := hw s12 es12
          obtain ⟨v13, ev13⟩ : ∃ y : Int32, y = x3 + 1 := ⟨_, rfl⟩
          replace hw := hw v13 ev13
          refine lv_iinc (v := v13) (lv' := [(3, .int v13), (0, .ref (ad 0 0)), (1, .ref (ad 22 i1)), (2, .int x2)]) hx hb dX9_countHits_108 hl (k := 3) rfl (by rw [ev13]; rfl) (by decide) rfl (fun ls hl => ?_)
          refine lv_goto (tgt := 61) hx hb dX9_countHits_111 (by decide) ?_
          exact hk61 s12 i1 x2 v13 hi1 hw _ _ _ hP hS (lv_sub hl [1, 2, 3, 0] rfl)
def b_X9_countHits_39 (K39 : St → Nat → Int32 → Prop) (post : St → Prop) (σ : St) (i1 : Nat) (x2 : Int32) : Prop := (((σ 22 i1 1) ≤ x2 → (post σ)) ∧ (¬ (σ 22 i1 1) ≤ x2 → (((x2 ≤ 0 → (∃ n3 : Nat, l_X9_countHits_61 K39 post n3 σ i1 x2 (0 : Int32))) ∧ (¬ x2 ≤ 0 → (w_X1_pass (fun s4 => ∃ n5 : Nat, l_X9_countHits_61 K39 post n5 s4 i1 x2 (0 : Int32)) σ 2 (1 : Int32)))))))
noncomputable def l_X9_countHits_39 (post : St → Prop) : Nat → St → Nat → Int32 → Prop := fun n => Nat.rec (motive := fun _ => St → Nat → Int32 → Prop) (fun _ _ _ => False) (fun _ ih => b_X9_countHits_39 ih post) n
theorem L_X9_countHits_39 (E : EnvW p s m args meth c D cy regsC ad "RoofWar" cX9_countHits 4 none) (ha : Apart regsC ad) {post : St → Prop} : ∀ (n : Nat), ∀ (σ : St) (i1 : Nat) (x2 : Int32), i1 < 9 → l_X9_countHits_39 post n σ i1 x2 → ∀ (H : Heap) (locs : List Loc) (ls : Array Slot), va_P D CLS (wC cy ad σ) H → va_S (AC ad s.heap.size) s.heap H locs → lv_has ls 4 [(0, .ref (ad 0 0)), (1, .ref (ad 22 i1)), (2, .int x2)] → W p l e rm_X9_countHits s m args below meth c H locs 0 0 (MQ below (QV D cy (cellC cy ad) regsC ad s.heap.size post) args s 0 0 (AC ad s.heap.size)) (F0 m 39 ls []) := by
  obtain ⟨hx, hb, -⟩ := id E
  intro n
  induction n with
  | zero => intro σ i1 x2 hi1 hw; exact hw.elim
  | succ n hk39 =>
    intro σ i1 x2 hi1 hw H locs ls hP hS hl
    replace hw : b_X9_countHits_39 (l_X9_countHits_39 post n) post σ i1 x2 := hw
    unfold b_X9_countHits_39 at hw
    refine lv_iload_n hx hb dX9_countHits_39 rfl (lv_at hl 2 rfl) ?_
    refine lv_aload_n hx hb dX9_countHits_40 rfl (lv_at hl 1 rfl) ?_
    refine fX6_1 hi1 E hP mw_290 dX9_countHits_41 ?_
    refine lv_icmp_ge (tgt := 120) hx hb dX9_countHits_44 (by decide) (fun c1 => ?_) (fun c1 => ?_)
    · replace hw := hw.1 c1
      exact g_vret E hw hP hS dX9_countHits_120
    · replace hw := hw.2 c1
      refine lv_iload_n hx hb dX9_countHits_47 rfl (lv_at hl 2 rfl) ?_
      refine lv_if_le (tgt := 59) hx hb dX9_countHits_48 (by decide) (fun c2 => ?_) (fun c2 => ?_)
      · replace hw := hw.1 c2
        refine lv_iconst (v := 0) hx hb dX9_countHits_59 (by decide) ?_
        refine lv_istore_n (lv' := [(3, .int 0), (0, .ref (ad 0 0)), (1, .ref (ad 22 i1)), (2, .int x2)]) hx hb dX9_countHits_60 rfl hl (by decide) rfl (fun ls hl => ?_)
        obtain ⟨n3, hw⟩ := hw
        exact L_X9_countHits_61 E ha hk39 n3 σ i1 x2 (0 : Int32) hi1 hw _ _ _ hP hS (lv_sub hl [1, 2, 3, 0] rfl)
      · replace hw := hw.2 c2
        refine lv_aload_n hx hb dX9_countHits_51 rfl (lv_at hl 0 rfl) ?_
        refine fX9_3 E hP mw_326 dX9_countHits_52 ?_
        refine lv_iconst (v := 1) hx hb dX9_countHits_55 (by decide) ?_
        refine g_cVv (As := [.int 1]) (rest := []) E hl.1 (c_X1_pass l D cy ad ha ((by decide : 2 < 3)) hw _) ok_X1_pass mw_477 ⟨(Nat.le_of_ble_eq_true rfl), (Nat.le_of_ble_eq_true rfl)⟩ ⟨rfl, rfl⟩ (rC5 (by decide : 2 < 3)) rfl rfl rfl rfl rfl (Nat.le_of_ble_eq_true rfl) ⟨Nat.zero_le _, Nat.zero_le _⟩ hP hS dX9_countHits_56 (fun s4 hw H locs hP hS => ?_)
        refine lv_iconst (v := 0) hx hb dX9_countHits_59 (by decide) ?_
        refine lv_istore_n (lv' := [(3, .int 0), (0, .ref (ad 0 0)), (1, .ref (ad 22 i1)), (2, .int x2)]) hx hb dX9_countHits_60 rfl hl (by decide) rfl (fun ls hl => ?_)
        obtain ⟨n5, hw⟩ := hw
        exact L_X9_countHits_61 E ha hk39 n5 s4 i1 x2 (0 : Int32) hi1 hw _ _ _ hP hS (lv_sub hl [1, 2, 3, 0] rfl)
def b_X9_countHits_2 (K2 : St → Nat → Int32 → Prop) (post : St → Prop) (σ : St) (i1 : Nat) (x2 : Int32) : Prop := (((σ 5 0 0) ≤ x2 → (w_X1_becomeLike (fun s2 => ∃ n3 : Nat, l_X9_countHits_39 post n3 s2 i1 (0 : Int32)) σ 2 0)) ∧ (¬ (σ 5 0 0) ≤ x2 → (vp_in x2 12 ∧ (∀ s5 : St, s5 = wr σ 2 0 x2.toNatClampNeg 0 → (∀ v6 : Int32, v6 = x2 + 1 → (K2 s5 i1 v6))))))
noncomputable def l_X9_countHits_2 (post : St → Prop) : Nat → St → Nat → Int32 → Prop := fun n => Nat.rec (motive := fun _ => St → Nat → Int32 → Prop) (fun _ _ _ => False) (fun _ ih => b_X9_countHits_2 ih post) n
theorem L_X9_countHits_2 (E : EnvW p s m args meth c D cy regsC ad "RoofWar" cX9_countHits 4 none) (ha : Apart regsC ad) {post : St → Prop} : ∀ (n : Nat), ∀ (σ : St) (i1 : Nat) (x2 : Int32), i1 < 9 → l_X9_countHits_2 post n σ i1 x2 → ∀ (H : Heap) (locs : List Loc) (ls : Array Slot), va_P D CLS (wC cy ad σ) H → va_S (AC ad s.heap.size) s.heap H locs → lv_has ls 4 [(0, .ref (ad 0 0)), (1, .ref (ad 22 i1)), (2, .int x2)] → W p l e rm_X9_countHits s m args below meth c H locs 0 0 (MQ below (QV D cy (cellC cy ad) regsC ad s.heap.size post) args s 0 0 (AC ad s.heap.size)) (F0 m 2 ls []) := by
  obtain ⟨hx, hb, -⟩ := id E
  intro n
  induction n with
  | zero => intro σ i1 x2 hi1 hw; exact hw.elim
  | succ n hk2 =>
    intro σ i1 x2 hi1 hw H locs ls hP hS hl
    replace hw : b_X9_countHits_2 (l_X9_countHits_2 post n) post σ i1 x2 := hw
    unfold b_X9_countHits_2 at hw
    refine lv_iload_n hx hb dX9_countHits_2 rfl (lv_at hl 2 rfl) ?_
    refine lv_aload_n hx hb dX9_countHits_3 rfl (lv_at hl 0 rfl) ?_
    refine fX9_1 E hP mw_324 dX9_countHits_4 ?_
    refine fX1_9 ((by decide : 0 < 3)) E hP mw_167 dX9_countHits_7 ?_
    refine lv_icmp_ge (tgt := 26) hx hb dX9_countHits_10 (by decide) (fun c1 => ?_) (fun c1 => ?_)
    · replace hw := hw.1 c1
      refine lv_aload_n hx hb dX9_countHits_26 rfl (lv_at hl 0 rfl) ?_
      refine fX9_3 E hP mw_326 dX9_countHits_27 ?_
      refine lv_aload_n hx hb dX9_countHits_30 rfl (lv_at hl 0 rfl) ?_
      refine fX9_1 E hP mw_324 dX9_countHits_31 ?_
      refine g_cVv (As := [.ref (ad 5 0)]) (rest := []) E hl.1 (c_X1_becomeLike l D cy ad ha ((by decide : 2 < 3)) ((by decide : 0 < 3)) hw _) ok_X1_becomeLike mw_617 ⟨(Nat.le_of_ble_eq_true rfl), (Nat.le_of_ble_eq_true rfl)⟩ ⟨rfl, rfl⟩ (rC5 (by decide : 2 < 3)) rfl rfl rfl rfl rfl (Nat.le_of_ble_eq_true rfl) ⟨Nat.zero_le _, Nat.zero_le _⟩ hP hS dX9_countHits_34 (fun s2 hw H locs hP hS => ?_)
      refine lv_iconst (v := 0) hx hb dX9_countHits_37 (by decide) ?_
      refine lv_istore_n (lv' := [(2, .int 0), (0, .ref (ad 0 0)), (1, .ref (ad 22 i1))]) hx hb dX9_countHits_38 rfl hl (by decide) rfl (fun ls hl => ?_)
      obtain ⟨n3, hw⟩ := hw
      exact L_X9_countHits_39 E ha n3 s2 i1 (0 : Int32) hi1 hw _ _ _ hP hS (lv_sub hl [1, 2, 0] rfl)
    · replace hw := hw.2 c1
      refine lv_aload_n hx hb dX9_countHits_13 rfl (lv_at hl 0 rfl) ?_
      refine fX9_12 E hP mw_335 dX9_countHits_14 ?_
      refine lv_iload_n hx hb dX9_countHits_17 rfl (lv_at hl 2 rfl) ?_
      refine lv_iconst (v := 0) hx hb dX9_countHits_18 (by decide) ?_
      obtain ⟨h4, hw⟩ := hw
      refine tC2 E ha h4 dX9_countHits_19 hP hS (fun s5 es5 H locs hP hS => ?_)
      replace hw := hw s5 es5
      obtain ⟨v6, ev6⟩ : ∃ y : Int32, y = x2 + 1 := ⟨_, rfl⟩
      replace hw := hw v6 ev6
      refine lv_iinc (v := v6) (lv' := [(2, .int v6), (0, .ref (ad 0 0)), (1, .ref (ad 22 i1))]) hx hb dX9_countHits_20 hl (k := 2) rfl (by rw [ev6]; rfl) (by decide) rfl (fun ls hl => ?_)
      refine lv_goto (tgt := 2) hx hb dX9_countHits_23 (by decide) ?_
      exact hk2 s5 i1 v6 hi1 hw _ _ _ hP hS (lv_sub hl [1, 2, 0] rfl)
def w_X9_countHits (post : St → Prop) (σ : St) (i1 : Nat) : Prop := ∃ n1 : Nat, l_X9_countHits_2 post n1 σ i1 (0 : Int32)
theorem B_X9_countHits_0 (E : EnvW p s m args meth c D cy regsC ad "RoofWar" cX9_countHits 4 none) (ha : Apart regsC ad) {post : St → Prop} {σ : St} {i1 : Nat} (hi1 : i1 < 9) (hw : w_X9_countHits post σ i1) {H : Heap} {locs : List Loc} {ls : Array Slot} (hP : va_P D CLS (wC cy ad σ) H) (hS : va_S (AC ad s.heap.size) s.heap H locs) (hl : lv_has ls 4 [(0, .ref (ad 0 0)), (1, .ref (ad 22 i1))]) : W p l e rm_X9_countHits s m args below meth c H locs 0 0 (MQ below (QV D cy (cellC cy ad) regsC ad s.heap.size post) args s 0 0 (AC ad s.heap.size)) (F0 m 0 ls []) := by
  obtain ⟨hx, hb, -⟩ := id E
  unfold w_X9_countHits at hw
  refine lv_iconst (v := 0) hx hb dX9_countHits_0 (by decide) ?_
  refine lv_istore_n (lv' := [(2, .int 0), (0, .ref (ad 0 0)), (1, .ref (ad 22 i1))]) hx hb dX9_countHits_1 rfl hl (by decide) rfl (fun ls hl => ?_)
  obtain ⟨n1, hw⟩ := hw
  exact L_X9_countHits_2 E ha n1 σ i1 (0 : Int32) hi1 hw _ _ _ hP hS (lv_sub hl [1, 2, 0] rfl)
theorem c_X9_countHits (l : Launch) (D : va_G) (cy : Nat → ClassId) (ad : Nat → Nat → Nat) (ha : Apart regsC ad) {post : St → Prop} {σ : St} {i1 : Nat} (hi1 : i1 < 9) (hw : w_X9_countHits post σ i1) (sz : Nat) : MetV l yX9_countHits cX9_countHits 4 rm_X9_countHits [.ref (ad 0 0), .ref (ad 22 i1)] D cy (cellC cy ad) regsC ad σ sz post :=
  Met_inV ok_X9_countHits.2.2.2.2.2 (Nat.le_of_ble_eq_true rfl) (fun p e s m below meth c ls E hP hl => B_X9_countHits_0 E ha hi1 hw hP va_S.rf hl)
-- RoofWar.like(II)I
theorem dX9_like_0 : decode cX9_like 0 = .ok (.iload_n 1, 1) := by decide +kernel
theorem dX9_like_1 : decode cX9_like 1 = .ok (.invokestatic 238, 3) := by decide +kernel
theorem dX9_like_4 : decode cX9_like 4 = .ok (.ifCond .eq 12, 3) := by decide +kernel
theorem dX9_like_7 : decode cX9_like 7 = .ok (.iload_n 2, 1) := by decide +kernel
theorem dX9_like_8 : decode cX9_like 8 = .ok (.iconst 0, 1) := by decide +kernel
theorem dX9_like_9 : decode cX9_like 9 = .ok (.iconst 1, 1) := by decide +kernel
theorem dX9_like_10 : decode cX9_like 10 = .ok (.invokestatic 87, 3) := by decide +kernel
theorem dX9_like_13 : decode cX9_like 13 = .ok (.ifCond .ne 6, 3) := by decide +kernel
theorem dX9_like_16 : decode cX9_like 16 = .ok (.ldc 94, 2) := by decide +kernel
theorem dX9_like_18 : decode cX9_like 18 = .ok (.ireturn, 1) := by decide +kernel
theorem dX9_like_19 : decode cX9_like 19 = .ok (.aload_n 0, 1) := by decide +kernel
theorem dX9_like_20 : decode cX9_like 20 = .ok (.getfield 60, 3) := by decide +kernel
theorem dX9_like_23 : decode cX9_like 23 = .ok (.iload_n 1, 1) := by decide +kernel
theorem dX9_like_24 : decode cX9_like 24 = .ok (.aaload, 1) := by decide +kernel
theorem dX9_like_25 : decode cX9_like 25 = .ok (.astore_n 3, 1) := by decide +kernel
theorem dX9_like_26 : decode cX9_like 26 = .ok (.aload_n 3, 1) := by decide +kernel
theorem dX9_like_27 : decode cX9_like 27 = .ok (.invokevirtual 241, 3) := by decide +kernel
theorem dX9_like_30 : decode cX9_like 30 = .ok (.ifCond .eq 6, 3) := by decide +kernel
theorem dX9_like_33 : decode cX9_like 33 = .ok (.ldc 245, 2) := by decide +kernel
theorem dX9_like_35 : decode cX9_like 35 = .ok (.ireturn, 1) := by decide +kernel
theorem dX9_like_36 : decode cX9_like 36 = .ok (.aload_n 0, 1) := by decide +kernel
theorem dX9_like_37 : decode cX9_like 37 = .ok (.getfield 21, 3) := by decide +kernel
theorem dX9_like_40 : decode cX9_like 40 = .ok (.getfield 100, 3) := by decide +kernel
theorem dX9_like_43 : decode cX9_like 43 = .ok (.ifCond .ne 6, 3) := by decide +kernel
theorem dX9_like_46 : decode cX9_like 46 = .ok (.ldc 98, 2) := by decide +kernel
theorem dX9_like_48 : decode cX9_like 48 = .ok (.ireturn, 1) := by decide +kernel
theorem dX9_like_49 : decode cX9_like 49 = .ok (.aload_n 0, 1) := by decide +kernel
theorem dX9_like_50 : decode cX9_like 50 = .ok (.aload_n 3, 1) := by decide +kernel
theorem dX9_like_51 : decode cX9_like 51 = .ok (.invokevirtual 246, 3) := by decide +kernel
theorem dX9_like_54 : decode cX9_like 54 = .ok (.iconst 0, 1) := by decide +kernel
theorem dX9_like_55 : decode cX9_like 55 = .ok (.istore 4, 2) := by decide +kernel
theorem dX9_like_57 : decode cX9_like 57 = .ok (.iconst 1, 1) := by decide +kernel
theorem dX9_like_58 : decode cX9_like 58 = .ok (.istore 5, 2) := by decide +kernel
theorem dX9_like_60 : decode cX9_like 60 = .ok (.iload 5, 2) := by decide +kernel
theorem dX9_like_62 : decode cX9_like 62 = .ok (.aload_n 0, 1) := by decide +kernel
theorem dX9_like_63 : decode cX9_like 63 = .ok (.getfield 21, 3) := by decide +kernel
theorem dX9_like_66 : decode cX9_like 66 = .ok (.getfield 100, 3) := by decide +kernel
theorem dX9_like_69 : decode cX9_like 69 = .ok (.if_icmp .ge 30, 3) := by decide +kernel
theorem dX9_like_72 : decode cX9_like 72 = .ok (.aload_n 0, 1) := by decide +kernel
theorem dX9_like_73 : decode cX9_like 73 = .ok (.getfield 80, 3) := by decide +kernel
theorem dX9_like_76 : decode cX9_like 76 = .ok (.iload 5, 2) := by decide +kernel
theorem dX9_like_78 : decode cX9_like 78 = .ok (.iaload, 1) := by decide +kernel
theorem dX9_like_79 : decode cX9_like 79 = .ok (.aload_n 0, 1) := by decide +kernel
theorem dX9_like_80 : decode cX9_like 80 = .ok (.getfield 80, 3) := by decide +kernel
theorem dX9_like_83 : decode cX9_like 83 = .ok (.iload 4, 2) := by decide +kernel
theorem dX9_like_85 : decode cX9_like 85 = .ok (.iaload, 1) := by decide +kernel
theorem dX9_like_86 : decode cX9_like 86 = .ok (.if_icmp .le 7, 3) := by decide +kernel
theorem dX9_like_89 : decode cX9_like 89 = .ok (.iload 5, 2) := by decide +kernel
theorem dX9_like_91 : decode cX9_like 91 = .ok (.istore 4, 2) := by decide +kernel
theorem dX9_like_93 : decode cX9_like 93 = .ok (.iinc 5 1, 3) := by decide +kernel
theorem dX9_like_96 : decode cX9_like 96 = .ok (.goto (-36), 3) := by decide +kernel
theorem dX9_like_99 : decode cX9_like 99 = .ok (.iload_n 2, 1) := by decide +kernel
theorem dX9_like_100 : decode cX9_like 100 = .ok (.ifCond .ne 8, 3) := by decide +kernel
theorem dX9_like_103 : decode cX9_like 103 = .ok (.iload 4, 2) := by decide +kernel
theorem dX9_like_105 : decode cX9_like 105 = .ok (.goto 10, 3) := by decide +kernel
theorem dX9_like_108 : decode cX9_like 108 = .ok (.aload_n 0, 1) := by decide +kernel
theorem dX9_like_109 : decode cX9_like 109 = .ok (.getfield 80, 3) := by decide +kernel
theorem dX9_like_112 : decode cX9_like 112 = .ok (.iload 4, 2) := by decide +kernel
theorem dX9_like_114 : decode cX9_like 114 = .ok (.iaload, 1) := by decide +kernel
theorem dX9_like_115 : decode cX9_like 115 = .ok (.ireturn, 1) := by decide +kernel
theorem ok_X9_like : okV yX9_like cX9_like 6 (some .int) 2 := ⟨mw_638, mw_639, mw_74, mw_640, by decide +kernel, by decide +kernel⟩
abbrev rm_X9_like : Room := { frames := 7, cells := 0, slots := 0, locals := 168 }
def b_X9_like_60 (K60 : St → Int32 → Int32 → Int32 → Prop) (post : Int32 → St → Prop) (σ : St) (x2 : Int32) (x4 : Int32) (x5 : Int32) : Prop := (((σ 5 0 0) ≤ x5 → (((¬ x2 = 0 → (vp_in x4 12 ∧ (post (σ 2 0 x4.toNatClampNeg) σ))) ∧ (x2 = 0 → (post x4 σ))))) ∧ (¬ (σ 5 0 0) ≤ x5 → (vp_in x5 12 ∧ (vp_in x4 12 ∧ ((((σ 2 0 x5.toNatClampNeg) ≤ (σ 2 0 x4.toNatClampNeg) → (∀ v7 : Int32, v7 = x5 + 1 → (K60 σ x2 x4 v7))) ∧ (¬ (σ 2 0 x5.toNatClampNeg) ≤ (σ 2 0 x4.toNatClampNeg) → (∀ v8 : Int32, v8 = x5 + 1 → (K60 σ x2 x5 v8)))))))))
noncomputable def l_X9_like_60 (post : Int32 → St → Prop) : Nat → St → Int32 → Int32 → Int32 → Prop := fun n => Nat.rec (motive := fun _ => St → Int32 → Int32 → Int32 → Prop) (fun _ _ _ _ => False) (fun _ ih => b_X9_like_60 ih post) n
theorem L_X9_like_60 (E : EnvW p s m args meth c D cy regsC ad "RoofWar" cX9_like 6 (some .int)) (ha : Apart regsC ad) {post : Int32 → St → Prop} : ∀ (n : Nat), ∀ (σ : St) (x2 : Int32) (x4 : Int32) (x5 : Int32), l_X9_like_60 post n σ x2 x4 x5 → ∀ (H : Heap) (locs : List Loc) (ls : Array Slot), va_P D CLS (wC cy ad σ) H → va_S (AC ad s.heap.size) s.heap H locs → lv_has ls 6 [(0, .ref (ad 0 0)), (2, .int x2), (4, .int x4), (5, .int x5)] → W p l e rm_X9_like s m args below meth c H locs 0 0 (MQ below (QI D cy (cellC cy ad) regsC ad s.heap.size post) args s 0 0 (AC ad s.heap.size)) (F0 m 60 ls []) := by
  obtain ⟨hx, hb, -⟩ := id E
  intro n
  induction n with
  | zero => intro σ x2 x4 x5 hw; exact hw.elim
  | succ n hk60 =>
    intro σ x2 x4 x5 hw H locs ls hP hS hl
    replace hw : b_X9_like_60 (l_X9_like_60 post n) post σ x2 x4 x5 := hw
    unfold b_X9_like_60 at hw
    refine lv_iload hx hb dX9_like_60 (lv_at hl 3 rfl) ?_
    refine lv_aload_n hx hb dX9_like_62 rfl (lv_at hl 0 rfl) ?_
    refine fX9_1 E hP mw_324 dX9_like_63 ?_
    refine fX1_9 ((by decide : 0 < 3)) E hP mw_167 dX9_like_66 ?_
    refine lv_icmp_ge (tgt := 99) hx hb dX9_like_69 (by decide) (fun c1 => ?_) (fun c1 => ?_)
    · replace hw := hw.1 c1
      refine lv_iload_n hx hb dX9_like_99 rfl (lv_at hl 1 rfl) ?_
      refine lv_if_ne (tgt := 108) hx hb dX9_like_100 (by decide) (fun c2 => ?_) (fun c2 => ?_)
      · replace hw := hw.1 c2
        refine lv_aload_n hx hb dX9_like_108 rfl (lv_at hl 0 rfl) ?_
        refine fX9_12 E hP mw_335 dX9_like_109 ?_
        refine lv_iload hx hb dX9_like_112 (lv_at hl 2 rfl) ?_
        obtain ⟨h3, hw⟩ := hw
        refine aC2 E hP h3 dX9_like_114 ?_
        exact g_iret E hw hP hS dX9_like_115
      · replace hw := hw.2 c2
        refine lv_iload hx hb dX9_like_103 (lv_at hl 2 rfl) ?_
        refine lv_goto (tgt := 115) hx hb dX9_like_105 (by decide) ?_
        exact g_iret E hw hP hS dX9_like_115
    · replace hw := hw.2 c1
      refine lv_aload_n hx hb dX9_like_72 rfl (lv_at hl 0 rfl) ?_
      refine fX9_12 E hP mw_335 dX9_like_73 ?_
      refine lv_iload hx hb dX9_like_76 (lv_at hl 3 rfl) ?_
      obtain ⟨h4, hw⟩ := hw
      refine aC2 E hP h4 dX9_like_78 ?_
      refine lv_aload_n hx hb dX9_like_79 rfl (lv_at hl 0 rfl) ?_
      refine fX9_12 E hP mw_335 dX9_like_80 ?_
      refine lv_iload hx hb dX9_like_83 (lv_at hl 2 rfl) ?_
      obtain ⟨h5, hw⟩ := hw
      refine aC2 E hP h5 dX9_like_85 ?_
      refine lv_icmp_le (tgt := 93) hx hb dX9_like_86 (by decide) (fun c6 => ?_) (fun c6 => ?_)
      · replace hw := hw.1 c6
        obtain ⟨v7, ev7⟩ : ∃ y : Int32, y = x5 + 1 := ⟨_, rfl⟩
        replace hw := hw v7 ev7
        refine lv_iinc (v := v7) (lv' := [(5, .int v7), (0, .ref (ad 0 0)), (2, .int x2), (4, .int x4)]) hx hb dX9_like_93 hl (k := 3) rfl (by rw [ev7]; rfl) (by decide) rfl (fun ls hl => ?_)
        refine lv_goto (tgt := 60) hx hb dX9_like_96 (by decide) ?_
        exact hk60 σ x2 x4 v7 hw _ _ _ hP hS (lv_sub hl [1, 2, 3, 0] rfl)
      · replace hw := hw.2 c6
        refine lv_iload hx hb dX9_like_89 (lv_at hl 3 rfl) ?_
        refine lv_istore (lv' := [(4, .int x5), (0, .ref (ad 0 0)), (2, .int x2), (5, .int x5)]) hx hb dX9_like_91 hl (by decide) rfl (fun ls hl => ?_)
        obtain ⟨v8, ev8⟩ : ∃ y : Int32, y = x5 + 1 := ⟨_, rfl⟩
        replace hw := hw v8 ev8
        refine lv_iinc (v := v8) (lv' := [(5, .int v8), (4, .int x5), (0, .ref (ad 0 0)), (2, .int x2)]) hx hb dX9_like_93 hl (k := 3) rfl (by rw [ev8]; rfl) (by decide) rfl (fun ls hl => ?_)
        refine lv_goto (tgt := 60) hx hb dX9_like_96 (by decide) ?_
        exact hk60 σ x2 x5 v8 hw _ _ _ hP hS (lv_sub hl [2, 3, 1, 0] rfl)
def w_X9_like (post : Int32 → St → Prop) (σ : St) (x1 : Int32) (x2 : Int32) : Prop := w_X9_isSheet (fun r1 s1 => ((r1 = 0 → (post ((-1000000001)) s1)) ∧ (¬ r1 = 0 → (w_X9_within (fun r3 s3 => ((¬ r3 = 0 → (vp_in x1 4 ∧ (w_X6_isMissing (fun r6 s6 => ((r6 = 0 → (((¬ (s6 5 0 0) = 0 → (w_X9_countHits (fun s9 => ∃ n10 : Nat, l_X9_like_60 post n10 s9 x2 (0 : Int32) (1 : Int32)) s6 x1.toNatClampNeg)) ∧ ((s6 5 0 0) = 0 → (post ((-1000000005)) s6))))) ∧ (¬ r6 = 0 → (post ((-1000000011)) s6)))) s3 x1.toNatClampNeg))) ∧ (r3 = 0 → (post ((-1000000001)) s3)))) s1 x2 (0 : Int32) (1 : Int32))))) σ x1
theorem B_X9_like_0 (E : EnvW p s m args meth c D cy regsC ad "RoofWar" cX9_like 6 (some .int)) (ha : Apart regsC ad) {post : Int32 → St → Prop} {σ : St} {x1 : Int32} {x2 : Int32} (hw : w_X9_like post σ x1 x2) {H : Heap} {locs : List Loc} {ls : Array Slot} (hP : va_P D CLS (wC cy ad σ) H) (hS : va_S (AC ad s.heap.size) s.heap H locs) (hl : lv_has ls 6 [(0, .ref (ad 0 0)), (1, .int x1), (2, .int x2)]) : W p l e rm_X9_like s m args below meth c H locs 0 0 (MQ below (QI D cy (cellC cy ad) regsC ad s.heap.size post) args s 0 0 (AC ad s.heap.size)) (F0 m 0 ls []) := by
  obtain ⟨hx, hb, -⟩ := id E
  unfold w_X9_like at hw
  refine lv_iload_n hx hb dX9_like_0 rfl (lv_at hl 1 rfl) ?_
  refine g_cSi (As := [.int x1]) (rest := []) E hl.1 (c_X9_isSheet l D cy ad ha hw _) ok_X9_isSheet mw_641 ⟨(Nat.le_of_ble_eq_true rfl), (Nat.le_of_ble_eq_true rfl)⟩ ⟨rfl, rfl⟩ rfl rfl (Nat.le_of_ble_eq_true rfl) ⟨Nat.zero_le _, Nat.zero_le _⟩ hP hS dX9_like_1 (fun r1 s1 hw H locs hP hS => ?_)
  obtain ⟨z1, hw⟩ := hw
  refine lv_if_eq (tgt := 16) hx hb dX9_like_4 (by decide) (fun c2 => ?_) (fun c2 => ?_)
  · replace hw := hw.1 c2
    refine g_ldc (v := -1000000001) E mw_376 dX9_like_16 ?_
    exact g_iret E hw hP hS dX9_like_18
  · replace hw := hw.2 c2
    refine lv_iload_n hx hb dX9_like_7 rfl (lv_at hl 2 rfl) ?_
    refine lv_iconst (v := 0) hx hb dX9_like_8 (by decide) ?_
    refine lv_iconst (v := 1) hx hb dX9_like_9 (by decide) ?_
    refine g_cSi (As := [.int x2, .int 0, .int 1]) (rest := []) E hl.1 (c_X9_within l D cy ad ha hw _) ok_X9_within mw_370 ⟨(Nat.le_of_ble_eq_true rfl), (Nat.le_of_ble_eq_true rfl)⟩ ⟨rfl, rfl⟩ rfl rfl (Nat.le_of_ble_eq_true rfl) ⟨Nat.zero_le _, Nat.zero_le _⟩ hP hS dX9_like_10 (fun r3 s3 hw H locs hP hS => ?_)
    obtain ⟨z3, hw⟩ := hw
    refine lv_if_ne (tgt := 19) hx hb dX9_like_13 (by decide) (fun c4 => ?_) (fun c4 => ?_)
    · replace hw := hw.1 c4
      refine lv_aload_n hx hb dX9_like_19 rfl (lv_at hl 0 rfl) ?_
      refine fX9_8 E hP mw_331 dX9_like_20 ?_
      refine lv_iload_n hx hb dX9_like_23 rfl (lv_at hl 1 rfl) ?_
      obtain ⟨h5, hw⟩ := hw
      refine aC3 E hP h5 dX9_like_24 ?_
      refine lv_astore_n (lv' := [(3, .ref (ad 22 x1.toNatClampNeg)), (0, .ref (ad 0 0)), (1, .int x1), (2, .int x2)]) hx hb dX9_like_25 rfl hl (by decide) rfl (fun ls hl => ?_)
      refine lv_aload_n hx hb dX9_like_26 rfl (lv_at hl 0 rfl) ?_
      refine g_cVi (As := []) (rest := []) E hl.1 (c_X6_isMissing l D cy ad ha ((Nat.lt_of_lt_of_le (vp_lt h5) (by decide))) hw _) ok_X6_isMissing mw_644 ⟨(Nat.le_of_ble_eq_true rfl), (Nat.le_of_ble_eq_true rfl)⟩ ⟨rfl, rfl⟩ (rC22 (Nat.lt_of_lt_of_le (vp_lt h5) (by decide))) rfl rfl rfl rfl rfl (Nat.le_of_ble_eq_true rfl) ⟨Nat.zero_le _, Nat.zero_le _⟩ hP hS dX9_like_27 (fun r6 s6 hw H locs hP hS => ?_)
      obtain ⟨z6, hw⟩ := hw
      refine lv_if_eq (tgt := 36) hx hb dX9_like_30 (by decide) (fun c7 => ?_) (fun c7 => ?_)
      · replace hw := hw.1 c7
        refine lv_aload_n hx hb dX9_like_36 rfl (lv_at hl 1 rfl) ?_
        refine fX9_1 E hP mw_324 dX9_like_37 ?_
        refine fX1_9 ((by decide : 0 < 3)) E hP mw_167 dX9_like_40 ?_
        refine lv_if_ne (tgt := 49) hx hb dX9_like_43 (by decide) (fun c8 => ?_) (fun c8 => ?_)
        · replace hw := hw.1 c8
          refine lv_aload_n hx hb dX9_like_49 rfl (lv_at hl 1 rfl) ?_
          refine lv_aload_n hx hb dX9_like_50 rfl (lv_at hl 0 rfl) ?_
          refine g_cVv (As := [.ref (ad 22 x1.toNatClampNeg)]) (rest := []) E hl.1 (c_X9_countHits l D cy ad ha ((Nat.lt_of_lt_of_le (vp_lt h5) (by decide))) hw _) ok_X9_countHits mw_649 ⟨(Nat.le_of_ble_eq_true rfl), (Nat.le_of_ble_eq_true rfl)⟩ ⟨rfl, rfl⟩ rC0 rfl rfl rfl rfl rfl (Nat.le_of_ble_eq_true rfl) ⟨Nat.zero_le _, Nat.zero_le _⟩ hP hS dX9_like_51 (fun s9 hw H locs hP hS => ?_)
          refine lv_iconst (v := 0) hx hb dX9_like_54 (by decide) ?_
          refine lv_istore (lv' := [(4, .int 0), (3, .ref (ad 22 x1.toNatClampNeg)), (0, .ref (ad 0 0)), (1, .int x1), (2, .int x2)]) hx hb dX9_like_55 hl (by decide) rfl (fun ls hl => ?_)
          refine lv_iconst (v := 1) hx hb dX9_like_57 (by decide) ?_
          refine lv_istore (lv' := [(5, .int 1), (4, .int 0), (3, .ref (ad 22 x1.toNatClampNeg)), (0, .ref (ad 0 0)), (1, .int x1), (2, .int x2)]) hx hb dX9_like_58 hl (by decide) rfl (fun ls hl => ?_)
          obtain ⟨n10, hw⟩ := hw
          exact L_X9_like_60 E ha n10 s9 x2 (0 : Int32) (1 : Int32) hw _ _ _ hP hS (lv_sub hl [3, 5, 1, 0] rfl)
        · replace hw := hw.2 c8
          refine g_ldc (v := -1000000005) E mw_377 dX9_like_46 ?_
          exact g_iret E hw hP hS dX9_like_48
      · replace hw := hw.2 c7
        refine g_ldc (v := -1000000011) E mw_648 dX9_like_33 ?_
        exact g_iret E hw hP hS dX9_like_35
    · replace hw := hw.2 c4
      refine g_ldc (v := -1000000001) E mw_376 dX9_like_16 ?_
      exact g_iret E hw hP hS dX9_like_18
theorem c_X9_like (l : Launch) (D : va_G) (cy : Nat → ClassId) (ad : Nat → Nat → Nat) (ha : Apart regsC ad) {post : Int32 → St → Prop} {σ : St} {x1 : Int32} {x2 : Int32} (hw : w_X9_like post σ x1 x2) (sz : Nat) : MetI l yX9_like cX9_like 6 .int rm_X9_like [.ref (ad 0 0), .int x1, .int x2] D cy (cellC cy ad) regsC ad σ sz post :=
  Met_inI ok_X9_like.2.2.2.2.2 (Nat.le_of_ble_eq_true rfl) (fun p e s m below meth c ls E hP hl => B_X9_like_0 E ha hw hP va_S.rf hl)
-- RoofWar.fee()I
theorem dX9_fee_0 : decode cX9_fee 0 = .ok (.aload_n 0, 1) := by decide +kernel
theorem dX9_fee_1 : decode cX9_fee 1 = .ok (.getfield 10, 3) := by decide +kernel
theorem dX9_fee_4 : decode cX9_fee 4 = .ok (.iconst 1, 1) := by decide +kernel
theorem dX9_fee_5 : decode cX9_fee 5 = .ok (.aload_n 0, 1) := by decide +kernel
theorem dX9_fee_6 : decode cX9_fee 6 = .ok (.getfield 21, 3) := by decide +kernel
theorem dX9_fee_9 : decode cX9_fee 9 = .ok (.getfield 250, 3) := by decide +kernel
theorem dX9_fee_12 : decode cX9_fee 12 = .ok (.invokevirtual 253, 3) := by decide +kernel
theorem dX9_fee_15 : decode cX9_fee 15 = .ok (.astore_n 1, 1) := by decide +kernel
theorem dX9_fee_16 : decode cX9_fee 16 = .ok (.aload_n 1, 1) := by decide +kernel
theorem dX9_fee_17 : decode cX9_fee 17 = .ok (.ifnonnull 13, 3) := by decide +kernel
theorem dX9_fee_20 : decode cX9_fee 20 = .ok (.aload_n 0, 1) := by decide +kernel
theorem dX9_fee_21 : decode cX9_fee 21 = .ok (.getfield 21, 3) := by decide +kernel
theorem dX9_fee_24 : decode cX9_fee 24 = .ok (.getfield 174, 3) := by decide +kernel
theorem dX9_fee_27 : decode cX9_fee 27 = .ok (.goto 26, 3) := by decide +kernel
theorem dX9_fee_30 : decode cX9_fee 30 = .ok (.aload_n 0, 1) := by decide +kernel
theorem dX9_fee_31 : decode cX9_fee 31 = .ok (.getfield 10, 3) := by decide +kernel
theorem dX9_fee_34 : decode cX9_fee 34 = .ok (.aload_n 1, 1) := by decide +kernel
theorem dX9_fee_35 : decode cX9_fee 35 = .ok (.aload_n 0, 1) := by decide +kernel
theorem dX9_fee_36 : decode cX9_fee 36 = .ok (.getfield 21, 3) := by decide +kernel
theorem dX9_fee_39 : decode cX9_fee 39 = .ok (.getfield 174, 3) := by decide +kernel
theorem dX9_fee_42 : decode cX9_fee 42 = .ok (.aload_n 0, 1) := by decide +kernel
theorem dX9_fee_43 : decode cX9_fee 43 = .ok (.getfield 21, 3) := by decide +kernel
theorem dX9_fee_46 : decode cX9_fee 46 = .ok (.getfield 187, 3) := by decide +kernel
theorem dX9_fee_49 : decode cX9_fee 49 = .ok (.iconst 0, 1) := by decide +kernel
theorem dX9_fee_50 : decode cX9_fee 50 = .ok (.invokevirtual 257, 3) := by decide +kernel
theorem dX9_fee_53 : decode cX9_fee 53 = .ok (.ireturn, 1) := by decide +kernel
theorem ok_X9_fee : okV yX9_fee cX9_fee 2 (some .int) 0 := ⟨mw_658, mw_659, mw_74, mw_660, by decide +kernel, by decide +kernel⟩
abbrev rm_X9_fee : Room := { frames := 2, cells := 0, slots := 0, locals := 50 }
def w_X9_fee (post : Int32 → St → Prop) (σ : St) : Prop := w_X4_counting (fun o1 s1 => ((o1 = none → (post (s1 5 0 2) s1)) ∧ (∀ j1 : Nat, o1 = some j1 → (w_X4_workOut (fun r2 s2 => post r2 s2) s1 j1 (s1 5 0 2) (s1 5 0 4) (0 : Int32))))) σ (1 : Int32) (σ 5 0 7)
theorem B_X9_fee_0 (E : EnvW p s m args meth c D cy regsC ad "RoofWar" cX9_fee 2 (some .int)) (ha : Apart regsC ad) {post : Int32 → St → Prop} {σ : St} (hw : w_X9_fee post σ) {H : Heap} {locs : List Loc} {ls : Array Slot} (hP : va_P D CLS (wC cy ad σ) H) (hS : va_S (AC ad s.heap.size) s.heap H locs) (hl : lv_has ls 2 [(0, .ref (ad 0 0))]) : W p l e rm_X9_fee s m args below meth c H locs 0 0 (MQ below (QI D cy (cellC cy ad) regsC ad s.heap.size post) args s 0 0 (AC ad s.heap.size)) (F0 m 0 ls []) := by
  obtain ⟨hx, hb, -⟩ := id E
  unfold w_X9_fee at hw
  refine lv_aload_n hx hb dX9_fee_0 rfl (lv_at hl 0 rfl) ?_
  refine fX9_0 E hP mw_323 dX9_fee_1 ?_
  refine lv_iconst (v := 1) hx hb dX9_fee_4 (by decide) ?_
  refine lv_aload_n hx hb dX9_fee_5 rfl (lv_at hl 0 rfl) ?_
  refine fX9_1 E hP mw_324 dX9_fee_6 ?_
  refine fX1_16 ((by decide : 0 < 3)) E hP mw_184 dX9_fee_9 ?_
  refine g_cVq (As := [.int 1, .int (σ 5 0 7)]) (rest := []) E hl.1 (c_X4_counting l D cy ad ha hw _) ok_X4_counting mw_661 ⟨(Nat.le_of_ble_eq_true rfl), (Nat.le_of_ble_eq_true rfl)⟩ ⟨rfl, rfl⟩ rC14 rfl rfl rfl rfl rfl (Nat.le_of_ble_eq_true rfl) ⟨Nat.zero_le _, Nat.zero_le _⟩ hP hS dX9_fee_12 (fun r1 s1 hw H locs hP hS => ?_)
  obtain ⟨o1, rfl, b1, hw⟩ := hw
  rcases o1 with _ | j1
  · replace hw := hw.1 rfl
    refine lv_astore_nN (lv' := [(1, .null), (0, .ref (ad 0 0))]) hx hb dX9_fee_15 rfl hl (by decide) rfl (fun ls hl => ?_)
    refine lv_aload_nN hx hb dX9_fee_16 rfl (lv_at hl 0 rfl) ?_
    refine lv_ifnonnullN hx hb dX9_fee_17 ?_
    refine lv_aload_n hx hb dX9_fee_20 rfl (lv_at hl 1 rfl) ?_
    refine fX9_1 E hP mw_324 dX9_fee_21 ?_
    refine fX1_11 ((by decide : 0 < 3)) E hP mw_172 dX9_fee_24 ?_
    refine lv_goto (tgt := 53) hx hb dX9_fee_27 (by decide) ?_
    exact g_iret E hw hP hS dX9_fee_53
  · replace hw := hw.2 j1 rfl
    refine lv_astore_n (lv' := [(1, .ref (ad 17 j1)), (0, .ref (ad 0 0))]) hx hb dX9_fee_15 rfl hl (by decide) rfl (fun ls hl => ?_)
    refine lv_aload_n hx hb dX9_fee_16 rfl (lv_at hl 0 rfl) ?_
    refine lv_ifnonnull (tgt := 30) hx hb dX9_fee_17 (by decide) ?_
    refine lv_aload_n hx hb dX9_fee_30 rfl (lv_at hl 1 rfl) ?_
    refine fX9_0 E hP mw_323 dX9_fee_31 ?_
    refine lv_aload_n hx hb dX9_fee_34 rfl (lv_at hl 0 rfl) ?_
    refine lv_aload_n hx hb dX9_fee_35 rfl (lv_at hl 1 rfl) ?_
    refine fX9_1 E hP mw_324 dX9_fee_36 ?_
    refine fX1_11 ((by decide : 0 < 3)) E hP mw_172 dX9_fee_39 ?_
    refine lv_aload_n hx hb dX9_fee_42 rfl (lv_at hl 1 rfl) ?_
    refine fX9_1 E hP mw_324 dX9_fee_43 ?_
    refine fX1_13 ((by decide : 0 < 3)) E hP mw_176 dX9_fee_46 ?_
    refine lv_iconst (v := 0) hx hb dX9_fee_49 (by decide) ?_
    refine g_cVi (As := [.ref (ad 17 j1), .int (s1 5 0 2), .int (s1 5 0 4), .int 0]) (rest := []) E hl.1 (c_X4_workOut l D cy ad ha ((b1 _ rfl)) hw _) ok_X4_workOut mw_662 ⟨(Nat.le_of_ble_eq_true rfl), (Nat.le_of_ble_eq_true rfl)⟩ ⟨rfl, rfl⟩ rC14 rfl rfl rfl rfl rfl (Nat.le_of_ble_eq_true rfl) ⟨Nat.zero_le _, Nat.zero_le _⟩ hP hS dX9_fee_50 (fun r2 s2 hw H locs hP hS => ?_)
    exact g_iret E hw hP hS dX9_fee_53
theorem c_X9_fee (l : Launch) (D : va_G) (cy : Nat → ClassId) (ad : Nat → Nat → Nat) (ha : Apart regsC ad) {post : Int32 → St → Prop} {σ : St} (hw : w_X9_fee post σ) (sz : Nat) : MetI l yX9_fee cX9_fee 2 .int rm_X9_fee [.ref (ad 0 0)] D cy (cellC cy ad) regsC ad σ sz post :=
  Met_inI ok_X9_fee.2.2.2.2.2 (Nat.le_of_ble_eq_true rfl) (fun p e s m below meth c ls E hP hl => B_X9_fee_0 E ha hw hP va_S.rf hl)
-- RoofWar.fine(I)I
theorem dX9_fine_0 : decode cX9_fine 0 = .ok (.aload_n 0, 1) := by decide +kernel
theorem dX9_fine_1 : decode cX9_fine 1 = .ok (.iload_n 1, 1) := by decide +kernel
theorem dX9_fine_2 : decode cX9_fine 2 = .ok (.invokevirtual 108, 3) := by decide +kernel
theorem dX9_fine_5 : decode cX9_fine 5 = .ok (.ifCond .ne 6, 3) := by decide +kernel
theorem dX9_fine_8 : decode cX9_fine 8 = .ok (.ldc 94, 2) := by decide +kernel
theorem dX9_fine_10 : decode cX9_fine 10 = .ok (.ireturn, 1) := by decide +kernel
theorem dX9_fine_11 : decode cX9_fine 11 = .ok (.aload_n 0, 1) := by decide +kernel
theorem dX9_fine_12 : decode cX9_fine 12 = .ok (.getfield 10, 3) := by decide +kernel
theorem dX9_fine_15 : decode cX9_fine 15 = .ok (.iconst 2, 1) := by decide +kernel
theorem dX9_fine_16 : decode cX9_fine 16 = .ok (.aload_n 0, 1) := by decide +kernel
theorem dX9_fine_17 : decode cX9_fine 17 = .ok (.getfield 21, 3) := by decide +kernel
theorem dX9_fine_20 : decode cX9_fine 20 = .ok (.getfield 250, 3) := by decide +kernel
theorem dX9_fine_23 : decode cX9_fine 23 = .ok (.invokevirtual 253, 3) := by decide +kernel
theorem dX9_fine_26 : decode cX9_fine 26 = .ok (.astore_n 2, 1) := by decide +kernel
theorem dX9_fine_27 : decode cX9_fine 27 = .ok (.aload_n 2, 1) := by decide +kernel
theorem dX9_fine_28 : decode cX9_fine 28 = .ok (.ifnonnull 15, 3) := by decide +kernel
theorem dX9_fine_31 : decode cX9_fine 31 = .ok (.aload_n 0, 1) := by decide +kernel
theorem dX9_fine_32 : decode cX9_fine 32 = .ok (.getfield 21, 3) := by decide +kernel
theorem dX9_fine_35 : decode cX9_fine 35 = .ok (.getfield 117, 3) := by decide +kernel
theorem dX9_fine_38 : decode cX9_fine 38 = .ok (.iload_n 1, 1) := by decide +kernel
theorem dX9_fine_39 : decode cX9_fine 39 = .ok (.iaload, 1) := by decide +kernel
theorem dX9_fine_40 : decode cX9_fine 40 = .ok (.goto 30, 3) := by decide +kernel
theorem dX9_fine_43 : decode cX9_fine 43 = .ok (.aload_n 0, 1) := by decide +kernel
theorem dX9_fine_44 : decode cX9_fine 44 = .ok (.getfield 10, 3) := by decide +kernel
theorem dX9_fine_47 : decode cX9_fine 47 = .ok (.aload_n 2, 1) := by decide +kernel
theorem dX9_fine_48 : decode cX9_fine 48 = .ok (.aload_n 0, 1) := by decide +kernel
theorem dX9_fine_49 : decode cX9_fine 49 = .ok (.getfield 21, 3) := by decide +kernel
theorem dX9_fine_52 : decode cX9_fine 52 = .ok (.getfield 117, 3) := by decide +kernel
theorem dX9_fine_55 : decode cX9_fine 55 = .ok (.iload_n 1, 1) := by decide +kernel
theorem dX9_fine_56 : decode cX9_fine 56 = .ok (.iaload, 1) := by decide +kernel
theorem dX9_fine_57 : decode cX9_fine 57 = .ok (.aload_n 0, 1) := by decide +kernel
theorem dX9_fine_58 : decode cX9_fine 58 = .ok (.getfield 21, 3) := by decide +kernel
theorem dX9_fine_61 : decode cX9_fine 61 = .ok (.getfield 114, 3) := by decide +kernel
theorem dX9_fine_64 : decode cX9_fine 64 = .ok (.iload_n 1, 1) := by decide +kernel
theorem dX9_fine_65 : decode cX9_fine 65 = .ok (.iaload, 1) := by decide +kernel
theorem dX9_fine_66 : decode cX9_fine 66 = .ok (.iconst 0, 1) := by decide +kernel
theorem dX9_fine_67 : decode cX9_fine 67 = .ok (.invokevirtual 257, 3) := by decide +kernel
theorem dX9_fine_70 : decode cX9_fine 70 = .ok (.ireturn, 1) := by decide +kernel
theorem ok_X9_fine : okV yX9_fine cX9_fine 3 (some .int) 1 := ⟨mw_664, mw_665, mw_74, mw_666, by decide +kernel, by decide +kernel⟩
abbrev rm_X9_fine : Room := { frames := 2, cells := 0, slots := 0, locals := 50 }
def w_X9_fine (post : Int32 → St → Prop) (σ : St) (x1 : Int32) : Prop := w_X9_isRoof (fun r1 s1 => ((¬ r1 = 0 → (w_X4_counting (fun o3 s3 => ((o3 = none → (vp_in x1 12 ∧ (post (s3 8 0 x1.toNatClampNeg) s3))) ∧ (∀ j3 : Nat, o3 = some j3 → (vp_in x1 12 ∧ (vp_in x1 12 ∧ (w_X4_workOut (fun r7 s7 => post r7 s7) s3 j3 (s3 8 0 x1.toNatClampNeg) (s3 7 0 x1.toNatClampNeg) (0 : Int32))))))) s1 (2 : Int32) (s1 5 0 7))) ∧ (r1 = 0 → (post ((-1000000001)) s1)))) σ x1
theorem B_X9_fine_0 (E : EnvW p s m args meth c D cy regsC ad "RoofWar" cX9_fine 3 (some .int)) (ha : Apart regsC ad) {post : Int32 → St → Prop} {σ : St} {x1 : Int32} (hw : w_X9_fine post σ x1) {H : Heap} {locs : List Loc} {ls : Array Slot} (hP : va_P D CLS (wC cy ad σ) H) (hS : va_S (AC ad s.heap.size) s.heap H locs) (hl : lv_has ls 3 [(0, .ref (ad 0 0)), (1, .int x1)]) : W p l e rm_X9_fine s m args below meth c H locs 0 0 (MQ below (QI D cy (cellC cy ad) regsC ad s.heap.size post) args s 0 0 (AC ad s.heap.size)) (F0 m 0 ls []) := by
  obtain ⟨hx, hb, -⟩ := id E
  unfold w_X9_fine at hw
  refine lv_aload_n hx hb dX9_fine_0 rfl (lv_at hl 0 rfl) ?_
  refine lv_iload_n hx hb dX9_fine_1 rfl (lv_at hl 1 rfl) ?_
  refine g_cVi (As := [.int x1]) (rest := []) E hl.1 (c_X9_isRoof l D cy ad ha hw _) ok_X9_isRoof mw_388 ⟨(Nat.le_of_ble_eq_true rfl), (Nat.le_of_ble_eq_true rfl)⟩ ⟨rfl, rfl⟩ rC0 rfl rfl rfl rfl rfl (Nat.le_of_ble_eq_true rfl) ⟨Nat.zero_le _, Nat.zero_le _⟩ hP hS dX9_fine_2 (fun r1 s1 hw H locs hP hS => ?_)
  obtain ⟨z1, hw⟩ := hw
  refine lv_if_ne (tgt := 11) hx hb dX9_fine_5 (by decide) (fun c2 => ?_) (fun c2 => ?_)
  · replace hw := hw.1 c2
    refine lv_aload_n hx hb dX9_fine_11 rfl (lv_at hl 0 rfl) ?_
    refine fX9_0 E hP mw_323 dX9_fine_12 ?_
    refine lv_iconst (v := 2) hx hb dX9_fine_15 (by decide) ?_
    refine lv_aload_n hx hb dX9_fine_16 rfl (lv_at hl 0 rfl) ?_
    refine fX9_1 E hP mw_324 dX9_fine_17 ?_
    refine fX1_16 ((by decide : 0 < 3)) E hP mw_184 dX9_fine_20 ?_
    refine g_cVq (As := [.int 2, .int (s1 5 0 7)]) (rest := []) E hl.1 (c_X4_counting l D cy ad ha hw _) ok_X4_counting mw_661 ⟨(Nat.le_of_ble_eq_true rfl), (Nat.le_of_ble_eq_true rfl)⟩ ⟨rfl, rfl⟩ rC14 rfl rfl rfl rfl rfl (Nat.le_of_ble_eq_true rfl) ⟨Nat.zero_le _, Nat.zero_le _⟩ hP hS dX9_fine_23 (fun r3 s3 hw H locs hP hS => ?_)
    obtain ⟨o3, rfl, b3, hw⟩ := hw
    rcases o3 with _ | j3
    · replace hw := hw.1 rfl
      refine lv_astore_nN (lv' := [(2, .null), (0, .ref (ad 0 0)), (1, .int x1)]) hx hb dX9_fine_26 rfl hl (by decide) rfl (fun ls hl => ?_)
      refine lv_aload_nN hx hb dX9_fine_27 rfl (lv_at hl 0 rfl) ?_
      refine lv_ifnonnullN hx hb dX9_fine_28 ?_
      refine lv_aload_n hx hb dX9_fine_31 rfl (lv_at hl 1 rfl) ?_
      refine fX9_1 E hP mw_324 dX9_fine_32 ?_
      refine fX1_3 ((by decide : 0 < 3)) E hP mw_153 dX9_fine_35 ?_
      refine lv_iload_n hx hb dX9_fine_38 rfl (lv_at hl 2 rfl) ?_
      obtain ⟨h4, hw⟩ := hw
      refine aC8 ((by decide : 0 < 3)) E hP h4 dX9_fine_39 ?_
      refine lv_goto (tgt := 70) hx hb dX9_fine_40 (by decide) ?_
      exact g_iret E hw hP hS dX9_fine_70
    · replace hw := hw.2 j3 rfl
      refine lv_astore_n (lv' := [(2, .ref (ad 17 j3)), (0, .ref (ad 0 0)), (1, .int x1)]) hx hb dX9_fine_26 rfl hl (by decide) rfl (fun ls hl => ?_)
      refine lv_aload_n hx hb dX9_fine_27 rfl (lv_at hl 0 rfl) ?_
      refine lv_ifnonnull (tgt := 43) hx hb dX9_fine_28 (by decide) ?_
      refine lv_aload_n hx hb dX9_fine_43 rfl (lv_at hl 1 rfl) ?_
      refine fX9_0 E hP mw_323 dX9_fine_44 ?_
      refine lv_aload_n hx hb dX9_fine_47 rfl (lv_at hl 0 rfl) ?_
      refine lv_aload_n hx hb dX9_fine_48 rfl (lv_at hl 1 rfl) ?_
      refine fX9_1 E hP mw_324 dX9_fine_49 ?_
      refine fX1_3 ((by decide : 0 < 3)) E hP mw_153 dX9_fine_52 ?_
      refine lv_iload_n hx hb dX9_fine_55 rfl (lv_at hl 2 rfl) ?_
      obtain ⟨h5, hw⟩ := hw
      refine aC8 ((by decide : 0 < 3)) E hP h5 dX9_fine_56 ?_
      refine lv_aload_n hx hb dX9_fine_57 rfl (lv_at hl 1 rfl) ?_
      refine fX9_1 E hP mw_324 dX9_fine_58 ?_
      refine fX1_2 ((by decide : 0 < 3)) E hP mw_150 dX9_fine_61 ?_
      refine lv_iload_n hx hb dX9_fine_64 rfl (lv_at hl 2 rfl) ?_
      obtain ⟨h6, hw⟩ := hw
      refine aC7 ((by decide : 0 < 3)) E hP h6 dX9_fine_65 ?_
      refine lv_iconst (v := 0) hx hb dX9_fine_66 (by decide) ?_
      refine g_cVi (As := [.ref (ad 17 j3), .int (s3 8 0 x1.toNatClampNeg), .int (s3 7 0 x1.toNatClampNeg), .int 0]) (rest := []) E hl.1 (c_X4_workOut l D cy ad ha ((b3 _ rfl)) hw _) ok_X4_workOut mw_662 ⟨(Nat.le_of_ble_eq_true rfl), (Nat.le_of_ble_eq_true rfl)⟩ ⟨rfl, rfl⟩ rC14 rfl rfl rfl rfl rfl (Nat.le_of_ble_eq_true rfl) ⟨Nat.zero_le _, Nat.zero_le _⟩ hP hS dX9_fine_67 (fun r7 s7 hw H locs hP hS => ?_)
      exact g_iret E hw hP hS dX9_fine_70
  · replace hw := hw.2 c2
    refine g_ldc (v := -1000000001) E mw_376 dX9_fine_8 ?_
    exact g_iret E hw hP hS dX9_fine_10
theorem c_X9_fine (l : Launch) (D : va_G) (cy : Nat → ClassId) (ad : Nat → Nat → Nat) (ha : Apart regsC ad) {post : Int32 → St → Prop} {σ : St} {x1 : Int32} (hw : w_X9_fine post σ x1) (sz : Nat) : MetI l yX9_fine cX9_fine 3 .int rm_X9_fine [.ref (ad 0 0), .int x1] D cy (cellC cy ad) regsC ad σ sz post :=
  Met_inI ok_X9_fine.2.2.2.2.2 (Nat.le_of_ble_eq_true rfl) (fun p e s m below meth c ls E hP hl => B_X9_fine_0 E ha hw hP va_S.rf hl)
-- RoofWar.feed(III)I
theorem dX9_feed_0 : decode cX9_feed 0 = .ok (.aload_n 0, 1) := by decide +kernel
theorem dX9_feed_1 : decode cX9_feed 1 = .ok (.getfield 45, 3) := by decide +kernel
theorem dX9_feed_4 : decode cX9_feed 4 = .ok (.getfield 261, 3) := by decide +kernel
theorem dX9_feed_7 : decode cX9_feed 7 = .ok (.bipush 12, 2) := by decide +kernel
theorem dX9_feed_9 : decode cX9_feed 9 = .ok (.iadd, 1) := by decide +kernel
theorem dX9_feed_10 : decode cX9_feed 10 = .ok (.bipush 96, 2) := by decide +kernel
theorem dX9_feed_12 : decode cX9_feed 12 = .ok (.if_icmp .le 6, 3) := by decide +kernel
theorem dX9_feed_15 : decode cX9_feed 15 = .ok (.ldc 103, 2) := by decide +kernel
theorem dX9_feed_17 : decode cX9_feed 17 = .ok (.ireturn, 1) := by decide +kernel
theorem dX9_feed_18 : decode cX9_feed 18 = .ok (.aload_n 0, 1) := by decide +kernel
theorem dX9_feed_19 : decode cX9_feed 19 = .ok (.getfield 45, 3) := by decide +kernel
theorem dX9_feed_22 : decode cX9_feed 22 = .ok (.iload_n 1, 1) := by decide +kernel
theorem dX9_feed_23 : decode cX9_feed 23 = .ok (.invokevirtual 264, 3) := by decide +kernel
theorem dX9_feed_26 : decode cX9_feed 26 = .ok (.aload_n 0, 1) := by decide +kernel
theorem dX9_feed_27 : decode cX9_feed 27 = .ok (.getfield 45, 3) := by decide +kernel
theorem dX9_feed_30 : decode cX9_feed 30 = .ok (.iload_n 2, 1) := by decide +kernel
theorem dX9_feed_31 : decode cX9_feed 31 = .ok (.invokevirtual 264, 3) := by decide +kernel
theorem dX9_feed_34 : decode cX9_feed 34 = .ok (.aload_n 0, 1) := by decide +kernel
theorem dX9_feed_35 : decode cX9_feed 35 = .ok (.getfield 45, 3) := by decide +kernel
theorem dX9_feed_38 : decode cX9_feed 38 = .ok (.iload_n 3, 1) := by decide +kernel
theorem dX9_feed_39 : decode cX9_feed 39 = .ok (.invokevirtual 264, 3) := by decide +kernel
theorem dX9_feed_42 : decode cX9_feed 42 = .ok (.aload_n 0, 1) := by decide +kernel
theorem dX9_feed_43 : decode cX9_feed 43 = .ok (.getfield 45, 3) := by decide +kernel
theorem dX9_feed_46 : decode cX9_feed 46 = .ok (.getfield 261, 3) := by decide +kernel
theorem dX9_feed_49 : decode cX9_feed 49 = .ok (.ireturn, 1) := by decide +kernel
theorem ok_X9_feed : okV yX9_feed cX9_feed 4 (some .int) 3 := ⟨mw_668, mw_669, mw_74, mw_670, by decide +kernel, by decide +kernel⟩
abbrev rm_X9_feed : Room := { frames := 1, cells := 0, slots := 0, locals := 22 }
def w_X9_feed (post : Int32 → St → Prop) (σ : St) (x1 : Int32) (x2 : Int32) (x3 : Int32) : Prop := ((((σ 19 0 0) + 12) ≤ 96 → (w_X8_add (fun s2 => w_X8_add (fun s3 => w_X8_add (fun s4 => post (s4 19 0 0) s4) s3 x3) s2 x2) σ x1)) ∧ (¬ ((σ 19 0 0) + 12) ≤ 96 → (post ((-1000000003)) σ)))
theorem B_X9_feed_0 (E : EnvW p s m args meth c D cy regsC ad "RoofWar" cX9_feed 4 (some .int)) (ha : Apart regsC ad) {post : Int32 → St → Prop} {σ : St} {x1 : Int32} {x2 : Int32} {x3 : Int32} (hw : w_X9_feed post σ x1 x2 x3) {H : Heap} {locs : List Loc} {ls : Array Slot} (hP : va_P D CLS (wC cy ad σ) H) (hS : va_S (AC ad s.heap.size) s.heap H locs) (hl : lv_has ls 4 [(0, .ref (ad 0 0)), (1, .int x1), (2, .int x2), (3, .int x3)]) : W p l e rm_X9_feed s m args below meth c H locs 0 0 (MQ below (QI D cy (cellC cy ad) regsC ad s.heap.size post) args s 0 0 (AC ad s.heap.size)) (F0 m 0 ls []) := by
  obtain ⟨hx, hb, -⟩ := id E
  unfold w_X9_feed at hw
  refine lv_aload_n hx hb dX9_feed_0 rfl (lv_at hl 0 rfl) ?_
  refine fX9_6 E hP mw_329 dX9_feed_1 ?_
  refine fX8_1 E hP mw_248 dX9_feed_4 ?_
  refine lv_bipush (v := 12) hx hb dX9_feed_7 (by decide) ?_
  refine lv_iadd hx hb dX9_feed_9 ?_
  refine lv_bipush (v := 96) hx hb dX9_feed_10 (by decide) ?_
  refine lv_icmp_le (tgt := 18) hx hb dX9_feed_12 (by decide) (fun c1 => ?_) (fun c1 => ?_)
  · replace hw := hw.1 c1
    refine lv_aload_n hx hb dX9_feed_18 rfl (lv_at hl 0 rfl) ?_
    refine fX9_6 E hP mw_329 dX9_feed_19 ?_
    refine lv_iload_n hx hb dX9_feed_22 rfl (lv_at hl 1 rfl) ?_
    refine g_cVv (As := [.int x1]) (rest := []) E hl.1 (c_X8_add l D cy ad ha hw _) ok_X8_add mw_671 ⟨(Nat.le_of_ble_eq_true rfl), (Nat.le_of_ble_eq_true rfl)⟩ ⟨rfl, rfl⟩ rC19 rfl rfl rfl rfl rfl (Nat.le_of_ble_eq_true rfl) ⟨Nat.zero_le _, Nat.zero_le _⟩ hP hS dX9_feed_23 (fun s2 hw H locs hP hS => ?_)
    refine lv_aload_n hx hb dX9_feed_26 rfl (lv_at hl 0 rfl) ?_
    refine fX9_6 E hP mw_329 dX9_feed_27 ?_
    refine lv_iload_n hx hb dX9_feed_30 rfl (lv_at hl 2 rfl) ?_
    refine g_cVv (As := [.int x2]) (rest := []) E hl.1 (c_X8_add l D cy ad ha hw _) ok_X8_add mw_671 ⟨(Nat.le_of_ble_eq_true rfl), (Nat.le_of_ble_eq_true rfl)⟩ ⟨rfl, rfl⟩ rC19 rfl rfl rfl rfl rfl (Nat.le_of_ble_eq_true rfl) ⟨Nat.zero_le _, Nat.zero_le _⟩ hP hS dX9_feed_31 (fun s3 hw H locs hP hS => ?_)
    refine lv_aload_n hx hb dX9_feed_34 rfl (lv_at hl 0 rfl) ?_
    refine fX9_6 E hP mw_329 dX9_feed_35 ?_
    refine lv_iload_n hx hb dX9_feed_38 rfl (lv_at hl 3 rfl) ?_
    refine g_cVv (As := [.int x3]) (rest := []) E hl.1 (c_X8_add l D cy ad ha hw _) ok_X8_add mw_671 ⟨(Nat.le_of_ble_eq_true rfl), (Nat.le_of_ble_eq_true rfl)⟩ ⟨rfl, rfl⟩ rC19 rfl rfl rfl rfl rfl (Nat.le_of_ble_eq_true rfl) ⟨Nat.zero_le _, Nat.zero_le _⟩ hP hS dX9_feed_39 (fun s4 hw H locs hP hS => ?_)
    refine lv_aload_n hx hb dX9_feed_42 rfl (lv_at hl 0 rfl) ?_
    refine fX9_6 E hP mw_329 dX9_feed_43 ?_
    refine fX8_1 E hP mw_248 dX9_feed_46 ?_
    exact g_iret E hw hP hS dX9_feed_49
  · replace hw := hw.2 c1
    refine g_ldc (v := -1000000003) E mw_379 dX9_feed_15 ?_
    exact g_iret E hw hP hS dX9_feed_17
theorem c_X9_feed (l : Launch) (D : va_G) (cy : Nat → ClassId) (ad : Nat → Nat → Nat) (ha : Apart regsC ad) {post : Int32 → St → Prop} {σ : St} {x1 : Int32} {x2 : Int32} {x3 : Int32} (hw : w_X9_feed post σ x1 x2 x3) (sz : Nat) : MetI l yX9_feed cX9_feed 4 .int rm_X9_feed [.ref (ad 0 0), .int x1, .int x2, .int x3] D cy (cellC cy ad) regsC ad σ sz post :=
  Met_inI ok_X9_feed.2.2.2.2.2 (Nat.le_of_ble_eq_true rfl) (fun p e s m below meth c ls E hP hl => B_X9_feed_0 E ha hw hP va_S.rf hl)
-- RoofWar.trim(I)I
theorem dX9_trim_0 : decode cX9_trim 0 = .ok (.iload_n 1, 1) := by decide +kernel
theorem dX9_trim_1 : decode cX9_trim 1 = .ok (.iconst 0, 1) := by decide +kernel
theorem dX9_trim_2 : decode cX9_trim 2 = .ok (.aload_n 0, 1) := by decide +kernel
theorem dX9_trim_3 : decode cX9_trim 3 = .ok (.getfield 45, 3) := by decide +kernel
theorem dX9_trim_6 : decode cX9_trim 6 = .ok (.getfield 261, 3) := by decide +kernel
theorem dX9_trim_9 : decode cX9_trim 9 = .ok (.invokestatic 87, 3) := by decide +kernel
theorem dX9_trim_12 : decode cX9_trim 12 = .ok (.ifCond .ne 6, 3) := by decide +kernel
theorem dX9_trim_15 : decode cX9_trim 15 = .ok (.ldc 94, 2) := by decide +kernel
theorem dX9_trim_17 : decode cX9_trim 17 = .ok (.ireturn, 1) := by decide +kernel
theorem dX9_trim_18 : decode cX9_trim 18 = .ok (.aload_n 0, 1) := by decide +kernel
theorem dX9_trim_19 : decode cX9_trim 19 = .ok (.getfield 45, 3) := by decide +kernel
theorem dX9_trim_22 : decode cX9_trim 22 = .ok (.iload_n 1, 1) := by decide +kernel
theorem dX9_trim_23 : decode cX9_trim 23 = .ok (.putfield 261, 3) := by decide +kernel
theorem dX9_trim_26 : decode cX9_trim 26 = .ok (.iload_n 1, 1) := by decide +kernel
theorem dX9_trim_27 : decode cX9_trim 27 = .ok (.ireturn, 1) := by decide +kernel
theorem ok_X9_trim : okV yX9_trim cX9_trim 2 (some .int) 1 := ⟨mw_676, mw_677, mw_74, mw_678, by decide +kernel, by decide +kernel⟩
abbrev rm_X9_trim : Room := { frames := 1, cells := 0, slots := 0, locals := 22 }
def w_X9_trim (post : Int32 → St → Prop) (σ : St) (x1 : Int32) : Prop := w_X9_within (fun r1 s1 => ((¬ r1 = 0 → (∀ s3 : St, s3 = wr s1 19 0 0 x1 → (post x1 s3))) ∧ (r1 = 0 → (post ((-1000000001)) s1)))) σ x1 (0 : Int32) (σ 19 0 0)
theorem B_X9_trim_0 (E : EnvW p s m args meth c D cy regsC ad "RoofWar" cX9_trim 2 (some .int)) (ha : Apart regsC ad) {post : Int32 → St → Prop} {σ : St} {x1 : Int32} (hw : w_X9_trim post σ x1) {H : Heap} {locs : List Loc} {ls : Array Slot} (hP : va_P D CLS (wC cy ad σ) H) (hS : va_S (AC ad s.heap.size) s.heap H locs) (hl : lv_has ls 2 [(0, .ref (ad 0 0)), (1, .int x1)]) : W p l e rm_X9_trim s m args below meth c H locs 0 0 (MQ below (QI D cy (cellC cy ad) regsC ad s.heap.size post) args s 0 0 (AC ad s.heap.size)) (F0 m 0 ls []) := by
  obtain ⟨hx, hb, -⟩ := id E
  unfold w_X9_trim at hw
  refine lv_iload_n hx hb dX9_trim_0 rfl (lv_at hl 1 rfl) ?_
  refine lv_iconst (v := 0) hx hb dX9_trim_1 (by decide) ?_
  refine lv_aload_n hx hb dX9_trim_2 rfl (lv_at hl 0 rfl) ?_
  refine fX9_6 E hP mw_329 dX9_trim_3 ?_
  refine fX8_1 E hP mw_248 dX9_trim_6 ?_
  refine g_cSi (As := [.int x1, .int 0, .int (σ 19 0 0)]) (rest := []) E hl.1 (c_X9_within l D cy ad ha hw _) ok_X9_within mw_370 ⟨(Nat.le_of_ble_eq_true rfl), (Nat.le_of_ble_eq_true rfl)⟩ ⟨rfl, rfl⟩ rfl rfl (Nat.le_of_ble_eq_true rfl) ⟨Nat.zero_le _, Nat.zero_le _⟩ hP hS dX9_trim_9 (fun r1 s1 hw H locs hP hS => ?_)
  obtain ⟨z1, hw⟩ := hw
  refine lv_if_ne (tgt := 18) hx hb dX9_trim_12 (by decide) (fun c2 => ?_) (fun c2 => ?_)
  · replace hw := hw.1 c2
    refine lv_aload_n hx hb dX9_trim_18 rfl (lv_at hl 0 rfl) ?_
    refine fX9_6 E hP mw_329 dX9_trim_19 ?_
    refine lv_iload_n hx hb dX9_trim_22 rfl (lv_at hl 1 rfl) ?_
    refine uX8_1 E ha mw_248 dX9_trim_23 hP hS (fun s3 es3 H locs hP hS => ?_)
    replace hw := hw s3 es3
    refine lv_iload_n hx hb dX9_trim_26 rfl (lv_at hl 1 rfl) ?_
    exact g_iret E hw hP hS dX9_trim_27
  · replace hw := hw.2 c2
    refine g_ldc (v := -1000000001) E mw_376 dX9_trim_15 ?_
    exact g_iret E hw hP hS dX9_trim_17
theorem c_X9_trim (l : Launch) (D : va_G) (cy : Nat → ClassId) (ad : Nat → Nat → Nat) (ha : Apart regsC ad) {post : Int32 → St → Prop} {σ : St} {x1 : Int32} (hw : w_X9_trim post σ x1) (sz : Nat) : MetI l yX9_trim cX9_trim 2 .int rm_X9_trim [.ref (ad 0 0), .int x1] D cy (cellC cy ad) regsC ad σ sz post :=
  Met_inI ok_X9_trim.2.2.2.2.2 (Nat.le_of_ble_eq_true rfl) (fun p e s m below meth c ls E hP hl => B_X9_trim_0 E ha hw hP va_S.rf hl)
-- RoofWar.textTold(II)I
theorem dX9_textTold_0 : decode cX9_textTold 0 = .ok (.iload_n 1, 1) := by decide +kernel
theorem dX9_textTold_1 : decode cX9_textTold 1 = .ok (.iconst 0, 1) := by decide +kernel
theorem dX9_textTold_2 : decode cX9_textTold 2 = .ok (.aload_n 0, 1) := by decide +kernel
theorem dX9_textTold_3 : decode cX9_textTold 3 = .ok (.getfield 21, 3) := by decide +kernel
theorem dX9_textTold_6 : decode cX9_textTold 6 = .ok (.getfield 250, 3) := by decide +kernel
theorem dX9_textTold_9 : decode cX9_textTold 9 = .ok (.iconst 1, 1) := by decide +kernel
theorem dX9_textTold_10 : decode cX9_textTold 10 = .ok (.isub, 1) := by decide +kernel
theorem dX9_textTold_11 : decode cX9_textTold 11 = .ok (.invokestatic 87, 3) := by decide +kernel
theorem dX9_textTold_14 : decode cX9_textTold 14 = .ok (.ifCond .eq 12, 3) := by decide +kernel
theorem dX9_textTold_17 : decode cX9_textTold 17 = .ok (.iload_n 2, 1) := by decide +kernel
theorem dX9_textTold_18 : decode cX9_textTold 18 = .ok (.iconst 0, 1) := by decide +kernel
theorem dX9_textTold_19 : decode cX9_textTold 19 = .ok (.iconst 1, 1) := by decide +kernel
theorem dX9_textTold_20 : decode cX9_textTold 20 = .ok (.invokestatic 87, 3) := by decide +kernel
theorem dX9_textTold_23 : decode cX9_textTold 23 = .ok (.ifCond .ne 6, 3) := by decide +kernel
theorem dX9_textTold_26 : decode cX9_textTold 26 = .ok (.ldc 94, 2) := by decide +kernel
theorem dX9_textTold_28 : decode cX9_textTold 28 = .ok (.ireturn, 1) := by decide +kernel
theorem dX9_textTold_29 : decode cX9_textTold 29 = .ok (.aload_n 0, 1) := by decide +kernel
theorem dX9_textTold_30 : decode cX9_textTold 30 = .ok (.getfield 10, 3) := by decide +kernel
theorem dX9_textTold_33 : decode cX9_textTold 33 = .ok (.getfield 267, 3) := by decide +kernel
theorem dX9_textTold_36 : decode cX9_textTold 36 = .ok (.iload_n 1, 1) := by decide +kernel
theorem dX9_textTold_37 : decode cX9_textTold 37 = .ok (.aaload, 1) := by decide +kernel
theorem dX9_textTold_38 : decode cX9_textTold 38 = .ok (.astore_n 3, 1) := by decide +kernel
theorem dX9_textTold_39 : decode cX9_textTold 39 = .ok (.iload_n 2, 1) := by decide +kernel
theorem dX9_textTold_40 : decode cX9_textTold 40 = .ok (.ifCond .ne 10, 3) := by decide +kernel
theorem dX9_textTold_43 : decode cX9_textTold 43 = .ok (.aload_n 3, 1) := by decide +kernel
theorem dX9_textTold_44 : decode cX9_textTold 44 = .ok (.getfield 275, 3) := by decide +kernel
theorem dX9_textTold_47 : decode cX9_textTold 47 = .ok (.goto 7, 3) := by decide +kernel
theorem dX9_textTold_50 : decode cX9_textTold 50 = .ok (.aload_n 3, 1) := by decide +kernel
theorem dX9_textTold_51 : decode cX9_textTold 51 = .ok (.getfield 280, 3) := by decide +kernel
theorem dX9_textTold_54 : decode cX9_textTold 54 = .ok (.ireturn, 1) := by decide +kernel
theorem ok_X9_textTold : okV yX9_textTold cX9_textTold 4 (some .int) 2 := ⟨mw_847, mw_848, mw_74, mw_849, by decide +kernel, by decide +kernel⟩
abbrev rm_X9_textTold : Room := { frames := 1, cells := 0, slots := 0, locals := 22 }
def w_X9_textTold (post : Int32 → St → Prop) (σ : St) (x1 : Int32) (x2 : Int32) : Prop := w_X9_within (fun r1 s1 => ((r1 = 0 → (post ((-1000000001)) s1)) ∧ (¬ r1 = 0 → (w_X9_within (fun r3 s3 => ((¬ r3 = 0 → (vp_in x1 15 ∧ (((¬ x2 = 0 → (post (s3 17 x1.toNatClampNeg 1) s3)) ∧ (x2 = 0 → (post (s3 17 x1.toNatClampNeg 0) s3)))))) ∧ (r3 = 0 → (post ((-1000000001)) s3)))) s1 x2 (0 : Int32) (1 : Int32))))) σ x1 (0 : Int32) ((σ 5 0 7) - 1)
theorem B_X9_textTold_0 (E : EnvW p s m args meth c D cy regsC ad "RoofWar" cX9_textTold 4 (some .int)) (ha : Apart regsC ad) {post : Int32 → St → Prop} {σ : St} {x1 : Int32} {x2 : Int32} (hw : w_X9_textTold post σ x1 x2) {H : Heap} {locs : List Loc} {ls : Array Slot} (hP : va_P D CLS (wC cy ad σ) H) (hS : va_S (AC ad s.heap.size) s.heap H locs) (hl : lv_has ls 4 [(0, .ref (ad 0 0)), (1, .int x1), (2, .int x2)]) : W p l e rm_X9_textTold s m args below meth c H locs 0 0 (MQ below (QI D cy (cellC cy ad) regsC ad s.heap.size post) args s 0 0 (AC ad s.heap.size)) (F0 m 0 ls []) := by
  obtain ⟨hx, hb, -⟩ := id E
  unfold w_X9_textTold at hw
  refine lv_iload_n hx hb dX9_textTold_0 rfl (lv_at hl 1 rfl) ?_
  refine lv_iconst (v := 0) hx hb dX9_textTold_1 (by decide) ?_
  refine lv_aload_n hx hb dX9_textTold_2 rfl (lv_at hl 0 rfl) ?_
  refine fX9_1 E hP mw_324 dX9_textTold_3 ?_
  refine fX1_16 ((by decide : 0 < 3)) E hP mw_184 dX9_textTold_6 ?_
  refine lv_iconst (v := 1) hx hb dX9_textTold_9 (by decide) ?_
  refine lv_isub hx hb dX9_textTold_10 ?_
  refine g_cSi (As := [.int x1, .int 0, .int ((σ 5 0 7) - 1)]) (rest := []) E hl.1 (c_X9_within l D cy ad ha hw _) ok_X9_within mw_370 ⟨(Nat.le_of_ble_eq_true rfl), (Nat.le_of_ble_eq_true rfl)⟩ ⟨rfl, rfl⟩ rfl rfl (Nat.le_of_ble_eq_true rfl) ⟨Nat.zero_le _, Nat.zero_le _⟩ hP hS dX9_textTold_11 (fun r1 s1 hw H locs hP hS => ?_)
  obtain ⟨z1, hw⟩ := hw
  refine lv_if_eq (tgt := 26) hx hb dX9_textTold_14 (by decide) (fun c2 => ?_) (fun c2 => ?_)
  · replace hw := hw.1 c2
    refine g_ldc (v := -1000000001) E mw_376 dX9_textTold_26 ?_
    exact g_iret E hw hP hS dX9_textTold_28
  · replace hw := hw.2 c2
    refine lv_iload_n hx hb dX9_textTold_17 rfl (lv_at hl 2 rfl) ?_
    refine lv_iconst (v := 0) hx hb dX9_textTold_18 (by decide) ?_
    refine lv_iconst (v := 1) hx hb dX9_textTold_19 (by decide) ?_
    refine g_cSi (As := [.int x2, .int 0, .int 1]) (rest := []) E hl.1 (c_X9_within l D cy ad ha hw _) ok_X9_within mw_370 ⟨(Nat.le_of_ble_eq_true rfl), (Nat.le_of_ble_eq_true rfl)⟩ ⟨rfl, rfl⟩ rfl rfl (Nat.le_of_ble_eq_true rfl) ⟨Nat.zero_le _, Nat.zero_le _⟩ hP hS dX9_textTold_20 (fun r3 s3 hw H locs hP hS => ?_)
    obtain ⟨z3, hw⟩ := hw
    refine lv_if_ne (tgt := 29) hx hb dX9_textTold_23 (by decide) (fun c4 => ?_) (fun c4 => ?_)
    · replace hw := hw.1 c4
      refine lv_aload_n hx hb dX9_textTold_29 rfl (lv_at hl 0 rfl) ?_
      refine fX9_0 E hP mw_323 dX9_textTold_30 ?_
      refine fX4_0 E hP mw_132 dX9_textTold_33 ?_
      refine lv_iload_n hx hb dX9_textTold_36 rfl (lv_at hl 1 rfl) ?_
      obtain ⟨h5, hw⟩ := hw
      refine aC15 E hP h5 dX9_textTold_37 ?_
      refine lv_astore_n (lv' := [(3, .ref (ad 17 x1.toNatClampNeg)), (0, .ref (ad 0 0)), (1, .int x1), (2, .int x2)]) hx hb dX9_textTold_38 rfl hl (by decide) rfl (fun ls hl => ?_)
      refine lv_iload_n hx hb dX9_textTold_39 rfl (lv_at hl 3 rfl) ?_
      refine lv_if_ne (tgt := 50) hx hb dX9_textTold_40 (by decide) (fun c6 => ?_) (fun c6 => ?_)
      · replace hw := hw.1 c6
        refine lv_aload_n hx hb dX9_textTold_50 rfl (lv_at hl 0 rfl) ?_
        refine fX3_1 ((vp_lt h5)) E hP mw_116 dX9_textTold_51 ?_
        exact g_iret E hw hP hS dX9_textTold_54
      · replace hw := hw.2 c6
        refine lv_aload_n hx hb dX9_textTold_43 rfl (lv_at hl 0 rfl) ?_
        refine fX3_0 ((vp_lt h5)) E hP mw_114 dX9_textTold_44 ?_
        refine lv_goto (tgt := 54) hx hb dX9_textTold_47 (by decide) ?_
        exact g_iret E hw hP hS dX9_textTold_54
    · replace hw := hw.2 c4
      refine g_ldc (v := -1000000001) E mw_376 dX9_textTold_26 ?_
      exact g_iret E hw hP hS dX9_textTold_28
theorem c_X9_textTold (l : Launch) (D : va_G) (cy : Nat → ClassId) (ad : Nat → Nat → Nat) (ha : Apart regsC ad) {post : Int32 → St → Prop} {σ : St} {x1 : Int32} {x2 : Int32} (hw : w_X9_textTold post σ x1 x2) (sz : Nat) : MetI l yX9_textTold cX9_textTold 4 .int rm_X9_textTold [.ref (ad 0 0), .int x1, .int x2] D cy (cellC cy ad) regsC ad σ sz post :=
  Met_inI ok_X9_textTold.2.2.2.2.2 (Nat.le_of_ble_eq_true rfl) (fun p e s m below meth c ls E hP hl => B_X9_textTold_0 E ha hw hP va_S.rf hl)
-- RoofWar.why(I)I
theorem dX9_why_0 : decode cX9_why 0 = .ok (.iload_n 1, 1) := by decide +kernel
theorem dX9_why_1 : decode cX9_why 1 = .ok (.iconst 0, 1) := by decide +kernel
theorem dX9_why_2 : decode cX9_why 2 = .ok (.iconst 2, 1) := by decide +kernel
theorem dX9_why_3 : decode cX9_why 3 = .ok (.invokestatic 87, 3) := by decide +kernel
theorem dX9_why_6 : decode cX9_why 6 = .ok (.ifCond .eq 21, 3) := by decide +kernel
theorem dX9_why_9 : decode cX9_why 9 = .ok (.aload_n 0, 1) := by decide +kernel
theorem dX9_why_10 : decode cX9_why 10 = .ok (.getfield 10, 3) := by decide +kernel
theorem dX9_why_13 : decode cX9_why 13 = .ok (.iload_n 1, 1) := by decide +kernel
theorem dX9_why_14 : decode cX9_why 14 = .ok (.aload_n 0, 1) := by decide +kernel
theorem dX9_why_15 : decode cX9_why 15 = .ok (.getfield 21, 3) := by decide +kernel
theorem dX9_why_18 : decode cX9_why 18 = .ok (.getfield 250, 3) := by decide +kernel
theorem dX9_why_21 : decode cX9_why 21 = .ok (.invokevirtual 283, 3) := by decide +kernel
theorem dX9_why_24 : decode cX9_why 24 = .ok (.goto 5, 3) := by decide +kernel
theorem dX9_why_27 : decode cX9_why 27 = .ok (.ldc 94, 2) := by decide +kernel
theorem dX9_why_29 : decode cX9_why 29 = .ok (.ireturn, 1) := by decide +kernel
theorem ok_X9_why : okV yX9_why cX9_why 2 (some .int) 1 := ⟨mw_851, mw_852, mw_74, mw_853, by decide +kernel, by decide +kernel⟩
abbrev rm_X9_why : Room := { frames := 1, cells := 0, slots := 0, locals := 23 }
def w_X9_why (post : Int32 → St → Prop) (σ : St) (x1 : Int32) : Prop := w_X9_within (fun r1 s1 => ((r1 = 0 → (post ((-1000000001)) s1)) ∧ (¬ r1 = 0 → (w_X4_lastOf (fun r3 s3 => post r3 s3) s1 x1 (s1 5 0 7))))) σ x1 (0 : Int32) (2 : Int32)
theorem B_X9_why_0 (E : EnvW p s m args meth c D cy regsC ad "RoofWar" cX9_why 2 (some .int)) (ha : Apart regsC ad) {post : Int32 → St → Prop} {σ : St} {x1 : Int32} (hw : w_X9_why post σ x1) {H : Heap} {locs : List Loc} {ls : Array Slot} (hP : va_P D CLS (wC cy ad σ) H) (hS : va_S (AC ad s.heap.size) s.heap H locs) (hl : lv_has ls 2 [(0, .ref (ad 0 0)), (1, .int x1)]) : W p l e rm_X9_why s m args below meth c H locs 0 0 (MQ below (QI D cy (cellC cy ad) regsC ad s.heap.size post) args s 0 0 (AC ad s.heap.size)) (F0 m 0 ls []) := by
  obtain ⟨hx, hb, -⟩ := id E
  unfold w_X9_why at hw
  refine lv_iload_n hx hb dX9_why_0 rfl (lv_at hl 1 rfl) ?_
  refine lv_iconst (v := 0) hx hb dX9_why_1 (by decide) ?_
  refine lv_iconst (v := 2) hx hb dX9_why_2 (by decide) ?_
  refine g_cSi (As := [.int x1, .int 0, .int 2]) (rest := []) E hl.1 (c_X9_within l D cy ad ha hw _) ok_X9_within mw_370 ⟨(Nat.le_of_ble_eq_true rfl), (Nat.le_of_ble_eq_true rfl)⟩ ⟨rfl, rfl⟩ rfl rfl (Nat.le_of_ble_eq_true rfl) ⟨Nat.zero_le _, Nat.zero_le _⟩ hP hS dX9_why_3 (fun r1 s1 hw H locs hP hS => ?_)
  obtain ⟨z1, hw⟩ := hw
  refine lv_if_eq (tgt := 27) hx hb dX9_why_6 (by decide) (fun c2 => ?_) (fun c2 => ?_)
  · replace hw := hw.1 c2
    refine g_ldc (v := -1000000001) E mw_376 dX9_why_27 ?_
    exact g_iret E hw hP hS dX9_why_29
  · replace hw := hw.2 c2
    refine lv_aload_n hx hb dX9_why_9 rfl (lv_at hl 0 rfl) ?_
    refine fX9_0 E hP mw_323 dX9_why_10 ?_
    refine lv_iload_n hx hb dX9_why_13 rfl (lv_at hl 1 rfl) ?_
    refine lv_aload_n hx hb dX9_why_14 rfl (lv_at hl 0 rfl) ?_
    refine fX9_1 E hP mw_324 dX9_why_15 ?_
    refine fX1_16 ((by decide : 0 < 3)) E hP mw_184 dX9_why_18 ?_
    refine g_cVi (As := [.int x1, .int (s1 5 0 7)]) (rest := []) E hl.1 (c_X4_lastOf l D cy ad ha hw _) ok_X4_lastOf mw_854 ⟨(Nat.le_of_ble_eq_true rfl), (Nat.le_of_ble_eq_true rfl)⟩ ⟨rfl, rfl⟩ rC14 rfl rfl rfl rfl rfl (Nat.le_of_ble_eq_true rfl) ⟨Nat.zero_le _, Nat.zero_le _⟩ hP hS dX9_why_21 (fun r3 s3 hw H locs hP hS => ?_)
    refine lv_goto (tgt := 29) hx hb dX9_why_24 (by decide) ?_
    exact g_iret E hw hP hS dX9_why_29
theorem c_X9_why (l : Launch) (D : va_G) (cy : Nat → ClassId) (ad : Nat → Nat → Nat) (ha : Apart regsC ad) {post : Int32 → St → Prop} {σ : St} {x1 : Int32} (hw : w_X9_why post σ x1) (sz : Nat) : MetI l yX9_why cX9_why 2 .int rm_X9_why [.ref (ad 0 0), .int x1] D cy (cellC cy ad) regsC ad σ sz post :=
  Met_inI ok_X9_why.2.2.2.2.2 (Nat.le_of_ble_eq_true rfl) (fun p e s m below meth c ls E hP hl => B_X9_why_0 E ha hw hP va_S.rf hl)
-- RoofWar.sheet(III)I
theorem dX9_sheet_0 : decode cX9_sheet 0 = .ok (.iload_n 1, 1) := by decide +kernel
theorem dX9_sheet_1 : decode cX9_sheet 1 = .ok (.invokestatic 238, 3) := by decide +kernel
theorem dX9_sheet_4 : decode cX9_sheet 4 = .ok (.ifCond .eq 12, 3) := by decide +kernel
theorem dX9_sheet_7 : decode cX9_sheet 7 = .ok (.iload_n 2, 1) := by decide +kernel
theorem dX9_sheet_8 : decode cX9_sheet 8 = .ok (.iconst (-1), 1) := by decide +kernel
theorem dX9_sheet_9 : decode cX9_sheet 9 = .ok (.iconst 1, 1) := by decide +kernel
theorem dX9_sheet_10 : decode cX9_sheet 10 = .ok (.invokestatic 87, 3) := by decide +kernel
theorem dX9_sheet_13 : decode cX9_sheet 13 = .ok (.ifCond .ne 6, 3) := by decide +kernel
theorem dX9_sheet_16 : decode cX9_sheet 16 = .ok (.ldc 94, 2) := by decide +kernel
theorem dX9_sheet_18 : decode cX9_sheet 18 = .ok (.ireturn, 1) := by decide +kernel
theorem dX9_sheet_19 : decode cX9_sheet 19 = .ok (.iload_n 2, 1) := by decide +kernel
theorem dX9_sheet_20 : decode cX9_sheet 20 = .ok (.iconst (-1), 1) := by decide +kernel
theorem dX9_sheet_21 : decode cX9_sheet 21 = .ok (.if_icmp .ne 16, 3) := by decide +kernel
theorem dX9_sheet_24 : decode cX9_sheet 24 = .ok (.aload_n 0, 1) := by decide +kernel
theorem dX9_sheet_25 : decode cX9_sheet 25 = .ok (.getfield 60, 3) := by decide +kernel
theorem dX9_sheet_28 : decode cX9_sheet 28 = .ok (.iload_n 1, 1) := by decide +kernel
theorem dX9_sheet_29 : decode cX9_sheet 29 = .ok (.aaload, 1) := by decide +kernel
theorem dX9_sheet_30 : decode cX9_sheet 30 = .ok (.iconst (-1), 1) := by decide +kernel
theorem dX9_sheet_31 : decode cX9_sheet 31 = .ok (.iconst 0, 1) := by decide +kernel
theorem dX9_sheet_32 : decode cX9_sheet 32 = .ok (.invokevirtual 286, 3) := by decide +kernel
theorem dX9_sheet_35 : decode cX9_sheet 35 = .ok (.iconst 0, 1) := by decide +kernel
theorem dX9_sheet_36 : decode cX9_sheet 36 = .ok (.ireturn, 1) := by decide +kernel
theorem dX9_sheet_37 : decode cX9_sheet 37 = .ok (.iload_n 3, 1) := by decide +kernel
theorem dX9_sheet_38 : decode cX9_sheet 38 = .ok (.bipush 24, 2) := by decide +kernel
theorem dX9_sheet_40 : decode cX9_sheet 40 = .ok (.if_icmp .le 6, 3) := by decide +kernel
theorem dX9_sheet_43 : decode cX9_sheet 43 = .ok (.ldc 94, 2) := by decide +kernel
theorem dX9_sheet_45 : decode cX9_sheet 45 = .ok (.ireturn, 1) := by decide +kernel
theorem dX9_sheet_46 : decode cX9_sheet 46 = .ok (.iload_n 3, 1) := by decide +kernel
theorem dX9_sheet_47 : decode cX9_sheet 47 = .ok (.ifCond .ge 7, 3) := by decide +kernel
theorem dX9_sheet_50 : decode cX9_sheet 50 = .ok (.ldc_w 289, 3) := by decide +kernel
theorem dX9_sheet_53 : decode cX9_sheet 53 = .ok (.ireturn, 1) := by decide +kernel
theorem dX9_sheet_54 : decode cX9_sheet 54 = .ok (.aload_n 0, 1) := by decide +kernel
theorem dX9_sheet_55 : decode cX9_sheet 55 = .ok (.getfield 60, 3) := by decide +kernel
theorem dX9_sheet_58 : decode cX9_sheet 58 = .ok (.iload_n 1, 1) := by decide +kernel
theorem dX9_sheet_59 : decode cX9_sheet 59 = .ok (.aaload, 1) := by decide +kernel
theorem dX9_sheet_60 : decode cX9_sheet 60 = .ok (.iload_n 2, 1) := by decide +kernel
theorem dX9_sheet_61 : decode cX9_sheet 61 = .ok (.iload_n 3, 1) := by decide +kernel
theorem dX9_sheet_62 : decode cX9_sheet 62 = .ok (.invokevirtual 286, 3) := by decide +kernel
theorem dX9_sheet_65 : decode cX9_sheet 65 = .ok (.iload_n 3, 1) := by decide +kernel
theorem dX9_sheet_66 : decode cX9_sheet 66 = .ok (.ireturn, 1) := by decide +kernel
theorem ok_X9_sheet : okV yX9_sheet cX9_sheet 4 (some .int) 3 := ⟨mw_856, mw_857, mw_74, mw_858, by decide +kernel, by decide +kernel⟩
abbrev rm_X9_sheet : Room := { frames := 2, cells := 0, slots := 0, locals := 42 }
def w_X9_sheet (post : Int32 → St → Prop) (σ : St) (x1 : Int32) (x2 : Int32) (x3 : Int32) : Prop := w_X9_isSheet (fun r1 s1 => ((r1 = 0 → (post ((-1000000001)) s1)) ∧ (¬ r1 = 0 → (w_X9_within (fun r3 s3 => ((¬ r3 = 0 → (((¬ x2 = ((-1)) → (((x3 ≤ 24 → (((0 ≤ x3 → (vp_in x1 4 ∧ (w_X6_renew (fun s9 => post x3 s9) s3 x1.toNatClampNeg x2 x3))) ∧ (¬ 0 ≤ x3 → (post ((-1000000014)) s3))))) ∧ (¬ x3 ≤ 24 → (post ((-1000000001)) s3))))) ∧ (x2 = ((-1)) → (vp_in x1 4 ∧ (w_X6_renew (fun s11 => post 0 s11) s3 x1.toNatClampNeg (-1 : Int32) (0 : Int32))))))) ∧ (r3 = 0 → (post ((-1000000001)) s3)))) s1 x2 (-1 : Int32) (1 : Int32))))) σ x1
theorem B_X9_sheet_0 (E : EnvW p s m args meth c D cy regsC ad "RoofWar" cX9_sheet 4 (some .int)) (ha : Apart regsC ad) {post : Int32 → St → Prop} {σ : St} {x1 : Int32} {x2 : Int32} {x3 : Int32} (hw : w_X9_sheet post σ x1 x2 x3) {H : Heap} {locs : List Loc} {ls : Array Slot} (hP : va_P D CLS (wC cy ad σ) H) (hS : va_S (AC ad s.heap.size) s.heap H locs) (hl : lv_has ls 4 [(0, .ref (ad 0 0)), (1, .int x1), (2, .int x2), (3, .int x3)]) : W p l e rm_X9_sheet s m args below meth c H locs 0 0 (MQ below (QI D cy (cellC cy ad) regsC ad s.heap.size post) args s 0 0 (AC ad s.heap.size)) (F0 m 0 ls []) := by
  obtain ⟨hx, hb, -⟩ := id E
  unfold w_X9_sheet at hw
  refine lv_iload_n hx hb dX9_sheet_0 rfl (lv_at hl 1 rfl) ?_
  refine g_cSi (As := [.int x1]) (rest := []) E hl.1 (c_X9_isSheet l D cy ad ha hw _) ok_X9_isSheet mw_641 ⟨(Nat.le_of_ble_eq_true rfl), (Nat.le_of_ble_eq_true rfl)⟩ ⟨rfl, rfl⟩ rfl rfl (Nat.le_of_ble_eq_true rfl) ⟨Nat.zero_le _, Nat.zero_le _⟩ hP hS dX9_sheet_1 (fun r1 s1 hw H locs hP hS => ?_)
  obtain ⟨z1, hw⟩ := hw
  refine lv_if_eq (tgt := 16) hx hb dX9_sheet_4 (by decide) (fun c2 => ?_) (fun c2 => ?_)
  · replace hw := hw.1 c2
    refine g_ldc (v := -1000000001) E mw_376 dX9_sheet_16 ?_
    exact g_iret E hw hP hS dX9_sheet_18
  · replace hw := hw.2 c2
    refine lv_iload_n hx hb dX9_sheet_7 rfl (lv_at hl 2 rfl) ?_
    refine lv_iconst (v := -1) hx hb dX9_sheet_8 (by decide) ?_
    refine lv_iconst (v := 1) hx hb dX9_sheet_9 (by decide) ?_
    refine g_cSi (As := [.int x2, .int ((-1)), .int 1]) (rest := []) E hl.1 (c_X9_within l D cy ad ha hw _) ok_X9_within mw_370 ⟨(Nat.le_of_ble_eq_true rfl), (Nat.le_of_ble_eq_true rfl)⟩ ⟨rfl, rfl⟩ rfl rfl (Nat.le_of_ble_eq_true rfl) ⟨Nat.zero_le _, Nat.zero_le _⟩ hP hS dX9_sheet_10 (fun r3 s3 hw H locs hP hS => ?_)
    obtain ⟨z3, hw⟩ := hw
    refine lv_if_ne (tgt := 19) hx hb dX9_sheet_13 (by decide) (fun c4 => ?_) (fun c4 => ?_)
    · replace hw := hw.1 c4
      refine lv_iload_n hx hb dX9_sheet_19 rfl (lv_at hl 2 rfl) ?_
      refine lv_iconst (v := -1) hx hb dX9_sheet_20 (by decide) ?_
      refine lv_icmp_ne (tgt := 37) hx hb dX9_sheet_21 (by decide) (fun c5 => ?_) (fun c5 => ?_)
      · replace hw := hw.1 c5
        refine lv_iload_n hx hb dX9_sheet_37 rfl (lv_at hl 3 rfl) ?_
        refine lv_bipush (v := 24) hx hb dX9_sheet_38 (by decide) ?_
        refine lv_icmp_le (tgt := 46) hx hb dX9_sheet_40 (by decide) (fun c6 => ?_) (fun c6 => ?_)
        · replace hw := hw.1 c6
          refine lv_iload_n hx hb dX9_sheet_46 rfl (lv_at hl 3 rfl) ?_
          refine lv_if_ge (tgt := 54) hx hb dX9_sheet_47 (by decide) (fun c7 => ?_) (fun c7 => ?_)
          · replace hw := hw.1 c7
            refine lv_aload_n hx hb dX9_sheet_54 rfl (lv_at hl 0 rfl) ?_
            refine fX9_8 E hP mw_331 dX9_sheet_55 ?_
            refine lv_iload_n hx hb dX9_sheet_58 rfl (lv_at hl 1 rfl) ?_
            obtain ⟨h8, hw⟩ := hw
            refine aC3 E hP h8 dX9_sheet_59 ?_
            refine lv_iload_n hx hb dX9_sheet_60 rfl (lv_at hl 2 rfl) ?_
            refine lv_iload_n hx hb dX9_sheet_61 rfl (lv_at hl 3 rfl) ?_
            refine g_cVv (As := [.int x2, .int x3]) (rest := []) E hl.1 (c_X6_renew l D cy ad ha ((Nat.lt_of_lt_of_le (vp_lt h8) (by decide))) hw _) ok_X6_renew mw_859 ⟨(Nat.le_of_ble_eq_true rfl), (Nat.le_of_ble_eq_true rfl)⟩ ⟨rfl, rfl⟩ (rC22 (Nat.lt_of_lt_of_le (vp_lt h8) (by decide))) rfl rfl rfl rfl rfl (Nat.le_of_ble_eq_true rfl) ⟨Nat.zero_le _, Nat.zero_le _⟩ hP hS dX9_sheet_62 (fun s9 hw H locs hP hS => ?_)
            refine lv_iload_n hx hb dX9_sheet_65 rfl (lv_at hl 3 rfl) ?_
            exact g_iret E hw hP hS dX9_sheet_66
          · replace hw := hw.2 c7
            refine g_ldcw (v := -1000000014) E mw_863 dX9_sheet_50 ?_
            exact g_iret E hw hP hS dX9_sheet_53
        · replace hw := hw.2 c6
          refine g_ldc (v := -1000000001) E mw_376 dX9_sheet_43 ?_
          exact g_iret E hw hP hS dX9_sheet_45
      · replace hw := hw.2 c5
        refine lv_aload_n hx hb dX9_sheet_24 rfl (lv_at hl 0 rfl) ?_
        refine fX9_8 E hP mw_331 dX9_sheet_25 ?_
        refine lv_iload_n hx hb dX9_sheet_28 rfl (lv_at hl 1 rfl) ?_
        obtain ⟨h10, hw⟩ := hw
        refine aC3 E hP h10 dX9_sheet_29 ?_
        refine lv_iconst (v := -1) hx hb dX9_sheet_30 (by decide) ?_
        refine lv_iconst (v := 0) hx hb dX9_sheet_31 (by decide) ?_
        refine g_cVv (As := [.int ((-1)), .int 0]) (rest := []) E hl.1 (c_X6_renew l D cy ad ha ((Nat.lt_of_lt_of_le (vp_lt h10) (by decide))) hw _) ok_X6_renew mw_859 ⟨(Nat.le_of_ble_eq_true rfl), (Nat.le_of_ble_eq_true rfl)⟩ ⟨rfl, rfl⟩ (rC22 (Nat.lt_of_lt_of_le (vp_lt h10) (by decide))) rfl rfl rfl rfl rfl (Nat.le_of_ble_eq_true rfl) ⟨Nat.zero_le _, Nat.zero_le _⟩ hP hS dX9_sheet_32 (fun s11 hw H locs hP hS => ?_)
        refine lv_iconst (v := 0) hx hb dX9_sheet_35 (by decide) ?_
        exact g_iret E hw hP hS dX9_sheet_36
    · replace hw := hw.2 c4
      refine g_ldc (v := -1000000001) E mw_376 dX9_sheet_16 ?_
      exact g_iret E hw hP hS dX9_sheet_18
theorem c_X9_sheet (l : Launch) (D : va_G) (cy : Nat → ClassId) (ad : Nat → Nat → Nat) (ha : Apart regsC ad) {post : Int32 → St → Prop} {σ : St} {x1 : Int32} {x2 : Int32} {x3 : Int32} (hw : w_X9_sheet post σ x1 x2 x3) (sz : Nat) : MetI l yX9_sheet cX9_sheet 4 .int rm_X9_sheet [.ref (ad 0 0), .int x1, .int x2, .int x3] D cy (cellC cy ad) regsC ad σ sz post :=
  Met_inI ok_X9_sheet.2.2.2.2.2 (Nat.le_of_ble_eq_true rfl) (fun p e s m below meth c ls E hP hl => B_X9_sheet_0 E ha hw hP va_S.rf hl)
-- RoofWar.mark(III)I
theorem dX9_mark_0 : decode cX9_mark 0 = .ok (.iload_n 1, 1) := by decide +kernel
theorem dX9_mark_1 : decode cX9_mark 1 = .ok (.invokestatic 238, 3) := by decide +kernel
theorem dX9_mark_4 : decode cX9_mark 4 = .ok (.ifCond .ne 6, 3) := by decide +kernel
theorem dX9_mark_7 : decode cX9_mark 7 = .ok (.ldc 94, 2) := by decide +kernel
theorem dX9_mark_9 : decode cX9_mark 9 = .ok (.ireturn, 1) := by decide +kernel
theorem dX9_mark_10 : decode cX9_mark 10 = .ok (.aload_n 0, 1) := by decide +kernel
theorem dX9_mark_11 : decode cX9_mark 11 = .ok (.getfield 60, 3) := by decide +kernel
theorem dX9_mark_14 : decode cX9_mark 14 = .ok (.iload_n 1, 1) := by decide +kernel
theorem dX9_mark_15 : decode cX9_mark 15 = .ok (.aaload, 1) := by decide +kernel
theorem dX9_mark_16 : decode cX9_mark 16 = .ok (.astore 4, 2) := by decide +kernel
theorem dX9_mark_18 : decode cX9_mark 18 = .ok (.aload 4, 2) := by decide +kernel
theorem dX9_mark_20 : decode cX9_mark 20 = .ok (.invokevirtual 241, 3) := by decide +kernel
theorem dX9_mark_23 : decode cX9_mark 23 = .ok (.ifCond .eq 6, 3) := by decide +kernel
theorem dX9_mark_26 : decode cX9_mark 26 = .ok (.ldc 245, 2) := by decide +kernel
theorem dX9_mark_28 : decode cX9_mark 28 = .ok (.ireturn, 1) := by decide +kernel
theorem dX9_mark_29 : decode cX9_mark 29 = .ok (.aload 4, 2) := by decide +kernel
theorem dX9_mark_31 : decode cX9_mark 31 = .ok (.iload_n 2, 1) := by decide +kernel
theorem dX9_mark_32 : decode cX9_mark 32 = .ok (.invokevirtual 290, 3) := by decide +kernel
theorem dX9_mark_35 : decode cX9_mark 35 = .ok (.ifCond .ne 7, 3) := by decide +kernel
theorem dX9_mark_38 : decode cX9_mark 38 = .ok (.ldc_w 293, 3) := by decide +kernel
theorem dX9_mark_41 : decode cX9_mark 41 = .ok (.ireturn, 1) := by decide +kernel
theorem dX9_mark_42 : decode cX9_mark 42 = .ok (.aload 4, 2) := by decide +kernel
theorem dX9_mark_44 : decode cX9_mark 44 = .ok (.getfield 294, 3) := by decide +kernel
theorem dX9_mark_47 : decode cX9_mark 47 = .ok (.ifCond .ne 23, 3) := by decide +kernel
theorem dX9_mark_50 : decode cX9_mark 50 = .ok (.iload_n 3, 1) := by decide +kernel
theorem dX9_mark_51 : decode cX9_mark 51 = .ok (.ldc 98, 2) := by decide +kernel
theorem dX9_mark_53 : decode cX9_mark 53 = .ok (.if_icmp .ne 6, 3) := by decide +kernel
theorem dX9_mark_56 : decode cX9_mark 56 = .ok (.ldc 142, 2) := by decide +kernel
theorem dX9_mark_58 : decode cX9_mark 58 = .ok (.ireturn, 1) := by decide +kernel
theorem dX9_mark_59 : decode cX9_mark 59 = .ok (.aload 4, 2) := by decide +kernel
theorem dX9_mark_61 : decode cX9_mark 61 = .ok (.getfield 297, 3) := by decide +kernel
theorem dX9_mark_64 : decode cX9_mark 64 = .ok (.iload_n 2, 1) := by decide +kernel
theorem dX9_mark_65 : decode cX9_mark 65 = .ok (.iload_n 3, 1) := by decide +kernel
theorem dX9_mark_66 : decode cX9_mark 66 = .ok (.i2s, 1) := by decide +kernel
theorem dX9_mark_67 : decode cX9_mark 67 = .ok (.iastore, 1) := by decide +kernel
theorem dX9_mark_68 : decode cX9_mark 68 = .ok (.iconst 1, 1) := by decide +kernel
theorem dX9_mark_69 : decode cX9_mark 69 = .ok (.ireturn, 1) := by decide +kernel
theorem dX9_mark_70 : decode cX9_mark 70 = .ok (.iload_n 3, 1) := by decide +kernel
theorem dX9_mark_71 : decode cX9_mark 71 = .ok (.ldc 98, 2) := by decide +kernel
theorem dX9_mark_73 : decode cX9_mark 73 = .ok (.if_icmp .eq 19, 3) := by decide +kernel
theorem dX9_mark_76 : decode cX9_mark 76 = .ok (.iload_n 3, 1) := by decide +kernel
theorem dX9_mark_77 : decode cX9_mark 77 = .ok (.ldc_w 300, 3) := by decide +kernel
theorem dX9_mark_80 : decode cX9_mark 80 = .ok (.ldc_w 301, 3) := by decide +kernel
theorem dX9_mark_83 : decode cX9_mark 83 = .ok (.invokestatic 87, 3) := by decide +kernel
theorem dX9_mark_86 : decode cX9_mark 86 = .ok (.ifCond .ne 6, 3) := by decide +kernel
theorem dX9_mark_89 : decode cX9_mark 89 = .ok (.ldc 94, 2) := by decide +kernel
theorem dX9_mark_91 : decode cX9_mark 91 = .ok (.ireturn, 1) := by decide +kernel
theorem dX9_mark_92 : decode cX9_mark 92 = .ok (.aload 4, 2) := by decide +kernel
theorem dX9_mark_94 : decode cX9_mark 94 = .ok (.getfield 297, 3) := by decide +kernel
theorem dX9_mark_97 : decode cX9_mark 97 = .ok (.iload_n 2, 1) := by decide +kernel
theorem dX9_mark_98 : decode cX9_mark 98 = .ok (.iload_n 3, 1) := by decide +kernel
theorem dX9_mark_99 : decode cX9_mark 99 = .ok (.iastore, 1) := by decide +kernel
theorem dX9_mark_100 : decode cX9_mark 100 = .ok (.iconst 1, 1) := by decide +kernel
theorem dX9_mark_101 : decode cX9_mark 101 = .ok (.ireturn, 1) := by decide +kernel
theorem ok_X9_mark : okV yX9_mark cX9_mark 5 (some .int) 3 := ⟨mw_865, mw_866, mw_74, mw_867, by decide +kernel, by decide +kernel⟩
abbrev rm_X9_mark : Room := { frames := 2, cells := 0, slots := 0, locals := 42 }
def b_X9_mark_92 (post : Int32 → St → Prop) (σ : St) (x2 : Int32) (x3 : Int32) (i4 : Nat) : Prop := vp_in x2 24 ∧ (∀ s2 : St, s2 = wr σ 23 i4 x2.toNatClampNeg x3 → (post 1 s2))
theorem B_X9_mark_92 (E : EnvW p s m args meth c D cy regsC ad "RoofWar" cX9_mark 5 (some .int)) (ha : Apart regsC ad) {post : Int32 → St → Prop} {σ : St} {x2 : Int32} {x3 : Int32} {i4 : Nat} (hi4 : i4 < 9) (hw : b_X9_mark_92 post σ x2 x3 i4) {H : Heap} {locs : List Loc} {ls : Array Slot} (hP : va_P D CLS (wC cy ad σ) H) (hS : va_S (AC ad s.heap.size) s.heap H locs) (hl : lv_has ls 5 [(2, .int x2), (3, .int x3), (4, .ref (ad 22 i4))]) : W p l e rm_X9_mark s m args below meth c H locs 0 0 (MQ below (QI D cy (cellC cy ad) regsC ad s.heap.size post) args s 0 0 (AC ad s.heap.size)) (F0 m 92 ls []) := by
  obtain ⟨hx, hb, -⟩ := id E
  unfold b_X9_mark_92 at hw
  refine lv_aload hx hb dX9_mark_92 (lv_at hl 2 rfl) ?_
  refine fX6_2 hi4 E hP mw_292 dX9_mark_94 ?_
  refine lv_iload_n hx hb dX9_mark_97 rfl (lv_at hl 0 rfl) ?_
  refine lv_iload_n hx hb dX9_mark_98 rfl (lv_at hl 1 rfl) ?_
  obtain ⟨h1, hw⟩ := hw
  refine tC23 hi4 E ha h1 dX9_mark_99 hP hS (fun s2 es2 H locs hP hS => ?_)
  replace hw := hw s2 es2
  refine lv_iconst (v := 1) hx hb dX9_mark_100 (by decide) ?_
  exact g_iret E hw hP hS dX9_mark_101
def w_X9_mark (post : Int32 → St → Prop) (σ : St) (x1 : Int32) (x2 : Int32) (x3 : Int32) : Prop := w_X9_isSheet (fun r1 s1 => ((¬ r1 = 0 → (vp_in x1 4 ∧ (w_X6_isMissing (fun r4 s4 => ((r4 = 0 → (w_X6_hasPlace (fun r6 s6 => ((¬ r6 = 0 → (((¬ (s6 22 x1.toNatClampNeg 0) = 0 → (((x3 = ((-1000000005)) → (b_X9_mark_92 post s6 x2 x3 x1.toNatClampNeg)) ∧ (¬ x3 = ((-1000000005)) → (w_X9_within (fun r10 s10 => ((¬ r10 = 0 → (b_X9_mark_92 post s10 x2 x3 x1.toNatClampNeg)) ∧ (r10 = 0 → (post ((-1000000001)) s10)))) s6 x3 (-99999 : Int32) (99999 : Int32)))))) ∧ ((s6 22 x1.toNatClampNeg 0) = 0 → (((¬ x3 = ((-1000000005)) → (vp_in x2 24 ∧ (∀ s14 : St, s14 = wr s6 23 x1.toNatClampNeg x2.toNatClampNeg x3.toInt16.toInt32 → (post 1 s14)))) ∧ (x3 = ((-1000000005)) → (post ((-1000000012)) s6)))))))) ∧ (r6 = 0 → (post ((-1000000013)) s6)))) s4 x1.toNatClampNeg x2)) ∧ (¬ r4 = 0 → (post ((-1000000011)) s4)))) s1 x1.toNatClampNeg))) ∧ (r1 = 0 → (post ((-1000000001)) s1)))) σ x1
theorem B_X9_mark_0 (E : EnvW p s m args meth c D cy regsC ad "RoofWar" cX9_mark 5 (some .int)) (ha : Apart regsC ad) {post : Int32 → St → Prop} {σ : St} {x1 : Int32} {x2 : Int32} {x3 : Int32} (hw : w_X9_mark post σ x1 x2 x3) {H : Heap} {locs : List Loc} {ls : Array Slot} (hP : va_P D CLS (wC cy ad σ) H) (hS : va_S (AC ad s.heap.size) s.heap H locs) (hl : lv_has ls 5 [(0, .ref (ad 0 0)), (1, .int x1), (2, .int x2), (3, .int x3)]) : W p l e rm_X9_mark s m args below meth c H locs 0 0 (MQ below (QI D cy (cellC cy ad) regsC ad s.heap.size post) args s 0 0 (AC ad s.heap.size)) (F0 m 0 ls []) := by
  obtain ⟨hx, hb, -⟩ := id E
  unfold w_X9_mark at hw
  refine lv_iload_n hx hb dX9_mark_0 rfl (lv_at hl 1 rfl) ?_
  refine g_cSi (As := [.int x1]) (rest := []) E hl.1 (c_X9_isSheet l D cy ad ha hw _) ok_X9_isSheet mw_641 ⟨(Nat.le_of_ble_eq_true rfl), (Nat.le_of_ble_eq_true rfl)⟩ ⟨rfl, rfl⟩ rfl rfl (Nat.le_of_ble_eq_true rfl) ⟨Nat.zero_le _, Nat.zero_le _⟩ hP hS dX9_mark_1 (fun r1 s1 hw H locs hP hS => ?_)
  obtain ⟨z1, hw⟩ := hw
  refine lv_if_ne (tgt := 10) hx hb dX9_mark_4 (by decide) (fun c2 => ?_) (fun c2 => ?_)
  · replace hw := hw.1 c2
    refine lv_aload_n hx hb dX9_mark_10 rfl (lv_at hl 0 rfl) ?_
    refine fX9_8 E hP mw_331 dX9_mark_11 ?_
    refine lv_iload_n hx hb dX9_mark_14 rfl (lv_at hl 1 rfl) ?_
    obtain ⟨h3, hw⟩ := hw
    refine aC3 E hP h3 dX9_mark_15 ?_
    refine lv_astore (lv' := [(4, .ref (ad 22 x1.toNatClampNeg)), (0, .ref (ad 0 0)), (1, .int x1), (2, .int x2), (3, .int x3)]) hx hb dX9_mark_16 hl (by decide) rfl (fun ls hl => ?_)
    refine lv_aload hx hb dX9_mark_18 (lv_at hl 0 rfl) ?_
    refine g_cVi (As := []) (rest := []) E hl.1 (c_X6_isMissing l D cy ad ha ((Nat.lt_of_lt_of_le (vp_lt h3) (by decide))) hw _) ok_X6_isMissing mw_644 ⟨(Nat.le_of_ble_eq_true rfl), (Nat.le_of_ble_eq_true rfl)⟩ ⟨rfl, rfl⟩ (rC22 (Nat.lt_of_lt_of_le (vp_lt h3) (by decide))) rfl rfl rfl rfl rfl (Nat.le_of_ble_eq_true rfl) ⟨Nat.zero_le _, Nat.zero_le _⟩ hP hS dX9_mark_20 (fun r4 s4 hw H locs hP hS => ?_)
    obtain ⟨z4, hw⟩ := hw
    refine lv_if_eq (tgt := 29) hx hb dX9_mark_23 (by decide) (fun c5 => ?_) (fun c5 => ?_)
    · replace hw := hw.1 c5
      refine lv_aload hx hb dX9_mark_29 (lv_at hl 0 rfl) ?_
      refine lv_iload_n hx hb dX9_mark_31 rfl (lv_at hl 3 rfl) ?_
      refine g_cVi (As := [.int x2]) (rest := []) E hl.1 (c_X6_hasPlace l D cy ad ha ((Nat.lt_of_lt_of_le (vp_lt h3) (by decide))) hw _) ok_X6_hasPlace mw_868 ⟨(Nat.le_of_ble_eq_true rfl), (Nat.le_of_ble_eq_true rfl)⟩ ⟨rfl, rfl⟩ (rC22 (Nat.lt_of_lt_of_le (vp_lt h3) (by decide))) rfl rfl rfl rfl rfl (Nat.le_of_ble_eq_true rfl) ⟨Nat.zero_le _, Nat.zero_le _⟩ hP hS dX9_mark_32 (fun r6 s6 hw H locs hP hS => ?_)
      obtain ⟨z6, hw⟩ := hw
      refine lv_if_ne (tgt := 42) hx hb dX9_mark_35 (by decide) (fun c7 => ?_) (fun c7 => ?_)
      · replace hw := hw.1 c7
        refine lv_aload hx hb dX9_mark_42 (lv_at hl 0 rfl) ?_
        refine fX6_0 ((Nat.lt_of_lt_of_le (vp_lt h3) (by decide))) E hP mw_288 dX9_mark_44 ?_
        refine lv_if_ne (tgt := 70) hx hb dX9_mark_47 (by decide) (fun c8 => ?_) (fun c8 => ?_)
        · replace hw := hw.1 c8
          refine lv_iload_n hx hb dX9_mark_70 rfl (lv_at hl 4 rfl) ?_
          refine g_ldc (v := -1000000005) E mw_377 dX9_mark_71 ?_
          refine lv_icmp_eq (tgt := 92) hx hb dX9_mark_73 (by decide) (fun c9 => ?_) (fun c9 => ?_)
          · replace hw := hw.1 c9
            exact B_X9_mark_92 E ha ((Nat.lt_of_lt_of_le (vp_lt h3) (by decide))) hw hP hS (lv_sub hl [3, 4, 0] rfl)
          · replace hw := hw.2 c9
            refine lv_iload_n hx hb dX9_mark_76 rfl (lv_at hl 4 rfl) ?_
            refine g_ldcw (v := -99999) E mw_873 dX9_mark_77 ?_
            refine g_ldcw (v := 99999) E mw_874 dX9_mark_80 ?_
            refine g_cSi (As := [.int x3, .int ((-99999)), .int 99999]) (rest := []) E hl.1 (c_X9_within l D cy ad ha hw _) ok_X9_within mw_370 ⟨(Nat.le_of_ble_eq_true rfl), (Nat.le_of_ble_eq_true rfl)⟩ ⟨rfl, rfl⟩ rfl rfl (Nat.le_of_ble_eq_true rfl) ⟨Nat.zero_le _, Nat.zero_le _⟩ hP hS dX9_mark_83 (fun r10 s10 hw H locs hP hS => ?_)
            obtain ⟨z10, hw⟩ := hw
            refine lv_if_ne (tgt := 92) hx hb dX9_mark_86 (by decide) (fun c11 => ?_) (fun c11 => ?_)
            · replace hw := hw.1 c11
              exact B_X9_mark_92 E ha ((Nat.lt_of_lt_of_le (vp_lt h3) (by decide))) hw hP hS (lv_sub hl [3, 4, 0] rfl)
            · replace hw := hw.2 c11
              refine g_ldc (v := -1000000001) E mw_376 dX9_mark_89 ?_
              exact g_iret E hw hP hS dX9_mark_91
        · replace hw := hw.2 c8
          refine lv_iload_n hx hb dX9_mark_50 rfl (lv_at hl 4 rfl) ?_
          refine g_ldc (v := -1000000005) E mw_377 dX9_mark_51 ?_
          refine lv_icmp_ne (tgt := 59) hx hb dX9_mark_53 (by decide) (fun c12 => ?_) (fun c12 => ?_)
          · replace hw := hw.1 c12
            refine lv_aload hx hb dX9_mark_59 (lv_at hl 0 rfl) ?_
            refine fX6_2 ((Nat.lt_of_lt_of_le (vp_lt h3) (by decide))) E hP mw_292 dX9_mark_61 ?_
            refine lv_iload_n hx hb dX9_mark_64 rfl (lv_at hl 3 rfl) ?_
            refine lv_iload_n hx hb dX9_mark_65 rfl (lv_at hl 4 rfl) ?_
            refine lv_i2s (v := x3.toInt16.toInt32) hx hb dX9_mark_66 rfl ?_
            obtain ⟨h13, hw⟩ := hw
            refine tC23 ((Nat.lt_of_lt_of_le (vp_lt h3) (by decide))) E ha h13 dX9_mark_67 hP hS (fun s14 es14 H locs hP hS => ?_)
            replace hw := hw s14 es14
            refine lv_iconst (v := 1) hx hb dX9_mark_68 (by decide) ?_
            exact g_iret E hw hP hS dX9_mark_69
          · replace hw := hw.2 c12
            refine g_ldc (v := -1000000012) E mw_413 dX9_mark_56 ?_
            exact g_iret E hw hP hS dX9_mark_58
      · replace hw := hw.2 c7
        refine g_ldcw (v := -1000000013) E mw_872 dX9_mark_38 ?_
        exact g_iret E hw hP hS dX9_mark_41
    · replace hw := hw.2 c5
      refine g_ldc (v := -1000000011) E mw_648 dX9_mark_26 ?_
      exact g_iret E hw hP hS dX9_mark_28
  · replace hw := hw.2 c2
    refine g_ldc (v := -1000000001) E mw_376 dX9_mark_7 ?_
    exact g_iret E hw hP hS dX9_mark_9
theorem c_X9_mark (l : Launch) (D : va_G) (cy : Nat → ClassId) (ad : Nat → Nat → Nat) (ha : Apart regsC ad) {post : Int32 → St → Prop} {σ : St} {x1 : Int32} {x2 : Int32} {x3 : Int32} (hw : w_X9_mark post σ x1 x2 x3) (sz : Nat) : MetI l yX9_mark cX9_mark 5 .int rm_X9_mark [.ref (ad 0 0), .int x1, .int x2, .int x3] D cy (cellC cy ad) regsC ad σ sz post :=
  Met_inI ok_X9_mark.2.2.2.2.2 (Nat.le_of_ble_eq_true rfl) (fun p e s m below meth c ls E hP hl => B_X9_mark_0 E ha hw hP va_S.rf hl)
-- RoofWar.pour(I)I
theorem dX9_pour_0 : decode cX9_pour 0 = .ok (.iload_n 1, 1) := by decide +kernel
theorem dX9_pour_1 : decode cX9_pour 1 = .ok (.invokestatic 238, 3) := by decide +kernel
theorem dX9_pour_4 : decode cX9_pour 4 = .ok (.ifCond .ne 6, 3) := by decide +kernel
theorem dX9_pour_7 : decode cX9_pour 7 = .ok (.ldc 94, 2) := by decide +kernel
theorem dX9_pour_9 : decode cX9_pour 9 = .ok (.ireturn, 1) := by decide +kernel
theorem dX9_pour_10 : decode cX9_pour 10 = .ok (.aload_n 0, 1) := by decide +kernel
theorem dX9_pour_11 : decode cX9_pour 11 = .ok (.getfield 60, 3) := by decide +kernel
theorem dX9_pour_14 : decode cX9_pour 14 = .ok (.iload_n 1, 1) := by decide +kernel
theorem dX9_pour_15 : decode cX9_pour 15 = .ok (.aaload, 1) := by decide +kernel
theorem dX9_pour_16 : decode cX9_pour 16 = .ok (.astore_n 2, 1) := by decide +kernel
theorem dX9_pour_17 : decode cX9_pour 17 = .ok (.aload_n 2, 1) := by decide +kernel
theorem dX9_pour_18 : decode cX9_pour 18 = .ok (.invokevirtual 241, 3) := by decide +kernel
theorem dX9_pour_21 : decode cX9_pour 21 = .ok (.ifCond .eq 6, 3) := by decide +kernel
theorem dX9_pour_24 : decode cX9_pour 24 = .ok (.ldc 245, 2) := by decide +kernel
theorem dX9_pour_26 : decode cX9_pour 26 = .ok (.ireturn, 1) := by decide +kernel
theorem dX9_pour_27 : decode cX9_pour 27 = .ok (.iconst 0, 1) := by decide +kernel
theorem dX9_pour_28 : decode cX9_pour 28 = .ok (.istore_n 3, 1) := by decide +kernel
theorem dX9_pour_29 : decode cX9_pour 29 = .ok (.iconst 0, 1) := by decide +kernel
theorem dX9_pour_30 : decode cX9_pour 30 = .ok (.istore 4, 2) := by decide +kernel
theorem dX9_pour_32 : decode cX9_pour 32 = .ok (.iload 4, 2) := by decide +kernel
theorem dX9_pour_34 : decode cX9_pour 34 = .ok (.aload_n 0, 1) := by decide +kernel
theorem dX9_pour_35 : decode cX9_pour 35 = .ok (.getfield 21, 3) := by decide +kernel
theorem dX9_pour_38 : decode cX9_pour 38 = .ok (.getfield 100, 3) := by decide +kernel
theorem dX9_pour_41 : decode cX9_pour 41 = .ok (.if_icmp .ge 72, 3) := by decide +kernel
theorem dX9_pour_44 : decode cX9_pour 44 = .ok (.iload 4, 2) := by decide +kernel
theorem dX9_pour_46 : decode cX9_pour 46 = .ok (.aload_n 2, 1) := by decide +kernel
theorem dX9_pour_47 : decode cX9_pour 47 = .ok (.getfield 302, 3) := by decide +kernel
theorem dX9_pour_50 : decode cX9_pour 50 = .ok (.if_icmp .ge 63, 3) := by decide +kernel
theorem dX9_pour_53 : decode cX9_pour 53 = .ok (.aload_n 2, 1) := by decide +kernel
theorem dX9_pour_54 : decode cX9_pour 54 = .ok (.iload 4, 2) := by decide +kernel
theorem dX9_pour_56 : decode cX9_pour 56 = .ok (.invokevirtual 303, 3) := by decide +kernel
theorem dX9_pour_59 : decode cX9_pour 59 = .ok (.ifCond .eq 48, 3) := by decide +kernel
theorem dX9_pour_62 : decode cX9_pour 62 = .ok (.aload_n 2, 1) := by decide +kernel
theorem dX9_pour_63 : decode cX9_pour 63 = .ok (.getfield 297, 3) := by decide +kernel
theorem dX9_pour_66 : decode cX9_pour 66 = .ok (.iload 4, 2) := by decide +kernel
theorem dX9_pour_68 : decode cX9_pour 68 = .ok (.iaload, 1) := by decide +kernel
theorem dX9_pour_69 : decode cX9_pour 69 = .ok (.iconst 0, 1) := by decide +kernel
theorem dX9_pour_70 : decode cX9_pour 70 = .ok (.bipush 99, 2) := by decide +kernel
theorem dX9_pour_72 : decode cX9_pour 72 = .ok (.invokestatic 306, 3) := by decide +kernel
theorem dX9_pour_75 : decode cX9_pour 75 = .ok (.istore 5, 2) := by decide +kernel
theorem dX9_pour_77 : decode cX9_pour 77 = .ok (.iload 5, 2) := by decide +kernel
theorem dX9_pour_79 : decode cX9_pour 79 = .ok (.aload_n 0, 1) := by decide +kernel
theorem dX9_pour_80 : decode cX9_pour 80 = .ok (.getfield 21, 3) := by decide +kernel
theorem dX9_pour_83 : decode cX9_pour 83 = .ok (.getfield 117, 3) := by decide +kernel
theorem dX9_pour_86 : decode cX9_pour 86 = .ok (.iload 4, 2) := by decide +kernel
theorem dX9_pour_88 : decode cX9_pour 88 = .ok (.iaload, 1) := by decide +kernel
theorem dX9_pour_89 : decode cX9_pour 89 = .ok (.if_icmp .eq 18, 3) := by decide +kernel
theorem dX9_pour_92 : decode cX9_pour 92 = .ok (.aload_n 0, 1) := by decide +kernel
theorem dX9_pour_93 : decode cX9_pour 93 = .ok (.getfield 21, 3) := by decide +kernel
theorem dX9_pour_96 : decode cX9_pour 96 = .ok (.getfield 117, 3) := by decide +kernel
theorem dX9_pour_99 : decode cX9_pour 99 = .ok (.iload 4, 2) := by decide +kernel
theorem dX9_pour_101 : decode cX9_pour 101 = .ok (.iload 5, 2) := by decide +kernel
theorem dX9_pour_103 : decode cX9_pour 103 = .ok (.iastore, 1) := by decide +kernel
theorem dX9_pour_104 : decode cX9_pour 104 = .ok (.iinc 3 1, 3) := by decide +kernel
theorem dX9_pour_107 : decode cX9_pour 107 = .ok (.iinc 4 1, 3) := by decide +kernel
theorem dX9_pour_110 : decode cX9_pour 110 = .ok (.goto (-78), 3) := by decide +kernel
theorem dX9_pour_113 : decode cX9_pour 113 = .ok (.iload_n 3, 1) := by decide +kernel
theorem dX9_pour_114 : decode cX9_pour 114 = .ok (.ireturn, 1) := by decide +kernel
theorem ok_X9_pour : okV yX9_pour cX9_pour 6 (some .int) 1 := ⟨mw_876, mw_877, mw_74, mw_878, by decide +kernel, by decide +kernel⟩
abbrev rm_X9_pour : Room := { frames := 2, cells := 0, slots := 0, locals := 46 }
def b_X9_pour_32 (K32 : St → Nat → Int32 → Int32 → Prop) (post : Int32 → St → Prop) (σ : St) (i2 : Nat) (x3 : Int32) (x4 : Int32) : Prop := (((σ 5 0 0) ≤ x4 → (post x3 σ)) ∧ (¬ (σ 5 0 0) ≤ x4 → ((((σ 22 i2 1) ≤ x4 → (post x3 σ)) ∧ (¬ (σ 22 i2 1) ≤ x4 → (w_X6_isNumber (fun r3 s3 => ((r3 = 0 → (∀ v5 : Int32, v5 = x4 + 1 → (K32 s3 i2 x3 v5))) ∧ (¬ r3 = 0 → (vp_in x4 24 ∧ (w_X9_heldWithin (fun r7 s7 => vp_in x4 12 ∧ (((r7 = (s7 8 0 x4.toNatClampNeg) → (∀ v10 : Int32, v10 = x4 + 1 → (K32 s7 i2 x3 v10))) ∧ (¬ r7 = (s7 8 0 x4.toNatClampNeg) → (vp_in x4 12 ∧ (∀ s12 : St, s12 = wr s7 8 0 x4.toNatClampNeg r7 → (∀ v13 : Int32, v13 = x3 + 1 → (∀ v14 : Int32, v14 = x4 + 1 → (K32 s12 i2 v13 v14))))))))) s3 (s3 23 i2 x4.toNatClampNeg) (0 : Int32) (99 : Int32)))))) σ i2 x4))))))
noncomputable def l_X9_pour_32 (post : Int32 → St → Prop) : Nat → St → Nat → Int32 → Int32 → Prop := fun n => Nat.rec (motive := fun _ => St → Nat → Int32 → Int32 → Prop) (fun _ _ _ _ => False) (fun _ ih => b_X9_pour_32 ih post) n
theorem L_X9_pour_32 (E : EnvW p s m args meth c D cy regsC ad "RoofWar" cX9_pour 6 (some .int)) (ha : Apart regsC ad) {post : Int32 → St → Prop} : ∀ (n : Nat), ∀ (σ : St) (i2 : Nat) (x3 : Int32) (x4 : Int32), i2 < 9 → l_X9_pour_32 post n σ i2 x3 x4 → ∀ (H : Heap) (locs : List Loc) (ls : Array Slot), va_P D CLS (wC cy ad σ) H → va_S (AC ad s.heap.size) s.heap H locs → lv_has ls 6 [(0, .ref (ad 0 0)), (2, .ref (ad 22 i2)), (3, .int x3), (4, .int x4)] → W p l e rm_X9_pour s m args below meth c H locs 0 0 (MQ below (QI D cy (cellC cy ad) regsC ad s.heap.size post) args s 0 0 (AC ad s.heap.size)) (F0 m 32 ls []) := by
  obtain ⟨hx, hb, -⟩ := id E
  intro n
  induction n with
  | zero => intro σ i2 x3 x4 hi2 hw; exact hw.elim
  | succ n hk32 =>
    intro σ i2 x3 x4 hi2 hw H locs ls hP hS hl
    replace hw : b_X9_pour_32 (l_X9_pour_32 post n) post σ i2 x3 x4 := hw
    unfold b_X9_pour_32 at hw
    refine lv_iload hx hb dX9_pour_32 (lv_at hl 3 rfl) ?_
    refine lv_aload_n hx hb dX9_pour_34 rfl (lv_at hl 0 rfl) ?_
    refine fX9_1 E hP mw_324 dX9_pour_35 ?_
    refine fX1_9 ((by decide : 0 < 3)) E hP mw_167 dX9_pour_38 ?_
    refine lv_icmp_ge (tgt := 113) hx hb dX9_pour_41 (by decide) (fun c1 => ?_) (fun c1 => ?_)
    · replace hw := hw.1 c1
      refine lv_iload_n hx hb dX9_pour_113 rfl (lv_at hl 2 rfl) ?_
      exact g_iret E hw hP hS dX9_pour_114
    · replace hw := hw.2 c1
      refine lv_iload hx hb dX9_pour_44 (lv_at hl 3 rfl) ?_
      refine lv_aload_n hx hb dX9_pour_46 rfl (lv_at hl 1 rfl) ?_
      refine fX6_1 hi2 E hP mw_290 dX9_pour_47 ?_
      refine lv_icmp_ge (tgt := 113) hx hb dX9_pour_50 (by decide) (fun c2 => ?_) (fun c2 => ?_)
      · replace hw := hw.1 c2
        refine lv_iload_n hx hb dX9_pour_113 rfl (lv_at hl 2 rfl) ?_
        exact g_iret E hw hP hS dX9_pour_114
      · replace hw := hw.2 c2
        refine lv_aload_n hx hb dX9_pour_53 rfl (lv_at hl 1 rfl) ?_
        refine lv_iload hx hb dX9_pour_54 (lv_at hl 3 rfl) ?_
        refine g_cVi (As := [.int x4]) (rest := []) E hl.1 (c_X6_isNumber l D cy ad ha hi2 hw _) ok_X6_isNumber mw_652 ⟨(Nat.le_of_ble_eq_true rfl), (Nat.le_of_ble_eq_true rfl)⟩ ⟨rfl, rfl⟩ (rC22 hi2) rfl rfl rfl rfl rfl (Nat.le_of_ble_eq_true rfl) ⟨Nat.zero_le _, Nat.zero_le _⟩ hP hS dX9_pour_56 (fun r3 s3 hw H locs hP hS => ?_)
        obtain ⟨z3, hw⟩ := hw
        refine lv_if_eq (tgt := 107) hx hb dX9_pour_59 (by decide) (fun c4 => ?_) (fun c4 => ?_)
        · replace hw := hw.1 c4
          obtain ⟨v5, ev5⟩ : ∃ y : Int32, y = x4 + 1 := ⟨_, rfl⟩
          replace hw := hw v5 ev5
          refine lv_iinc (v := v5) (lv' := [(4, .int v5), (0, .ref (ad 0 0)), (2, .ref (ad 22 i2)), (3, .int x3)]) hx hb dX9_pour_107 hl (k := 3) rfl (by rw [ev5]; rfl) (by decide) rfl (fun ls hl => ?_)
          refine lv_goto (tgt := 32) hx hb dX9_pour_110 (by decide) ?_
          exact hk32 s3 i2 x3 v5 hi2 hw _ _ _ hP hS (lv_sub hl [1, 2, 3, 0] rfl)
        · replace hw := hw.2 c4
          refine lv_aload_n hx hb dX9_pour_62 rfl (lv_at hl 1 rfl) ?_
          refine fX6_2 hi2 E hP mw_292 dX9_pour_63 ?_
          refine lv_iload hx hb dX9_pour_66 (lv_at hl 3 rfl) ?_
          obtain ⟨h6, hw⟩ := hw
          refine aC23 hi2 E hP h6 dX9_pour_68 ?_
          refine lv_iconst (v := 0) hx hb dX9_pour_69 (by decide) ?_
          refine lv_bipush (v := 99) hx hb dX9_pour_70 (by decide) ?_
          refine g_cSi (As := [.int (s3 23 i2 x4.toNatClampNeg), .int 0, .int 99]) (rest := []) E hl.1 (c_X9_heldWithin l D cy ad ha hw _) ok_X9_heldWithin mw_879 ⟨(Nat.le_of_ble_eq_true rfl), (Nat.le_of_ble_eq_true rfl)⟩ ⟨rfl, rfl⟩ rfl rfl (Nat.le_of_ble_eq_true rfl) ⟨Nat.zero_le _, Nat.zero_le _⟩ hP hS dX9_pour_72 (fun r7 s7 hw H locs hP hS => ?_)
          refine lv_istore (lv' := [(5, .int r7), (0, .ref (ad 0 0)), (2, .ref (ad 22 i2)), (3, .int x3), (4, .int x4)]) hx hb dX9_pour_75 hl (by decide) rfl (fun ls hl => ?_)
          refine lv_iload hx hb dX9_pour_77 (lv_at hl 0 rfl) ?_
          refine lv_aload_n hx hb dX9_pour_79 rfl (lv_at hl 1 rfl) ?_
          refine fX9_1 E hP mw_324 dX9_pour_80 ?_
          refine fX1_3 ((by decide : 0 < 3)) E hP mw_153 dX9_pour_83 ?_
          refine lv_iload hx hb dX9_pour_86 (lv_at hl 4 rfl) ?_
          obtain ⟨h8, hw⟩ := hw
          refine aC8 ((by decide : 0 < 3)) E hP h8 dX9_pour_88 ?_
          refine lv_icmp_eq (tgt := 107) hx hb dX9_pour_89 (by decide) (fun c9 => ?_) (fun c9 => ?_)
          · replace hw := hw.1 c9
            obtain ⟨v10, ev10⟩ : ∃ y : Int32, y = x4 + 1 := ⟨_, rfl⟩
            replace hw := hw v10 ev10
            refine lv_iinc (v := v10) (lv' := [(4, .int v10), (5, .int r7), (0, .ref (ad 0 0)), (2, .ref (ad 22 i2)), (3, .int x3)]) hx hb dX9_pour_107 hl (k := 4) rfl (by rw [ev10]; rfl) (by decide) rfl (fun ls hl => ?_)
            refine lv_goto (tgt := 32) hx hb dX9_pour_110 (by decide) ?_
            exact hk32 s7 i2 x3 v10 hi2 hw _ _ _ hP hS (lv_sub hl [2, 3, 4, 0] rfl)
          · replace hw := hw.2 c9
            refine lv_aload_n hx hb dX9_pour_92 rfl (lv_at hl 1 rfl) ?_
            refine fX9_1 E hP mw_324 dX9_pour_93 ?_
            refine fX1_3 ((by decide : 0 < 3)) E hP mw_153 dX9_pour_96 ?_
            refine lv_iload hx hb dX9_pour_99 (lv_at hl 4 rfl) ?_
            refine lv_iload hx hb dX9_pour_101 (lv_at hl 0 rfl) ?_
            obtain ⟨h11, hw⟩ := hw
            refine tC8 ((by decide : 0 < 3)) E ha h11 dX9_pour_103 hP hS (fun s12 es12 H locs hP hS => ?_)
            replace hw := hw s12 es12
            obtain ⟨v13, ev13⟩ : ∃ y : Int32, y = x3 + 1 := ⟨_, rfl⟩
            replace hw := hw v13 ev13
            refine lv_iinc (v := v13) (lv' := [(3, .int v13), (5, .int r7), (0, .ref (ad 0 0)), (2, .ref (ad 22 i2)), (4, .int x4)]) hx hb dX9_pour_104 hl (k := 3) rfl (by rw [ev13]; rfl) (by decide) rfl (fun ls hl => ?_)
            obtain ⟨v14, ev14⟩ : ∃ y : Int32, y = x4 + 1 := ⟨_, rfl⟩
            replace hw := hw v14 ev14
            refine lv_iinc (v := v14) (lv' := [(4, .int v14), (3, .int v13), (5, .int r7), (0, .ref (ad 0 0)), (2, .ref (ad 22 i2))]) hx hb dX9_pour_107 hl (k := 4) rfl (by rw [ev14]; rfl) (by decide) rfl (fun ls hl => ?_)
            refine lv_goto (tgt := 32) hx hb dX9_pour_110 (by decide) ?_
            exact hk32 s12 i2 v13 v14 hi2 hw _ _ _ hP hS (lv_sub hl [3, 4, 1, 0] rfl)
def w_X9_pour (post : Int32 → St → Prop) (σ : St) (x1 : Int32) : Prop := w_X9_isSheet (fun r1 s1 => ((¬ r1 = 0 → (vp_in x1 4 ∧ (w_X6_isMissing (fun r4 s4 => ((r4 = 0 → (∃ n6 : Nat, l_X9_pour_32 post n6 s4 x1.toNatClampNeg (0 : Int32) (0 : Int32))) ∧ (¬ r4 = 0 → (post ((-1000000011)) s4)))) s1 x1.toNatClampNeg))) ∧ (r1 = 0 → (post ((-1000000001)) s1)))) σ x1
theorem B_X9_pour_0 (E : EnvW p s m args meth c D cy regsC ad "RoofWar" cX9_pour 6 (some .int)) (ha : Apart regsC ad) {post : Int32 → St → Prop} {σ : St} {x1 : Int32} (hw : w_X9_pour post σ x1) {H : Heap} {locs : List Loc} {ls : Array Slot} (hP : va_P D CLS (wC cy ad σ) H) (hS : va_S (AC ad s.heap.size) s.heap H locs) (hl : lv_has ls 6 [(0, .ref (ad 0 0)), (1, .int x1)]) : W p l e rm_X9_pour s m args below meth c H locs 0 0 (MQ below (QI D cy (cellC cy ad) regsC ad s.heap.size post) args s 0 0 (AC ad s.heap.size)) (F0 m 0 ls []) := by
  obtain ⟨hx, hb, -⟩ := id E
  unfold w_X9_pour at hw
  refine lv_iload_n hx hb dX9_pour_0 rfl (lv_at hl 1 rfl) ?_
  refine g_cSi (As := [.int x1]) (rest := []) E hl.1 (c_X9_isSheet l D cy ad ha hw _) ok_X9_isSheet mw_641 ⟨(Nat.le_of_ble_eq_true rfl), (Nat.le_of_ble_eq_true rfl)⟩ ⟨rfl, rfl⟩ rfl rfl (Nat.le_of_ble_eq_true rfl) ⟨Nat.zero_le _, Nat.zero_le _⟩ hP hS dX9_pour_1 (fun r1 s1 hw H locs hP hS => ?_)
  obtain ⟨z1, hw⟩ := hw
  refine lv_if_ne (tgt := 10) hx hb dX9_pour_4 (by decide) (fun c2 => ?_) (fun c2 => ?_)
  · replace hw := hw.1 c2
    refine lv_aload_n hx hb dX9_pour_10 rfl (lv_at hl 0 rfl) ?_
    refine fX9_8 E hP mw_331 dX9_pour_11 ?_
    refine lv_iload_n hx hb dX9_pour_14 rfl (lv_at hl 1 rfl) ?_
    obtain ⟨h3, hw⟩ := hw
    refine aC3 E hP h3 dX9_pour_15 ?_
    refine lv_astore_n (lv' := [(2, .ref (ad 22 x1.toNatClampNeg)), (0, .ref (ad 0 0)), (1, .int x1)]) hx hb dX9_pour_16 rfl hl (by decide) rfl (fun ls hl => ?_)
    refine lv_aload_n hx hb dX9_pour_17 rfl (lv_at hl 0 rfl) ?_
    refine g_cVi (As := []) (rest := []) E hl.1 (c_X6_isMissing l D cy ad ha ((Nat.lt_of_lt_of_le (vp_lt h3) (by decide))) hw _) ok_X6_isMissing mw_644 ⟨(Nat.le_of_ble_eq_true rfl), (Nat.le_of_ble_eq_true rfl)⟩ ⟨rfl, rfl⟩ (rC22 (Nat.lt_of_lt_of_le (vp_lt h3) (by decide))) rfl rfl rfl rfl rfl (Nat.le_of_ble_eq_true rfl) ⟨Nat.zero_le _, Nat.zero_le _⟩ hP hS dX9_pour_18 (fun r4 s4 hw H locs hP hS => ?_)
    obtain ⟨z4, hw⟩ := hw
    refine lv_if_eq (tgt := 27) hx hb dX9_pour_21 (by decide) (fun c5 => ?_) (fun c5 => ?_)
    · replace hw := hw.1 c5
      refine lv_iconst (v := 0) hx hb dX9_pour_27 (by decide) ?_
      refine lv_istore_n (lv' := [(3, .int 0), (2, .ref (ad 22 x1.toNatClampNeg)), (0, .ref (ad 0 0)), (1, .int x1)]) hx hb dX9_pour_28 rfl hl (by decide) rfl (fun ls hl => ?_)
      refine lv_iconst (v := 0) hx hb dX9_pour_29 (by decide) ?_
      refine lv_istore (lv' := [(4, .int 0), (3, .int 0), (2, .ref (ad 22 x1.toNatClampNeg)), (0, .ref (ad 0 0)), (1, .int x1)]) hx hb dX9_pour_30 hl (by decide) rfl (fun ls hl => ?_)
      obtain ⟨n6, hw⟩ := hw
      exact L_X9_pour_32 E ha n6 s4 x1.toNatClampNeg (0 : Int32) (0 : Int32) ((Nat.lt_of_lt_of_le (vp_lt h3) (by decide))) hw _ _ _ hP hS (lv_sub hl [3, 2, 1, 0] rfl)
    · replace hw := hw.2 c5
      refine g_ldc (v := -1000000011) E mw_648 dX9_pour_24 ?_
      exact g_iret E hw hP hS dX9_pour_26
  · replace hw := hw.2 c2
    refine g_ldc (v := -1000000001) E mw_376 dX9_pour_7 ?_
    exact g_iret E hw hP hS dX9_pour_9
theorem c_X9_pour (l : Launch) (D : va_G) (cy : Nat → ClassId) (ad : Nat → Nat → Nat) (ha : Apart regsC ad) {post : Int32 → St → Prop} {σ : St} {x1 : Int32} (hw : w_X9_pour post σ x1) (sz : Nat) : MetI l yX9_pour cX9_pour 6 .int rm_X9_pour [.ref (ad 0 0), .int x1] D cy (cellC cy ad) regsC ad σ sz post :=
  Met_inI ok_X9_pour.2.2.2.2.2 (Nat.le_of_ble_eq_true rfl) (fun p e s m below meth c ls E hP hl => B_X9_pour_0 E ha hw hP va_S.rf hl)
-- RoofWar.reads(I)I
theorem dX9_reads_0 : decode cX9_reads 0 = .ok (.iload_n 1, 1) := by decide +kernel
theorem dX9_reads_1 : decode cX9_reads 1 = .ok (.invokestatic 238, 3) := by decide +kernel
theorem dX9_reads_4 : decode cX9_reads 4 = .ok (.ifCond .ne 6, 3) := by decide +kernel
theorem dX9_reads_7 : decode cX9_reads 7 = .ok (.ldc 94, 2) := by decide +kernel
theorem dX9_reads_9 : decode cX9_reads 9 = .ok (.ireturn, 1) := by decide +kernel
theorem dX9_reads_10 : decode cX9_reads 10 = .ok (.aload_n 0, 1) := by decide +kernel
theorem dX9_reads_11 : decode cX9_reads 11 = .ok (.getfield 60, 3) := by decide +kernel
theorem dX9_reads_14 : decode cX9_reads 14 = .ok (.iload_n 1, 1) := by decide +kernel
theorem dX9_reads_15 : decode cX9_reads 15 = .ok (.aaload, 1) := by decide +kernel
theorem dX9_reads_16 : decode cX9_reads 16 = .ok (.astore_n 2, 1) := by decide +kernel
theorem dX9_reads_17 : decode cX9_reads 17 = .ok (.aload_n 2, 1) := by decide +kernel
theorem dX9_reads_18 : decode cX9_reads 18 = .ok (.invokevirtual 241, 3) := by decide +kernel
theorem dX9_reads_21 : decode cX9_reads 21 = .ok (.ifCond .eq 6, 3) := by decide +kernel
theorem dX9_reads_24 : decode cX9_reads 24 = .ok (.ldc 245, 2) := by decide +kernel
theorem dX9_reads_26 : decode cX9_reads 26 = .ok (.ireturn, 1) := by decide +kernel
theorem dX9_reads_27 : decode cX9_reads 27 = .ok (.iconst 0, 1) := by decide +kernel
theorem dX9_reads_28 : decode cX9_reads 28 = .ok (.istore_n 3, 1) := by decide +kernel
theorem dX9_reads_29 : decode cX9_reads 29 = .ok (.iload_n 3, 1) := by decide +kernel
theorem dX9_reads_30 : decode cX9_reads 30 = .ok (.aload_n 2, 1) := by decide +kernel
theorem dX9_reads_31 : decode cX9_reads 31 = .ok (.getfield 302, 3) := by decide +kernel
theorem dX9_reads_34 : decode cX9_reads 34 = .ok (.if_icmp .ge 48, 3) := by decide +kernel
theorem dX9_reads_37 : decode cX9_reads 37 = .ok (.aload_n 2, 1) := by decide +kernel
theorem dX9_reads_38 : decode cX9_reads 38 = .ok (.iload_n 3, 1) := by decide +kernel
theorem dX9_reads_39 : decode cX9_reads 39 = .ok (.invokevirtual 303, 3) := by decide +kernel
theorem dX9_reads_42 : decode cX9_reads 42 = .ok (.ifCond .eq 34, 3) := by decide +kernel
theorem dX9_reads_45 : decode cX9_reads 45 = .ok (.iload_n 3, 1) := by decide +kernel
theorem dX9_reads_46 : decode cX9_reads 46 = .ok (.aload_n 0, 1) := by decide +kernel
theorem dX9_reads_47 : decode cX9_reads 47 = .ok (.getfield 21, 3) := by decide +kernel
theorem dX9_reads_50 : decode cX9_reads 50 = .ok (.getfield 100, 3) := by decide +kernel
theorem dX9_reads_53 : decode cX9_reads 53 = .ok (.if_icmp .ge 21, 3) := by decide +kernel
theorem dX9_reads_56 : decode cX9_reads 56 = .ok (.aload_n 2, 1) := by decide +kernel
theorem dX9_reads_57 : decode cX9_reads 57 = .ok (.getfield 297, 3) := by decide +kernel
theorem dX9_reads_60 : decode cX9_reads 60 = .ok (.iload_n 3, 1) := by decide +kernel
theorem dX9_reads_61 : decode cX9_reads 61 = .ok (.iaload, 1) := by decide +kernel
theorem dX9_reads_62 : decode cX9_reads 62 = .ok (.aload_n 0, 1) := by decide +kernel
theorem dX9_reads_63 : decode cX9_reads 63 = .ok (.getfield 21, 3) := by decide +kernel
theorem dX9_reads_66 : decode cX9_reads 66 = .ok (.getfield 120, 3) := by decide +kernel
theorem dX9_reads_69 : decode cX9_reads 69 = .ok (.iload_n 3, 1) := by decide +kernel
theorem dX9_reads_70 : decode cX9_reads 70 = .ok (.iaload, 1) := by decide +kernel
theorem dX9_reads_71 : decode cX9_reads 71 = .ok (.if_icmp .eq 5, 3) := by decide +kernel
theorem dX9_reads_74 : decode cX9_reads 74 = .ok (.iload_n 3, 1) := by decide +kernel
theorem dX9_reads_75 : decode cX9_reads 75 = .ok (.ireturn, 1) := by decide +kernel
theorem dX9_reads_76 : decode cX9_reads 76 = .ok (.iinc 3 1, 3) := by decide +kernel
theorem dX9_reads_79 : decode cX9_reads 79 = .ok (.goto (-50), 3) := by decide +kernel
theorem dX9_reads_82 : decode cX9_reads 82 = .ok (.ldc 98, 2) := by decide +kernel
theorem dX9_reads_84 : decode cX9_reads 84 = .ok (.ireturn, 1) := by decide +kernel
theorem ok_X9_reads : okV yX9_reads cX9_reads 4 (some .int) 1 := ⟨mw_881, mw_882, mw_74, mw_883, by decide +kernel, by decide +kernel⟩
abbrev rm_X9_reads : Room := { frames := 2, cells := 0, slots := 0, locals := 42 }
def b_X9_reads_29 (K29 : St → Nat → Int32 → Prop) (post : Int32 → St → Prop) (σ : St) (i2 : Nat) (x3 : Int32) : Prop := (((σ 22 i2 1) ≤ x3 → (post ((-1000000005)) σ)) ∧ (¬ (σ 22 i2 1) ≤ x3 → (w_X6_isNumber (fun r2 s2 => ((r2 = 0 → (∀ v4 : Int32, v4 = x3 + 1 → (K29 s2 i2 v4))) ∧ (¬ r2 = 0 → ((((s2 5 0 0) ≤ x3 → (post x3 s2)) ∧ (¬ (s2 5 0 0) ≤ x3 → (vp_in x3 24 ∧ (vp_in x3 12 ∧ ((((s2 23 i2 x3.toNatClampNeg) = (s2 9 0 x3.toNatClampNeg) → (∀ v9 : Int32, v9 = x3 + 1 → (K29 s2 i2 v9))) ∧ (¬ (s2 23 i2 x3.toNatClampNeg) = (s2 9 0 x3.toNatClampNeg) → (post x3 s2)))))))))))) σ i2 x3)))
noncomputable def l_X9_reads_29 (post : Int32 → St → Prop) : Nat → St → Nat → Int32 → Prop := fun n => Nat.rec (motive := fun _ => St → Nat → Int32 → Prop) (fun _ _ _ => False) (fun _ ih => b_X9_reads_29 ih post) n
theorem L_X9_reads_29 (E : EnvW p s m args meth c D cy regsC ad "RoofWar" cX9_reads 4 (some .int)) (ha : Apart regsC ad) {post : Int32 → St → Prop} : ∀ (n : Nat), ∀ (σ : St) (i2 : Nat) (x3 : Int32), i2 < 9 → l_X9_reads_29 post n σ i2 x3 → ∀ (H : Heap) (locs : List Loc) (ls : Array Slot), va_P D CLS (wC cy ad σ) H → va_S (AC ad s.heap.size) s.heap H locs → lv_has ls 4 [(0, .ref (ad 0 0)), (2, .ref (ad 22 i2)), (3, .int x3)] → W p l e rm_X9_reads s m args below meth c H locs 0 0 (MQ below (QI D cy (cellC cy ad) regsC ad s.heap.size post) args s 0 0 (AC ad s.heap.size)) (F0 m 29 ls []) := by
  obtain ⟨hx, hb, -⟩ := id E
  intro n
  induction n with
  | zero => intro σ i2 x3 hi2 hw; exact hw.elim
  | succ n hk29 =>
    intro σ i2 x3 hi2 hw H locs ls hP hS hl
    replace hw : b_X9_reads_29 (l_X9_reads_29 post n) post σ i2 x3 := hw
    unfold b_X9_reads_29 at hw
    refine lv_iload_n hx hb dX9_reads_29 rfl (lv_at hl 2 rfl) ?_
    refine lv_aload_n hx hb dX9_reads_30 rfl (lv_at hl 1 rfl) ?_
    refine fX6_1 hi2 E hP mw_290 dX9_reads_31 ?_
    refine lv_icmp_ge (tgt := 82) hx hb dX9_reads_34 (by decide) (fun c1 => ?_) (fun c1 => ?_)
    · replace hw := hw.1 c1
      refine g_ldc (v := -1000000005) E mw_377 dX9_reads_82 ?_
      exact g_iret E hw hP hS dX9_reads_84
    · replace hw := hw.2 c1
      refine lv_aload_n hx hb dX9_reads_37 rfl (lv_at hl 1 rfl) ?_
      refine lv_iload_n hx hb dX9_reads_38 rfl (lv_at hl 2 rfl) ?_
      refine g_cVi (As := [.int x3]) (rest := []) E hl.1 (c_X6_isNumber l D cy ad ha hi2 hw _) ok_X6_isNumber mw_652 ⟨(Nat.le_of_ble_eq_true rfl), (Nat.le_of_ble_eq_true rfl)⟩ ⟨rfl, rfl⟩ (rC22 hi2) rfl rfl rfl rfl rfl (Nat.le_of_ble_eq_true rfl) ⟨Nat.zero_le _, Nat.zero_le _⟩ hP hS dX9_reads_39 (fun r2 s2 hw H locs hP hS => ?_)
      obtain ⟨z2, hw⟩ := hw
      refine lv_if_eq (tgt := 76) hx hb dX9_reads_42 (by decide) (fun c3 => ?_) (fun c3 => ?_)
      · replace hw := hw.1 c3
        obtain ⟨v4, ev4⟩ : ∃ y : Int32, y = x3 + 1 := ⟨_, rfl⟩
        replace hw := hw v4 ev4
        refine lv_iinc (v := v4) (lv' := [(3, .int v4), (0, .ref (ad 0 0)), (2, .ref (ad 22 i2))]) hx hb dX9_reads_76 hl (k := 2) rfl (by rw [ev4]; rfl) (by decide) rfl (fun ls hl => ?_)
        refine lv_goto (tgt := 29) hx hb dX9_reads_79 (by decide) ?_
        exact hk29 s2 i2 v4 hi2 hw _ _ _ hP hS (lv_sub hl [1, 2, 0] rfl)
      · replace hw := hw.2 c3
        refine lv_iload_n hx hb dX9_reads_45 rfl (lv_at hl 2 rfl) ?_
        refine lv_aload_n hx hb dX9_reads_46 rfl (lv_at hl 0 rfl) ?_
        refine fX9_1 E hP mw_324 dX9_reads_47 ?_
        refine fX1_9 ((by decide : 0 < 3)) E hP mw_167 dX9_reads_50 ?_
        refine lv_icmp_ge (tgt := 74) hx hb dX9_reads_53 (by decide) (fun c5 => ?_) (fun c5 => ?_)
        · replace hw := hw.1 c5
          refine lv_iload_n hx hb dX9_reads_74 rfl (lv_at hl 2 rfl) ?_
          exact g_iret E hw hP hS dX9_reads_75
        · replace hw := hw.2 c5
          refine lv_aload_n hx hb dX9_reads_56 rfl (lv_at hl 1 rfl) ?_
          refine fX6_2 hi2 E hP mw_292 dX9_reads_57 ?_
          refine lv_iload_n hx hb dX9_reads_60 rfl (lv_at hl 2 rfl) ?_
          obtain ⟨h6, hw⟩ := hw
          refine aC23 hi2 E hP h6 dX9_reads_61 ?_
          refine lv_aload_n hx hb dX9_reads_62 rfl (lv_at hl 0 rfl) ?_
          refine fX9_1 E hP mw_324 dX9_reads_63 ?_
          refine fX1_4 ((by decide : 0 < 3)) E hP mw_157 dX9_reads_66 ?_
          refine lv_iload_n hx hb dX9_reads_69 rfl (lv_at hl 2 rfl) ?_
          obtain ⟨h7, hw⟩ := hw
          refine aC9 ((by decide : 0 < 3)) E hP h7 dX9_reads_70 ?_
          refine lv_icmp_eq (tgt := 76) hx hb dX9_reads_71 (by decide) (fun c8 => ?_) (fun c8 => ?_)
          · replace hw := hw.1 c8
            obtain ⟨v9, ev9⟩ : ∃ y : Int32, y = x3 + 1 := ⟨_, rfl⟩
            replace hw := hw v9 ev9
            refine lv_iinc (v := v9) (lv' := [(3, .int v9), (0, .ref (ad 0 0)), (2, .ref (ad 22 i2))]) hx hb dX9_reads_76 hl (k := 2) rfl (by rw [ev9]; rfl) (by decide) rfl (fun ls hl => ?_)
            refine lv_goto (tgt := 29) hx hb dX9_reads_79 (by decide) ?_
            exact hk29 s2 i2 v9 hi2 hw _ _ _ hP hS (lv_sub hl [1, 2, 0] rfl)
          · replace hw := hw.2 c8
            refine lv_iload_n hx hb dX9_reads_74 rfl (lv_at hl 2 rfl) ?_
            exact g_iret E hw hP hS dX9_reads_75
def w_X9_reads (post : Int32 → St → Prop) (σ : St) (x1 : Int32) : Prop := w_X9_isSheet (fun r1 s1 => ((¬ r1 = 0 → (vp_in x1 4 ∧ (w_X6_isMissing (fun r4 s4 => ((r4 = 0 → (∃ n6 : Nat, l_X9_reads_29 post n6 s4 x1.toNatClampNeg (0 : Int32))) ∧ (¬ r4 = 0 → (post ((-1000000011)) s4)))) s1 x1.toNatClampNeg))) ∧ (r1 = 0 → (post ((-1000000001)) s1)))) σ x1
theorem B_X9_reads_0 (E : EnvW p s m args meth c D cy regsC ad "RoofWar" cX9_reads 4 (some .int)) (ha : Apart regsC ad) {post : Int32 → St → Prop} {σ : St} {x1 : Int32} (hw : w_X9_reads post σ x1) {H : Heap} {locs : List Loc} {ls : Array Slot} (hP : va_P D CLS (wC cy ad σ) H) (hS : va_S (AC ad s.heap.size) s.heap H locs) (hl : lv_has ls 4 [(0, .ref (ad 0 0)), (1, .int x1)]) : W p l e rm_X9_reads s m args below meth c H locs 0 0 (MQ below (QI D cy (cellC cy ad) regsC ad s.heap.size post) args s 0 0 (AC ad s.heap.size)) (F0 m 0 ls []) := by
  obtain ⟨hx, hb, -⟩ := id E
  unfold w_X9_reads at hw
  refine lv_iload_n hx hb dX9_reads_0 rfl (lv_at hl 1 rfl) ?_
  refine g_cSi (As := [.int x1]) (rest := []) E hl.1 (c_X9_isSheet l D cy ad ha hw _) ok_X9_isSheet mw_641 ⟨(Nat.le_of_ble_eq_true rfl), (Nat.le_of_ble_eq_true rfl)⟩ ⟨rfl, rfl⟩ rfl rfl (Nat.le_of_ble_eq_true rfl) ⟨Nat.zero_le _, Nat.zero_le _⟩ hP hS dX9_reads_1 (fun r1 s1 hw H locs hP hS => ?_)
  obtain ⟨z1, hw⟩ := hw
  refine lv_if_ne (tgt := 10) hx hb dX9_reads_4 (by decide) (fun c2 => ?_) (fun c2 => ?_)
  · replace hw := hw.1 c2
    refine lv_aload_n hx hb dX9_reads_10 rfl (lv_at hl 0 rfl) ?_
    refine fX9_8 E hP mw_331 dX9_reads_11 ?_
    refine lv_iload_n hx hb dX9_reads_14 rfl (lv_at hl 1 rfl) ?_
    obtain ⟨h3, hw⟩ := hw
    refine aC3 E hP h3 dX9_reads_15 ?_
    refine lv_astore_n (lv' := [(2, .ref (ad 22 x1.toNatClampNeg)), (0, .ref (ad 0 0)), (1, .int x1)]) hx hb dX9_reads_16 rfl hl (by decide) rfl (fun ls hl => ?_)
    refine lv_aload_n hx hb dX9_reads_17 rfl (lv_at hl 0 rfl) ?_
    refine g_cVi (As := []) (rest := []) E hl.1 (c_X6_isMissing l D cy ad ha ((Nat.lt_of_lt_of_le (vp_lt h3) (by decide))) hw _) ok_X6_isMissing mw_644 ⟨(Nat.le_of_ble_eq_true rfl), (Nat.le_of_ble_eq_true rfl)⟩ ⟨rfl, rfl⟩ (rC22 (Nat.lt_of_lt_of_le (vp_lt h3) (by decide))) rfl rfl rfl rfl rfl (Nat.le_of_ble_eq_true rfl) ⟨Nat.zero_le _, Nat.zero_le _⟩ hP hS dX9_reads_18 (fun r4 s4 hw H locs hP hS => ?_)
    obtain ⟨z4, hw⟩ := hw
    refine lv_if_eq (tgt := 27) hx hb dX9_reads_21 (by decide) (fun c5 => ?_) (fun c5 => ?_)
    · replace hw := hw.1 c5
      refine lv_iconst (v := 0) hx hb dX9_reads_27 (by decide) ?_
      refine lv_istore_n (lv' := [(3, .int 0), (2, .ref (ad 22 x1.toNatClampNeg)), (0, .ref (ad 0 0)), (1, .int x1)]) hx hb dX9_reads_28 rfl hl (by decide) rfl (fun ls hl => ?_)
      obtain ⟨n6, hw⟩ := hw
      exact L_X9_reads_29 E ha n6 s4 x1.toNatClampNeg (0 : Int32) ((Nat.lt_of_lt_of_le (vp_lt h3) (by decide))) hw _ _ _ hP hS (lv_sub hl [2, 1, 0] rfl)
    · replace hw := hw.2 c5
      refine g_ldc (v := -1000000011) E mw_648 dX9_reads_24 ?_
      exact g_iret E hw hP hS dX9_reads_26
  · replace hw := hw.2 c2
    refine g_ldc (v := -1000000001) E mw_376 dX9_reads_7 ?_
    exact g_iret E hw hP hS dX9_reads_9
theorem c_X9_reads (l : Launch) (D : va_G) (cy : Nat → ClassId) (ad : Nat → Nat → Nat) (ha : Apart regsC ad) {post : Int32 → St → Prop} {σ : St} {x1 : Int32} (hw : w_X9_reads post σ x1) (sz : Nat) : MetI l yX9_reads cX9_reads 4 .int rm_X9_reads [.ref (ad 0 0), .int x1] D cy (cellC cy ad) regsC ad σ sz post :=
  Met_inI ok_X9_reads.2.2.2.2.2 (Nat.le_of_ble_eq_true rfl) (fun p e s m below meth c ls E hP hl => B_X9_reads_0 E ha hw hP va_S.rf hl)
-- RoofWar.copy(IIIII)I
theorem dX9_copy_0 : decode cX9_copy 0 = .ok (.iload_n 1, 1) := by decide +kernel
theorem dX9_copy_1 : decode cX9_copy 1 = .ok (.invokestatic 238, 3) := by decide +kernel
theorem dX9_copy_4 : decode cX9_copy 4 = .ok (.ifCond .eq 10, 3) := by decide +kernel
theorem dX9_copy_7 : decode cX9_copy 7 = .ok (.iload_n 3, 1) := by decide +kernel
theorem dX9_copy_8 : decode cX9_copy 8 = .ok (.invokestatic 238, 3) := by decide +kernel
theorem dX9_copy_11 : decode cX9_copy 11 = .ok (.ifCond .ne 6, 3) := by decide +kernel
theorem dX9_copy_14 : decode cX9_copy 14 = .ok (.ldc 94, 2) := by decide +kernel
theorem dX9_copy_16 : decode cX9_copy 16 = .ok (.ireturn, 1) := by decide +kernel
theorem dX9_copy_17 : decode cX9_copy 17 = .ok (.aload_n 0, 1) := by decide +kernel
theorem dX9_copy_18 : decode cX9_copy 18 = .ok (.getfield 60, 3) := by decide +kernel
theorem dX9_copy_21 : decode cX9_copy 21 = .ok (.iload_n 1, 1) := by decide +kernel
theorem dX9_copy_22 : decode cX9_copy 22 = .ok (.aaload, 1) := by decide +kernel
theorem dX9_copy_23 : decode cX9_copy 23 = .ok (.astore 6, 2) := by decide +kernel
theorem dX9_copy_25 : decode cX9_copy 25 = .ok (.aload_n 0, 1) := by decide +kernel
theorem dX9_copy_26 : decode cX9_copy 26 = .ok (.getfield 60, 3) := by decide +kernel
theorem dX9_copy_29 : decode cX9_copy 29 = .ok (.iload_n 3, 1) := by decide +kernel
theorem dX9_copy_30 : decode cX9_copy 30 = .ok (.aaload, 1) := by decide +kernel
theorem dX9_copy_31 : decode cX9_copy 31 = .ok (.astore 7, 2) := by decide +kernel
theorem dX9_copy_33 : decode cX9_copy 33 = .ok (.aload 6, 2) := by decide +kernel
theorem dX9_copy_35 : decode cX9_copy 35 = .ok (.invokevirtual 241, 3) := by decide +kernel
theorem dX9_copy_38 : decode cX9_copy 38 = .ok (.ifCond .ne 11, 3) := by decide +kernel
theorem dX9_copy_41 : decode cX9_copy 41 = .ok (.aload 7, 2) := by decide +kernel
theorem dX9_copy_43 : decode cX9_copy 43 = .ok (.invokevirtual 241, 3) := by decide +kernel
theorem dX9_copy_46 : decode cX9_copy 46 = .ok (.ifCond .eq 6, 3) := by decide +kernel
theorem dX9_copy_49 : decode cX9_copy 49 = .ok (.ldc 245, 2) := by decide +kernel
theorem dX9_copy_51 : decode cX9_copy 51 = .ok (.ireturn, 1) := by decide +kernel
theorem dX9_copy_52 : decode cX9_copy 52 = .ok (.aload 6, 2) := by decide +kernel
theorem dX9_copy_54 : decode cX9_copy 54 = .ok (.getfield 294, 3) := by decide +kernel
theorem dX9_copy_57 : decode cX9_copy 57 = .ok (.aload 7, 2) := by decide +kernel
theorem dX9_copy_59 : decode cX9_copy 59 = .ok (.getfield 294, 3) := by decide +kernel
theorem dX9_copy_62 : decode cX9_copy 62 = .ok (.if_icmp .eq 6, 3) := by decide +kernel
theorem dX9_copy_65 : decode cX9_copy 65 = .ok (.ldc 142, 2) := by decide +kernel
theorem dX9_copy_67 : decode cX9_copy 67 = .ok (.ireturn, 1) := by decide +kernel
theorem dX9_copy_68 : decode cX9_copy 68 = .ok (.aload 6, 2) := by decide +kernel
theorem dX9_copy_70 : decode cX9_copy 70 = .ok (.iload_n 2, 1) := by decide +kernel
theorem dX9_copy_71 : decode cX9_copy 71 = .ok (.iload 5, 2) := by decide +kernel
theorem dX9_copy_73 : decode cX9_copy 73 = .ok (.invokevirtual 310, 3) := by decide +kernel
theorem dX9_copy_76 : decode cX9_copy 76 = .ok (.ifCond .eq 15, 3) := by decide +kernel
theorem dX9_copy_79 : decode cX9_copy 79 = .ok (.aload 7, 2) := by decide +kernel
theorem dX9_copy_81 : decode cX9_copy 81 = .ok (.iload 4, 2) := by decide +kernel
theorem dX9_copy_83 : decode cX9_copy 83 = .ok (.iload 5, 2) := by decide +kernel
theorem dX9_copy_85 : decode cX9_copy 85 = .ok (.invokevirtual 310, 3) := by decide +kernel
theorem dX9_copy_88 : decode cX9_copy 88 = .ok (.ifCond .ne 7, 3) := by decide +kernel
theorem dX9_copy_91 : decode cX9_copy 91 = .ok (.ldc_w 293, 3) := by decide +kernel
theorem dX9_copy_94 : decode cX9_copy 94 = .ok (.ireturn, 1) := by decide +kernel
theorem dX9_copy_95 : decode cX9_copy 95 = .ok (.aload 6, 2) := by decide +kernel
theorem dX9_copy_97 : decode cX9_copy 97 = .ok (.getfield 297, 3) := by decide +kernel
theorem dX9_copy_100 : decode cX9_copy 100 = .ok (.iload_n 2, 1) := by decide +kernel
theorem dX9_copy_101 : decode cX9_copy 101 = .ok (.aload 7, 2) := by decide +kernel
theorem dX9_copy_103 : decode cX9_copy 103 = .ok (.getfield 297, 3) := by decide +kernel
theorem dX9_copy_106 : decode cX9_copy 106 = .ok (.iload 4, 2) := by decide +kernel
theorem dX9_copy_108 : decode cX9_copy 108 = .ok (.iload 5, 2) := by decide +kernel
theorem dX9_copy_110 : decode cX9_copy 110 = .ok (.invokestatic 313, 3) := by decide +kernel
theorem dX9_copy_113 : decode cX9_copy 113 = .ok (.iload 5, 2) := by decide +kernel
theorem dX9_copy_115 : decode cX9_copy 115 = .ok (.ireturn, 1) := by decide +kernel
theorem ok_X9_copy : okV yX9_copy cX9_copy 8 (some .int) 5 := ⟨mw_885, mw_886, mw_74, mw_887, by decide +kernel, by decide +kernel⟩
abbrev rm_X9_copy : Room := { frames := 2, cells := 0, slots := 0, locals := 100 }
def w_X9_copy (post : Int32 → St → Prop) (σ : St) (x1 : Int32) (x2 : Int32) (x3 : Int32) (x4 : Int32) (x5 : Int32) : Prop := w_X9_isSheet (fun r1 s1 => ((r1 = 0 → (post ((-1000000001)) s1)) ∧ (¬ r1 = 0 → (w_X9_isSheet (fun r3 s3 => ((¬ r3 = 0 → (vp_in x1 4 ∧ (vp_in x3 4 ∧ (w_X6_isMissing (fun r7 s7 => ((¬ r7 = 0 → (post ((-1000000011)) s7)) ∧ (r7 = 0 → (w_X6_isMissing (fun r9 s9 => ((r9 = 0 → ((((s9 22 x1.toNatClampNeg 0) = (s9 22 x3.toNatClampNeg 0) → (w_X6_hasPlaces (fun r12 s12 => ((r12 = 0 → (post ((-1000000013)) s12)) ∧ (¬ r12 = 0 → (w_X6_hasPlaces (fun r14 s14 => ((¬ r14 = 0 → ((¬ x2 < 0 ∧ ¬ x4 < 0 ∧ ¬ x5 < 0 ∧ x2.toNatClampNeg + x5.toNatClampNeg ≤ 24 ∧ x4.toNatClampNeg + x5.toNatClampNeg ≤ 24) ∧ (∀ s17 : St, s17 = wrR s14 23 x3.toNatClampNeg (va_cpy (s14 23 x1.toNatClampNeg) (s14 23 x3.toNatClampNeg) x2.toNatClampNeg x4.toNatClampNeg x5.toNatClampNeg) → (post x5 s17)))) ∧ (r14 = 0 → (post ((-1000000013)) s14)))) s12 x3.toNatClampNeg x4 x5)))) s9 x1.toNatClampNeg x2 x5)) ∧ (¬ (s9 22 x1.toNatClampNeg 0) = (s9 22 x3.toNatClampNeg 0) → (post ((-1000000012)) s9))))) ∧ (¬ r9 = 0 → (post ((-1000000011)) s9)))) s7 x3.toNatClampNeg)))) s3 x1.toNatClampNeg)))) ∧ (r3 = 0 → (post ((-1000000001)) s3)))) s1 x3)))) σ x1
theorem B_X9_copy_0 (E : EnvW p s m args meth c D cy regsC ad "RoofWar" cX9_copy 8 (some .int)) (ha : Apart regsC ad) {post : Int32 → St → Prop} {σ : St} {x1 : Int32} {x2 : Int32} {x3 : Int32} {x4 : Int32} {x5 : Int32} (hw : w_X9_copy post σ x1 x2 x3 x4 x5) {H : Heap} {locs : List Loc} {ls : Array Slot} (hP : va_P D CLS (wC cy ad σ) H) (hS : va_S (AC ad s.heap.size) s.heap H locs) (hl : lv_has ls 8 [(0, .ref (ad 0 0)), (1, .int x1), (2, .int x2), (3, .int x3), (4, .int x4), (5, .int x5)]) : W p l e rm_X9_copy s m args below meth c H locs 0 0 (MQ below (QI D cy (cellC cy ad) regsC ad s.heap.size post) args s 0 0 (AC ad s.heap.size)) (F0 m 0 ls []) := by
  obtain ⟨hx, hb, -⟩ := id E
  unfold w_X9_copy at hw
  refine lv_iload_n hx hb dX9_copy_0 rfl (lv_at hl 1 rfl) ?_
  refine g_cSi (As := [.int x1]) (rest := []) E hl.1 (c_X9_isSheet l D cy ad ha hw _) ok_X9_isSheet mw_641 ⟨(Nat.le_of_ble_eq_true rfl), (Nat.le_of_ble_eq_true rfl)⟩ ⟨rfl, rfl⟩ rfl rfl (Nat.le_of_ble_eq_true rfl) ⟨Nat.zero_le _, Nat.zero_le _⟩ hP hS dX9_copy_1 (fun r1 s1 hw H locs hP hS => ?_)
  obtain ⟨z1, hw⟩ := hw
  refine lv_if_eq (tgt := 14) hx hb dX9_copy_4 (by decide) (fun c2 => ?_) (fun c2 => ?_)
  · replace hw := hw.1 c2
    refine g_ldc (v := -1000000001) E mw_376 dX9_copy_14 ?_
    exact g_iret E hw hP hS dX9_copy_16
  · replace hw := hw.2 c2
    refine lv_iload_n hx hb dX9_copy_7 rfl (lv_at hl 3 rfl) ?_
    refine g_cSi (As := [.int x3]) (rest := []) E hl.1 (c_X9_isSheet l D cy ad ha hw _) ok_X9_isSheet mw_641 ⟨(Nat.le_of_ble_eq_true rfl), (Nat.le_of_ble_eq_true rfl)⟩ ⟨rfl, rfl⟩ rfl rfl (Nat.le_of_ble_eq_true rfl) ⟨Nat.zero_le _, Nat.zero_le _⟩ hP hS dX9_copy_8 (fun r3 s3 hw H locs hP hS => ?_)
    obtain ⟨z3, hw⟩ := hw
    refine lv_if_ne (tgt := 17) hx hb dX9_copy_11 (by decide) (fun c4 => ?_) (fun c4 => ?_)
    · replace hw := hw.1 c4
      refine lv_aload_n hx hb dX9_copy_17 rfl (lv_at hl 0 rfl) ?_
      refine fX9_8 E hP mw_331 dX9_copy_18 ?_
      refine lv_iload_n hx hb dX9_copy_21 rfl (lv_at hl 1 rfl) ?_
      obtain ⟨h5, hw⟩ := hw
      refine aC3 E hP h5 dX9_copy_22 ?_
      refine lv_astore (lv' := [(6, .ref (ad 22 x1.toNatClampNeg)), (0, .ref (ad 0 0)), (1, .int x1), (2, .int x2), (3, .int x3), (4, .int x4), (5, .int x5)]) hx hb dX9_copy_23 hl (by decide) rfl (fun ls hl => ?_)
      refine lv_aload_n hx hb dX9_copy_25 rfl (lv_at hl 1 rfl) ?_
      refine fX9_8 E hP mw_331 dX9_copy_26 ?_
      refine lv_iload_n hx hb dX9_copy_29 rfl (lv_at hl 4 rfl) ?_
      obtain ⟨h6, hw⟩ := hw
      refine aC3 E hP h6 dX9_copy_30 ?_
      refine lv_astore (lv' := [(7, .ref (ad 22 x3.toNatClampNeg)), (6, .ref (ad 22 x1.toNatClampNeg)), (0, .ref (ad 0 0)), (1, .int x1), (2, .int x2), (3, .int x3), (4, .int x4), (5, .int x5)]) hx hb dX9_copy_31 hl (by decide) rfl (fun ls hl => ?_)
      refine lv_aload hx hb dX9_copy_33 (lv_at hl 1 rfl) ?_
      refine g_cVi (As := []) (rest := []) E hl.1 (c_X6_isMissing l D cy ad ha ((Nat.lt_of_lt_of_le (vp_lt h5) (by decide))) hw _) ok_X6_isMissing mw_644 ⟨(Nat.le_of_ble_eq_true rfl), (Nat.le_of_ble_eq_true rfl)⟩ ⟨rfl, rfl⟩ (rC22 (Nat.lt_of_lt_of_le (vp_lt h5) (by decide))) rfl rfl rfl rfl rfl (Nat.le_of_ble_eq_true rfl) ⟨Nat.zero_le _, Nat.zero_le _⟩ hP hS dX9_copy_35 (fun r7 s7 hw H locs hP hS => ?_)
      obtain ⟨z7, hw⟩ := hw
      refine lv_if_ne (tgt := 49) hx hb dX9_copy_38 (by decide) (fun c8 => ?_) (fun c8 => ?_)
      · replace hw := hw.1 c8
        refine g_ldc (v := -1000000011) E mw_648 dX9_copy_49 ?_
        exact g_iret E hw hP hS dX9_copy_51
      · replace hw := hw.2 c8
        refine lv_aload hx hb dX9_copy_41 (lv_at hl 0 rfl) ?_
        refine g_cVi (As := []) (rest := []) E hl.1 (c_X6_isMissing l D cy ad ha ((Nat.lt_of_lt_of_le (vp_lt h6) (by decide))) hw _) ok_X6_isMissing mw_644 ⟨(Nat.le_of_ble_eq_true rfl), (Nat.le_of_ble_eq_true rfl)⟩ ⟨rfl, rfl⟩ (rC22 (Nat.lt_of_lt_of_le (vp_lt h6) (by decide))) rfl rfl rfl rfl rfl (Nat.le_of_ble_eq_true rfl) ⟨Nat.zero_le _, Nat.zero_le _⟩ hP hS dX9_copy_43 (fun r9 s9 hw H locs hP hS => ?_)
        obtain ⟨z9, hw⟩ := hw
        refine lv_if_eq (tgt := 52) hx hb dX9_copy_46 (by decide) (fun c10 => ?_) (fun c10 => ?_)
        · replace hw := hw.1 c10
          refine lv_aload hx hb dX9_copy_52 (lv_at hl 1 rfl) ?_
          refine fX6_0 ((Nat.lt_of_lt_of_le (vp_lt h5) (by decide))) E hP mw_288 dX9_copy_54 ?_
          refine lv_aload hx hb dX9_copy_57 (lv_at hl 0 rfl) ?_
          refine fX6_0 ((Nat.lt_of_lt_of_le (vp_lt h6) (by decide))) E hP mw_288 dX9_copy_59 ?_
          refine lv_icmp_eq (tgt := 68) hx hb dX9_copy_62 (by decide) (fun c11 => ?_) (fun c11 => ?_)
          · replace hw := hw.1 c11
            refine lv_aload hx hb dX9_copy_68 (lv_at hl 1 rfl) ?_
            refine lv_iload_n hx hb dX9_copy_70 rfl (lv_at hl 4 rfl) ?_
            refine lv_iload hx hb dX9_copy_71 (lv_at hl 7 rfl) ?_
            refine g_cVi (As := [.int x2, .int x5]) (rest := []) E hl.1 (c_X6_hasPlaces l D cy ad ha ((Nat.lt_of_lt_of_le (vp_lt h5) (by decide))) hw _) ok_X6_hasPlaces mw_888 ⟨(Nat.le_of_ble_eq_true rfl), (Nat.le_of_ble_eq_true rfl)⟩ ⟨rfl, rfl⟩ (rC22 (Nat.lt_of_lt_of_le (vp_lt h5) (by decide))) rfl rfl rfl rfl rfl (Nat.le_of_ble_eq_true rfl) ⟨Nat.zero_le _, Nat.zero_le _⟩ hP hS dX9_copy_73 (fun r12 s12 hw H locs hP hS => ?_)
            obtain ⟨z12, hw⟩ := hw
            refine lv_if_eq (tgt := 91) hx hb dX9_copy_76 (by decide) (fun c13 => ?_) (fun c13 => ?_)
            · replace hw := hw.1 c13
              refine g_ldcw (v := -1000000013) E mw_872 dX9_copy_91 ?_
              exact g_iret E hw hP hS dX9_copy_94
            · replace hw := hw.2 c13
              refine lv_aload hx hb dX9_copy_79 (lv_at hl 0 rfl) ?_
              refine lv_iload hx hb dX9_copy_81 (lv_at hl 6 rfl) ?_
              refine lv_iload hx hb dX9_copy_83 (lv_at hl 7 rfl) ?_
              refine g_cVi (As := [.int x4, .int x5]) (rest := []) E hl.1 (c_X6_hasPlaces l D cy ad ha ((Nat.lt_of_lt_of_le (vp_lt h6) (by decide))) hw _) ok_X6_hasPlaces mw_888 ⟨(Nat.le_of_ble_eq_true rfl), (Nat.le_of_ble_eq_true rfl)⟩ ⟨rfl, rfl⟩ (rC22 (Nat.lt_of_lt_of_le (vp_lt h6) (by decide))) rfl rfl rfl rfl rfl (Nat.le_of_ble_eq_true rfl) ⟨Nat.zero_le _, Nat.zero_le _⟩ hP hS dX9_copy_85 (fun r14 s14 hw H locs hP hS => ?_)
              obtain ⟨z14, hw⟩ := hw
              refine lv_if_ne (tgt := 95) hx hb dX9_copy_88 (by decide) (fun c15 => ?_) (fun c15 => ?_)
              · replace hw := hw.1 c15
                refine lv_aload hx hb dX9_copy_95 (lv_at hl 1 rfl) ?_
                refine fX6_2 ((Nat.lt_of_lt_of_le (vp_lt h5) (by decide))) E hP mw_292 dX9_copy_97 ?_
                refine lv_iload_n hx hb dX9_copy_100 rfl (lv_at hl 4 rfl) ?_
                refine lv_aload hx hb dX9_copy_101 (lv_at hl 0 rfl) ?_
                refine fX6_2 ((Nat.lt_of_lt_of_le (vp_lt h6) (by decide))) E hP mw_292 dX9_copy_103 ?_
                refine lv_iload hx hb dX9_copy_106 (lv_at hl 6 rfl) ?_
                refine lv_iload hx hb dX9_copy_108 (lv_at hl 7 rfl) ?_
                obtain ⟨h16, hw⟩ := hw
                refine g_copy E hl.1 ha mw_892 (rC23 (Nat.lt_of_lt_of_le (vp_lt h5) (by decide))) (fun _ => rfl) (rC23 (Nat.lt_of_lt_of_le (vp_lt h6) (by decide))) (fun _ => rfl) mw_623 mw_622 mw_87 h16 ⟨(Nat.le_of_ble_eq_true rfl), by decide⟩ dX9_copy_110 hP hS (fun s17 es17 H locs hP hS => ?_)
                replace hw := hw s17 es17
                refine lv_iload hx hb dX9_copy_113 (lv_at hl 7 rfl) ?_
                exact g_iret E hw hP hS dX9_copy_115
              · replace hw := hw.2 c15
                refine g_ldcw (v := -1000000013) E mw_872 dX9_copy_91 ?_
                exact g_iret E hw hP hS dX9_copy_94
          · replace hw := hw.2 c11
            refine g_ldc (v := -1000000012) E mw_413 dX9_copy_65 ?_
            exact g_iret E hw hP hS dX9_copy_67
        · replace hw := hw.2 c10
          refine g_ldc (v := -1000000011) E mw_648 dX9_copy_49 ?_
          exact g_iret E hw hP hS dX9_copy_51
    · replace hw := hw.2 c4
      refine g_ldc (v := -1000000001) E mw_376 dX9_copy_14 ?_
      exact g_iret E hw hP hS dX9_copy_16
theorem c_X9_copy (l : Launch) (D : va_G) (cy : Nat → ClassId) (ad : Nat → Nat → Nat) (ha : Apart regsC ad) {post : Int32 → St → Prop} {σ : St} {x1 : Int32} {x2 : Int32} {x3 : Int32} {x4 : Int32} {x5 : Int32} (hw : w_X9_copy post σ x1 x2 x3 x4 x5) (sz : Nat) : MetI l yX9_copy cX9_copy 8 .int rm_X9_copy [.ref (ad 0 0), .int x1, .int x2, .int x3, .int x4, .int x5] D cy (cellC cy ad) regsC ad σ sz post :=
  Met_inI ok_X9_copy.2.2.2.2.2 (Nat.le_of_ble_eq_true rfl) (fun p e s m below meth c ls E hP hl => B_X9_copy_0 E ha hw hP va_S.rf hl)
-- RoofWar.isSlot(I)Z
theorem dX9_isSlot_0 : decode cX9_isSlot 0 = .ok (.iload_n 0, 1) := by decide +kernel
theorem dX9_isSlot_1 : decode cX9_isSlot 1 = .ok (.iconst 0, 1) := by decide +kernel
theorem dX9_isSlot_2 : decode cX9_isSlot 2 = .ok (.iconst 4, 1) := by decide +kernel
theorem dX9_isSlot_3 : decode cX9_isSlot 3 = .ok (.invokestatic 87, 3) := by decide +kernel
theorem dX9_isSlot_6 : decode cX9_isSlot 6 = .ok (.ireturn, 1) := by decide +kernel
theorem ok_X9_isSlot : okS yX9_isSlot cX9_isSlot 1 (some .boolean) 1 := ⟨mw_898, mw_74, mw_899, by decide +kernel, by decide +kernel⟩
abbrev rm_X9_isSlot : Room := { frames := 1, cells := 0, slots := 0, locals := 22 }
def w_X9_isSlot (post : Int32 → St → Prop) (σ : St) (x0 : Int32) : Prop := w_X9_within (fun r1 s1 => post r1 s1) σ x0 (0 : Int32) (4 : Int32)
theorem B_X9_isSlot_0 (E : EnvW p s m args meth c D cy regsC ad "RoofWar" cX9_isSlot 1 (some .boolean)) (ha : Apart regsC ad) {post : Int32 → St → Prop} {σ : St} {x0 : Int32} (hw : w_X9_isSlot post σ x0) {H : Heap} {locs : List Loc} {ls : Array Slot} (hP : va_P D CLS (wC cy ad σ) H) (hS : va_S (AC ad s.heap.size) s.heap H locs) (hl : lv_has ls 1 [(0, .int x0)]) : W p l e rm_X9_isSlot s m args below meth c H locs 0 0 (MQ below (QI D cy (cellC cy ad) regsC ad s.heap.size (fun r u => (r = 0 ∨ r = 1) ∧ post r u)) args s 0 0 (AC ad s.heap.size)) (F0 m 0 ls []) := by
  obtain ⟨hx, hb, -⟩ := id E
  unfold w_X9_isSlot at hw
  refine lv_iload_n hx hb dX9_isSlot_0 rfl (lv_at hl 0 rfl) ?_
  refine lv_iconst (v := 0) hx hb dX9_isSlot_1 (by decide) ?_
  refine lv_iconst (v := 4) hx hb dX9_isSlot_2 (by decide) ?_
  refine g_cSi (As := [.int x0, .int 0, .int 4]) (rest := []) E hl.1 (c_X9_within l D cy ad ha hw _) ok_X9_within mw_370 ⟨(Nat.le_of_ble_eq_true rfl), (Nat.le_of_ble_eq_true rfl)⟩ ⟨rfl, rfl⟩ rfl rfl (Nat.le_of_ble_eq_true rfl) ⟨Nat.zero_le _, Nat.zero_le _⟩ hP hS dX9_isSlot_3 (fun r1 s1 hw H locs hP hS => ?_)
  obtain ⟨z1, hw⟩ := hw
  exact g_zret E z1 hw hP hS dX9_isSlot_6
theorem c_X9_isSlot (l : Launch) (D : va_G) (cy : Nat → ClassId) (ad : Nat → Nat → Nat) (ha : Apart regsC ad) {post : Int32 → St → Prop} {σ : St} {x0 : Int32} (hw : w_X9_isSlot post σ x0) (sz : Nat) : MetI l yX9_isSlot cX9_isSlot 1 .boolean rm_X9_isSlot [.int x0] D cy (cellC cy ad) regsC ad σ sz (fun r u => (r = 0 ∨ r = 1) ∧ post r u) :=
  Met_inI ok_X9_isSlot.2.2.2.2 (Nat.le_of_ble_eq_true rfl) (fun p e s m below meth c ls E hP hl => B_X9_isSlot_0 E ha hw hP va_S.rf hl)
-- RoofWar.lay(III)I
theorem dX9_lay_0 : decode cX9_lay 0 = .ok (.iload_n 1, 1) := by decide +kernel
theorem dX9_lay_1 : decode cX9_lay 1 = .ok (.invokestatic 319, 3) := by decide +kernel
theorem dX9_lay_4 : decode cX9_lay 4 = .ok (.ifCond .eq 12, 3) := by decide +kernel
theorem dX9_lay_7 : decode cX9_lay 7 = .ok (.iload_n 2, 1) := by decide +kernel
theorem dX9_lay_8 : decode cX9_lay 8 = .ok (.iconst 0, 1) := by decide +kernel
theorem dX9_lay_9 : decode cX9_lay 9 = .ok (.iconst 3, 1) := by decide +kernel
theorem dX9_lay_10 : decode cX9_lay 10 = .ok (.invokestatic 87, 3) := by decide +kernel
theorem dX9_lay_13 : decode cX9_lay 13 = .ok (.ifCond .ne 6, 3) := by decide +kernel
theorem dX9_lay_16 : decode cX9_lay 16 = .ok (.ldc 94, 2) := by decide +kernel
theorem dX9_lay_18 : decode cX9_lay 18 = .ok (.ireturn, 1) := by decide +kernel
theorem dX9_lay_19 : decode cX9_lay 19 = .ok (.iload_n 2, 1) := by decide +kernel
theorem dX9_lay_20 : decode cX9_lay 20 = .ok (.iconst 1, 1) := by decide +kernel
theorem dX9_lay_21 : decode cX9_lay 21 = .ok (.if_icmp .ne 11, 3) := by decide +kernel
theorem dX9_lay_24 : decode cX9_lay 24 = .ok (.aload_n 0, 1) := by decide +kernel
theorem dX9_lay_25 : decode cX9_lay 25 = .ok (.iload_n 3, 1) := by decide +kernel
theorem dX9_lay_26 : decode cX9_lay 26 = .ok (.invokevirtual 108, 3) := by decide +kernel
theorem dX9_lay_29 : decode cX9_lay 29 = .ok (.ifCond .eq 15, 3) := by decide +kernel
theorem dX9_lay_32 : decode cX9_lay 32 = .ok (.iload_n 2, 1) := by decide +kernel
theorem dX9_lay_33 : decode cX9_lay 33 = .ok (.iconst 2, 1) := by decide +kernel
theorem dX9_lay_34 : decode cX9_lay 34 = .ok (.if_icmp .ne 13, 3) := by decide +kernel
theorem dX9_lay_37 : decode cX9_lay 37 = .ok (.iload_n 3, 1) := by decide +kernel
theorem dX9_lay_38 : decode cX9_lay 38 = .ok (.invokestatic 238, 3) := by decide +kernel
theorem dX9_lay_41 : decode cX9_lay 41 = .ok (.ifCond .ne 6, 3) := by decide +kernel
theorem dX9_lay_44 : decode cX9_lay 44 = .ok (.ldc 94, 2) := by decide +kernel
theorem dX9_lay_46 : decode cX9_lay 46 = .ok (.ireturn, 1) := by decide +kernel
theorem dX9_lay_47 : decode cX9_lay 47 = .ok (.iload_n 2, 1) := by decide +kernel
theorem dX9_lay_48 : decode cX9_lay 48 = .ok (.iconst 2, 1) := by decide +kernel
theorem dX9_lay_49 : decode cX9_lay 49 = .ok (.if_icmp .ne 18, 3) := by decide +kernel
theorem dX9_lay_52 : decode cX9_lay 52 = .ok (.aload_n 0, 1) := by decide +kernel
theorem dX9_lay_53 : decode cX9_lay 53 = .ok (.getfield 60, 3) := by decide +kernel
theorem dX9_lay_56 : decode cX9_lay 56 = .ok (.iload_n 3, 1) := by decide +kernel
theorem dX9_lay_57 : decode cX9_lay 57 = .ok (.aaload, 1) := by decide +kernel
theorem dX9_lay_58 : decode cX9_lay 58 = .ok (.invokevirtual 241, 3) := by decide +kernel
theorem dX9_lay_61 : decode cX9_lay 61 = .ok (.ifCond .eq 6, 3) := by decide +kernel
theorem dX9_lay_64 : decode cX9_lay 64 = .ok (.ldc 245, 2) := by decide +kernel
theorem dX9_lay_66 : decode cX9_lay 66 = .ok (.ireturn, 1) := by decide +kernel
theorem dX9_lay_67 : decode cX9_lay 67 = .ok (.aload_n 0, 1) := by decide +kernel
theorem dX9_lay_68 : decode cX9_lay 68 = .ok (.getfield 67, 3) := by decide +kernel
theorem dX9_lay_71 : decode cX9_lay 71 = .ok (.iload_n 1, 1) := by decide +kernel
theorem dX9_lay_72 : decode cX9_lay 72 = .ok (.aaload, 1) := by decide +kernel
theorem dX9_lay_73 : decode cX9_lay 73 = .ok (.astore 4, 2) := by decide +kernel
theorem dX9_lay_75 : decode cX9_lay 75 = .ok (.aload 4, 2) := by decide +kernel
theorem dX9_lay_77 : decode cX9_lay 77 = .ok (.getfield 322, 3) := by decide +kernel
theorem dX9_lay_80 : decode cX9_lay 80 = .ok (.istore 5, 2) := by decide +kernel
theorem dX9_lay_82 : decode cX9_lay 82 = .ok (.aload 4, 2) := by decide +kernel
theorem dX9_lay_84 : decode cX9_lay 84 = .ok (.iload_n 2, 1) := by decide +kernel
theorem dX9_lay_85 : decode cX9_lay 85 = .ok (.putfield 322, 3) := by decide +kernel
theorem dX9_lay_88 : decode cX9_lay 88 = .ok (.iload_n 2, 1) := by decide +kernel
theorem dX9_lay_89 : decode cX9_lay 89 = .ok (.iconst 1, 1) := by decide +kernel
theorem dX9_lay_90 : decode cX9_lay 90 = .ok (.if_icmp .ne 34, 3) := by decide +kernel
theorem dX9_lay_93 : decode cX9_lay 93 = .ok (.aload 4, 2) := by decide +kernel
theorem dX9_lay_95 : decode cX9_lay 95 = .ok (.aload_n 0, 1) := by decide +kernel
theorem dX9_lay_96 : decode cX9_lay 96 = .ok (.getfield 21, 3) := by decide +kernel
theorem dX9_lay_99 : decode cX9_lay 99 = .ok (.getfield 111, 3) := by decide +kernel
theorem dX9_lay_102 : decode cX9_lay 102 = .ok (.iload_n 3, 1) := by decide +kernel
theorem dX9_lay_103 : decode cX9_lay 103 = .ok (.iaload, 1) := by decide +kernel
theorem dX9_lay_104 : decode cX9_lay 104 = .ok (.putfield 325, 3) := by decide +kernel
theorem dX9_lay_107 : decode cX9_lay 107 = .ok (.aload 4, 2) := by decide +kernel
theorem dX9_lay_109 : decode cX9_lay 109 = .ok (.aload_n 0, 1) := by decide +kernel
theorem dX9_lay_110 : decode cX9_lay 110 = .ok (.getfield 21, 3) := by decide +kernel
theorem dX9_lay_113 : decode cX9_lay 113 = .ok (.getfield 114, 3) := by decide +kernel
theorem dX9_lay_116 : decode cX9_lay 116 = .ok (.iload_n 3, 1) := by decide +kernel
theorem dX9_lay_117 : decode cX9_lay 117 = .ok (.iaload, 1) := by decide +kernel
theorem dX9_lay_118 : decode cX9_lay 118 = .ok (.putfield 328, 3) := by decide +kernel
theorem dX9_lay_121 : decode cX9_lay 121 = .ok (.goto 36, 3) := by decide +kernel
theorem dX9_lay_124 : decode cX9_lay 124 = .ok (.iload_n 2, 1) := by decide +kernel
theorem dX9_lay_125 : decode cX9_lay 125 = .ok (.iconst 2, 1) := by decide +kernel
theorem dX9_lay_126 : decode cX9_lay 126 = .ok (.if_icmp .ne 20, 3) := by decide +kernel
theorem dX9_lay_129 : decode cX9_lay 129 = .ok (.aload 4, 2) := by decide +kernel
theorem dX9_lay_131 : decode cX9_lay 131 = .ok (.getfield 331, 3) := by decide +kernel
theorem dX9_lay_134 : decode cX9_lay 134 = .ok (.aload_n 0, 1) := by decide +kernel
theorem dX9_lay_135 : decode cX9_lay 135 = .ok (.getfield 60, 3) := by decide +kernel
theorem dX9_lay_138 : decode cX9_lay 138 = .ok (.iload_n 3, 1) := by decide +kernel
theorem dX9_lay_139 : decode cX9_lay 139 = .ok (.aaload, 1) := by decide +kernel
theorem dX9_lay_140 : decode cX9_lay 140 = .ok (.invokevirtual 335, 3) := by decide +kernel
theorem dX9_lay_143 : decode cX9_lay 143 = .ok (.goto 14, 3) := by decide +kernel
theorem dX9_lay_146 : decode cX9_lay 146 = .ok (.iload_n 2, 1) := by decide +kernel
theorem dX9_lay_147 : decode cX9_lay 147 = .ok (.iconst 3, 1) := by decide +kernel
theorem dX9_lay_148 : decode cX9_lay 148 = .ok (.if_icmp .ne 9, 3) := by decide +kernel
theorem dX9_lay_151 : decode cX9_lay 151 = .ok (.aload 4, 2) := by decide +kernel
theorem dX9_lay_153 : decode cX9_lay 153 = .ok (.iload_n 3, 1) := by decide +kernel
theorem dX9_lay_154 : decode cX9_lay 154 = .ok (.putfield 337, 3) := by decide +kernel
theorem dX9_lay_157 : decode cX9_lay 157 = .ok (.iload 5, 2) := by decide +kernel
theorem dX9_lay_159 : decode cX9_lay 159 = .ok (.ireturn, 1) := by decide +kernel
theorem ok_X9_lay : okV yX9_lay cX9_lay 6 (some .int) 3 := ⟨mw_894, mw_895, mw_74, mw_896, by decide +kernel, by decide +kernel⟩
abbrev rm_X9_lay : Room := { frames := 2, cells := 0, slots := 0, locals := 121 }
def b_X9_lay_67 (post : Int32 → St → Prop) (σ : St) (x1 : Int32) (x2 : Int32) (x3 : Int32) : Prop := vp_in x1 5 ∧ (∀ v2 : Int32, v2 = σ 24 x1.toNatClampNeg 0 → (∀ s3 : St, s3 = wr σ 24 x1.toNatClampNeg 0 x2 → (((¬ x2 = 1 → (((¬ x2 = 2 → (((¬ x2 = 3 → (post v2 s3)) ∧ (x2 = 3 → (∀ s7 : St, s7 = wr s3 24 x1.toNatClampNeg 3 x3 → (post v2 s7)))))) ∧ (x2 = 2 → (vp_in x3 4 ∧ (w_X6_becomeLike (fun s9 => post v2 s9) s3 ((x1.toNatClampNeg + 4)) x3.toNatClampNeg)))))) ∧ (x2 = 1 → (vp_in x3 12 ∧ (∀ s11 : St, s11 = wr s3 24 x1.toNatClampNeg 1 (s3 6 0 x3.toNatClampNeg) → (vp_in x3 12 ∧ (∀ s13 : St, s13 = wr s11 24 x1.toNatClampNeg 2 (s11 7 0 x3.toNatClampNeg) → (post v2 s13))))))))))
theorem B_X9_lay_67 (E : EnvW p s m args meth c D cy regsC ad "RoofWar" cX9_lay 6 (some .int)) (ha : Apart regsC ad) {post : Int32 → St → Prop} {σ : St} {x1 : Int32} {x2 : Int32} {x3 : Int32} (hw : b_X9_lay_67 post σ x1 x2 x3) {H : Heap} {locs : List Loc} {ls : Array Slot} (hP : va_P D CLS (wC cy ad σ) H) (hS : va_S (AC ad s.heap.size) s.heap H locs) (hl : lv_has ls 6 [(0, .ref (ad 0 0)), (1, .int x1), (2, .int x2), (3, .int x3)]) : W p l e rm_X9_lay s m args below meth c H locs 0 0 (MQ below (QI D cy (cellC cy ad) regsC ad s.heap.size post) args s 0 0 (AC ad s.heap.size)) (F0 m 67 ls []) := by
  obtain ⟨hx, hb, -⟩ := id E
  unfold b_X9_lay_67 at hw
  refine lv_aload_n hx hb dX9_lay_67 rfl (lv_at hl 0 rfl) ?_
  refine fX9_9 E hP mw_332 dX9_lay_68 ?_
  refine lv_iload_n hx hb dX9_lay_71 rfl (lv_at hl 1 rfl) ?_
  obtain ⟨h1, hw⟩ := hw
  refine aC4 E hP h1 dX9_lay_72 ?_
  refine lv_astore (lv' := [(4, .ref (ad 24 x1.toNatClampNeg)), (0, .ref (ad 0 0)), (1, .int x1), (2, .int x2), (3, .int x3)]) hx hb dX9_lay_73 hl (by decide) rfl (fun ls hl => ?_)
  refine lv_aload hx hb dX9_lay_75 (lv_at hl 0 rfl) ?_
  refine fX7_0 ((vp_lt h1)) E hP mw_306 dX9_lay_77 ?_
  refine lv_topi (fun v2 ev2 => ?_)
  replace hw := hw v2 ev2
  refine lv_istore (lv' := [(5, .int v2), (4, .ref (ad 24 x1.toNatClampNeg)), (0, .ref (ad 0 0)), (1, .int x1), (2, .int x2), (3, .int x3)]) hx hb dX9_lay_80 hl (by decide) rfl (fun ls hl => ?_)
  refine lv_aload hx hb dX9_lay_82 (lv_at hl 1 rfl) ?_
  refine lv_iload_n hx hb dX9_lay_84 rfl (lv_at hl 4 rfl) ?_
  refine uX7_0 ((vp_lt h1)) E ha mw_306 dX9_lay_85 hP hS (fun s3 es3 H locs hP hS => ?_)
  replace hw := hw s3 es3
  refine lv_iload_n hx hb dX9_lay_88 rfl (lv_at hl 4 rfl) ?_
  refine lv_iconst (v := 1) hx hb dX9_lay_89 (by decide) ?_
  refine lv_icmp_ne (tgt := 124) hx hb dX9_lay_90 (by decide) (fun c4 => ?_) (fun c4 => ?_)
  · replace hw := hw.1 c4
    refine lv_iload_n hx hb dX9_lay_124 rfl (lv_at hl 4 rfl) ?_
    refine lv_iconst (v := 2) hx hb dX9_lay_125 (by decide) ?_
    refine lv_icmp_ne (tgt := 146) hx hb dX9_lay_126 (by decide) (fun c5 => ?_) (fun c5 => ?_)
    · replace hw := hw.1 c5
      refine lv_iload_n hx hb dX9_lay_146 rfl (lv_at hl 4 rfl) ?_
      refine lv_iconst (v := 3) hx hb dX9_lay_147 (by decide) ?_
      refine lv_icmp_ne (tgt := 157) hx hb dX9_lay_148 (by decide) (fun c6 => ?_) (fun c6 => ?_)
      · replace hw := hw.1 c6
        refine lv_iload hx hb dX9_lay_157 (lv_at hl 0 rfl) ?_
        exact g_iret E hw hP hS dX9_lay_159
      · replace hw := hw.2 c6
        refine lv_aload hx hb dX9_lay_151 (lv_at hl 1 rfl) ?_
        refine lv_iload_n hx hb dX9_lay_153 rfl (lv_at hl 5 rfl) ?_
        refine uX7_3 ((vp_lt h1)) E ha mw_309 dX9_lay_154 hP hS (fun s7 es7 H locs hP hS => ?_)
        replace hw := hw s7 es7
        refine lv_iload hx hb dX9_lay_157 (lv_at hl 0 rfl) ?_
        exact g_iret E hw hP hS dX9_lay_159
    · replace hw := hw.2 c5
      refine lv_aload hx hb dX9_lay_129 (lv_at hl 1 rfl) ?_
      refine fX7_4 ((vp_lt h1)) E hP mw_311 dX9_lay_131 ?_
      refine lv_aload_n hx hb dX9_lay_134 rfl (lv_at hl 2 rfl) ?_
      refine fX9_8 E hP mw_331 dX9_lay_135 ?_
      refine lv_iload_n hx hb dX9_lay_138 rfl (lv_at hl 5 rfl) ?_
      obtain ⟨h8, hw⟩ := hw
      refine aC3 E hP h8 dX9_lay_139 ?_
      refine g_cVv (As := [.ref (ad 22 x3.toNatClampNeg)]) (rest := []) E hl.1 (c_X6_becomeLike l D cy ad ha ((Nat.add_lt_add_right (vp_lt h1) 4)) ((Nat.lt_of_lt_of_le (vp_lt h8) (by decide))) hw _) ok_X6_becomeLike mw_900 ⟨(Nat.le_of_ble_eq_true rfl), (Nat.le_of_ble_eq_true rfl)⟩ ⟨rfl, rfl⟩ (rC22 (Nat.add_lt_add_right (vp_lt h1) 4)) rfl rfl rfl rfl rfl (Nat.le_of_ble_eq_true rfl) ⟨Nat.zero_le _, Nat.zero_le _⟩ hP hS dX9_lay_140 (fun s9 hw H locs hP hS => ?_)
      refine lv_goto (tgt := 157) hx hb dX9_lay_143 (by decide) ?_
      refine lv_iload hx hb dX9_lay_157 (lv_at hl 0 rfl) ?_
      exact g_iret E hw hP hS dX9_lay_159
  · replace hw := hw.2 c4
    refine lv_aload hx hb dX9_lay_93 (lv_at hl 1 rfl) ?_
    refine lv_aload_n hx hb dX9_lay_95 rfl (lv_at hl 2 rfl) ?_
    refine fX9_1 E hP mw_324 dX9_lay_96 ?_
    refine fX1_1 ((by decide : 0 < 3)) E hP mw_148 dX9_lay_99 ?_
    refine lv_iload_n hx hb dX9_lay_102 rfl (lv_at hl 5 rfl) ?_
    obtain ⟨h10, hw⟩ := hw
    refine aC6 ((by decide : 0 < 3)) E hP h10 dX9_lay_103 ?_
    refine uX7_1 ((vp_lt h1)) E ha mw_307 dX9_lay_104 hP hS (fun s11 es11 H locs hP hS => ?_)
    replace hw := hw s11 es11
    refine lv_aload hx hb dX9_lay_107 (lv_at hl 1 rfl) ?_
    refine lv_aload_n hx hb dX9_lay_109 rfl (lv_at hl 2 rfl) ?_
    refine fX9_1 E hP mw_324 dX9_lay_110 ?_
    refine fX1_2 ((by decide : 0 < 3)) E hP mw_150 dX9_lay_113 ?_
    refine lv_iload_n hx hb dX9_lay_116 rfl (lv_at hl 5 rfl) ?_
    obtain ⟨h12, hw⟩ := hw
    refine aC7 ((by decide : 0 < 3)) E hP h12 dX9_lay_117 ?_
    refine uX7_2 ((vp_lt h1)) E ha mw_308 dX9_lay_118 hP hS (fun s13 es13 H locs hP hS => ?_)
    replace hw := hw s13 es13
    refine lv_goto (tgt := 157) hx hb dX9_lay_121 (by decide) ?_
    refine lv_iload hx hb dX9_lay_157 (lv_at hl 0 rfl) ?_
    exact g_iret E hw hP hS dX9_lay_159
def b_X9_lay_47 (post : Int32 → St → Prop) (σ : St) (x1 : Int32) (x2 : Int32) (x3 : Int32) : Prop := ((¬ x2 = 2 → (b_X9_lay_67 post σ x1 x2 x3)) ∧ (x2 = 2 → (vp_in x3 4 ∧ (w_X6_isMissing (fun r3 s3 => ((r3 = 0 → (b_X9_lay_67 post s3 x1 x2 x3)) ∧ (¬ r3 = 0 → (post ((-1000000011)) s3)))) σ x3.toNatClampNeg))))
theorem B_X9_lay_47 (E : EnvW p s m args meth c D cy regsC ad "RoofWar" cX9_lay 6 (some .int)) (ha : Apart regsC ad) {post : Int32 → St → Prop} {σ : St} {x1 : Int32} {x2 : Int32} {x3 : Int32} (hw : b_X9_lay_47 post σ x1 x2 x3) {H : Heap} {locs : List Loc} {ls : Array Slot} (hP : va_P D CLS (wC cy ad σ) H) (hS : va_S (AC ad s.heap.size) s.heap H locs) (hl : lv_has ls 6 [(0, .ref (ad 0 0)), (1, .int x1), (2, .int x2), (3, .int x3)]) : W p l e rm_X9_lay s m args below meth c H locs 0 0 (MQ below (QI D cy (cellC cy ad) regsC ad s.heap.size post) args s 0 0 (AC ad s.heap.size)) (F0 m 47 ls []) := by
  obtain ⟨hx, hb, -⟩ := id E
  unfold b_X9_lay_47 at hw
  refine lv_iload_n hx hb dX9_lay_47 rfl (lv_at hl 2 rfl) ?_
  refine lv_iconst (v := 2) hx hb dX9_lay_48 (by decide) ?_
  refine lv_icmp_ne (tgt := 67) hx hb dX9_lay_49 (by decide) (fun c1 => ?_) (fun c1 => ?_)
  · replace hw := hw.1 c1
    exact B_X9_lay_67 E ha hw hP hS (lv_sub hl [0, 1, 2, 3] rfl)
  · replace hw := hw.2 c1
    refine lv_aload_n hx hb dX9_lay_52 rfl (lv_at hl 0 rfl) ?_
    refine fX9_8 E hP mw_331 dX9_lay_53 ?_
    refine lv_iload_n hx hb dX9_lay_56 rfl (lv_at hl 3 rfl) ?_
    obtain ⟨h2, hw⟩ := hw
    refine aC3 E hP h2 dX9_lay_57 ?_
    refine g_cVi (As := []) (rest := []) E hl.1 (c_X6_isMissing l D cy ad ha ((Nat.lt_of_lt_of_le (vp_lt h2) (by decide))) hw _) ok_X6_isMissing mw_644 ⟨(Nat.le_of_ble_eq_true rfl), (Nat.le_of_ble_eq_true rfl)⟩ ⟨rfl, rfl⟩ (rC22 (Nat.lt_of_lt_of_le (vp_lt h2) (by decide))) rfl rfl rfl rfl rfl (Nat.le_of_ble_eq_true rfl) ⟨Nat.zero_le _, Nat.zero_le _⟩ hP hS dX9_lay_58 (fun r3 s3 hw H locs hP hS => ?_)
    obtain ⟨z3, hw⟩ := hw
    refine lv_if_eq (tgt := 67) hx hb dX9_lay_61 (by decide) (fun c4 => ?_) (fun c4 => ?_)
    · replace hw := hw.1 c4
      exact B_X9_lay_67 E ha hw hP hS (lv_sub hl [0, 1, 2, 3] rfl)
    · replace hw := hw.2 c4
      refine g_ldc (v := -1000000011) E mw_648 dX9_lay_64 ?_
      exact g_iret E hw hP hS dX9_lay_66
def b_X9_lay_32 (post : Int32 → St → Prop) (σ : St) (x1 : Int32) (x2 : Int32) (x3 : Int32) : Prop := ((¬ x2 = 2 → (b_X9_lay_47 post σ x1 x2 x3)) ∧ (x2 = 2 → (w_X9_isSheet (fun r2 s2 => ((¬ r2 = 0 → (b_X9_lay_47 post s2 x1 x2 x3)) ∧ (r2 = 0 → (post ((-1000000001)) s2)))) σ x3)))
theorem B_X9_lay_32 (E : EnvW p s m args meth c D cy regsC ad "RoofWar" cX9_lay 6 (some .int)) (ha : Apart regsC ad) {post : Int32 → St → Prop} {σ : St} {x1 : Int32} {x2 : Int32} {x3 : Int32} (hw : b_X9_lay_32 post σ x1 x2 x3) {H : Heap} {locs : List Loc} {ls : Array Slot} (hP : va_P D CLS (wC cy ad σ) H) (hS : va_S (AC ad s.heap.size) s.heap H locs) (hl : lv_has ls 6 [(0, .ref (ad 0 0)), (1, .int x1), (2, .int x2), (3, .int x3)]) : W p l e rm_X9_lay s m args below meth c H locs 0 0 (MQ below (QI D cy (cellC cy ad) regsC ad s.heap.size post) args s 0 0 (AC ad s.heap.size)) (F0 m 32 ls []) := by
  obtain ⟨hx, hb, -⟩ := id E
  unfold b_X9_lay_32 at hw
  refine lv_iload_n hx hb dX9_lay_32 rfl (lv_at hl 2 rfl) ?_
  refine lv_iconst (v := 2) hx hb dX9_lay_33 (by decide) ?_
  refine lv_icmp_ne (tgt := 47) hx hb dX9_lay_34 (by decide) (fun c1 => ?_) (fun c1 => ?_)
  · replace hw := hw.1 c1
    exact B_X9_lay_47 E ha hw hP hS (lv_sub hl [0, 1, 2, 3] rfl)
  · replace hw := hw.2 c1
    refine lv_iload_n hx hb dX9_lay_37 rfl (lv_at hl 3 rfl) ?_
    refine g_cSi (As := [.int x3]) (rest := []) E hl.1 (c_X9_isSheet l D cy ad ha hw _) ok_X9_isSheet mw_641 ⟨(Nat.le_of_ble_eq_true rfl), (Nat.le_of_ble_eq_true rfl)⟩ ⟨rfl, rfl⟩ rfl rfl (Nat.le_of_ble_eq_true rfl) ⟨Nat.zero_le _, Nat.zero_le _⟩ hP hS dX9_lay_38 (fun r2 s2 hw H locs hP hS => ?_)
    obtain ⟨z2, hw⟩ := hw
    refine lv_if_ne (tgt := 47) hx hb dX9_lay_41 (by decide) (fun c3 => ?_) (fun c3 => ?_)
    · replace hw := hw.1 c3
      exact B_X9_lay_47 E ha hw hP hS (lv_sub hl [0, 1, 2, 3] rfl)
    · replace hw := hw.2 c3
      refine g_ldc (v := -1000000001) E mw_376 dX9_lay_44 ?_
      exact g_iret E hw hP hS dX9_lay_46
def w_X9_lay (post : Int32 → St → Prop) (σ : St) (x1 : Int32) (x2 : Int32) (x3 : Int32) : Prop := w_X9_isSlot (fun r1 s1 => ((r1 = 0 → (post ((-1000000001)) s1)) ∧ (¬ r1 = 0 → (w_X9_within (fun r3 s3 => ((¬ r3 = 0 → (((¬ x2 = 1 → (b_X9_lay_32 post s3 x1 x2 x3)) ∧ (x2 = 1 → (w_X9_isRoof (fun r6 s6 => ((r6 = 0 → (post ((-1000000001)) s6)) ∧ (¬ r6 = 0 → (b_X9_lay_32 post s6 x1 x2 x3)))) s3 x3))))) ∧ (r3 = 0 → (post ((-1000000001)) s3)))) s1 x2 (0 : Int32) (3 : Int32))))) σ x1
theorem B_X9_lay_0 (E : EnvW p s m args meth c D cy regsC ad "RoofWar" cX9_lay 6 (some .int)) (ha : Apart regsC ad) {post : Int32 → St → Prop} {σ : St} {x1 : Int32} {x2 : Int32} {x3 : Int32} (hw : w_X9_lay post σ x1 x2 x3) {H : Heap} {locs : List Loc} {ls : Array Slot} (hP : va_P D CLS (wC cy ad σ) H) (hS : va_S (AC ad s.heap.size) s.heap H locs) (hl : lv_has ls 6 [(0, .ref (ad 0 0)), (1, .int x1), (2, .int x2), (3, .int x3)]) : W p l e rm_X9_lay s m args below meth c H locs 0 0 (MQ below (QI D cy (cellC cy ad) regsC ad s.heap.size post) args s 0 0 (AC ad s.heap.size)) (F0 m 0 ls []) := by
  obtain ⟨hx, hb, -⟩ := id E
  unfold w_X9_lay at hw
  refine lv_iload_n hx hb dX9_lay_0 rfl (lv_at hl 1 rfl) ?_
  refine g_cSi (As := [.int x1]) (rest := []) E hl.1 (c_X9_isSlot l D cy ad ha hw _) ok_X9_isSlot mw_897 ⟨(Nat.le_of_ble_eq_true rfl), (Nat.le_of_ble_eq_true rfl)⟩ ⟨rfl, rfl⟩ rfl rfl (Nat.le_of_ble_eq_true rfl) ⟨Nat.zero_le _, Nat.zero_le _⟩ hP hS dX9_lay_1 (fun r1 s1 hw H locs hP hS => ?_)
  obtain ⟨z1, hw⟩ := hw
  refine lv_if_eq (tgt := 16) hx hb dX9_lay_4 (by decide) (fun c2 => ?_) (fun c2 => ?_)
  · replace hw := hw.1 c2
    refine g_ldc (v := -1000000001) E mw_376 dX9_lay_16 ?_
    exact g_iret E hw hP hS dX9_lay_18
  · replace hw := hw.2 c2
    refine lv_iload_n hx hb dX9_lay_7 rfl (lv_at hl 2 rfl) ?_
    refine lv_iconst (v := 0) hx hb dX9_lay_8 (by decide) ?_
    refine lv_iconst (v := 3) hx hb dX9_lay_9 (by decide) ?_
    refine g_cSi (As := [.int x2, .int 0, .int 3]) (rest := []) E hl.1 (c_X9_within l D cy ad ha hw _) ok_X9_within mw_370 ⟨(Nat.le_of_ble_eq_true rfl), (Nat.le_of_ble_eq_true rfl)⟩ ⟨rfl, rfl⟩ rfl rfl (Nat.le_of_ble_eq_true rfl) ⟨Nat.zero_le _, Nat.zero_le _⟩ hP hS dX9_lay_10 (fun r3 s3 hw H locs hP hS => ?_)
    obtain ⟨z3, hw⟩ := hw
    refine lv_if_ne (tgt := 19) hx hb dX9_lay_13 (by decide) (fun c4 => ?_) (fun c4 => ?_)
    · replace hw := hw.1 c4
      refine lv_iload_n hx hb dX9_lay_19 rfl (lv_at hl 2 rfl) ?_
      refine lv_iconst (v := 1) hx hb dX9_lay_20 (by decide) ?_
      refine lv_icmp_ne (tgt := 32) hx hb dX9_lay_21 (by decide) (fun c5 => ?_) (fun c5 => ?_)
      · replace hw := hw.1 c5
        exact B_X9_lay_32 E ha hw hP hS (lv_sub hl [0, 1, 2, 3] rfl)
      · replace hw := hw.2 c5
        refine lv_aload_n hx hb dX9_lay_24 rfl (lv_at hl 0 rfl) ?_
        refine lv_iload_n hx hb dX9_lay_25 rfl (lv_at hl 3 rfl) ?_
        refine g_cVi (As := [.int x3]) (rest := []) E hl.1 (c_X9_isRoof l D cy ad ha hw _) ok_X9_isRoof mw_388 ⟨(Nat.le_of_ble_eq_true rfl), (Nat.le_of_ble_eq_true rfl)⟩ ⟨rfl, rfl⟩ rC0 rfl rfl rfl rfl rfl (Nat.le_of_ble_eq_true rfl) ⟨Nat.zero_le _, Nat.zero_le _⟩ hP hS dX9_lay_26 (fun r6 s6 hw H locs hP hS => ?_)
        obtain ⟨z6, hw⟩ := hw
        refine lv_if_eq (tgt := 44) hx hb dX9_lay_29 (by decide) (fun c7 => ?_) (fun c7 => ?_)
        · replace hw := hw.1 c7
          refine g_ldc (v := -1000000001) E mw_376 dX9_lay_44 ?_
          exact g_iret E hw hP hS dX9_lay_46
        · replace hw := hw.2 c7
          exact B_X9_lay_32 E ha hw hP hS (lv_sub hl [0, 1, 2, 3] rfl)
    · replace hw := hw.2 c4
      refine g_ldc (v := -1000000001) E mw_376 dX9_lay_16 ?_
      exact g_iret E hw hP hS dX9_lay_18
theorem c_X9_lay (l : Launch) (D : va_G) (cy : Nat → ClassId) (ad : Nat → Nat → Nat) (ha : Apart regsC ad) {post : Int32 → St → Prop} {σ : St} {x1 : Int32} {x2 : Int32} {x3 : Int32} (hw : w_X9_lay post σ x1 x2 x3) (sz : Nat) : MetI l yX9_lay cX9_lay 6 .int rm_X9_lay [.ref (ad 0 0), .int x1, .int x2, .int x3] D cy (cellC cy ad) regsC ad σ sz post :=
  Met_inI ok_X9_lay.2.2.2.2.2 (Nat.le_of_ble_eq_true rfl) (fun p e s m below meth c ls E hP hl => B_X9_lay_0 E ha hw hP va_S.rf hl)
-- RoofWar.ask(II)I
theorem dX9_ask_0 : decode cX9_ask 0 = .ok (.iload_n 1, 1) := by decide +kernel
theorem dX9_ask_1 : decode cX9_ask 1 = .ok (.invokestatic 319, 3) := by decide +kernel
theorem dX9_ask_4 : decode cX9_ask 4 = .ok (.ifCond .eq 10, 3) := by decide +kernel
theorem dX9_ask_7 : decode cX9_ask 7 = .ok (.iload_n 2, 1) := by decide +kernel
theorem dX9_ask_8 : decode cX9_ask 8 = .ok (.invokestatic 83, 3) := by decide +kernel
theorem dX9_ask_11 : decode cX9_ask 11 = .ok (.ifCond .ne 6, 3) := by decide +kernel
theorem dX9_ask_14 : decode cX9_ask 14 = .ok (.ldc 94, 2) := by decide +kernel
theorem dX9_ask_16 : decode cX9_ask 16 = .ok (.ireturn, 1) := by decide +kernel
theorem dX9_ask_17 : decode cX9_ask 17 = .ok (.aload_n 0, 1) := by decide +kernel
theorem dX9_ask_18 : decode cX9_ask 18 = .ok (.getfield 67, 3) := by decide +kernel
theorem dX9_ask_21 : decode cX9_ask 21 = .ok (.iload_n 1, 1) := by decide +kernel
theorem dX9_ask_22 : decode cX9_ask 22 = .ok (.aaload, 1) := by decide +kernel
theorem dX9_ask_23 : decode cX9_ask 23 = .ok (.astore_n 3, 1) := by decide +kernel
theorem dX9_ask_24 : decode cX9_ask 24 = .ok (.aload_n 3, 1) := by decide +kernel
theorem dX9_ask_25 : decode cX9_ask 25 = .ok (.getfield 322, 3) := by decide +kernel
theorem dX9_ask_28 : decode cX9_ask 28 = .ok (.ifCond .ne 6, 3) := by decide +kernel
theorem dX9_ask_31 : decode cX9_ask 31 = .ok (.ldc 245, 2) := by decide +kernel
theorem dX9_ask_33 : decode cX9_ask 33 = .ok (.ireturn, 1) := by decide +kernel
theorem dX9_ask_34 : decode cX9_ask 34 = .ok (.aload_n 3, 1) := by decide +kernel
theorem dX9_ask_35 : decode cX9_ask 35 = .ok (.getfield 322, 3) := by decide +kernel
theorem dX9_ask_38 : decode cX9_ask 38 = .ok (.iconst 1, 1) := by decide +kernel
theorem dX9_ask_39 : decode cX9_ask 39 = .ok (.if_icmp .ne 14, 3) := by decide +kernel
theorem dX9_ask_42 : decode cX9_ask 42 = .ok (.aload_n 3, 1) := by decide +kernel
theorem dX9_ask_43 : decode cX9_ask 43 = .ok (.getfield 325, 3) := by decide +kernel
theorem dX9_ask_46 : decode cX9_ask 46 = .ok (.iload_n 2, 1) := by decide +kernel
theorem dX9_ask_47 : decode cX9_ask 47 = .ok (.invokestatic 138, 3) := by decide +kernel
theorem dX9_ask_50 : decode cX9_ask 50 = .ok (.ifCond .ne 6, 3) := by decide +kernel
theorem dX9_ask_53 : decode cX9_ask 53 = .ok (.ldc 142, 2) := by decide +kernel
theorem dX9_ask_55 : decode cX9_ask 55 = .ok (.ireturn, 1) := by decide +kernel
theorem dX9_ask_56 : decode cX9_ask 56 = .ok (.aload_n 3, 1) := by decide +kernel
theorem dX9_ask_57 : decode cX9_ask 57 = .ok (.getfield 325, 3) := by decide +kernel
theorem dX9_ask_60 : decode cX9_ask 60 = .ok (.aload_n 3, 1) := by decide +kernel
theorem dX9_ask_61 : decode cX9_ask 61 = .ok (.getfield 328, 3) := by decide +kernel
theorem dX9_ask_64 : decode cX9_ask 64 = .ok (.invokestatic 135, 3) := by decide +kernel
theorem dX9_ask_67 : decode cX9_ask 67 = .ok (.ireturn, 1) := by decide +kernel
theorem ok_X9_ask : okV yX9_ask cX9_ask 4 (some .int) 2 := ⟨mw_906, mw_907, mw_74, mw_908, by decide +kernel, by decide +kernel⟩
abbrev rm_X9_ask : Room := { frames := 2, cells := 0, slots := 0, locals := 43 }
def w_X9_ask (post : Int32 → St → Prop) (σ : St) (x1 : Int32) (x2 : Int32) : Prop := w_X9_isSlot (fun r1 s1 => ((r1 = 0 → (post ((-1000000001)) s1)) ∧ (¬ r1 = 0 → (w_X9_isKind (fun r3 s3 => ((¬ r3 = 0 → (vp_in x1 5 ∧ (((¬ (s3 24 x1.toNatClampNeg 0) = 0 → (((¬ (s3 24 x1.toNatClampNeg 0) = 1 → (post ((-1000000012)) s3)) ∧ ((s3 24 x1.toNatClampNeg 0) = 1 → (w_X2_isOne (fun r8 s8 => ((¬ r8 = 0 → (w_X2_worth (fun r10 s10 => post r10 s10) s8 (s8 24 x1.toNatClampNeg 1) (s8 24 x1.toNatClampNeg 2))) ∧ (r8 = 0 → (post ((-1000000012)) s8)))) s3 (s3 24 x1.toNatClampNeg 1) x2))))) ∧ ((s3 24 x1.toNatClampNeg 0) = 0 → (post ((-1000000011)) s3)))))) ∧ (r3 = 0 → (post ((-1000000001)) s3)))) s1 x2)))) σ x1
theorem B_X9_ask_0 (E : EnvW p s m args meth c D cy regsC ad "RoofWar" cX9_ask 4 (some .int)) (ha : Apart regsC ad) {post : Int32 → St → Prop} {σ : St} {x1 : Int32} {x2 : Int32} (hw : w_X9_ask post σ x1 x2) {H : Heap} {locs : List Loc} {ls : Array Slot} (hP : va_P D CLS (wC cy ad σ) H) (hS : va_S (AC ad s.heap.size) s.heap H locs) (hl : lv_has ls 4 [(0, .ref (ad 0 0)), (1, .int x1), (2, .int x2)]) : W p l e rm_X9_ask s m args below meth c H locs 0 0 (MQ below (QI D cy (cellC cy ad) regsC ad s.heap.size post) args s 0 0 (AC ad s.heap.size)) (F0 m 0 ls []) := by
  obtain ⟨hx, hb, -⟩ := id E
  unfold w_X9_ask at hw
  refine lv_iload_n hx hb dX9_ask_0 rfl (lv_at hl 1 rfl) ?_
  refine g_cSi (As := [.int x1]) (rest := []) E hl.1 (c_X9_isSlot l D cy ad ha hw _) ok_X9_isSlot mw_897 ⟨(Nat.le_of_ble_eq_true rfl), (Nat.le_of_ble_eq_true rfl)⟩ ⟨rfl, rfl⟩ rfl rfl (Nat.le_of_ble_eq_true rfl) ⟨Nat.zero_le _, Nat.zero_le _⟩ hP hS dX9_ask_1 (fun r1 s1 hw H locs hP hS => ?_)
  obtain ⟨z1, hw⟩ := hw
  refine lv_if_eq (tgt := 14) hx hb dX9_ask_4 (by decide) (fun c2 => ?_) (fun c2 => ?_)
  · replace hw := hw.1 c2
    refine g_ldc (v := -1000000001) E mw_376 dX9_ask_14 ?_
    exact g_iret E hw hP hS dX9_ask_16
  · replace hw := hw.2 c2
    refine lv_iload_n hx hb dX9_ask_7 rfl (lv_at hl 2 rfl) ?_
    refine g_cSi (As := [.int x2]) (rest := []) E hl.1 (c_X9_isKind l D cy ad ha hw _) ok_X9_isKind mw_367 ⟨(Nat.le_of_ble_eq_true rfl), (Nat.le_of_ble_eq_true rfl)⟩ ⟨rfl, rfl⟩ rfl rfl (Nat.le_of_ble_eq_true rfl) ⟨Nat.zero_le _, Nat.zero_le _⟩ hP hS dX9_ask_8 (fun r3 s3 hw H locs hP hS => ?_)
    obtain ⟨z3, hw⟩ := hw
    refine lv_if_ne (tgt := 17) hx hb dX9_ask_11 (by decide) (fun c4 => ?_) (fun c4 => ?_)
    · replace hw := hw.1 c4
      refine lv_aload_n hx hb dX9_ask_17 rfl (lv_at hl 0 rfl) ?_
      refine fX9_9 E hP mw_332 dX9_ask_18 ?_
      refine lv_iload_n hx hb dX9_ask_21 rfl (lv_at hl 1 rfl) ?_
      obtain ⟨h5, hw⟩ := hw
      refine aC4 E hP h5 dX9_ask_22 ?_
      refine lv_astore_n (lv' := [(3, .ref (ad 24 x1.toNatClampNeg)), (0, .ref (ad 0 0)), (1, .int x1), (2, .int x2)]) hx hb dX9_ask_23 rfl hl (by decide) rfl (fun ls hl => ?_)
      refine lv_aload_n hx hb dX9_ask_24 rfl (lv_at hl 0 rfl) ?_
      refine fX7_0 ((vp_lt h5)) E hP mw_306 dX9_ask_25 ?_
      refine lv_if_ne (tgt := 34) hx hb dX9_ask_28 (by decide) (fun c6 => ?_) (fun c6 => ?_)
      · replace hw := hw.1 c6
        refine lv_aload_n hx hb dX9_ask_34 rfl (lv_at hl 0 rfl) ?_
        refine fX7_0 ((vp_lt h5)) E hP mw_306 dX9_ask_35 ?_
        refine lv_iconst (v := 1) hx hb dX9_ask_38 (by decide) ?_
        refine lv_icmp_ne (tgt := 53) hx hb dX9_ask_39 (by decide) (fun c7 => ?_) (fun c7 => ?_)
        · replace hw := hw.1 c7
          refine g_ldc (v := -1000000012) E mw_413 dX9_ask_53 ?_
          exact g_iret E hw hP hS dX9_ask_55
        · replace hw := hw.2 c7
          refine lv_aload_n hx hb dX9_ask_42 rfl (lv_at hl 0 rfl) ?_
          refine fX7_1 ((vp_lt h5)) E hP mw_307 dX9_ask_43 ?_
          refine lv_iload_n hx hb dX9_ask_46 rfl (lv_at hl 3 rfl) ?_
          refine g_cSi (As := [.int (s3 24 x1.toNatClampNeg 1), .int x2]) (rest := []) E hl.1 (c_X2_isOne l D cy ad ha hw _) ok_X2_isOne mw_407 ⟨(Nat.le_of_ble_eq_true rfl), (Nat.le_of_ble_eq_true rfl)⟩ ⟨rfl, rfl⟩ rfl rfl (Nat.le_of_ble_eq_true rfl) ⟨Nat.zero_le _, Nat.zero_le _⟩ hP hS dX9_ask_47 (fun r8 s8 hw H locs hP hS => ?_)
          obtain ⟨z8, hw⟩ := hw
          refine lv_if_ne (tgt := 56) hx hb dX9_ask_50 (by decide) (fun c9 => ?_) (fun c9 => ?_)
          · replace hw := hw.1 c9
            refine lv_aload_n hx hb dX9_ask_56 rfl (lv_at hl 0 rfl) ?_
            refine fX7_1 ((vp_lt h5)) E hP mw_307 dX9_ask_57 ?_
            refine lv_aload_n hx hb dX9_ask_60 rfl (lv_at hl 0 rfl) ?_
            refine fX7_2 ((vp_lt h5)) E hP mw_308 dX9_ask_61 ?_
            refine g_cSi (As := [.int (s8 24 x1.toNatClampNeg 1), .int (s8 24 x1.toNatClampNeg 2)]) (rest := []) E hl.1 (c_X2_worth l D cy ad ha hw _) ok_X2_worth mw_400 ⟨(Nat.le_of_ble_eq_true rfl), (Nat.le_of_ble_eq_true rfl)⟩ ⟨rfl, rfl⟩ rfl rfl (Nat.le_of_ble_eq_true rfl) ⟨Nat.zero_le _, Nat.zero_le _⟩ hP hS dX9_ask_64 (fun r10 s10 hw H locs hP hS => ?_)
            exact g_iret E hw hP hS dX9_ask_67
          · replace hw := hw.2 c9
            refine g_ldc (v := -1000000012) E mw_413 dX9_ask_53 ?_
            exact g_iret E hw hP hS dX9_ask_55
      · replace hw := hw.2 c6
        refine g_ldc (v := -1000000011) E mw_648 dX9_ask_31 ?_
        exact g_iret E hw hP hS dX9_ask_33
    · replace hw := hw.2 c4
      refine g_ldc (v := -1000000001) E mw_376 dX9_ask_14 ?_
      exact g_iret E hw hP hS dX9_ask_16
theorem c_X9_ask (l : Launch) (D : va_G) (cy : Nat → ClassId) (ad : Nat → Nat → Nat) (ha : Apart regsC ad) {post : Int32 → St → Prop} {σ : St} {x1 : Int32} {x2 : Int32} (hw : w_X9_ask post σ x1 x2) (sz : Nat) : MetI l yX9_ask cX9_ask 4 .int rm_X9_ask [.ref (ad 0 0), .int x1, .int x2] D cy (cellC cy ad) regsC ad σ sz post :=
  Met_inI ok_X9_ask.2.2.2.2.2 (Nat.le_of_ble_eq_true rfl) (fun p e s m below meth c ls E hP hl => B_X9_ask_0 E ha hw hP va_S.rf hl)
-- RoofWar.item(II)I
theorem dX9_item_0 : decode cX9_item 0 = .ok (.iload_n 1, 1) := by decide +kernel
theorem dX9_item_1 : decode cX9_item 1 = .ok (.invokestatic 319, 3) := by decide +kernel
theorem dX9_item_4 : decode cX9_item 4 = .ok (.ifCond .ne 6, 3) := by decide +kernel
theorem dX9_item_7 : decode cX9_item 7 = .ok (.ldc 94, 2) := by decide +kernel
theorem dX9_item_9 : decode cX9_item 9 = .ok (.ireturn, 1) := by decide +kernel
theorem dX9_item_10 : decode cX9_item 10 = .ok (.aload_n 0, 1) := by decide +kernel
theorem dX9_item_11 : decode cX9_item 11 = .ok (.getfield 67, 3) := by decide +kernel
theorem dX9_item_14 : decode cX9_item 14 = .ok (.iload_n 1, 1) := by decide +kernel
theorem dX9_item_15 : decode cX9_item 15 = .ok (.aaload, 1) := by decide +kernel
theorem dX9_item_16 : decode cX9_item 16 = .ok (.astore_n 3, 1) := by decide +kernel
theorem dX9_item_17 : decode cX9_item 17 = .ok (.aload_n 3, 1) := by decide +kernel
theorem dX9_item_18 : decode cX9_item 18 = .ok (.getfield 322, 3) := by decide +kernel
theorem dX9_item_21 : decode cX9_item 21 = .ok (.ifCond .ne 6, 3) := by decide +kernel
theorem dX9_item_24 : decode cX9_item 24 = .ok (.ldc 245, 2) := by decide +kernel
theorem dX9_item_26 : decode cX9_item 26 = .ok (.ireturn, 1) := by decide +kernel
theorem dX9_item_27 : decode cX9_item 27 = .ok (.aload_n 3, 1) := by decide +kernel
theorem dX9_item_28 : decode cX9_item 28 = .ok (.getfield 322, 3) := by decide +kernel
theorem dX9_item_31 : decode cX9_item 31 = .ok (.iconst 2, 1) := by decide +kernel
theorem dX9_item_32 : decode cX9_item 32 = .ok (.if_icmp .eq 6, 3) := by decide +kernel
theorem dX9_item_35 : decode cX9_item 35 = .ok (.ldc 142, 2) := by decide +kernel
theorem dX9_item_37 : decode cX9_item 37 = .ok (.ireturn, 1) := by decide +kernel
theorem dX9_item_38 : decode cX9_item 38 = .ok (.aload_n 3, 1) := by decide +kernel
theorem dX9_item_39 : decode cX9_item 39 = .ok (.getfield 331, 3) := by decide +kernel
theorem dX9_item_42 : decode cX9_item 42 = .ok (.iload_n 2, 1) := by decide +kernel
theorem dX9_item_43 : decode cX9_item 43 = .ok (.invokevirtual 290, 3) := by decide +kernel
theorem dX9_item_46 : decode cX9_item 46 = .ok (.ifCond .ne 7, 3) := by decide +kernel
theorem dX9_item_49 : decode cX9_item 49 = .ok (.ldc_w 293, 3) := by decide +kernel
theorem dX9_item_52 : decode cX9_item 52 = .ok (.ireturn, 1) := by decide +kernel
theorem dX9_item_53 : decode cX9_item 53 = .ok (.aload_n 3, 1) := by decide +kernel
theorem dX9_item_54 : decode cX9_item 54 = .ok (.getfield 331, 3) := by decide +kernel
theorem dX9_item_57 : decode cX9_item 57 = .ok (.iload_n 2, 1) := by decide +kernel
theorem dX9_item_58 : decode cX9_item 58 = .ok (.invokevirtual 303, 3) := by decide +kernel
theorem dX9_item_61 : decode cX9_item 61 = .ok (.ifCond .eq 15, 3) := by decide +kernel
theorem dX9_item_64 : decode cX9_item 64 = .ok (.aload_n 3, 1) := by decide +kernel
theorem dX9_item_65 : decode cX9_item 65 = .ok (.getfield 331, 3) := by decide +kernel
theorem dX9_item_68 : decode cX9_item 68 = .ok (.getfield 297, 3) := by decide +kernel
theorem dX9_item_71 : decode cX9_item 71 = .ok (.iload_n 2, 1) := by decide +kernel
theorem dX9_item_72 : decode cX9_item 72 = .ok (.iaload, 1) := by decide +kernel
theorem dX9_item_73 : decode cX9_item 73 = .ok (.goto 5, 3) := by decide +kernel
theorem dX9_item_76 : decode cX9_item 76 = .ok (.ldc 142, 2) := by decide +kernel
theorem dX9_item_78 : decode cX9_item 78 = .ok (.ireturn, 1) := by decide +kernel
theorem ok_X9_item : okV yX9_item cX9_item 4 (some .int) 2 := ⟨mw_910, mw_911, mw_74, mw_912, by decide +kernel, by decide +kernel⟩
abbrev rm_X9_item : Room := { frames := 2, cells := 0, slots := 0, locals := 42 }
def w_X9_item (post : Int32 → St → Prop) (σ : St) (x1 : Int32) (x2 : Int32) : Prop := w_X9_isSlot (fun r1 s1 => ((¬ r1 = 0 → (vp_in x1 5 ∧ (((¬ (s1 24 x1.toNatClampNeg 0) = 0 → ((((s1 24 x1.toNatClampNeg 0) = 2 → (w_X6_hasPlace (fun r6 s6 => ((¬ r6 = 0 → (w_X6_isNumber (fun r8 s8 => ((r8 = 0 → (post ((-1000000012)) s8)) ∧ (¬ r8 = 0 → (vp_in x2 24 ∧ (post (s8 23 ((x1.toNatClampNeg + 4)) x2.toNatClampNeg) s8))))) s6 ((x1.toNatClampNeg + 4)) x2)) ∧ (r6 = 0 → (post ((-1000000013)) s6)))) s1 ((x1.toNatClampNeg + 4)) x2)) ∧ (¬ (s1 24 x1.toNatClampNeg 0) = 2 → (post ((-1000000012)) s1))))) ∧ ((s1 24 x1.toNatClampNeg 0) = 0 → (post ((-1000000011)) s1)))))) ∧ (r1 = 0 → (post ((-1000000001)) s1)))) σ x1
theorem B_X9_item_0 (E : EnvW p s m args meth c D cy regsC ad "RoofWar" cX9_item 4 (some .int)) (ha : Apart regsC ad) {post : Int32 → St → Prop} {σ : St} {x1 : Int32} {x2 : Int32} (hw : w_X9_item post σ x1 x2) {H : Heap} {locs : List Loc} {ls : Array Slot} (hP : va_P D CLS (wC cy ad σ) H) (hS : va_S (AC ad s.heap.size) s.heap H locs) (hl : lv_has ls 4 [(0, .ref (ad 0 0)), (1, .int x1), (2, .int x2)]) : W p l e rm_X9_item s m args below meth c H locs 0 0 (MQ below (QI D cy (cellC cy ad) regsC ad s.heap.size post) args s 0 0 (AC ad s.heap.size)) (F0 m 0 ls []) := by
  obtain ⟨hx, hb, -⟩ := id E
  unfold w_X9_item at hw
  refine lv_iload_n hx hb dX9_item_0 rfl (lv_at hl 1 rfl) ?_
  refine g_cSi (As := [.int x1]) (rest := []) E hl.1 (c_X9_isSlot l D cy ad ha hw _) ok_X9_isSlot mw_897 ⟨(Nat.le_of_ble_eq_true rfl), (Nat.le_of_ble_eq_true rfl)⟩ ⟨rfl, rfl⟩ rfl rfl (Nat.le_of_ble_eq_true rfl) ⟨Nat.zero_le _, Nat.zero_le _⟩ hP hS dX9_item_1 (fun r1 s1 hw H locs hP hS => ?_)
  obtain ⟨z1, hw⟩ := hw
  refine lv_if_ne (tgt := 10) hx hb dX9_item_4 (by decide) (fun c2 => ?_) (fun c2 => ?_)
  · replace hw := hw.1 c2
    refine lv_aload_n hx hb dX9_item_10 rfl (lv_at hl 0 rfl) ?_
    refine fX9_9 E hP mw_332 dX9_item_11 ?_
    refine lv_iload_n hx hb dX9_item_14 rfl (lv_at hl 1 rfl) ?_
    obtain ⟨h3, hw⟩ := hw
    refine aC4 E hP h3 dX9_item_15 ?_
    refine lv_astore_n (lv' := [(3, .ref (ad 24 x1.toNatClampNeg)), (0, .ref (ad 0 0)), (1, .int x1), (2, .int x2)]) hx hb dX9_item_16 rfl hl (by decide) rfl (fun ls hl => ?_)
    refine lv_aload_n hx hb dX9_item_17 rfl (lv_at hl 0 rfl) ?_
    refine fX7_0 ((vp_lt h3)) E hP mw_306 dX9_item_18 ?_
    refine lv_if_ne (tgt := 27) hx hb dX9_item_21 (by decide) (fun c4 => ?_) (fun c4 => ?_)
    · replace hw := hw.1 c4
      refine lv_aload_n hx hb dX9_item_27 rfl (lv_at hl 0 rfl) ?_
      refine fX7_0 ((vp_lt h3)) E hP mw_306 dX9_item_28 ?_
      refine lv_iconst (v := 2) hx hb dX9_item_31 (by decide) ?_
      refine lv_icmp_eq (tgt := 38) hx hb dX9_item_32 (by decide) (fun c5 => ?_) (fun c5 => ?_)
      · replace hw := hw.1 c5
        refine lv_aload_n hx hb dX9_item_38 rfl (lv_at hl 0 rfl) ?_
        refine fX7_4 ((vp_lt h3)) E hP mw_311 dX9_item_39 ?_
        refine lv_iload_n hx hb dX9_item_42 rfl (lv_at hl 3 rfl) ?_
        refine g_cVi (As := [.int x2]) (rest := []) E hl.1 (c_X6_hasPlace l D cy ad ha ((Nat.add_lt_add_right (vp_lt h3) 4)) hw _) ok_X6_hasPlace mw_868 ⟨(Nat.le_of_ble_eq_true rfl), (Nat.le_of_ble_eq_true rfl)⟩ ⟨rfl, rfl⟩ (rC22 (Nat.add_lt_add_right (vp_lt h3) 4)) rfl rfl rfl rfl rfl (Nat.le_of_ble_eq_true rfl) ⟨Nat.zero_le _, Nat.zero_le _⟩ hP hS dX9_item_43 (fun r6 s6 hw H locs hP hS => ?_)
        obtain ⟨z6, hw⟩ := hw
        refine lv_if_ne (tgt := 53) hx hb dX9_item_46 (by decide) (fun c7 => ?_) (fun c7 => ?_)
        · replace hw := hw.1 c7
          refine lv_aload_n hx hb dX9_item_53 rfl (lv_at hl 0 rfl) ?_
          refine fX7_4 ((vp_lt h3)) E hP mw_311 dX9_item_54 ?_
          refine lv_iload_n hx hb dX9_item_57 rfl (lv_at hl 3 rfl) ?_
          refine g_cVi (As := [.int x2]) (rest := []) E hl.1 (c_X6_isNumber l D cy ad ha ((Nat.add_lt_add_right (vp_lt h3) 4)) hw _) ok_X6_isNumber mw_652 ⟨(Nat.le_of_ble_eq_true rfl), (Nat.le_of_ble_eq_true rfl)⟩ ⟨rfl, rfl⟩ (rC22 (Nat.add_lt_add_right (vp_lt h3) 4)) rfl rfl rfl rfl rfl (Nat.le_of_ble_eq_true rfl) ⟨Nat.zero_le _, Nat.zero_le _⟩ hP hS dX9_item_58 (fun r8 s8 hw H locs hP hS => ?_)
          obtain ⟨z8, hw⟩ := hw
          refine lv_if_eq (tgt := 76) hx hb dX9_item_61 (by decide) (fun c9 => ?_) (fun c9 => ?_)
          · replace hw := hw.1 c9
            refine g_ldc (v := -1000000012) E mw_413 dX9_item_76 ?_
            exact g_iret E hw hP hS dX9_item_78
          · replace hw := hw.2 c9
            refine lv_aload_n hx hb dX9_item_64 rfl (lv_at hl 0 rfl) ?_
            refine fX7_4 ((vp_lt h3)) E hP mw_311 dX9_item_65 ?_
            refine fX6_2 ((Nat.add_lt_add_right (vp_lt h3) 4)) E hP mw_292 dX9_item_68 ?_
            refine lv_iload_n hx hb dX9_item_71 rfl (lv_at hl 3 rfl) ?_
            obtain ⟨h10, hw⟩ := hw
            refine aC23 ((Nat.add_lt_add_right (vp_lt h3) 4)) E hP h10 dX9_item_72 ?_
            refine lv_goto (tgt := 78) hx hb dX9_item_73 (by decide) ?_
            exact g_iret E hw hP hS dX9_item_78
        · replace hw := hw.2 c7
          refine g_ldcw (v := -1000000013) E mw_872 dX9_item_49 ?_
          exact g_iret E hw hP hS dX9_item_52
      · replace hw := hw.2 c5
        refine g_ldc (v := -1000000012) E mw_413 dX9_item_35 ?_
        exact g_iret E hw hP hS dX9_item_37
    · replace hw := hw.2 c4
      refine g_ldc (v := -1000000011) E mw_648 dX9_item_24 ?_
      exact g_iret E hw hP hS dX9_item_26
  · replace hw := hw.2 c2
    refine g_ldc (v := -1000000001) E mw_376 dX9_item_7 ?_
    exact g_iret E hw hP hS dX9_item_9
theorem c_X9_item (l : Launch) (D : va_G) (cy : Nat → ClassId) (ad : Nat → Nat → Nat) (ha : Apart regsC ad) {post : Int32 → St → Prop} {σ : St} {x1 : Int32} {x2 : Int32} (hw : w_X9_item post σ x1 x2) (sz : Nat) : MetI l yX9_item cX9_item 4 .int rm_X9_item [.ref (ad 0 0), .int x1, .int x2] D cy (cellC cy ad) regsC ad σ sz post :=
  Met_inI ok_X9_item.2.2.2.2.2 (Nat.le_of_ble_eq_true rfl) (fun p e s m below meth c ls E hP hl => B_X9_item_0 E ha hw hP va_S.rf hl)
-- RoofWar.rest(II)I
theorem dX9_rest_0 : decode cX9_rest 0 = .ok (.iload_n 1, 1) := by decide +kernel
theorem dX9_rest_1 : decode cX9_rest 1 = .ok (.invokestatic 319, 3) := by decide +kernel
theorem dX9_rest_4 : decode cX9_rest 4 = .ok (.ifCond .ne 6, 3) := by decide +kernel
theorem dX9_rest_7 : decode cX9_rest 7 = .ok (.ldc 94, 2) := by decide +kernel
theorem dX9_rest_9 : decode cX9_rest 9 = .ok (.ireturn, 1) := by decide +kernel
theorem dX9_rest_10 : decode cX9_rest 10 = .ok (.aload_n 0, 1) := by decide +kernel
theorem dX9_rest_11 : decode cX9_rest 11 = .ok (.getfield 67, 3) := by decide +kernel
theorem dX9_rest_14 : decode cX9_rest 14 = .ok (.iload_n 1, 1) := by decide +kernel
theorem dX9_rest_15 : decode cX9_rest 15 = .ok (.aaload, 1) := by decide +kernel
theorem dX9_rest_16 : decode cX9_rest 16 = .ok (.astore_n 3, 1) := by decide +kernel
theorem dX9_rest_17 : decode cX9_rest 17 = .ok (.aload_n 3, 1) := by decide +kernel
theorem dX9_rest_18 : decode cX9_rest 18 = .ok (.getfield 322, 3) := by decide +kernel
theorem dX9_rest_21 : decode cX9_rest 21 = .ok (.ifCond .ne 6, 3) := by decide +kernel
theorem dX9_rest_24 : decode cX9_rest 24 = .ok (.ldc 245, 2) := by decide +kernel
theorem dX9_rest_26 : decode cX9_rest 26 = .ok (.ireturn, 1) := by decide +kernel
theorem dX9_rest_27 : decode cX9_rest 27 = .ok (.aload_n 3, 1) := by decide +kernel
theorem dX9_rest_28 : decode cX9_rest 28 = .ok (.getfield 322, 3) := by decide +kernel
theorem dX9_rest_31 : decode cX9_rest 31 = .ok (.iconst 3, 1) := by decide +kernel
theorem dX9_rest_32 : decode cX9_rest 32 = .ok (.if_icmp .eq 6, 3) := by decide +kernel
theorem dX9_rest_35 : decode cX9_rest 35 = .ok (.ldc 142, 2) := by decide +kernel
theorem dX9_rest_37 : decode cX9_rest 37 = .ok (.ireturn, 1) := by decide +kernel
theorem dX9_rest_38 : decode cX9_rest 38 = .ok (.iload_n 2, 1) := by decide +kernel
theorem dX9_rest_39 : decode cX9_rest 39 = .ok (.ifCond .ne 6, 3) := by decide +kernel
theorem dX9_rest_42 : decode cX9_rest 42 = .ok (.ldc 99, 2) := by decide +kernel
theorem dX9_rest_44 : decode cX9_rest 44 = .ok (.ireturn, 1) := by decide +kernel
theorem dX9_rest_45 : decode cX9_rest 45 = .ok (.aload_n 3, 1) := by decide +kernel
theorem dX9_rest_46 : decode cX9_rest 46 = .ok (.getfield 337, 3) := by decide +kernel
theorem dX9_rest_49 : decode cX9_rest 49 = .ok (.iload_n 2, 1) := by decide +kernel
theorem dX9_rest_50 : decode cX9_rest 50 = .ok (.irem, 1) := by decide +kernel
theorem dX9_rest_51 : decode cX9_rest 51 = .ok (.ireturn, 1) := by decide +kernel
theorem ok_X9_rest : okV yX9_rest cX9_rest 4 (some .int) 2 := ⟨mw_914, mw_915, mw_74, mw_916, by decide +kernel, by decide +kernel⟩
abbrev rm_X9_rest : Room := { frames := 2, cells := 0, slots := 0, locals := 42 }
def w_X9_rest (post : Int32 → St → Prop) (σ : St) (x1 : Int32) (x2 : Int32) : Prop := w_X9_isSlot (fun r1 s1 => ((¬ r1 = 0 → (vp_in x1 5 ∧ (((¬ (s1 24 x1.toNatClampNeg 0) = 0 → ((((s1 24 x1.toNatClampNeg 0) = 3 → (((¬ x2 = 0 → (¬ x2 = 0 ∧ (∀ v8 : Int32, v8 = jrem (s1 24 x1.toNatClampNeg 3) x2 → (post v8 s1)))) ∧ (x2 = 0 → (post ((-1000000002)) s1))))) ∧ (¬ (s1 24 x1.toNatClampNeg 0) = 3 → (post ((-1000000012)) s1))))) ∧ ((s1 24 x1.toNatClampNeg 0) = 0 → (post ((-1000000011)) s1)))))) ∧ (r1 = 0 → (post ((-1000000001)) s1)))) σ x1
theorem B_X9_rest_0 (E : EnvW p s m args meth c D cy regsC ad "RoofWar" cX9_rest 4 (some .int)) (ha : Apart regsC ad) {post : Int32 → St → Prop} {σ : St} {x1 : Int32} {x2 : Int32} (hw : w_X9_rest post σ x1 x2) {H : Heap} {locs : List Loc} {ls : Array Slot} (hP : va_P D CLS (wC cy ad σ) H) (hS : va_S (AC ad s.heap.size) s.heap H locs) (hl : lv_has ls 4 [(0, .ref (ad 0 0)), (1, .int x1), (2, .int x2)]) : W p l e rm_X9_rest s m args below meth c H locs 0 0 (MQ below (QI D cy (cellC cy ad) regsC ad s.heap.size post) args s 0 0 (AC ad s.heap.size)) (F0 m 0 ls []) := by
  obtain ⟨hx, hb, -⟩ := id E
  unfold w_X9_rest at hw
  refine lv_iload_n hx hb dX9_rest_0 rfl (lv_at hl 1 rfl) ?_
  refine g_cSi (As := [.int x1]) (rest := []) E hl.1 (c_X9_isSlot l D cy ad ha hw _) ok_X9_isSlot mw_897 ⟨(Nat.le_of_ble_eq_true rfl), (Nat.le_of_ble_eq_true rfl)⟩ ⟨rfl, rfl⟩ rfl rfl (Nat.le_of_ble_eq_true rfl) ⟨Nat.zero_le _, Nat.zero_le _⟩ hP hS dX9_rest_1 (fun r1 s1 hw H locs hP hS => ?_)
  obtain ⟨z1, hw⟩ := hw
  refine lv_if_ne (tgt := 10) hx hb dX9_rest_4 (by decide) (fun c2 => ?_) (fun c2 => ?_)
  · replace hw := hw.1 c2
    refine lv_aload_n hx hb dX9_rest_10 rfl (lv_at hl 0 rfl) ?_
    refine fX9_9 E hP mw_332 dX9_rest_11 ?_
    refine lv_iload_n hx hb dX9_rest_14 rfl (lv_at hl 1 rfl) ?_
    obtain ⟨h3, hw⟩ := hw
    refine aC4 E hP h3 dX9_rest_15 ?_
    refine lv_astore_n (lv' := [(3, .ref (ad 24 x1.toNatClampNeg)), (0, .ref (ad 0 0)), (1, .int x1), (2, .int x2)]) hx hb dX9_rest_16 rfl hl (by decide) rfl (fun ls hl => ?_)
    refine lv_aload_n hx hb dX9_rest_17 rfl (lv_at hl 0 rfl) ?_
    refine fX7_0 ((vp_lt h3)) E hP mw_306 dX9_rest_18 ?_
    refine lv_if_ne (tgt := 27) hx hb dX9_rest_21 (by decide) (fun c4 => ?_) (fun c4 => ?_)
    · replace hw := hw.1 c4
      refine lv_aload_n hx hb dX9_rest_27 rfl (lv_at hl 0 rfl) ?_
      refine fX7_0 ((vp_lt h3)) E hP mw_306 dX9_rest_28 ?_
      refine lv_iconst (v := 3) hx hb dX9_rest_31 (by decide) ?_
      refine lv_icmp_eq (tgt := 38) hx hb dX9_rest_32 (by decide) (fun c5 => ?_) (fun c5 => ?_)
      · replace hw := hw.1 c5
        refine lv_iload_n hx hb dX9_rest_38 rfl (lv_at hl 3 rfl) ?_
        refine lv_if_ne (tgt := 45) hx hb dX9_rest_39 (by decide) (fun c6 => ?_) (fun c6 => ?_)
        · replace hw := hw.1 c6
          refine lv_aload_n hx hb dX9_rest_45 rfl (lv_at hl 0 rfl) ?_
          refine fX7_3 ((vp_lt h3)) E hP mw_309 dX9_rest_46 ?_
          refine lv_iload_n hx hb dX9_rest_49 rfl (lv_at hl 3 rfl) ?_
          obtain ⟨h7, hw⟩ := hw
          refine lv_irem hx hb dX9_rest_50 h7 ?_
          refine lv_topi (fun v8 ev8 => ?_)
          replace hw := hw v8 ev8
          exact g_iret E hw hP hS dX9_rest_51
        · replace hw := hw.2 c6
          refine g_ldc (v := -1000000002) E mw_378 dX9_rest_42 ?_
          exact g_iret E hw hP hS dX9_rest_44
      · replace hw := hw.2 c5
        refine g_ldc (v := -1000000012) E mw_413 dX9_rest_35 ?_
        exact g_iret E hw hP hS dX9_rest_37
    · replace hw := hw.2 c4
      refine g_ldc (v := -1000000011) E mw_648 dX9_rest_24 ?_
      exact g_iret E hw hP hS dX9_rest_26
  · replace hw := hw.2 c2
    refine g_ldc (v := -1000000001) E mw_376 dX9_rest_7 ?_
    exact g_iret E hw hP hS dX9_rest_9
theorem c_X9_rest (l : Launch) (D : va_G) (cy : Nat → ClassId) (ad : Nat → Nat → Nat) (ha : Apart regsC ad) {post : Int32 → St → Prop} {σ : St} {x1 : Int32} {x2 : Int32} (hw : w_X9_rest post σ x1 x2) (sz : Nat) : MetI l yX9_rest cX9_rest 4 .int rm_X9_rest [.ref (ad 0 0), .int x1, .int x2] D cy (cellC cy ad) regsC ad σ sz post :=
  Met_inI ok_X9_rest.2.2.2.2.2 (Nat.le_of_ble_eq_true rfl) (fun p e s m below meth c ls E hP hl => B_X9_rest_0 E ha hw hP va_S.rf hl)
-- RoofWar.tell(I)I
theorem dX9_tell_0 : decode cX9_tell 0 = .ok (.aload_n 0, 1) := by decide +kernel
theorem dX9_tell_1 : decode cX9_tell 1 = .ok (.getfield 76, 3) := by decide +kernel
theorem dX9_tell_4 : decode cX9_tell 4 = .ok (.bipush 60, 2) := by decide +kernel
theorem dX9_tell_6 : decode cX9_tell 6 = .ok (.if_icmp .lt 6, 3) := by decide +kernel
theorem dX9_tell_9 : decode cX9_tell 9 = .ok (.ldc 103, 2) := by decide +kernel
theorem dX9_tell_11 : decode cX9_tell 11 = .ok (.ireturn, 1) := by decide +kernel
theorem dX9_tell_12 : decode cX9_tell 12 = .ok (.aload_n 0, 1) := by decide +kernel
theorem dX9_tell_13 : decode cX9_tell 13 = .ok (.getfield 72, 3) := by decide +kernel
theorem dX9_tell_16 : decode cX9_tell 16 = .ok (.aload_n 0, 1) := by decide +kernel
theorem dX9_tell_17 : decode cX9_tell 17 = .ok (.getfield 76, 3) := by decide +kernel
theorem dX9_tell_20 : decode cX9_tell 20 = .ok (.iload_n 1, 1) := by decide +kernel
theorem dX9_tell_21 : decode cX9_tell 21 = .ok (.iastore, 1) := by decide +kernel
theorem dX9_tell_22 : decode cX9_tell 22 = .ok (.aload_n 0, 1) := by decide +kernel
theorem dX9_tell_23 : decode cX9_tell 23 = .ok (.dup, 1) := by decide +kernel
theorem dX9_tell_24 : decode cX9_tell 24 = .ok (.getfield 76, 3) := by decide +kernel
theorem dX9_tell_27 : decode cX9_tell 27 = .ok (.iconst 1, 1) := by decide +kernel
theorem dX9_tell_28 : decode cX9_tell 28 = .ok (.iadd, 1) := by decide +kernel
theorem dX9_tell_29 : decode cX9_tell 29 = .ok (.putfield 76, 3) := by decide +kernel
theorem dX9_tell_32 : decode cX9_tell 32 = .ok (.aload_n 0, 1) := by decide +kernel
theorem dX9_tell_33 : decode cX9_tell 33 = .ok (.getfield 76, 3) := by decide +kernel
theorem dX9_tell_36 : decode cX9_tell 36 = .ok (.ireturn, 1) := by decide +kernel
theorem ok_X9_tell : okV yX9_tell cX9_tell 2 (some .int) 1 := ⟨mw_918, mw_919, mw_74, mw_920, by decide +kernel, by decide +kernel⟩
abbrev rm_X9_tell : Room := { frames := 0, cells := 0, slots := 0, locals := 0 }
def w_X9_tell (post : Int32 → St → Prop) (σ : St) (x1 : Int32) : Prop := (((σ 0 0 1) < 60 → (vp_in (σ 0 0 1) 60 ∧ (∀ s3 : St, s3 = wr σ 1 0 (σ 0 0 1).toNatClampNeg x1 → (∀ s4 : St, s4 = wr s3 0 0 1 ((s3 0 0 1) + 1) → (post (s4 0 0 1) s4))))) ∧ (¬ (σ 0 0 1) < 60 → (post ((-1000000003)) σ)))
theorem B_X9_tell_0 (E : EnvW p s m args meth c D cy regsC ad "RoofWar" cX9_tell 2 (some .int)) (ha : Apart regsC ad) {post : Int32 → St → Prop} {σ : St} {x1 : Int32} (hw : w_X9_tell post σ x1) {H : Heap} {locs : List Loc} {ls : Array Slot} (hP : va_P D CLS (wC cy ad σ) H) (hS : va_S (AC ad s.heap.size) s.heap H locs) (hl : lv_has ls 2 [(0, .ref (ad 0 0)), (1, .int x1)]) : W p l e rm_X9_tell s m args below meth c H locs 0 0 (MQ below (QI D cy (cellC cy ad) regsC ad s.heap.size post) args s 0 0 (AC ad s.heap.size)) (F0 m 0 ls []) := by
  obtain ⟨hx, hb, -⟩ := id E
  unfold w_X9_tell at hw
  refine lv_aload_n hx hb dX9_tell_0 rfl (lv_at hl 0 rfl) ?_
  refine fX9_11 E hP mw_334 dX9_tell_1 ?_
  refine lv_bipush (v := 60) hx hb dX9_tell_4 (by decide) ?_
  refine lv_icmp_lt (tgt := 12) hx hb dX9_tell_6 (by decide) (fun c1 => ?_) (fun c1 => ?_)
  · replace hw := hw.1 c1
    refine lv_aload_n hx hb dX9_tell_12 rfl (lv_at hl 0 rfl) ?_
    refine fX9_10 E hP mw_333 dX9_tell_13 ?_
    refine lv_aload_n hx hb dX9_tell_16 rfl (lv_at hl 0 rfl) ?_
    refine fX9_11 E hP mw_334 dX9_tell_17 ?_
    refine lv_iload_n hx hb dX9_tell_20 rfl (lv_at hl 1 rfl) ?_
    obtain ⟨h2, hw⟩ := hw
    refine tC1 E ha h2 dX9_tell_21 hP hS (fun s3 es3 H locs hP hS => ?_)
    replace hw := hw s3 es3
    refine lv_aload_n hx hb dX9_tell_22 rfl (lv_at hl 0 rfl) ?_
    refine lv_dup hx hb dX9_tell_23 rfl ?_
    refine fX9_11 E hP mw_334 dX9_tell_24 ?_
    refine lv_iconst (v := 1) hx hb dX9_tell_27 (by decide) ?_
    refine lv_iadd hx hb dX9_tell_28 ?_
    refine uX9_11 E ha mw_334 dX9_tell_29 hP hS (fun s4 es4 H locs hP hS => ?_)
    replace hw := hw s4 es4
    refine lv_aload_n hx hb dX9_tell_32 rfl (lv_at hl 0 rfl) ?_
    refine fX9_11 E hP mw_334 dX9_tell_33 ?_
    exact g_iret E hw hP hS dX9_tell_36
  · replace hw := hw.2 c1
    refine g_ldc (v := -1000000003) E mw_379 dX9_tell_9 ?_
    exact g_iret E hw hP hS dX9_tell_11
theorem c_X9_tell (l : Launch) (D : va_G) (cy : Nat → ClassId) (ad : Nat → Nat → Nat) (ha : Apart regsC ad) {post : Int32 → St → Prop} {σ : St} {x1 : Int32} (hw : w_X9_tell post σ x1) (sz : Nat) : MetI l yX9_tell cX9_tell 2 .int rm_X9_tell [.ref (ad 0 0), .int x1] D cy (cellC cy ad) regsC ad σ sz post :=
  Met_inI ok_X9_tell.2.2.2.2.2 (Nat.le_of_ble_eq_true rfl) (fun p e s m below meth c ls E hP hl => B_X9_tell_0 E ha hw hP va_S.rf hl)
-- RoofWar.waitsAt(III)Z
theorem dX9_waitsAt_0 : decode cX9_waitsAt 0 = .ok (.iload_n 1, 1) := by decide +kernel
theorem dX9_waitsAt_1 : decode cX9_waitsAt 1 = .ok (.iload_n 2, 1) := by decide +kernel
theorem dX9_waitsAt_2 : decode cX9_waitsAt 2 = .ok (.if_icmp .ge 23, 3) := by decide +kernel
theorem dX9_waitsAt_5 : decode cX9_waitsAt 5 = .ok (.iload_n 1, 1) := by decide +kernel
theorem dX9_waitsAt_6 : decode cX9_waitsAt 6 = .ok (.bipush 60, 2) := by decide +kernel
theorem dX9_waitsAt_8 : decode cX9_waitsAt 8 = .ok (.if_icmp .ge 17, 3) := by decide +kernel
theorem dX9_waitsAt_11 : decode cX9_waitsAt 11 = .ok (.aload_n 0, 1) := by decide +kernel
theorem dX9_waitsAt_12 : decode cX9_waitsAt 12 = .ok (.getfield 72, 3) := by decide +kernel
theorem dX9_waitsAt_15 : decode cX9_waitsAt 15 = .ok (.iload_n 1, 1) := by decide +kernel
theorem dX9_waitsAt_16 : decode cX9_waitsAt 16 = .ok (.iaload, 1) := by decide +kernel
theorem dX9_waitsAt_17 : decode cX9_waitsAt 17 = .ok (.iload_n 3, 1) := by decide +kernel
theorem dX9_waitsAt_18 : decode cX9_waitsAt 18 = .ok (.if_icmp .ne 7, 3) := by decide +kernel
theorem dX9_waitsAt_21 : decode cX9_waitsAt 21 = .ok (.iconst 1, 1) := by decide +kernel
theorem dX9_waitsAt_22 : decode cX9_waitsAt 22 = .ok (.goto 4, 3) := by decide +kernel
theorem dX9_waitsAt_25 : decode cX9_waitsAt 25 = .ok (.iconst 0, 1) := by decide +kernel
theorem dX9_waitsAt_26 : decode cX9_waitsAt 26 = .ok (.ireturn, 1) := by decide +kernel
theorem ok_X9_waitsAt : okV yX9_waitsAt cX9_waitsAt 4 (some .boolean) 3 := ⟨mw_926, mw_21, mw_74, mw_927, by decide +kernel, by decide +kernel⟩
abbrev rm_X9_waitsAt : Room := { frames := 0, cells := 0, slots := 0, locals := 0 }
def w_X9_waitsAt (post : Int32 → St → Prop) (σ : St) (x1 : Int32) (x2 : Int32) (x3 : Int32) : Prop := ((x2 ≤ x1 → (post 0 σ)) ∧ (¬ x2 ≤ x1 → (((60 ≤ x1 → (post 0 σ)) ∧ (¬ 60 ≤ x1 → (vp_in x1 60 ∧ (((¬ (σ 1 0 x1.toNatClampNeg) = x3 → (post 0 σ)) ∧ ((σ 1 0 x1.toNatClampNeg) = x3 → (post 1 σ))))))))))
theorem B_X9_waitsAt_0 (E : EnvW p s m args meth c D cy regsC ad "RoofWar" cX9_waitsAt 4 (some .boolean)) (ha : Apart regsC ad) {post : Int32 → St → Prop} {σ : St} {x1 : Int32} {x2 : Int32} {x3 : Int32} (hw : w_X9_waitsAt post σ x1 x2 x3) {H : Heap} {locs : List Loc} {ls : Array Slot} (hP : va_P D CLS (wC cy ad σ) H) (hS : va_S (AC ad s.heap.size) s.heap H locs) (hl : lv_has ls 4 [(0, .ref (ad 0 0)), (1, .int x1), (2, .int x2), (3, .int x3)]) : W p l e rm_X9_waitsAt s m args below meth c H locs 0 0 (MQ below (QI D cy (cellC cy ad) regsC ad s.heap.size (fun r u => (r = 0 ∨ r = 1) ∧ post r u)) args s 0 0 (AC ad s.heap.size)) (F0 m 0 ls []) := by
  obtain ⟨hx, hb, -⟩ := id E
  unfold w_X9_waitsAt at hw
  refine lv_iload_n hx hb dX9_waitsAt_0 rfl (lv_at hl 1 rfl) ?_
  refine lv_iload_n hx hb dX9_waitsAt_1 rfl (lv_at hl 2 rfl) ?_
  refine lv_icmp_ge (tgt := 25) hx hb dX9_waitsAt_2 (by decide) (fun c1 => ?_) (fun c1 => ?_)
  · replace hw := hw.1 c1
    refine lv_iconst (v := 0) hx hb dX9_waitsAt_25 (by decide) ?_
    exact g_zret E (Or.inl rfl) hw hP hS dX9_waitsAt_26
  · replace hw := hw.2 c1
    refine lv_iload_n hx hb dX9_waitsAt_5 rfl (lv_at hl 1 rfl) ?_
    refine lv_bipush (v := 60) hx hb dX9_waitsAt_6 (by decide) ?_
    refine lv_icmp_ge (tgt := 25) hx hb dX9_waitsAt_8 (by decide) (fun c2 => ?_) (fun c2 => ?_)
    · replace hw := hw.1 c2
      refine lv_iconst (v := 0) hx hb dX9_waitsAt_25 (by decide) ?_
      exact g_zret E (Or.inl rfl) hw hP hS dX9_waitsAt_26
    · replace hw := hw.2 c2
      refine lv_aload_n hx hb dX9_waitsAt_11 rfl (lv_at hl 0 rfl) ?_
      refine fX9_10 E hP mw_333 dX9_waitsAt_12 ?_
      refine lv_iload_n hx hb dX9_waitsAt_15 rfl (lv_at hl 1 rfl) ?_
      obtain ⟨h3, hw⟩ := hw
      refine aC1 E hP h3 dX9_waitsAt_16 ?_
      refine lv_iload_n hx hb dX9_waitsAt_17 rfl (lv_at hl 3 rfl) ?_
      refine lv_icmp_ne (tgt := 25) hx hb dX9_waitsAt_18 (by decide) (fun c4 => ?_) (fun c4 => ?_)
      · replace hw := hw.1 c4
        refine lv_iconst (v := 0) hx hb dX9_waitsAt_25 (by decide) ?_
        exact g_zret E (Or.inl rfl) hw hP hS dX9_waitsAt_26
      · replace hw := hw.2 c4
        refine lv_iconst (v := 1) hx hb dX9_waitsAt_21 (by decide) ?_
        refine lv_goto (tgt := 26) hx hb dX9_waitsAt_22 (by decide) ?_
        exact g_zret E (Or.inr rfl) hw hP hS dX9_waitsAt_26
theorem c_X9_waitsAt (l : Launch) (D : va_G) (cy : Nat → ClassId) (ad : Nat → Nat → Nat) (ha : Apart regsC ad) {post : Int32 → St → Prop} {σ : St} {x1 : Int32} {x2 : Int32} {x3 : Int32} (hw : w_X9_waitsAt post σ x1 x2 x3) (sz : Nat) : MetI l yX9_waitsAt cX9_waitsAt 4 .boolean rm_X9_waitsAt [.ref (ad 0 0), .int x1, .int x2, .int x3] D cy (cellC cy ad) regsC ad σ sz (fun r u => (r = 0 ∨ r = 1) ∧ post r u) :=
  Met_inI ok_X9_waitsAt.2.2.2.2.2 (Nat.le_of_ble_eq_true rfl) (fun p e s m below meth c ls E hP hl => B_X9_waitsAt_0 E ha hw hP va_S.rf hl)
-- RoofWar.check(I)I
theorem dX9_check_0 : decode cX9_check 0 = .ok (.aload_n 0, 1) := by decide +kernel
theorem dX9_check_1 : decode cX9_check 1 = .ok (.getfield 76, 3) := by decide +kernel
theorem dX9_check_4 : decode cX9_check 4 = .ok (.istore_n 2, 1) := by decide +kernel
theorem dX9_check_5 : decode cX9_check 5 = .ok (.aload_n 0, 1) := by decide +kernel
theorem dX9_check_6 : decode cX9_check 6 = .ok (.iconst 0, 1) := by decide +kernel
theorem dX9_check_7 : decode cX9_check 7 = .ok (.putfield 76, 3) := by decide +kernel
theorem dX9_check_10 : decode cX9_check 10 = .ok (.iload_n 1, 1) := by decide +kernel
theorem dX9_check_11 : decode cX9_check 11 = .ok (.iconst 1, 1) := by decide +kernel
theorem dX9_check_12 : decode cX9_check 12 = .ok (.bipush 30, 2) := by decide +kernel
theorem dX9_check_14 : decode cX9_check 14 = .ok (.invokestatic 87, 3) := by decide +kernel
theorem dX9_check_17 : decode cX9_check 17 = .ok (.ifCond .ne 6, 3) := by decide +kernel
theorem dX9_check_20 : decode cX9_check 20 = .ok (.ldc 94, 2) := by decide +kernel
theorem dX9_check_22 : decode cX9_check 22 = .ok (.ireturn, 1) := by decide +kernel
theorem dX9_check_23 : decode cX9_check 23 = .ok (.aload_n 0, 1) := by decide +kernel
theorem dX9_check_24 : decode cX9_check 24 = .ok (.getfield 31, 3) := by decide +kernel
theorem dX9_check_27 : decode cX9_check 27 = .ok (.ifCond .ne 6, 3) := by decide +kernel
theorem dX9_check_30 : decode cX9_check 30 = .ok (.ldc 99, 2) := by decide +kernel
theorem dX9_check_32 : decode cX9_check 32 = .ok (.ireturn, 1) := by decide +kernel
theorem dX9_check_33 : decode cX9_check 33 = .ok (.iload_n 1, 1) := by decide +kernel
theorem dX9_check_34 : decode cX9_check 34 = .ok (.sipush 9999, 3) := by decide +kernel
theorem dX9_check_37 : decode cX9_check 37 = .ok (.aload_n 0, 1) := by decide +kernel
theorem dX9_check_38 : decode cX9_check 38 = .ok (.getfield 25, 3) := by decide +kernel
theorem dX9_check_41 : decode cX9_check 41 = .ok (.getfield 177, 3) := by decide +kernel
theorem dX9_check_44 : decode cX9_check 44 = .ok (.isub, 1) := by decide +kernel
theorem dX9_check_45 : decode cX9_check 45 = .ok (.invokestatic 163, 3) := by decide +kernel
theorem dX9_check_48 : decode cX9_check 48 = .ok (.istore_n 3, 1) := by decide +kernel
theorem dX9_check_49 : decode cX9_check 49 = .ok (.aload_n 0, 1) := by decide +kernel
theorem dX9_check_50 : decode cX9_check 50 = .ok (.getfield 28, 3) := by decide +kernel
theorem dX9_check_53 : decode cX9_check 53 = .ok (.aload_n 0, 1) := by decide +kernel
theorem dX9_check_54 : decode cX9_check 54 = .ok (.getfield 25, 3) := by decide +kernel
theorem dX9_check_57 : decode cX9_check 57 = .ok (.invokevirtual 231, 3) := by decide +kernel
theorem dX9_check_60 : decode cX9_check 60 = .ok (.iconst 0, 1) := by decide +kernel
theorem dX9_check_61 : decode cX9_check 61 = .ok (.istore 4, 2) := by decide +kernel
theorem dX9_check_63 : decode cX9_check 63 = .ok (.iload 4, 2) := by decide +kernel
theorem dX9_check_65 : decode cX9_check 65 = .ok (.iload_n 3, 1) := by decide +kernel
theorem dX9_check_66 : decode cX9_check 66 = .ok (.if_icmp .ge 71, 3) := by decide +kernel
theorem dX9_check_69 : decode cX9_check 69 = .ok (.aload_n 0, 1) := by decide +kernel
theorem dX9_check_70 : decode cX9_check 70 = .ok (.getfield 28, 3) := by decide +kernel
theorem dX9_check_73 : decode cX9_check 73 = .ok (.iconst 1, 1) := by decide +kernel
theorem dX9_check_74 : decode cX9_check 74 = .ok (.invokevirtual 180, 3) := by decide +kernel
theorem dX9_check_77 : decode cX9_check 77 = .ok (.aload_n 0, 1) := by decide +kernel
theorem dX9_check_78 : decode cX9_check 78 = .ok (.iconst 2, 1) := by decide +kernel
theorem dX9_check_79 : decode cX9_check 79 = .ok (.iload 4, 2) := by decide +kernel
theorem dX9_check_81 : decode cX9_check 81 = .ok (.imul, 1) := by decide +kernel
theorem dX9_check_82 : decode cX9_check 82 = .ok (.iload_n 2, 1) := by decide +kernel
theorem dX9_check_83 : decode cX9_check 83 = .ok (.aload_n 0, 1) := by decide +kernel
theorem dX9_check_84 : decode cX9_check 84 = .ok (.getfield 28, 3) := by decide +kernel
theorem dX9_check_87 : decode cX9_check 87 = .ok (.getfield 174, 3) := by decide +kernel
theorem dX9_check_90 : decode cX9_check 90 = .ok (.invokevirtual 340, 3) := by decide +kernel
theorem dX9_check_93 : decode cX9_check 93 = .ok (.ifCond .ne 10, 3) := by decide +kernel
theorem dX9_check_96 : decode cX9_check 96 = .ok (.iconst 1, 1) := by decide +kernel
theorem dX9_check_97 : decode cX9_check 97 = .ok (.iconst 2, 1) := by decide +kernel
theorem dX9_check_98 : decode cX9_check 98 = .ok (.iload 4, 2) := by decide +kernel
theorem dX9_check_100 : decode cX9_check 100 = .ok (.imul, 1) := by decide +kernel
theorem dX9_check_101 : decode cX9_check 101 = .ok (.iadd, 1) := by decide +kernel
theorem dX9_check_102 : decode cX9_check 102 = .ok (.ireturn, 1) := by decide +kernel
theorem dX9_check_103 : decode cX9_check 103 = .ok (.aload_n 0, 1) := by decide +kernel
theorem dX9_check_104 : decode cX9_check 104 = .ok (.iconst 2, 1) := by decide +kernel
theorem dX9_check_105 : decode cX9_check 105 = .ok (.iload 4, 2) := by decide +kernel
theorem dX9_check_107 : decode cX9_check 107 = .ok (.imul, 1) := by decide +kernel
theorem dX9_check_108 : decode cX9_check 108 = .ok (.iconst 1, 1) := by decide +kernel
theorem dX9_check_109 : decode cX9_check 109 = .ok (.iadd, 1) := by decide +kernel
theorem dX9_check_110 : decode cX9_check 110 = .ok (.iload_n 2, 1) := by decide +kernel
theorem dX9_check_111 : decode cX9_check 111 = .ok (.aload_n 0, 1) := by decide +kernel
theorem dX9_check_112 : decode cX9_check 112 = .ok (.getfield 28, 3) := by decide +kernel
theorem dX9_check_115 : decode cX9_check 115 = .ok (.invokevirtual 193, 3) := by decide +kernel
theorem dX9_check_118 : decode cX9_check 118 = .ok (.invokevirtual 340, 3) := by decide +kernel
theorem dX9_check_121 : decode cX9_check 121 = .ok (.ifCond .ne 10, 3) := by decide +kernel
theorem dX9_check_124 : decode cX9_check 124 = .ok (.iconst 2, 1) := by decide +kernel
theorem dX9_check_125 : decode cX9_check 125 = .ok (.iconst 2, 1) := by decide +kernel
theorem dX9_check_126 : decode cX9_check 126 = .ok (.iload 4, 2) := by decide +kernel
theorem dX9_check_128 : decode cX9_check 128 = .ok (.imul, 1) := by decide +kernel
theorem dX9_check_129 : decode cX9_check 129 = .ok (.iadd, 1) := by decide +kernel
theorem dX9_check_130 : decode cX9_check 130 = .ok (.ireturn, 1) := by decide +kernel
theorem dX9_check_131 : decode cX9_check 131 = .ok (.iinc 4 1, 3) := by decide +kernel
theorem dX9_check_134 : decode cX9_check 134 = .ok (.goto (-71), 3) := by decide +kernel
theorem dX9_check_137 : decode cX9_check 137 = .ok (.iload_n 2, 1) := by decide +kernel
theorem dX9_check_138 : decode cX9_check 138 = .ok (.iconst 2, 1) := by decide +kernel
theorem dX9_check_139 : decode cX9_check 139 = .ok (.iload_n 3, 1) := by decide +kernel
theorem dX9_check_140 : decode cX9_check 140 = .ok (.imul, 1) := by decide +kernel
theorem dX9_check_141 : decode cX9_check 141 = .ok (.if_icmp .le 11, 3) := by decide +kernel
theorem dX9_check_144 : decode cX9_check 144 = .ok (.iconst 1, 1) := by decide +kernel
theorem dX9_check_145 : decode cX9_check 145 = .ok (.iconst 2, 1) := by decide +kernel
theorem dX9_check_146 : decode cX9_check 146 = .ok (.iload_n 3, 1) := by decide +kernel
theorem dX9_check_147 : decode cX9_check 147 = .ok (.imul, 1) := by decide +kernel
theorem dX9_check_148 : decode cX9_check 148 = .ok (.iadd, 1) := by decide +kernel
theorem dX9_check_149 : decode cX9_check 149 = .ok (.goto 4, 3) := by decide +kernel
theorem dX9_check_152 : decode cX9_check 152 = .ok (.iconst 0, 1) := by decide +kernel
theorem dX9_check_153 : decode cX9_check 153 = .ok (.ireturn, 1) := by decide +kernel
theorem ok_X9_check : okV yX9_check cX9_check 5 (some .int) 1 := ⟨mw_922, mw_923, mw_74, mw_924, by decide +kernel, by decide +kernel⟩
abbrev rm_X9_check : Room := { frames := 6, cells := 0, slots := 0, locals := 145 }
def b_X9_check_63 (K63 : St → Int32 → Int32 → Int32 → Prop) (post : Int32 → St → Prop) (σ : St) (x2 : Int32) (x3 : Int32) (x4 : Int32) : Prop := ((x3 ≤ x4 → (((x2 ≤ (2 * x3) → (post 0 σ)) ∧ (¬ x2 ≤ (2 * x3) → (post (1 + (2 * x3)) σ))))) ∧ (¬ x3 ≤ x4 → (w_X1_pass (fun s3 => w_X9_waitsAt (fun r4 s4 => ((¬ r4 = 0 → (w_X1_leakOfAll (fun r6 s6 => w_X9_waitsAt (fun r7 s7 => ((¬ r7 = 0 → (∀ v9 : Int32, v9 = x4 + 1 → (K63 s7 x2 x3 v9))) ∧ (r7 = 0 → (post (2 + (2 * x4)) s7)))) s6 ((2 * x4) + 1) x2 r6) s4 2)) ∧ (r4 = 0 → (post (1 + (2 * x4)) s4)))) s3 (2 * x4) x2 (s3 5 2 2)) σ 2 (1 : Int32))))
noncomputable def l_X9_check_63 (post : Int32 → St → Prop) : Nat → St → Int32 → Int32 → Int32 → Prop := fun n => Nat.rec (motive := fun _ => St → Int32 → Int32 → Int32 → Prop) (fun _ _ _ _ => False) (fun _ ih => b_X9_check_63 ih post) n
theorem L_X9_check_63 (E : EnvW p s m args meth c D cy regsC ad "RoofWar" cX9_check 5 (some .int)) (ha : Apart regsC ad) {post : Int32 → St → Prop} : ∀ (n : Nat), ∀ (σ : St) (x2 : Int32) (x3 : Int32) (x4 : Int32), l_X9_check_63 post n σ x2 x3 x4 → ∀ (H : Heap) (locs : List Loc) (ls : Array Slot), va_P D CLS (wC cy ad σ) H → va_S (AC ad s.heap.size) s.heap H locs → lv_has ls 5 [(0, .ref (ad 0 0)), (2, .int x2), (3, .int x3), (4, .int x4)] → W p l e rm_X9_check s m args below meth c H locs 0 0 (MQ below (QI D cy (cellC cy ad) regsC ad s.heap.size post) args s 0 0 (AC ad s.heap.size)) (F0 m 63 ls []) := by
  obtain ⟨hx, hb, -⟩ := id E
  intro n
  induction n with
  | zero => intro σ x2 x3 x4 hw; exact hw.elim
  | succ n hk63 =>
    intro σ x2 x3 x4 hw H locs ls hP hS hl
    replace hw : b_X9_check_63 (l_X9_check_63 post n) post σ x2 x3 x4 := hw
    unfold b_X9_check_63 at hw
    refine lv_iload hx hb dX9_check_63 (lv_at hl 3 rfl) ?_
    refine lv_iload_n hx hb dX9_check_65 rfl (lv_at hl 2 rfl) ?_
    refine lv_icmp_ge (tgt := 137) hx hb dX9_check_66 (by decide) (fun c1 => ?_) (fun c1 => ?_)
    · replace hw := hw.1 c1
      refine lv_iload_n hx hb dX9_check_137 rfl (lv_at hl 1 rfl) ?_
      refine lv_iconst (v := 2) hx hb dX9_check_138 (by decide) ?_
      refine lv_iload_n hx hb dX9_check_139 rfl (lv_at hl 2 rfl) ?_
      refine lv_imul hx hb dX9_check_140 ?_
      refine lv_icmp_le (tgt := 152) hx hb dX9_check_141 (by decide) (fun c2 => ?_) (fun c2 => ?_)
      · replace hw := hw.1 c2
        refine lv_iconst (v := 0) hx hb dX9_check_152 (by decide) ?_
        exact g_iret E hw hP hS dX9_check_153
      · replace hw := hw.2 c2
        refine lv_iconst (v := 1) hx hb dX9_check_144 (by decide) ?_
        refine lv_iconst (v := 2) hx hb dX9_check_145 (by decide) ?_
        refine lv_iload_n hx hb dX9_check_146 rfl (lv_at hl 2 rfl) ?_
        refine lv_imul hx hb dX9_check_147 ?_
        refine lv_iadd hx hb dX9_check_148 ?_
        refine lv_goto (tgt := 153) hx hb dX9_check_149 (by decide) ?_
        exact g_iret E hw hP hS dX9_check_153
    · replace hw := hw.2 c1
      refine lv_aload_n hx hb dX9_check_69 rfl (lv_at hl 0 rfl) ?_
      refine fX9_3 E hP mw_326 dX9_check_70 ?_
      refine lv_iconst (v := 1) hx hb dX9_check_73 (by decide) ?_
      refine g_cVv (As := [.int 1]) (rest := []) E hl.1 (c_X1_pass l D cy ad ha ((by decide : 2 < 3)) hw _) ok_X1_pass mw_477 ⟨(Nat.le_of_ble_eq_true rfl), (Nat.le_of_ble_eq_true rfl)⟩ ⟨rfl, rfl⟩ (rC5 (by decide : 2 < 3)) rfl rfl rfl rfl rfl (Nat.le_of_ble_eq_true rfl) ⟨Nat.zero_le _, Nat.zero_le _⟩ hP hS dX9_check_74 (fun s3 hw H locs hP hS => ?_)
      refine lv_aload_n hx hb dX9_check_77 rfl (lv_at hl 0 rfl) ?_
      refine lv_iconst (v := 2) hx hb dX9_check_78 (by decide) ?_
      refine lv_iload hx hb dX9_check_79 (lv_at hl 3 rfl) ?_
      refine lv_imul hx hb dX9_check_81 ?_
      refine lv_iload_n hx hb dX9_check_82 rfl (lv_at hl 1 rfl) ?_
      refine lv_aload_n hx hb dX9_check_83 rfl (lv_at hl 0 rfl) ?_
      refine fX9_3 E hP mw_326 dX9_check_84 ?_
      refine fX1_11 ((by decide : 2 < 3)) E hP mw_172 dX9_check_87 ?_
      refine g_cVi (As := [.int (2 * x4), .int x2, .int (s3 5 2 2)]) (rest := []) E hl.1 (c_X9_waitsAt l D cy ad ha hw _) ok_X9_waitsAt mw_925 ⟨(Nat.le_of_ble_eq_true rfl), (Nat.le_of_ble_eq_true rfl)⟩ ⟨rfl, rfl⟩ rC0 rfl rfl rfl rfl rfl (Nat.le_of_ble_eq_true rfl) ⟨Nat.zero_le _, Nat.zero_le _⟩ hP hS dX9_check_90 (fun r4 s4 hw H locs hP hS => ?_)
      obtain ⟨z4, hw⟩ := hw
      refine lv_if_ne (tgt := 103) hx hb dX9_check_93 (by decide) (fun c5 => ?_) (fun c5 => ?_)
      · replace hw := hw.1 c5
        refine lv_aload_n hx hb dX9_check_103 rfl (lv_at hl 0 rfl) ?_
        refine lv_iconst (v := 2) hx hb dX9_check_104 (by decide) ?_
        refine lv_iload hx hb dX9_check_105 (lv_at hl 3 rfl) ?_
        refine lv_imul hx hb dX9_check_107 ?_
        refine lv_iconst (v := 1) hx hb dX9_check_108 (by decide) ?_
        refine lv_iadd hx hb dX9_check_109 ?_
        refine lv_iload_n hx hb dX9_check_110 rfl (lv_at hl 1 rfl) ?_
        refine lv_aload_n hx hb dX9_check_111 rfl (lv_at hl 0 rfl) ?_
        refine fX9_3 E hP mw_326 dX9_check_112 ?_
        refine g_cVi (As := []) (rest := [.int x2, .int ((2 * x4) + 1), .ref (ad 0 0)]) E hl.1 (c_X1_leakOfAll l D cy ad ha ((by decide : 2 < 3)) hw _) ok_X1_leakOfAll mw_556 ⟨(Nat.le_of_ble_eq_true rfl), (Nat.le_of_ble_eq_true rfl)⟩ ⟨rfl, rfl⟩ (rC5 (by decide : 2 < 3)) rfl rfl rfl rfl rfl (Nat.le_of_ble_eq_true rfl) ⟨Nat.zero_le _, Nat.zero_le _⟩ hP hS dX9_check_115 (fun r6 s6 hw H locs hP hS => ?_)
        refine g_cVi (As := [.int ((2 * x4) + 1), .int x2, .int r6]) (rest := []) E hl.1 (c_X9_waitsAt l D cy ad ha hw _) ok_X9_waitsAt mw_925 ⟨(Nat.le_of_ble_eq_true rfl), (Nat.le_of_ble_eq_true rfl)⟩ ⟨rfl, rfl⟩ rC0 rfl rfl rfl rfl rfl (Nat.le_of_ble_eq_true rfl) ⟨Nat.zero_le _, Nat.zero_le _⟩ hP hS dX9_check_118 (fun r7 s7 hw H locs hP hS => ?_)
        obtain ⟨z7, hw⟩ := hw
        refine lv_if_ne (tgt := 131) hx hb dX9_check_121 (by decide) (fun c8 => ?_) (fun c8 => ?_)
        · replace hw := hw.1 c8
          obtain ⟨v9, ev9⟩ : ∃ y : Int32, y = x4 + 1 := ⟨_, rfl⟩
          replace hw := hw v9 ev9
          refine lv_iinc (v := v9) (lv' := [(4, .int v9), (0, .ref (ad 0 0)), (2, .int x2), (3, .int x3)]) hx hb dX9_check_131 hl (k := 3) rfl (by rw [ev9]; rfl) (by decide) rfl (fun ls hl => ?_)
          refine lv_goto (tgt := 63) hx hb dX9_check_134 (by decide) ?_
          exact hk63 s7 x2 x3 v9 hw _ _ _ hP hS (lv_sub hl [1, 2, 3, 0] rfl)
        · replace hw := hw.2 c8
          refine lv_iconst (v := 2) hx hb dX9_check_124 (by decide) ?_
          refine lv_iconst (v := 2) hx hb dX9_check_125 (by decide) ?_
          refine lv_iload hx hb dX9_check_126 (lv_at hl 3 rfl) ?_
          refine lv_imul hx hb dX9_check_128 ?_
          refine lv_iadd hx hb dX9_check_129 ?_
          exact g_iret E hw hP hS dX9_check_130
      · replace hw := hw.2 c5
        refine lv_iconst (v := 1) hx hb dX9_check_96 (by decide) ?_
        refine lv_iconst (v := 2) hx hb dX9_check_97 (by decide) ?_
        refine lv_iload hx hb dX9_check_98 (lv_at hl 3 rfl) ?_
        refine lv_imul hx hb dX9_check_100 ?_
        refine lv_iadd hx hb dX9_check_101 ?_
        exact g_iret E hw hP hS dX9_check_102
def w_X9_check (post : Int32 → St → Prop) (σ : St) (x1 : Int32) : Prop := ∀ v1 : Int32, v1 = σ 0 0 1 → (∀ s2 : St, s2 = wr σ 0 0 1 0 → (w_X9_within (fun r3 s3 => ((¬ r3 = 0 → (((¬ (s3 0 0 0) = 0 → (∀ v6 : Int32, v6 = (if (9999 - (s3 5 1 5)) < x1 then (9999 - (s3 5 1 5)) else x1) → (w_X1_becomeLike (fun s7 => ∃ n8 : Nat, l_X9_check_63 post n8 s7 v1 v6 (0 : Int32)) s3 2 1))) ∧ ((s3 0 0 0) = 0 → (post ((-1000000002)) s3))))) ∧ (r3 = 0 → (post ((-1000000001)) s3)))) s2 x1 (1 : Int32) (30 : Int32)))
theorem B_X9_check_0 (E : EnvW p s m args meth c D cy regsC ad "RoofWar" cX9_check 5 (some .int)) (ha : Apart regsC ad) {post : Int32 → St → Prop} {σ : St} {x1 : Int32} (hw : w_X9_check post σ x1) {H : Heap} {locs : List Loc} {ls : Array Slot} (hP : va_P D CLS (wC cy ad σ) H) (hS : va_S (AC ad s.heap.size) s.heap H locs) (hl : lv_has ls 5 [(0, .ref (ad 0 0)), (1, .int x1)]) : W p l e rm_X9_check s m args below meth c H locs 0 0 (MQ below (QI D cy (cellC cy ad) regsC ad s.heap.size post) args s 0 0 (AC ad s.heap.size)) (F0 m 0 ls []) := by
  obtain ⟨hx, hb, -⟩ := id E
  unfold w_X9_check at hw
  refine lv_aload_n hx hb dX9_check_0 rfl (lv_at hl 0 rfl) ?_
  refine fX9_11 E hP mw_334 dX9_check_1 ?_
  refine lv_topi (fun v1 ev1 => ?_)
  replace hw := hw v1 ev1
  refine lv_istore_n (lv' := [(2, .int v1), (0, .ref (ad 0 0)), (1, .int x1)]) hx hb dX9_check_4 rfl hl (by decide) rfl (fun ls hl => ?_)
  refine lv_aload_n hx hb dX9_check_5 rfl (lv_at hl 1 rfl) ?_
  refine lv_iconst (v := 0) hx hb dX9_check_6 (by decide) ?_
  refine uX9_11 E ha mw_334 dX9_check_7 hP hS (fun s2 es2 H locs hP hS => ?_)
  replace hw := hw s2 es2
  refine lv_iload_n hx hb dX9_check_10 rfl (lv_at hl 2 rfl) ?_
  refine lv_iconst (v := 1) hx hb dX9_check_11 (by decide) ?_
  refine lv_bipush (v := 30) hx hb dX9_check_12 (by decide) ?_
  refine g_cSi (As := [.int x1, .int 1, .int 30]) (rest := []) E hl.1 (c_X9_within l D cy ad ha hw _) ok_X9_within mw_370 ⟨(Nat.le_of_ble_eq_true rfl), (Nat.le_of_ble_eq_true rfl)⟩ ⟨rfl, rfl⟩ rfl rfl (Nat.le_of_ble_eq_true rfl) ⟨Nat.zero_le _, Nat.zero_le _⟩ hP hS dX9_check_14 (fun r3 s3 hw H locs hP hS => ?_)
  obtain ⟨z3, hw⟩ := hw
  refine lv_if_ne (tgt := 23) hx hb dX9_check_17 (by decide) (fun c4 => ?_) (fun c4 => ?_)
  · replace hw := hw.1 c4
    refine lv_aload_n hx hb dX9_check_23 rfl (lv_at hl 1 rfl) ?_
    refine fX9_4 E hP mw_327 dX9_check_24 ?_
    refine lv_if_ne (tgt := 33) hx hb dX9_check_27 (by decide) (fun c5 => ?_) (fun c5 => ?_)
    · replace hw := hw.1 c5
      refine lv_iload_n hx hb dX9_check_33 rfl (lv_at hl 2 rfl) ?_
      refine lv_sipush (v := 9999) hx hb dX9_check_34 (by decide) ?_
      refine lv_aload_n hx hb dX9_check_37 rfl (lv_at hl 1 rfl) ?_
      refine fX9_2 E hP mw_325 dX9_check_38 ?_
      refine fX1_14 ((by decide : 1 < 3)) E hP mw_179 dX9_check_41 ?_
      refine lv_isub hx hb dX9_check_44 ?_
      refine g_min E hl.1 mw_458 mw_444 mw_85 mw_445 ⟨(Nat.le_of_ble_eq_true rfl), (Nat.le_of_ble_eq_true rfl)⟩ ⟨Nat.zero_le _, Nat.zero_le _⟩ dX9_check_45 ?_
      refine lv_topi (fun v6 ev6 => ?_)
      replace hw := hw v6 ev6
      refine lv_istore_n (lv' := [(3, .int v6), (2, .int v1), (0, .ref (ad 0 0)), (1, .int x1)]) hx hb dX9_check_48 rfl hl (by decide) rfl (fun ls hl => ?_)
      refine lv_aload_n hx hb dX9_check_49 rfl (lv_at hl 2 rfl) ?_
      refine fX9_3 E hP mw_326 dX9_check_50 ?_
      refine lv_aload_n hx hb dX9_check_53 rfl (lv_at hl 2 rfl) ?_
      refine fX9_2 E hP mw_325 dX9_check_54 ?_
      refine g_cVv (As := [.ref (ad 5 1)]) (rest := []) E hl.1 (c_X1_becomeLike l D cy ad ha ((by decide : 2 < 3)) ((by decide : 1 < 3)) hw _) ok_X1_becomeLike mw_617 ⟨(Nat.le_of_ble_eq_true rfl), (Nat.le_of_ble_eq_true rfl)⟩ ⟨rfl, rfl⟩ (rC5 (by decide : 2 < 3)) rfl rfl rfl rfl rfl (Nat.le_of_ble_eq_true rfl) ⟨Nat.zero_le _, Nat.zero_le _⟩ hP hS dX9_check_57 (fun s7 hw H locs hP hS => ?_)
      refine lv_iconst (v := 0) hx hb dX9_check_60 (by decide) ?_
      refine lv_istore (lv' := [(4, .int 0), (3, .int v6), (2, .int v1), (0, .ref (ad 0 0)), (1, .int x1)]) hx hb dX9_check_61 hl (by decide) rfl (fun ls hl => ?_)
      obtain ⟨n8, hw⟩ := hw
      exact L_X9_check_63 E ha n8 s7 v1 v6 (0 : Int32) hw _ _ _ hP hS (lv_sub hl [3, 2, 1, 0] rfl)
    · replace hw := hw.2 c5
      refine g_ldc (v := -1000000002) E mw_378 dX9_check_30 ?_
      exact g_iret E hw hP hS dX9_check_32
  · replace hw := hw.2 c4
    refine g_ldc (v := -1000000001) E mw_376 dX9_check_20 ?_
    exact g_iret E hw hP hS dX9_check_22
theorem c_X9_check (l : Launch) (D : va_G) (cy : Nat → ClassId) (ad : Nat → Nat → Nat) (ha : Apart regsC ad) {post : Int32 → St → Prop} {σ : St} {x1 : Int32} (hw : w_X9_check post σ x1) (sz : Nat) : MetI l yX9_check cX9_check 5 .int rm_X9_check [.ref (ad 0 0), .int x1] D cy (cellC cy ad) regsC ad σ sz post :=
  Met_inI ok_X9_check.2.2.2.2.2 (Nat.le_of_ble_eq_true rfl) (fun p e s m below meth c ls E hP hl => B_X9_check_0 E ha hw hP va_S.rf hl)
-- RoofWar.keep()I
theorem dX9_keep_0 : decode cX9_keep 0 = .ok (.aload_n 0, 1) := by decide +kernel
theorem dX9_keep_1 : decode cX9_keep 1 = .ok (.getfield 25, 3) := by decide +kernel
theorem dX9_keep_4 : decode cX9_keep 4 = .ok (.aload_n 0, 1) := by decide +kernel
theorem dX9_keep_5 : decode cX9_keep 5 = .ok (.getfield 21, 3) := by decide +kernel
theorem dX9_keep_8 : decode cX9_keep 8 = .ok (.invokevirtual 231, 3) := by decide +kernel
theorem dX9_keep_11 : decode cX9_keep 11 = .ok (.aload_n 0, 1) := by decide +kernel
theorem dX9_keep_12 : decode cX9_keep 12 = .ok (.iconst 1, 1) := by decide +kernel
theorem dX9_keep_13 : decode cX9_keep 13 = .ok (.putfield 31, 3) := by decide +kernel
theorem dX9_keep_16 : decode cX9_keep 16 = .ok (.aload_n 0, 1) := by decide +kernel
theorem dX9_keep_17 : decode cX9_keep 17 = .ok (.getfield 25, 3) := by decide +kernel
theorem dX9_keep_20 : decode cX9_keep 20 = .ok (.getfield 100, 3) := by decide +kernel
theorem dX9_keep_23 : decode cX9_keep 23 = .ok (.ireturn, 1) := by decide +kernel
theorem ok_X9_keep : okV yX9_keep cX9_keep 1 (some .int) 0 := ⟨mw_929, mw_930, mw_74, mw_931, by decide +kernel, by decide +kernel⟩
abbrev rm_X9_keep : Room := { frames := 2, cells := 0, slots := 0, locals := 121 }
def w_X9_keep (post : Int32 → St → Prop) (σ : St) : Prop := w_X1_becomeLike (fun s1 => ∀ s2 : St, s2 = wr s1 0 0 0 1 → (post (s2 5 1 0) s2)) σ 1 0
theorem B_X9_keep_0 (E : EnvW p s m args meth c D cy regsC ad "RoofWar" cX9_keep 1 (some .int)) (ha : Apart regsC ad) {post : Int32 → St → Prop} {σ : St} (hw : w_X9_keep post σ) {H : Heap} {locs : List Loc} {ls : Array Slot} (hP : va_P D CLS (wC cy ad σ) H) (hS : va_S (AC ad s.heap.size) s.heap H locs) (hl : lv_has ls 1 [(0, .ref (ad 0 0))]) : W p l e rm_X9_keep s m args below meth c H locs 0 0 (MQ below (QI D cy (cellC cy ad) regsC ad s.heap.size post) args s 0 0 (AC ad s.heap.size)) (F0 m 0 ls []) := by
  obtain ⟨hx, hb, -⟩ := id E
  unfold w_X9_keep at hw
  refine lv_aload_n hx hb dX9_keep_0 rfl (lv_at hl 0 rfl) ?_
  refine fX9_2 E hP mw_325 dX9_keep_1 ?_
  refine lv_aload_n hx hb dX9_keep_4 rfl (lv_at hl 0 rfl) ?_
  refine fX9_1 E hP mw_324 dX9_keep_5 ?_
  refine g_cVv (As := [.ref (ad 5 0)]) (rest := []) E hl.1 (c_X1_becomeLike l D cy ad ha ((by decide : 1 < 3)) ((by decide : 0 < 3)) hw _) ok_X1_becomeLike mw_617 ⟨(Nat.le_of_ble_eq_true rfl), (Nat.le_of_ble_eq_true rfl)⟩ ⟨rfl, rfl⟩ (rC5 (by decide : 1 < 3)) rfl rfl rfl rfl rfl (Nat.le_of_ble_eq_true rfl) ⟨Nat.zero_le _, Nat.zero_le _⟩ hP hS dX9_keep_8 (fun s1 hw H locs hP hS => ?_)
  refine lv_aload_n hx hb dX9_keep_11 rfl (lv_at hl 0 rfl) ?_
  refine lv_iconst (v := 1) hx hb dX9_keep_12 (by decide) ?_
  refine uX9_4 E ha mw_327 (Or.inr rfl) dX9_keep_13 hP hS (fun s2 es2 H locs hP hS => ?_)
  replace hw := hw s2 es2
  refine lv_aload_n hx hb dX9_keep_16 rfl (lv_at hl 0 rfl) ?_
  refine fX9_2 E hP mw_325 dX9_keep_17 ?_
  refine fX1_9 ((by decide : 1 < 3)) E hP mw_167 dX9_keep_20 ?_
  exact g_iret E hw hP hS dX9_keep_23
theorem c_X9_keep (l : Launch) (D : va_G) (cy : Nat → ClassId) (ad : Nat → Nat → Nat) (ha : Apart regsC ad) {post : Int32 → St → Prop} {σ : St} (hw : w_X9_keep post σ) (sz : Nat) : MetI l yX9_keep cX9_keep 1 .int rm_X9_keep [.ref (ad 0 0)] D cy (cellC cy ad) regsC ad σ sz post :=
  Met_inI ok_X9_keep.2.2.2.2.2 (Nat.le_of_ble_eq_true rfl) (fun p e s m below meth c ls E hP hl => B_X9_keep_0 E ha hw hP va_S.rf hl)
-- RoofWar.back()I
theorem dX9_back_0 : decode cX9_back 0 = .ok (.aload_n 0, 1) := by decide +kernel
theorem dX9_back_1 : decode cX9_back 1 = .ok (.getfield 31, 3) := by decide +kernel
theorem dX9_back_4 : decode cX9_back 4 = .ok (.ifCond .ne 6, 3) := by decide +kernel
theorem dX9_back_7 : decode cX9_back 7 = .ok (.ldc 99, 2) := by decide +kernel
theorem dX9_back_9 : decode cX9_back 9 = .ok (.ireturn, 1) := by decide +kernel
theorem dX9_back_10 : decode cX9_back 10 = .ok (.aload_n 0, 1) := by decide +kernel
theorem dX9_back_11 : decode cX9_back 11 = .ok (.getfield 21, 3) := by decide +kernel
theorem dX9_back_14 : decode cX9_back 14 = .ok (.aload_n 0, 1) := by decide +kernel
theorem dX9_back_15 : decode cX9_back 15 = .ok (.getfield 25, 3) := by decide +kernel
theorem dX9_back_18 : decode cX9_back 18 = .ok (.invokevirtual 231, 3) := by decide +kernel
theorem dX9_back_21 : decode cX9_back 21 = .ok (.aload_n 0, 1) := by decide +kernel
theorem dX9_back_22 : decode cX9_back 22 = .ok (.getfield 21, 3) := by decide +kernel
theorem dX9_back_25 : decode cX9_back 25 = .ok (.getfield 100, 3) := by decide +kernel
theorem dX9_back_28 : decode cX9_back 28 = .ok (.ireturn, 1) := by decide +kernel
theorem ok_X9_back : okV yX9_back cX9_back 1 (some .int) 0 := ⟨mw_933, mw_934, mw_74, mw_935, by decide +kernel, by decide +kernel⟩
abbrev rm_X9_back : Room := { frames := 2, cells := 0, slots := 0, locals := 121 }
def w_X9_back (post : Int32 → St → Prop) (σ : St) : Prop := ((¬ (σ 0 0 0) = 0 → (w_X1_becomeLike (fun s2 => post (s2 5 0 0) s2) σ 0 1)) ∧ ((σ 0 0 0) = 0 → (post ((-1000000002)) σ)))
theorem B_X9_back_0 (E : EnvW p s m args meth c D cy regsC ad "RoofWar" cX9_back 1 (some .int)) (ha : Apart regsC ad) {post : Int32 → St → Prop} {σ : St} (hw : w_X9_back post σ) {H : Heap} {locs : List Loc} {ls : Array Slot} (hP : va_P D CLS (wC cy ad σ) H) (hS : va_S (AC ad s.heap.size) s.heap H locs) (hl : lv_has ls 1 [(0, .ref (ad 0 0))]) : W p l e rm_X9_back s m args below meth c H locs 0 0 (MQ below (QI D cy (cellC cy ad) regsC ad s.heap.size post) args s 0 0 (AC ad s.heap.size)) (F0 m 0 ls []) := by
  obtain ⟨hx, hb, -⟩ := id E
  unfold w_X9_back at hw
  refine lv_aload_n hx hb dX9_back_0 rfl (lv_at hl 0 rfl) ?_
  refine fX9_4 E hP mw_327 dX9_back_1 ?_
  refine lv_if_ne (tgt := 10) hx hb dX9_back_4 (by decide) (fun c1 => ?_) (fun c1 => ?_)
  · replace hw := hw.1 c1
    refine lv_aload_n hx hb dX9_back_10 rfl (lv_at hl 0 rfl) ?_
    refine fX9_1 E hP mw_324 dX9_back_11 ?_
    refine lv_aload_n hx hb dX9_back_14 rfl (lv_at hl 0 rfl) ?_
    refine fX9_2 E hP mw_325 dX9_back_15 ?_
    refine g_cVv (As := [.ref (ad 5 1)]) (rest := []) E hl.1 (c_X1_becomeLike l D cy ad ha ((by decide : 0 < 3)) ((by decide : 1 < 3)) hw _) ok_X1_becomeLike mw_617 ⟨(Nat.le_of_ble_eq_true rfl), (Nat.le_of_ble_eq_true rfl)⟩ ⟨rfl, rfl⟩ (rC5 (by decide : 0 < 3)) rfl rfl rfl rfl rfl (Nat.le_of_ble_eq_true rfl) ⟨Nat.zero_le _, Nat.zero_le _⟩ hP hS dX9_back_18 (fun s2 hw H locs hP hS => ?_)
    refine lv_aload_n hx hb dX9_back_21 rfl (lv_at hl 0 rfl) ?_
    refine fX9_1 E hP mw_324 dX9_back_22 ?_
    refine fX1_9 ((by decide : 0 < 3)) E hP mw_167 dX9_back_25 ?_
    exact g_iret E hw hP hS dX9_back_28
  · replace hw := hw.2 c1
    refine g_ldc (v := -1000000002) E mw_378 dX9_back_7 ?_
    exact g_iret E hw hP hS dX9_back_9
theorem c_X9_back (l : Launch) (D : va_G) (cy : Nat → ClassId) (ad : Nat → Nat → Nat) (ha : Apart regsC ad) {post : Int32 → St → Prop} {σ : St} (hw : w_X9_back post σ) (sz : Nat) : MetI l yX9_back cX9_back 1 .int rm_X9_back [.ref (ad 0 0)] D cy (cellC cy ad) regsC ad σ sz post :=
  Met_inI ok_X9_back.2.2.2.2.2 (Nat.le_of_ble_eq_true rfl) (fun p e s m below meth c ls E hP hl => B_X9_back_0 E ha hw hP va_S.rf hl)
-- RoofWar.count(I)I
theorem dX9_count_0 : decode cX9_count 0 = .ok (.iload_n 1, 1) := by decide +kernel
theorem dX9_count_1 : decode cX9_count 1 = .ok (.tableswitch 124 0 8 #[51, 59, 67, 77, 87, 95, 103, 108, 116], 51) := by decide +kernel
theorem dX9_count_52 : decode cX9_count 52 = .ok (.aload_n 0, 1) := by decide +kernel
theorem dX9_count_53 : decode cX9_count 53 = .ok (.getfield 21, 3) := by decide +kernel
theorem dX9_count_56 : decode cX9_count 56 = .ok (.getfield 100, 3) := by decide +kernel
theorem dX9_count_59 : decode cX9_count 59 = .ok (.ireturn, 1) := by decide +kernel
theorem dX9_count_60 : decode cX9_count 60 = .ok (.aload_n 0, 1) := by decide +kernel
theorem dX9_count_61 : decode cX9_count 61 = .ok (.getfield 21, 3) := by decide +kernel
theorem dX9_count_64 : decode cX9_count 64 = .ok (.getfield 177, 3) := by decide +kernel
theorem dX9_count_67 : decode cX9_count 67 = .ok (.ireturn, 1) := by decide +kernel
theorem dX9_count_68 : decode cX9_count 68 = .ok (.aload_n 0, 1) := by decide +kernel
theorem dX9_count_69 : decode cX9_count 69 = .ok (.getfield 21, 3) := by decide +kernel
theorem dX9_count_72 : decode cX9_count 72 = .ok (.getfield 157, 3) := by decide +kernel
theorem dX9_count_75 : decode cX9_count 75 = .ok (.iconst 0, 1) := by decide +kernel
theorem dX9_count_76 : decode cX9_count 76 = .ok (.iaload, 1) := by decide +kernel
theorem dX9_count_77 : decode cX9_count 77 = .ok (.ireturn, 1) := by decide +kernel
theorem dX9_count_78 : decode cX9_count 78 = .ok (.aload_n 0, 1) := by decide +kernel
theorem dX9_count_79 : decode cX9_count 79 = .ok (.getfield 21, 3) := by decide +kernel
theorem dX9_count_82 : decode cX9_count 82 = .ok (.getfield 157, 3) := by decide +kernel
theorem dX9_count_85 : decode cX9_count 85 = .ok (.iconst 1, 1) := by decide +kernel
theorem dX9_count_86 : decode cX9_count 86 = .ok (.iaload, 1) := by decide +kernel
theorem dX9_count_87 : decode cX9_count 87 = .ok (.ireturn, 1) := by decide +kernel
theorem dX9_count_88 : decode cX9_count 88 = .ok (.aload_n 0, 1) := by decide +kernel
theorem dX9_count_89 : decode cX9_count 89 = .ok (.getfield 21, 3) := by decide +kernel
theorem dX9_count_92 : decode cX9_count 92 = .ok (.getfield 160, 3) := by decide +kernel
theorem dX9_count_95 : decode cX9_count 95 = .ok (.ireturn, 1) := by decide +kernel
theorem dX9_count_96 : decode cX9_count 96 = .ok (.aload_n 0, 1) := by decide +kernel
theorem dX9_count_97 : decode cX9_count 97 = .ok (.getfield 21, 3) := by decide +kernel
theorem dX9_count_100 : decode cX9_count 100 = .ok (.getfield 250, 3) := by decide +kernel
theorem dX9_count_103 : decode cX9_count 103 = .ok (.ireturn, 1) := by decide +kernel
theorem dX9_count_104 : decode cX9_count 104 = .ok (.aload_n 0, 1) := by decide +kernel
theorem dX9_count_105 : decode cX9_count 105 = .ok (.getfield 76, 3) := by decide +kernel
theorem dX9_count_108 : decode cX9_count 108 = .ok (.ireturn, 1) := by decide +kernel
theorem dX9_count_109 : decode cX9_count 109 = .ok (.aload_n 0, 1) := by decide +kernel
theorem dX9_count_110 : decode cX9_count 110 = .ok (.getfield 45, 3) := by decide +kernel
theorem dX9_count_113 : decode cX9_count 113 = .ok (.getfield 261, 3) := by decide +kernel
theorem dX9_count_116 : decode cX9_count 116 = .ok (.ireturn, 1) := by decide +kernel
theorem dX9_count_117 : decode cX9_count 117 = .ok (.aload_n 0, 1) := by decide +kernel
theorem dX9_count_118 : decode cX9_count 118 = .ok (.getfield 21, 3) := by decide +kernel
theorem dX9_count_121 : decode cX9_count 121 = .ok (.getfield 171, 3) := by decide +kernel
theorem dX9_count_124 : decode cX9_count 124 = .ok (.ireturn, 1) := by decide +kernel
theorem dX9_count_125 : decode cX9_count 125 = .ok (.ldc 94, 2) := by decide +kernel
theorem dX9_count_127 : decode cX9_count 127 = .ok (.ireturn, 1) := by decide +kernel
theorem ok_X9_count : okV yX9_count cX9_count 2 (some .int) 1 := ⟨mw_937, mw_938, mw_74, mw_939, by decide +kernel, by decide +kernel⟩
abbrev rm_X9_count : Room := { frames := 0, cells := 0, slots := 0, locals := 0 }
def w_X9_count (post : Int32 → St → Prop) (σ : St) (x1 : Int32) : Prop := ((x1 = 0 → (post (σ 5 0 0) σ)) ∧ (¬ x1 = 0 → (((x1 = 1 → (post (σ 5 0 5) σ)) ∧ (¬ x1 = 1 → (((x1 = 2 → (vp_in (0 : Int32) 2 ∧ (post (σ 13 0 (0 : Int32).toNatClampNeg) σ))) ∧ (¬ x1 = 2 → (((x1 = 3 → (vp_in (1 : Int32) 2 ∧ (post (σ 13 0 (1 : Int32).toNatClampNeg) σ))) ∧ (¬ x1 = 3 → (((x1 = 4 → (post (σ 5 0 1) σ)) ∧ (¬ x1 = 4 → (((x1 = 5 → (post (σ 5 0 7) σ)) ∧ (¬ x1 = 5 → (((x1 = 6 → (post (σ 0 0 1) σ)) ∧ (¬ x1 = 6 → (((x1 = 7 → (post (σ 19 0 0) σ)) ∧ (¬ x1 = 7 → (((x1 = 8 → (post (σ 5 0 6) σ)) ∧ (¬ x1 = 8 → (post ((-1000000001)) σ)))))))))))))))))))))))))))
theorem B_X9_count_0 (E : EnvW p s m args meth c D cy regsC ad "RoofWar" cX9_count 2 (some .int)) (ha : Apart regsC ad) {post : Int32 → St → Prop} {σ : St} {x1 : Int32} (hw : w_X9_count post σ x1) {H : Heap} {locs : List Loc} {ls : Array Slot} (hP : va_P D CLS (wC cy ad σ) H) (hS : va_S (AC ad s.heap.size) s.heap H locs) (hl : lv_has ls 2 [(0, .ref (ad 0 0)), (1, .int x1)]) : W p l e rm_X9_count s m args below meth c H locs 0 0 (MQ below (QI D cy (cellC cy ad) regsC ad s.heap.size post) args s 0 0 (AC ad s.heap.size)) (F0 m 0 ls []) := by
  obtain ⟨hx, hb, -⟩ := id E
  unfold w_X9_count at hw
  refine lv_iload_n hx hb dX9_count_0 rfl (lv_at hl 1 rfl) ?_
  by_cases c1 : x1 = 0
  · replace hw := hw.1 c1
    refine lv_tableIn (off := 51) (tgt := 52) hx hb dX9_count_1 (by rw [c1]; decide) (by rw [c1]; decide) (by rw [c1]; rfl) (by decide) ?_
    refine lv_aload_n hx hb dX9_count_52 rfl (lv_at hl 0 rfl) ?_
    refine fX9_1 E hP mw_324 dX9_count_53 ?_
    refine fX1_9 ((by decide : 0 < 3)) E hP mw_167 dX9_count_56 ?_
    exact g_iret E hw hP hS dX9_count_59
  · replace hw := hw.2 c1
    by_cases c2 : x1 = 1
    · replace hw := hw.1 c2
      refine lv_tableIn (off := 59) (tgt := 60) hx hb dX9_count_1 (by rw [c2]; decide) (by rw [c2]; decide) (by rw [c2]; rfl) (by decide) ?_
      refine lv_aload_n hx hb dX9_count_60 rfl (lv_at hl 0 rfl) ?_
      refine fX9_1 E hP mw_324 dX9_count_61 ?_
      refine fX1_14 ((by decide : 0 < 3)) E hP mw_179 dX9_count_64 ?_
      exact g_iret E hw hP hS dX9_count_67
    · replace hw := hw.2 c2
      by_cases c3 : x1 = 2
      · replace hw := hw.1 c3
        refine lv_tableIn (off := 67) (tgt := 68) hx hb dX9_count_1 (by rw [c3]; decide) (by rw [c3]; decide) (by rw [c3]; rfl) (by decide) ?_
        refine lv_aload_n hx hb dX9_count_68 rfl (lv_at hl 0 rfl) ?_
        refine fX9_1 E hP mw_324 dX9_count_69 ?_
        refine fX1_8 ((by decide : 0 < 3)) E hP mw_165 dX9_count_72 ?_
        refine lv_iconst (v := 0) hx hb dX9_count_75 (by decide) ?_
        obtain ⟨h4, hw⟩ := hw
        refine aC13 ((by decide : 0 < 3)) E hP h4 dX9_count_76 ?_
        exact g_iret E hw hP hS dX9_count_77
      · replace hw := hw.2 c3
        by_cases c5 : x1 = 3
        · replace hw := hw.1 c5
          refine lv_tableIn (off := 77) (tgt := 78) hx hb dX9_count_1 (by rw [c5]; decide) (by rw [c5]; decide) (by rw [c5]; rfl) (by decide) ?_
          refine lv_aload_n hx hb dX9_count_78 rfl (lv_at hl 0 rfl) ?_
          refine fX9_1 E hP mw_324 dX9_count_79 ?_
          refine fX1_8 ((by decide : 0 < 3)) E hP mw_165 dX9_count_82 ?_
          refine lv_iconst (v := 1) hx hb dX9_count_85 (by decide) ?_
          obtain ⟨h6, hw⟩ := hw
          refine aC13 ((by decide : 0 < 3)) E hP h6 dX9_count_86 ?_
          exact g_iret E hw hP hS dX9_count_87
        · replace hw := hw.2 c5
          by_cases c7 : x1 = 4
          · replace hw := hw.1 c7
            refine lv_tableIn (off := 87) (tgt := 88) hx hb dX9_count_1 (by rw [c7]; decide) (by rw [c7]; decide) (by rw [c7]; rfl) (by decide) ?_
            refine lv_aload_n hx hb dX9_count_88 rfl (lv_at hl 0 rfl) ?_
            refine fX9_1 E hP mw_324 dX9_count_89 ?_
            refine fX1_10 ((by decide : 0 < 3)) E hP mw_170 dX9_count_92 ?_
            exact g_iret E hw hP hS dX9_count_95
          · replace hw := hw.2 c7
            by_cases c8 : x1 = 5
            · replace hw := hw.1 c8
              refine lv_tableIn (off := 95) (tgt := 96) hx hb dX9_count_1 (by rw [c8]; decide) (by rw [c8]; decide) (by rw [c8]; rfl) (by decide) ?_
              refine lv_aload_n hx hb dX9_count_96 rfl (lv_at hl 0 rfl) ?_
              refine fX9_1 E hP mw_324 dX9_count_97 ?_
              refine fX1_16 ((by decide : 0 < 3)) E hP mw_184 dX9_count_100 ?_
              exact g_iret E hw hP hS dX9_count_103
            · replace hw := hw.2 c8
              by_cases c9 : x1 = 6
              · replace hw := hw.1 c9
                refine lv_tableIn (off := 103) (tgt := 104) hx hb dX9_count_1 (by rw [c9]; decide) (by rw [c9]; decide) (by rw [c9]; rfl) (by decide) ?_
                refine lv_aload_n hx hb dX9_count_104 rfl (lv_at hl 0 rfl) ?_
                refine fX9_11 E hP mw_334 dX9_count_105 ?_
                exact g_iret E hw hP hS dX9_count_108
              · replace hw := hw.2 c9
                by_cases c10 : x1 = 7
                · replace hw := hw.1 c10
                  refine lv_tableIn (off := 108) (tgt := 109) hx hb dX9_count_1 (by rw [c10]; decide) (by rw [c10]; decide) (by rw [c10]; rfl) (by decide) ?_
                  refine lv_aload_n hx hb dX9_count_109 rfl (lv_at hl 0 rfl) ?_
                  refine fX9_6 E hP mw_329 dX9_count_110 ?_
                  refine fX8_1 E hP mw_248 dX9_count_113 ?_
                  exact g_iret E hw hP hS dX9_count_116
                · replace hw := hw.2 c10
                  by_cases c11 : x1 = 8
                  · replace hw := hw.1 c11
                    refine lv_tableIn (off := 116) (tgt := 117) hx hb dX9_count_1 (by rw [c11]; decide) (by rw [c11]; decide) (by rw [c11]; rfl) (by decide) ?_
                    refine lv_aload_n hx hb dX9_count_117 rfl (lv_at hl 0 rfl) ?_
                    refine fX9_1 E hP mw_324 dX9_count_118 ?_
                    refine fX1_15 ((by decide : 0 < 3)) E hP mw_181 dX9_count_121 ?_
                    exact g_iret E hw hP hS dX9_count_124
                  · replace hw := hw.2 c11
                    have e1 := ne_toI c1 (n := 0) (k := 0) (by decide)
                    have e2 := ne_toI c2 (n := 1) (k := 1) (by decide)
                    have e3 := ne_toI c3 (n := 2) (k := 2) (by decide)
                    have e5 := ne_toI c5 (n := 3) (k := 3) (by decide)
                    have e7 := ne_toI c7 (n := 4) (k := 4) (by decide)
                    have e8 := ne_toI c8 (n := 5) (k := 5) (by decide)
                    have e9 := ne_toI c9 (n := 6) (k := 6) (by decide)
                    have e10 := ne_toI c10 (n := 7) (k := 7) (by decide)
                    have e11 := ne_toI c11 (n := 8) (k := 8) (by decide)
                    refine lv_tableOut (tgt := 125) hx hb dX9_count_1 (by omega) (by decide) ?_
                    refine g_ldc (v := -1000000001) E mw_376 dX9_count_125 ?_
                    exact g_iret E hw hP hS dX9_count_127
theorem c_X9_count (l : Launch) (D : va_G) (cy : Nat → ClassId) (ad : Nat → Nat → Nat) (ha : Apart regsC ad) {post : Int32 → St → Prop} {σ : St} {x1 : Int32} (hw : w_X9_count post σ x1) (sz : Nat) : MetI l yX9_count cX9_count 2 .int rm_X9_count [.ref (ad 0 0), .int x1] D cy (cellC cy ad) regsC ad σ sz post :=
  Met_inI ok_X9_count.2.2.2.2.2 (Nat.le_of_ble_eq_true rfl) (fun p e s m below meth c ls E hP hl => B_X9_count_0 E ha hw hP va_S.rf hl)
end WalkR
