section WalkH
variable {p : Program} {l : Launch} {e : Env} {s : State} {m : MethodId} {args : Array Value} {below : List Frame} {meth : Method} {c : Code} {D : va_G} {cy : Nat → ClassId} {ad : Nat → Nat → Nat}
-- RoofWar$Laws.lastOf(II)I
theorem dX4_lastOf_0 : decode cX4_lastOf 0 = .ok (.iload_n 2, 1) := by decide +kernel
theorem dX4_lastOf_1 : decode cX4_lastOf 1 = .ok (.iconst 1, 1) := by decide +kernel
theorem dX4_lastOf_2 : decode cX4_lastOf 2 = .ok (.isub, 1) := by decide +kernel
theorem dX4_lastOf_3 : decode cX4_lastOf 3 = .ok (.istore_n 3, 1) := by decide +kernel
theorem dX4_lastOf_4 : decode cX4_lastOf 4 = .ok (.iload_n 3, 1) := by decide +kernel
theorem dX4_lastOf_5 : decode cX4_lastOf 5 = .ok (.ifCond .lt 24, 3) := by decide +kernel
theorem dX4_lastOf_8 : decode cX4_lastOf 8 = .ok (.aload_n 0, 1) := by decide +kernel
theorem dX4_lastOf_9 : decode cX4_lastOf 9 = .ok (.getfield 11, 3) := by decide +kernel
theorem dX4_lastOf_12 : decode cX4_lastOf 12 = .ok (.iload_n 3, 1) := by decide +kernel
theorem dX4_lastOf_13 : decode cX4_lastOf 13 = .ok (.aaload, 1) := by decide +kernel
theorem dX4_lastOf_14 : decode cX4_lastOf 14 = .ok (.getfield 22, 3) := by decide +kernel
theorem dX4_lastOf_17 : decode cX4_lastOf 17 = .ok (.iload_n 1, 1) := by decide +kernel
theorem dX4_lastOf_18 : decode cX4_lastOf 18 = .ok (.if_icmp .ne 5, 3) := by decide +kernel
theorem dX4_lastOf_21 : decode cX4_lastOf 21 = .ok (.iload_n 3, 1) := by decide +kernel
theorem dX4_lastOf_22 : decode cX4_lastOf 22 = .ok (.ireturn, 1) := by decide +kernel
theorem dX4_lastOf_23 : decode cX4_lastOf 23 = .ok (.iinc 3 (-1), 3) := by decide +kernel
theorem dX4_lastOf_26 : decode cX4_lastOf 26 = .ok (.goto (-22), 3) := by decide +kernel
theorem dX4_lastOf_29 : decode cX4_lastOf 29 = .ok (.ldc 26, 2) := by decide +kernel
theorem dX4_lastOf_31 : decode cX4_lastOf 31 = .ok (.ireturn, 1) := by decide +kernel
theorem ok_X4_lastOf : okV yX4_lastOf cX4_lastOf 4 (some .int) 2 := ⟨mw_521, mw_522, mw_75, mw_523, by decide +kernel, by decide +kernel⟩
abbrev rm_X4_lastOf : Room := { frames := 0, cells := 0, slots := 0, locals := 0 }
def b_X4_lastOf_4 (K4 : St → Int32 → Int32 → Prop) (post : Int32 → St → Prop) (σ : St) (x1 : Int32) (x3 : Int32) : Prop := ((x3 < 0 → (post ((-1000000005)) σ)) ∧ (¬ x3 < 0 → (vp_in x3 15 ∧ (((¬ (σ 17 x3.toNatClampNeg 0) = x1 → (∀ v4 : Int32, v4 = x3 + (-1) → (K4 σ x1 v4))) ∧ ((σ 17 x3.toNatClampNeg 0) = x1 → (post x3 σ)))))))
noncomputable def l_X4_lastOf_4 (post : Int32 → St → Prop) : Nat → St → Int32 → Int32 → Prop := fun n => Nat.rec (motive := fun _ => St → Int32 → Int32 → Prop) (fun _ _ _ => False) (fun _ ih => b_X4_lastOf_4 ih post) n
theorem L_X4_lastOf_4 (E : EnvW p s m args meth c D cy regsC ad "RoofWar$Laws" cX4_lastOf 4 (some .int)) (ha : Apart regsC ad) {post : Int32 → St → Prop} : ∀ (n : Nat), ∀ (σ : St) (x1 : Int32) (x3 : Int32), l_X4_lastOf_4 post n σ x1 x3 → ∀ (H : Heap) (locs : List Loc) (ls : Array Slot), va_P D CLS (wC cy ad σ) H → va_S (AC ad s.heap.size) s.heap H locs → lv_has ls 4 [(0, .ref (ad 14 0)), (1, .int x1), (3, .int x3)] → W p l e rm_X4_lastOf s m args below meth c H locs 0 0 (MQ below (QI D cy (cellC cy ad) regsC ad s.heap.size post) args s 0 0 (AC ad s.heap.size)) (F0 m 4 ls []) := by
  obtain ⟨hx, hb, -⟩ := id E
  intro n
  induction n with
  | zero => intro σ x1 x3 hw; exact hw.elim
  | succ n hk4 =>
    intro σ x1 x3 hw H locs ls hP hS hl
    replace hw : b_X4_lastOf_4 (l_X4_lastOf_4 post n) post σ x1 x3 := hw
    unfold b_X4_lastOf_4 at hw
    refine lv_iload_n hx hb dX4_lastOf_4 rfl (lv_at hl 2 rfl) ?_
    refine lv_if_lt (tgt := 29) hx hb dX4_lastOf_5 (by decide) (fun c1 => ?_) (fun c1 => ?_)
    · replace hw := hw.1 c1
      refine g_ldc (v := -1000000005) E mw_524 dX4_lastOf_29 ?_
      exact g_iret E hw hP hS dX4_lastOf_31
    · replace hw := hw.2 c1
      refine lv_aload_n hx hb dX4_lastOf_8 rfl (lv_at hl 0 rfl) ?_
      refine fX4_0 E hP mw_131 dX4_lastOf_9 ?_
      refine lv_iload_n hx hb dX4_lastOf_12 rfl (lv_at hl 2 rfl) ?_
      obtain ⟨h2, hw⟩ := hw
      refine aC15 E hP h2 dX4_lastOf_13 ?_
      refine fX3_0 ((vp_lt h2)) E hP mw_112 dX4_lastOf_14 ?_
      refine lv_iload_n hx hb dX4_lastOf_17 rfl (lv_at hl 1 rfl) ?_
      refine lv_icmp_ne (tgt := 23) hx hb dX4_lastOf_18 (by decide) (fun c3 => ?_) (fun c3 => ?_)
      · replace hw := hw.1 c3
        obtain ⟨v4, ev4⟩ : ∃ y : Int32, y = x3 + (-1) := ⟨_, rfl⟩
        replace hw := hw v4 ev4
        refine lv_iinc (v := v4) (lv' := [(3, .int v4), (0, .ref (ad 14 0)), (1, .int x1)]) hx hb dX4_lastOf_23 hl (k := 2) rfl (by rw [ev4]; rfl) (by decide) rfl (fun ls hl => ?_)
        refine lv_goto (tgt := 4) hx hb dX4_lastOf_26 (by decide) ?_
        exact hk4 σ x1 v4 hw _ _ _ hP hS (lv_sub hl [1, 2, 0] rfl)
      · replace hw := hw.2 c3
        refine lv_iload_n hx hb dX4_lastOf_21 rfl (lv_at hl 2 rfl) ?_
        exact g_iret E hw hP hS dX4_lastOf_22
def w_X4_lastOf (post : Int32 → St → Prop) (σ : St) (x1 : Int32) (x2 : Int32) : Prop := ∀ v1 : Int32, v1 = x2 - 1 → (∃ n2 : Nat, l_X4_lastOf_4 post n2 σ x1 v1)
theorem B_X4_lastOf_0 (E : EnvW p s m args meth c D cy regsC ad "RoofWar$Laws" cX4_lastOf 4 (some .int)) (ha : Apart regsC ad) {post : Int32 → St → Prop} {σ : St} {x1 : Int32} {x2 : Int32} (hw : w_X4_lastOf post σ x1 x2) {H : Heap} {locs : List Loc} {ls : Array Slot} (hP : va_P D CLS (wC cy ad σ) H) (hS : va_S (AC ad s.heap.size) s.heap H locs) (hl : lv_has ls 4 [(0, .ref (ad 14 0)), (1, .int x1), (2, .int x2)]) : W p l e rm_X4_lastOf s m args below meth c H locs 0 0 (MQ below (QI D cy (cellC cy ad) regsC ad s.heap.size post) args s 0 0 (AC ad s.heap.size)) (F0 m 0 ls []) := by
  obtain ⟨hx, hb, -⟩ := id E
  unfold w_X4_lastOf at hw
  refine lv_iload_n hx hb dX4_lastOf_0 rfl (lv_at hl 2 rfl) ?_
  refine lv_iconst (v := 1) hx hb dX4_lastOf_1 (by decide) ?_
  refine lv_isub hx hb dX4_lastOf_2 ?_
  refine lv_topi (fun v1 ev1 => ?_)
  replace hw := hw v1 ev1
  refine lv_istore_n (lv' := [(3, .int v1), (0, .ref (ad 14 0)), (1, .int x1), (2, .int x2)]) hx hb dX4_lastOf_3 rfl hl (by decide) rfl (fun ls hl => ?_)
  obtain ⟨n2, hw⟩ := hw
  exact L_X4_lastOf_4 E ha n2 σ x1 v1 hw _ _ _ hP hS (lv_sub hl [1, 2, 0] rfl)
theorem c_X4_lastOf (l : Launch) (D : va_G) (cy : Nat → ClassId) (ad : Nat → Nat → Nat) (ha : Apart regsC ad) {post : Int32 → St → Prop} {σ : St} {x1 : Int32} {x2 : Int32} (hw : w_X4_lastOf post σ x1 x2) (sz : Nat) : MetI l yX4_lastOf cX4_lastOf 4 .int rm_X4_lastOf [.ref (ad 14 0), .int x1, .int x2] D cy (cellC cy ad) regsC ad σ sz post :=
  Met_inI ok_X4_lastOf.2.2.2.2.2 (Nat.le_of_ble_eq_true rfl) (fun p e s m below meth c ls E hP hl => B_X4_lastOf_0 E ha hw hP va_S.rf hl)
-- RoofWar$Laws.counting(II)LRoofWar$Law;
theorem dX4_counting_0 : decode cX4_counting 0 = .ok (.aload_n 0, 1) := by decide +kernel
theorem dX4_counting_1 : decode cX4_counting 1 = .ok (.iload_n 1, 1) := by decide +kernel
theorem dX4_counting_2 : decode cX4_counting 2 = .ok (.iload_n 2, 1) := by decide +kernel
theorem dX4_counting_3 : decode cX4_counting 3 = .ok (.invokevirtual 27, 3) := by decide +kernel
theorem dX4_counting_6 : decode cX4_counting 6 = .ok (.istore_n 3, 1) := by decide +kernel
theorem dX4_counting_7 : decode cX4_counting 7 = .ok (.iload_n 3, 1) := by decide +kernel
theorem dX4_counting_8 : decode cX4_counting 8 = .ok (.ldc 26, 2) := by decide +kernel
theorem dX4_counting_10 : decode cX4_counting 10 = .ok (.if_icmp .ne 7, 3) := by decide +kernel
theorem dX4_counting_13 : decode cX4_counting 13 = .ok (.aconst_null, 1) := by decide +kernel
theorem dX4_counting_14 : decode cX4_counting 14 = .ok (.goto 9, 3) := by decide +kernel
theorem dX4_counting_17 : decode cX4_counting 17 = .ok (.aload_n 0, 1) := by decide +kernel
theorem dX4_counting_18 : decode cX4_counting 18 = .ok (.getfield 11, 3) := by decide +kernel
theorem dX4_counting_21 : decode cX4_counting 21 = .ok (.iload_n 3, 1) := by decide +kernel
theorem dX4_counting_22 : decode cX4_counting 22 = .ok (.aaload, 1) := by decide +kernel
theorem dX4_counting_23 : decode cX4_counting 23 = .ok (.areturn, 1) := by decide +kernel
theorem ok_X4_counting : okV yX4_counting cX4_counting 4 (some (.object "RoofWar$Law")) 2 := ⟨mw_517, mw_518, mw_75, mw_519, by decide +kernel, by decide +kernel⟩
abbrev rm_X4_counting : Room := { frames := 1, cells := 0, slots := 0, locals := 23 }
def w_X4_counting (post : Option Nat → St → Prop) (σ : St) (x1 : Int32) (x2 : Int32) : Prop := w_X4_lastOf (fun r1 s1 => ((¬ r1 = ((-1000000005)) → (vp_in r1 15 ∧ (post (some r1.toNatClampNeg) s1))) ∧ (r1 = ((-1000000005)) → (post none s1)))) σ x1 x2
theorem B_X4_counting_0 (E : EnvW p s m args meth c D cy regsC ad "RoofWar$Laws" cX4_counting 4 (some (.object "RoofWar$Law"))) (ha : Apart regsC ad) {post : Option Nat → St → Prop} {σ : St} {x1 : Int32} {x2 : Int32} (hw : w_X4_counting post σ x1 x2) {H : Heap} {locs : List Loc} {ls : Array Slot} (hP : va_P D CLS (wC cy ad σ) H) (hS : va_S (AC ad s.heap.size) s.heap H locs) (hl : lv_has ls 4 [(0, .ref (ad 14 0)), (1, .int x1), (2, .int x2)]) : W p l e rm_X4_counting s m args below meth c H locs 0 0 (MQ below (QQ D cy (cellC cy ad) regsC ad s.heap.size (fun r u => ∃ o : Option Nat, r = o.map (ad 17) ∧ (∀ j, o = some j → j < 15) ∧ post o u)) args s 0 0 (AC ad s.heap.size)) (F0 m 0 ls []) := by
  obtain ⟨hx, hb, -⟩ := id E
  unfold w_X4_counting at hw
  refine lv_aload_n hx hb dX4_counting_0 rfl (lv_at hl 0 rfl) ?_
  refine lv_iload_n hx hb dX4_counting_1 rfl (lv_at hl 1 rfl) ?_
  refine lv_iload_n hx hb dX4_counting_2 rfl (lv_at hl 2 rfl) ?_
  refine g_cVi (As := [.int x1, .int x2]) (rest := []) E hl.1 (c_X4_lastOf l D cy ad ha hw _) ok_X4_lastOf mw_520 ⟨(Nat.le_of_ble_eq_true rfl), (Nat.le_of_ble_eq_true rfl)⟩ ⟨rfl, rfl⟩ rC14 rfl rfl rfl rfl rfl (Nat.le_of_ble_eq_true rfl) ⟨Nat.zero_le _, Nat.zero_le _⟩ hP hS dX4_counting_3 (fun r1 s1 hw H locs hP hS => ?_)
  refine lv_istore_n (lv' := [(3, .int r1), (0, .ref (ad 14 0)), (1, .int x1), (2, .int x2)]) hx hb dX4_counting_6 rfl hl (by decide) rfl (fun ls hl => ?_)
  refine lv_iload_n hx hb dX4_counting_7 rfl (lv_at hl 0 rfl) ?_
  refine g_ldc (v := -1000000005) E mw_524 dX4_counting_8 ?_
  refine lv_icmp_ne (tgt := 17) hx hb dX4_counting_10 (by decide) (fun c2 => ?_) (fun c2 => ?_)
  · replace hw := hw.1 c2
    refine lv_aload_n hx hb dX4_counting_17 rfl (lv_at hl 1 rfl) ?_
    refine fX4_0 E hP mw_131 dX4_counting_18 ?_
    refine lv_iload_n hx hb dX4_counting_21 rfl (lv_at hl 0 rfl) ?_
    obtain ⟨h3, hw⟩ := hw
    refine aC15 E hP h3 dX4_counting_22 ?_
    exact g_qret (v := some (ad 17 r1.toNatClampNeg)) E ⟨some r1.toNatClampNeg, rfl, (fun j hj => by cases hj; exact (vp_lt h3)), hw⟩ hP hS dX4_counting_23
  · replace hw := hw.2 c2
    refine lv_null hx hb dX4_counting_13 ?_
    refine lv_goto (tgt := 23) hx hb dX4_counting_14 (by decide) ?_
    exact g_qret (v := none) E ⟨none, rfl, (fun j hj => by cases hj), hw⟩ hP hS dX4_counting_23
theorem c_X4_counting (l : Launch) (D : va_G) (cy : Nat → ClassId) (ad : Nat → Nat → Nat) (ha : Apart regsC ad) {post : Option Nat → St → Prop} {σ : St} {x1 : Int32} {x2 : Int32} (hw : w_X4_counting post σ x1 x2) (sz : Nat) : MetQ l yX4_counting cX4_counting 4 (.object "RoofWar$Law") rm_X4_counting [.ref (ad 14 0), .int x1, .int x2] D cy (cellC cy ad) regsC ad σ sz (fun r u => ∃ o : Option Nat, r = o.map (ad 17) ∧ (∀ j, o = some j → j < 15) ∧ post o u) :=
  Met_inQ ok_X4_counting.2.2.2.2.2 (Nat.le_of_ble_eq_true rfl) (fun p e s m below meth c ls E hP hl => B_X4_counting_0 E ha hw hP va_S.rf hl)
-- RoofWar$Laws.named(IIII)I
theorem dX4_named_0 : decode cX4_named 0 = .ok (.iload_n 0, 1) := by decide +kernel
theorem dX4_named_1 : decode cX4_named 1 = .ok (.ifCond .ne 7, 3) := by decide +kernel
theorem dX4_named_4 : decode cX4_named 4 = .ok (.iload_n 1, 1) := by decide +kernel
theorem dX4_named_5 : decode cX4_named 5 = .ok (.goto 13, 3) := by decide +kernel
theorem dX4_named_8 : decode cX4_named 8 = .ok (.iload_n 0, 1) := by decide +kernel
theorem dX4_named_9 : decode cX4_named 9 = .ok (.iconst 1, 1) := by decide +kernel
theorem dX4_named_10 : decode cX4_named 10 = .ok (.if_icmp .ne 7, 3) := by decide +kernel
theorem dX4_named_13 : decode cX4_named 13 = .ok (.iload_n 2, 1) := by decide +kernel
theorem dX4_named_14 : decode cX4_named 14 = .ok (.goto 4, 3) := by decide +kernel
theorem dX4_named_17 : decode cX4_named 17 = .ok (.iload_n 3, 1) := by decide +kernel
theorem dX4_named_18 : decode cX4_named 18 = .ok (.ireturn, 1) := by decide +kernel
theorem ok_X4_named : okS yX4_named cX4_named 4 (some .int) 4 := ⟨mw_530, mw_75, mw_531, by decide +kernel, by decide +kernel⟩
abbrev rm_X4_named : Room := { frames := 0, cells := 0, slots := 0, locals := 0 }
def w_X4_named (post : Int32 → St → Prop) (σ : St) (x0 : Int32) (x1 : Int32) (x2 : Int32) (x3 : Int32) : Prop := ((¬ x0 = 0 → (((¬ x0 = 1 → (post x3 σ)) ∧ (x0 = 1 → (post x2 σ))))) ∧ (x0 = 0 → (post x1 σ)))
theorem B_X4_named_0 (E : EnvW p s m args meth c D cy regsC ad "RoofWar$Laws" cX4_named 4 (some .int)) (ha : Apart regsC ad) {post : Int32 → St → Prop} {σ : St} {x0 : Int32} {x1 : Int32} {x2 : Int32} {x3 : Int32} (hw : w_X4_named post σ x0 x1 x2 x3) {H : Heap} {locs : List Loc} {ls : Array Slot} (hP : va_P D CLS (wC cy ad σ) H) (hS : va_S (AC ad s.heap.size) s.heap H locs) (hl : lv_has ls 4 [(0, .int x0), (1, .int x1), (2, .int x2), (3, .int x3)]) : W p l e rm_X4_named s m args below meth c H locs 0 0 (MQ below (QI D cy (cellC cy ad) regsC ad s.heap.size post) args s 0 0 (AC ad s.heap.size)) (F0 m 0 ls []) := by
  obtain ⟨hx, hb, -⟩ := id E
  unfold w_X4_named at hw
  refine lv_iload_n hx hb dX4_named_0 rfl (lv_at hl 0 rfl) ?_
  refine lv_if_ne (tgt := 8) hx hb dX4_named_1 (by decide) (fun c1 => ?_) (fun c1 => ?_)
  · replace hw := hw.1 c1
    refine lv_iload_n hx hb dX4_named_8 rfl (lv_at hl 0 rfl) ?_
    refine lv_iconst (v := 1) hx hb dX4_named_9 (by decide) ?_
    refine lv_icmp_ne (tgt := 17) hx hb dX4_named_10 (by decide) (fun c2 => ?_) (fun c2 => ?_)
    · replace hw := hw.1 c2
      refine lv_iload_n hx hb dX4_named_17 rfl (lv_at hl 3 rfl) ?_
      exact g_iret E hw hP hS dX4_named_18
    · replace hw := hw.2 c2
      refine lv_iload_n hx hb dX4_named_13 rfl (lv_at hl 2 rfl) ?_
      refine lv_goto (tgt := 18) hx hb dX4_named_14 (by decide) ?_
      exact g_iret E hw hP hS dX4_named_18
  · replace hw := hw.2 c1
    refine lv_iload_n hx hb dX4_named_4 rfl (lv_at hl 1 rfl) ?_
    refine lv_goto (tgt := 18) hx hb dX4_named_5 (by decide) ?_
    exact g_iret E hw hP hS dX4_named_18
theorem c_X4_named (l : Launch) (D : va_G) (cy : Nat → ClassId) (ad : Nat → Nat → Nat) (ha : Apart regsC ad) {post : Int32 → St → Prop} {σ : St} {x0 : Int32} {x1 : Int32} {x2 : Int32} {x3 : Int32} (hw : w_X4_named post σ x0 x1 x2 x3) (sz : Nat) : MetI l yX4_named cX4_named 4 .int rm_X4_named [.int x0, .int x1, .int x2, .int x3] D cy (cellC cy ad) regsC ad σ sz post :=
  Met_inI ok_X4_named.2.2.2.2 (Nat.le_of_ble_eq_true rfl) (fun p e s m below meth c ls E hP hl => B_X4_named_0 E ha hw hP va_S.rf hl)
-- RoofWar$Laws.joined(III)I
theorem dX4_joined_0 : decode cX4_joined 0 = .ok (.iload_n 0, 1) := by decide +kernel
theorem dX4_joined_1 : decode cX4_joined 1 = .ok (.lookupswitch 148 #[(38, 89), (42, 144), (43, 136), (45, 140), (60, 103), (61, 114), (62, 125), (124, 75)], 75) := by decide +kernel
theorem dX4_joined_76 : decode cX4_joined 76 = .ok (.iload_n 1, 1) := by decide +kernel
theorem dX4_joined_77 : decode cX4_joined 77 = .ok (.ifCond .ne 7, 3) := by decide +kernel
theorem dX4_joined_80 : decode cX4_joined 80 = .ok (.iload_n 2, 1) := by decide +kernel
theorem dX4_joined_81 : decode cX4_joined 81 = .ok (.ifCond .eq 7, 3) := by decide +kernel
theorem dX4_joined_84 : decode cX4_joined 84 = .ok (.iconst 1, 1) := by decide +kernel
theorem dX4_joined_85 : decode cX4_joined 85 = .ok (.goto 4, 3) := by decide +kernel
theorem dX4_joined_88 : decode cX4_joined 88 = .ok (.iconst 0, 1) := by decide +kernel
theorem dX4_joined_89 : decode cX4_joined 89 = .ok (.ireturn, 1) := by decide +kernel
theorem dX4_joined_90 : decode cX4_joined 90 = .ok (.iload_n 1, 1) := by decide +kernel
theorem dX4_joined_91 : decode cX4_joined 91 = .ok (.ifCond .eq 11, 3) := by decide +kernel
theorem dX4_joined_94 : decode cX4_joined 94 = .ok (.iload_n 2, 1) := by decide +kernel
theorem dX4_joined_95 : decode cX4_joined 95 = .ok (.ifCond .eq 7, 3) := by decide +kernel
theorem dX4_joined_98 : decode cX4_joined 98 = .ok (.iconst 1, 1) := by decide +kernel
theorem dX4_joined_99 : decode cX4_joined 99 = .ok (.goto 4, 3) := by decide +kernel
theorem dX4_joined_102 : decode cX4_joined 102 = .ok (.iconst 0, 1) := by decide +kernel
theorem dX4_joined_103 : decode cX4_joined 103 = .ok (.ireturn, 1) := by decide +kernel
theorem dX4_joined_104 : decode cX4_joined 104 = .ok (.iload_n 1, 1) := by decide +kernel
theorem dX4_joined_105 : decode cX4_joined 105 = .ok (.iload_n 2, 1) := by decide +kernel
theorem dX4_joined_106 : decode cX4_joined 106 = .ok (.if_icmp .ge 7, 3) := by decide +kernel
theorem dX4_joined_109 : decode cX4_joined 109 = .ok (.iconst 1, 1) := by decide +kernel
theorem dX4_joined_110 : decode cX4_joined 110 = .ok (.goto 4, 3) := by decide +kernel
theorem dX4_joined_113 : decode cX4_joined 113 = .ok (.iconst 0, 1) := by decide +kernel
theorem dX4_joined_114 : decode cX4_joined 114 = .ok (.ireturn, 1) := by decide +kernel
theorem dX4_joined_115 : decode cX4_joined 115 = .ok (.iload_n 1, 1) := by decide +kernel
theorem dX4_joined_116 : decode cX4_joined 116 = .ok (.iload_n 2, 1) := by decide +kernel
theorem dX4_joined_117 : decode cX4_joined 117 = .ok (.if_icmp .ne 7, 3) := by decide +kernel
theorem dX4_joined_120 : decode cX4_joined 120 = .ok (.iconst 1, 1) := by decide +kernel
theorem dX4_joined_121 : decode cX4_joined 121 = .ok (.goto 4, 3) := by decide +kernel
theorem dX4_joined_124 : decode cX4_joined 124 = .ok (.iconst 0, 1) := by decide +kernel
theorem dX4_joined_125 : decode cX4_joined 125 = .ok (.ireturn, 1) := by decide +kernel
theorem dX4_joined_126 : decode cX4_joined 126 = .ok (.iload_n 1, 1) := by decide +kernel
theorem dX4_joined_127 : decode cX4_joined 127 = .ok (.iload_n 2, 1) := by decide +kernel
theorem dX4_joined_128 : decode cX4_joined 128 = .ok (.if_icmp .le 7, 3) := by decide +kernel
theorem dX4_joined_131 : decode cX4_joined 131 = .ok (.iconst 1, 1) := by decide +kernel
theorem dX4_joined_132 : decode cX4_joined 132 = .ok (.goto 4, 3) := by decide +kernel
theorem dX4_joined_135 : decode cX4_joined 135 = .ok (.iconst 0, 1) := by decide +kernel
theorem dX4_joined_136 : decode cX4_joined 136 = .ok (.ireturn, 1) := by decide +kernel
theorem dX4_joined_137 : decode cX4_joined 137 = .ok (.iload_n 1, 1) := by decide +kernel
theorem dX4_joined_138 : decode cX4_joined 138 = .ok (.iload_n 2, 1) := by decide +kernel
theorem dX4_joined_139 : decode cX4_joined 139 = .ok (.iadd, 1) := by decide +kernel
theorem dX4_joined_140 : decode cX4_joined 140 = .ok (.ireturn, 1) := by decide +kernel
theorem dX4_joined_141 : decode cX4_joined 141 = .ok (.iload_n 1, 1) := by decide +kernel
theorem dX4_joined_142 : decode cX4_joined 142 = .ok (.iload_n 2, 1) := by decide +kernel
theorem dX4_joined_143 : decode cX4_joined 143 = .ok (.isub, 1) := by decide +kernel
theorem dX4_joined_144 : decode cX4_joined 144 = .ok (.ireturn, 1) := by decide +kernel
theorem dX4_joined_145 : decode cX4_joined 145 = .ok (.iload_n 1, 1) := by decide +kernel
theorem dX4_joined_146 : decode cX4_joined 146 = .ok (.iload_n 2, 1) := by decide +kernel
theorem dX4_joined_147 : decode cX4_joined 147 = .ok (.imul, 1) := by decide +kernel
theorem dX4_joined_148 : decode cX4_joined 148 = .ok (.ireturn, 1) := by decide +kernel
theorem dX4_joined_149 : decode cX4_joined 149 = .ok (.iload_n 2, 1) := by decide +kernel
theorem dX4_joined_150 : decode cX4_joined 150 = .ok (.ifCond .ne 7, 3) := by decide +kernel
theorem dX4_joined_153 : decode cX4_joined 153 = .ok (.iconst 0, 1) := by decide +kernel
theorem dX4_joined_154 : decode cX4_joined 154 = .ok (.goto 6, 3) := by decide +kernel
theorem dX4_joined_157 : decode cX4_joined 157 = .ok (.iload_n 1, 1) := by decide +kernel
theorem dX4_joined_158 : decode cX4_joined 158 = .ok (.iload_n 2, 1) := by decide +kernel
theorem dX4_joined_159 : decode cX4_joined 159 = .ok (.idiv, 1) := by decide +kernel
theorem dX4_joined_160 : decode cX4_joined 160 = .ok (.ireturn, 1) := by decide +kernel
theorem ok_X4_joined : okS yX4_joined cX4_joined 3 (some .int) 3 := ⟨mw_533, mw_75, mw_534, by decide +kernel, by decide +kernel⟩
abbrev rm_X4_joined : Room := { frames := 0, cells := 0, slots := 0, locals := 0 }
def w_X4_joined (post : Int32 → St → Prop) (σ : St) (x0 : Int32) (x1 : Int32) (x2 : Int32) : Prop := ((x0 = 38 → (((x1 = 0 → (post 0 σ)) ∧ (¬ x1 = 0 → (((x2 = 0 → (post 0 σ)) ∧ (¬ x2 = 0 → (post 1 σ)))))))) ∧ (¬ x0 = 38 → (((x0 = 42 → (post (x1 * x2) σ)) ∧ (¬ x0 = 42 → (((x0 = 43 → (post (x1 + x2) σ)) ∧ (¬ x0 = 43 → (((x0 = 45 → (post (x1 - x2) σ)) ∧ (¬ x0 = 45 → (((x0 = 60 → (((x2 ≤ x1 → (post 0 σ)) ∧ (¬ x2 ≤ x1 → (post 1 σ))))) ∧ (¬ x0 = 60 → (((x0 = 61 → (((¬ x1 = x2 → (post 0 σ)) ∧ (x1 = x2 → (post 1 σ))))) ∧ (¬ x0 = 61 → (((x0 = 62 → (((x1 ≤ x2 → (post 0 σ)) ∧ (¬ x1 ≤ x2 → (post 1 σ))))) ∧ (¬ x0 = 62 → (((x0 = 124 → (((¬ x1 = 0 → (post 1 σ)) ∧ (x1 = 0 → (((x2 = 0 → (post 0 σ)) ∧ (¬ x2 = 0 → (post 1 σ)))))))) ∧ (¬ x0 = 124 → (((¬ x2 = 0 → (¬ x2 = 0 ∧ (post (x1 / x2) σ))) ∧ (x2 = 0 → (post 0 σ)))))))))))))))))))))))))))
theorem B_X4_joined_0 (E : EnvW p s m args meth c D cy regsC ad "RoofWar$Laws" cX4_joined 3 (some .int)) (ha : Apart regsC ad) {post : Int32 → St → Prop} {σ : St} {x0 : Int32} {x1 : Int32} {x2 : Int32} (hw : w_X4_joined post σ x0 x1 x2) {H : Heap} {locs : List Loc} {ls : Array Slot} (hP : va_P D CLS (wC cy ad σ) H) (hS : va_S (AC ad s.heap.size) s.heap H locs) (hl : lv_has ls 3 [(0, .int x0), (1, .int x1), (2, .int x2)]) : W p l e rm_X4_joined s m args below meth c H locs 0 0 (MQ below (QI D cy (cellC cy ad) regsC ad s.heap.size post) args s 0 0 (AC ad s.heap.size)) (F0 m 0 ls []) := by
  obtain ⟨hx, hb, -⟩ := id E
  unfold w_X4_joined at hw
  refine lv_iload_n hx hb dX4_joined_0 rfl (lv_at hl 0 rfl) ?_
  by_cases c1 : x0 = 38
  · replace hw := hw.1 c1
    refine lv_lookup (off := 89) (tgt := 90) hx hb dX4_joined_1 (by decide) (by rw [c1]; rfl) (by decide) ?_
    refine lv_iload_n hx hb dX4_joined_90 rfl (lv_at hl 1 rfl) ?_
    refine lv_if_eq (tgt := 102) hx hb dX4_joined_91 (by decide) (fun c2 => ?_) (fun c2 => ?_)
    · replace hw := hw.1 c2
      refine lv_iconst (v := 0) hx hb dX4_joined_102 (by decide) ?_
      exact g_iret E hw hP hS dX4_joined_103
    · replace hw := hw.2 c2
      refine lv_iload_n hx hb dX4_joined_94 rfl (lv_at hl 2 rfl) ?_
      refine lv_if_eq (tgt := 102) hx hb dX4_joined_95 (by decide) (fun c3 => ?_) (fun c3 => ?_)
      · replace hw := hw.1 c3
        refine lv_iconst (v := 0) hx hb dX4_joined_102 (by decide) ?_
        exact g_iret E hw hP hS dX4_joined_103
      · replace hw := hw.2 c3
        refine lv_iconst (v := 1) hx hb dX4_joined_98 (by decide) ?_
        refine lv_goto (tgt := 103) hx hb dX4_joined_99 (by decide) ?_
        exact g_iret E hw hP hS dX4_joined_103
  · replace hw := hw.2 c1
    by_cases c4 : x0 = 42
    · replace hw := hw.1 c4
      refine lv_lookup (off := 144) (tgt := 145) hx hb dX4_joined_1 (by decide) (by rw [c4]; rfl) (by decide) ?_
      refine lv_iload_n hx hb dX4_joined_145 rfl (lv_at hl 1 rfl) ?_
      refine lv_iload_n hx hb dX4_joined_146 rfl (lv_at hl 2 rfl) ?_
      refine lv_imul hx hb dX4_joined_147 ?_
      exact g_iret E hw hP hS dX4_joined_148
    · replace hw := hw.2 c4
      by_cases c5 : x0 = 43
      · replace hw := hw.1 c5
        refine lv_lookup (off := 136) (tgt := 137) hx hb dX4_joined_1 (by decide) (by rw [c5]; rfl) (by decide) ?_
        refine lv_iload_n hx hb dX4_joined_137 rfl (lv_at hl 1 rfl) ?_
        refine lv_iload_n hx hb dX4_joined_138 rfl (lv_at hl 2 rfl) ?_
        refine lv_iadd hx hb dX4_joined_139 ?_
        exact g_iret E hw hP hS dX4_joined_140
      · replace hw := hw.2 c5
        by_cases c6 : x0 = 45
        · replace hw := hw.1 c6
          refine lv_lookup (off := 140) (tgt := 141) hx hb dX4_joined_1 (by decide) (by rw [c6]; rfl) (by decide) ?_
          refine lv_iload_n hx hb dX4_joined_141 rfl (lv_at hl 1 rfl) ?_
          refine lv_iload_n hx hb dX4_joined_142 rfl (lv_at hl 2 rfl) ?_
          refine lv_isub hx hb dX4_joined_143 ?_
          exact g_iret E hw hP hS dX4_joined_144
        · replace hw := hw.2 c6
          by_cases c7 : x0 = 60
          · replace hw := hw.1 c7
            refine lv_lookup (off := 103) (tgt := 104) hx hb dX4_joined_1 (by decide) (by rw [c7]; rfl) (by decide) ?_
            refine lv_iload_n hx hb dX4_joined_104 rfl (lv_at hl 1 rfl) ?_
            refine lv_iload_n hx hb dX4_joined_105 rfl (lv_at hl 2 rfl) ?_
            refine lv_icmp_ge (tgt := 113) hx hb dX4_joined_106 (by decide) (fun c8 => ?_) (fun c8 => ?_)
            · replace hw := hw.1 c8
              refine lv_iconst (v := 0) hx hb dX4_joined_113 (by decide) ?_
              exact g_iret E hw hP hS dX4_joined_114
            · replace hw := hw.2 c8
              refine lv_iconst (v := 1) hx hb dX4_joined_109 (by decide) ?_
              refine lv_goto (tgt := 114) hx hb dX4_joined_110 (by decide) ?_
              exact g_iret E hw hP hS dX4_joined_114
          · replace hw := hw.2 c7
            by_cases c9 : x0 = 61
            · replace hw := hw.1 c9
              refine lv_lookup (off := 114) (tgt := 115) hx hb dX4_joined_1 (by decide) (by rw [c9]; rfl) (by decide) ?_
              refine lv_iload_n hx hb dX4_joined_115 rfl (lv_at hl 1 rfl) ?_
              refine lv_iload_n hx hb dX4_joined_116 rfl (lv_at hl 2 rfl) ?_
              refine lv_icmp_ne (tgt := 124) hx hb dX4_joined_117 (by decide) (fun c10 => ?_) (fun c10 => ?_)
              · replace hw := hw.1 c10
                refine lv_iconst (v := 0) hx hb dX4_joined_124 (by decide) ?_
                exact g_iret E hw hP hS dX4_joined_125
              · replace hw := hw.2 c10
                refine lv_iconst (v := 1) hx hb dX4_joined_120 (by decide) ?_
                refine lv_goto (tgt := 125) hx hb dX4_joined_121 (by decide) ?_
                exact g_iret E hw hP hS dX4_joined_125
            · replace hw := hw.2 c9
              by_cases c11 : x0 = 62
              · replace hw := hw.1 c11
                refine lv_lookup (off := 125) (tgt := 126) hx hb dX4_joined_1 (by decide) (by rw [c11]; rfl) (by decide) ?_
                refine lv_iload_n hx hb dX4_joined_126 rfl (lv_at hl 1 rfl) ?_
                refine lv_iload_n hx hb dX4_joined_127 rfl (lv_at hl 2 rfl) ?_
                refine lv_icmp_le (tgt := 135) hx hb dX4_joined_128 (by decide) (fun c12 => ?_) (fun c12 => ?_)
                · replace hw := hw.1 c12
                  refine lv_iconst (v := 0) hx hb dX4_joined_135 (by decide) ?_
                  exact g_iret E hw hP hS dX4_joined_136
                · replace hw := hw.2 c12
                  refine lv_iconst (v := 1) hx hb dX4_joined_131 (by decide) ?_
                  refine lv_goto (tgt := 136) hx hb dX4_joined_132 (by decide) ?_
                  exact g_iret E hw hP hS dX4_joined_136
              · replace hw := hw.2 c11
                by_cases c13 : x0 = 124
                · replace hw := hw.1 c13
                  refine lv_lookup (off := 75) (tgt := 76) hx hb dX4_joined_1 (by decide) (by rw [c13]; rfl) (by decide) ?_
                  refine lv_iload_n hx hb dX4_joined_76 rfl (lv_at hl 1 rfl) ?_
                  refine lv_if_ne (tgt := 84) hx hb dX4_joined_77 (by decide) (fun c14 => ?_) (fun c14 => ?_)
                  · replace hw := hw.1 c14
                    refine lv_iconst (v := 1) hx hb dX4_joined_84 (by decide) ?_
                    refine lv_goto (tgt := 89) hx hb dX4_joined_85 (by decide) ?_
                    exact g_iret E hw hP hS dX4_joined_89
                  · replace hw := hw.2 c14
                    refine lv_iload_n hx hb dX4_joined_80 rfl (lv_at hl 2 rfl) ?_
                    refine lv_if_eq (tgt := 88) hx hb dX4_joined_81 (by decide) (fun c15 => ?_) (fun c15 => ?_)
                    · replace hw := hw.1 c15
                      refine lv_iconst (v := 0) hx hb dX4_joined_88 (by decide) ?_
                      exact g_iret E hw hP hS dX4_joined_89
                    · replace hw := hw.2 c15
                      refine lv_iconst (v := 1) hx hb dX4_joined_84 (by decide) ?_
                      refine lv_goto (tgt := 89) hx hb dX4_joined_85 (by decide) ?_
                      exact g_iret E hw hP hS dX4_joined_89
                · replace hw := hw.2 c13
                  have e1 := ne_toI c1 (n := 38) (k := 38) (by decide)
                  have e4 := ne_toI c4 (n := 42) (k := 42) (by decide)
                  have e5 := ne_toI c5 (n := 43) (k := 43) (by decide)
                  have e6 := ne_toI c6 (n := 45) (k := 45) (by decide)
                  have e7 := ne_toI c7 (n := 60) (k := 60) (by decide)
                  have e9 := ne_toI c9 (n := 61) (k := 61) (by decide)
                  have e11 := ne_toI c11 (n := 62) (k := 62) (by decide)
                  have e13 := ne_toI c13 (n := 124) (k := 124) (by decide)
                  refine lv_lookup (off := 148) (tgt := 149) hx hb dX4_joined_1 (by decide) (by simp [Op.lookupswitch.offset, e1, Ne.symm e1, e4, Ne.symm e4, e5, Ne.symm e5, e6, Ne.symm e6, e7, Ne.symm e7, e9, Ne.symm e9, e11, Ne.symm e11, e13, Ne.symm e13]) (by decide) ?_
                  refine lv_iload_n hx hb dX4_joined_149 rfl (lv_at hl 2 rfl) ?_
                  refine lv_if_ne (tgt := 157) hx hb dX4_joined_150 (by decide) (fun c16 => ?_) (fun c16 => ?_)
                  · replace hw := hw.1 c16
                    refine lv_iload_n hx hb dX4_joined_157 rfl (lv_at hl 1 rfl) ?_
                    refine lv_iload_n hx hb dX4_joined_158 rfl (lv_at hl 2 rfl) ?_
                    obtain ⟨h17, hw⟩ := hw
                    refine lv_idiv hx hb dX4_joined_159 h17 ?_
                    exact g_iret E hw hP hS dX4_joined_160
                  · replace hw := hw.2 c16
                    refine lv_iconst (v := 0) hx hb dX4_joined_153 (by decide) ?_
                    refine lv_goto (tgt := 160) hx hb dX4_joined_154 (by decide) ?_
                    exact g_iret E hw hP hS dX4_joined_160
theorem c_X4_joined (l : Launch) (D : va_G) (cy : Nat → ClassId) (ad : Nat → Nat → Nat) (ha : Apart regsC ad) {post : Int32 → St → Prop} {σ : St} {x0 : Int32} {x1 : Int32} {x2 : Int32} (hw : w_X4_joined post σ x0 x1 x2) (sz : Nat) : MetI l yX4_joined cX4_joined 3 .int rm_X4_joined [.int x0, .int x1, .int x2] D cy (cellC cy ad) regsC ad σ sz post :=
  Met_inI ok_X4_joined.2.2.2.2 (Nat.le_of_ble_eq_true rfl) (fun p e s m below meth c ls E hP hl => B_X4_joined_0 E ha hw hP va_S.rf hl)
-- RoofWar$Laws.workOut(LRoofWar$Law;III)I
theorem dX4_workOut_0 : decode cX4_workOut 0 = .ok (.iconst 0, 1) := by decide +kernel
theorem dX4_workOut_1 : decode cX4_workOut 1 = .ok (.istore 5, 2) := by decide +kernel
theorem dX4_workOut_3 : decode cX4_workOut 3 = .ok (.iconst 0, 1) := by decide +kernel
theorem dX4_workOut_4 : decode cX4_workOut 4 = .ok (.istore 6, 2) := by decide +kernel
theorem dX4_workOut_6 : decode cX4_workOut 6 = .ok (.iload 6, 2) := by decide +kernel
theorem dX4_workOut_8 : decode cX4_workOut 8 = .ok (.aload_n 1, 1) := by decide +kernel
theorem dX4_workOut_9 : decode cX4_workOut 9 = .ok (.getfield 57, 3) := by decide +kernel
theorem dX4_workOut_12 : decode cX4_workOut 12 = .ok (.if_icmp .ge 161, 3) := by decide +kernel
theorem dX4_workOut_15 : decode cX4_workOut 15 = .ok (.aload_n 1, 1) := by decide +kernel
theorem dX4_workOut_16 : decode cX4_workOut 16 = .ok (.getfield 60, 3) := by decide +kernel
theorem dX4_workOut_19 : decode cX4_workOut 19 = .ok (.iload 6, 2) := by decide +kernel
theorem dX4_workOut_21 : decode cX4_workOut 21 = .ok (.iaload, 1) := by decide +kernel
theorem dX4_workOut_22 : decode cX4_workOut 22 = .ok (.istore 7, 2) := by decide +kernel
theorem dX4_workOut_24 : decode cX4_workOut 24 = .ok (.iload 7, 2) := by decide +kernel
theorem dX4_workOut_26 : decode cX4_workOut 26 = .ok (.sipush 10000, 3) := by decide +kernel
theorem dX4_workOut_29 : decode cX4_workOut 29 = .ok (.if_icmp .ge 44, 3) := by decide +kernel
theorem dX4_workOut_32 : decode cX4_workOut 32 = .ok (.iload 5, 2) := by decide +kernel
theorem dX4_workOut_34 : decode cX4_workOut 34 = .ok (.bipush 96, 2) := by decide +kernel
theorem dX4_workOut_36 : decode cX4_workOut 36 = .ok (.if_icmp .ge 37, 3) := by decide +kernel
theorem dX4_workOut_39 : decode cX4_workOut 39 = .ok (.aload_n 0, 1) := by decide +kernel
theorem dX4_workOut_40 : decode cX4_workOut 40 = .ok (.getfield 17, 3) := by decide +kernel
theorem dX4_workOut_43 : decode cX4_workOut 43 = .ok (.iload 5, 2) := by decide +kernel
theorem dX4_workOut_45 : decode cX4_workOut 45 = .ok (.iload 7, 2) := by decide +kernel
theorem dX4_workOut_47 : decode cX4_workOut 47 = .ok (.ifCond .lt 8, 3) := by decide +kernel
theorem dX4_workOut_50 : decode cX4_workOut 50 = .ok (.iload 7, 2) := by decide +kernel
theorem dX4_workOut_52 : decode cX4_workOut 52 = .ok (.goto 14, 3) := by decide +kernel
theorem dX4_workOut_55 : decode cX4_workOut 55 = .ok (.iconst (-1), 1) := by decide +kernel
theorem dX4_workOut_56 : decode cX4_workOut 56 = .ok (.iload 7, 2) := by decide +kernel
theorem dX4_workOut_58 : decode cX4_workOut 58 = .ok (.isub, 1) := by decide +kernel
theorem dX4_workOut_59 : decode cX4_workOut 59 = .ok (.iload_n 2, 1) := by decide +kernel
theorem dX4_workOut_60 : decode cX4_workOut 60 = .ok (.iload_n 3, 1) := by decide +kernel
theorem dX4_workOut_61 : decode cX4_workOut 61 = .ok (.iload 4, 2) := by decide +kernel
theorem dX4_workOut_63 : decode cX4_workOut 63 = .ok (.invokestatic 63, 3) := by decide +kernel
theorem dX4_workOut_66 : decode cX4_workOut 66 = .ok (.iastore, 1) := by decide +kernel
theorem dX4_workOut_67 : decode cX4_workOut 67 = .ok (.iinc 5 1, 3) := by decide +kernel
theorem dX4_workOut_70 : decode cX4_workOut 70 = .ok (.goto 97, 3) := by decide +kernel
theorem dX4_workOut_73 : decode cX4_workOut 73 = .ok (.iload 7, 2) := by decide +kernel
theorem dX4_workOut_75 : decode cX4_workOut 75 = .ok (.sipush 10033, 3) := by decide +kernel
theorem dX4_workOut_78 : decode cX4_workOut 78 = .ok (.if_icmp .ne 38, 3) := by decide +kernel
theorem dX4_workOut_81 : decode cX4_workOut 81 = .ok (.iload 5, 2) := by decide +kernel
theorem dX4_workOut_83 : decode cX4_workOut 83 = .ok (.iconst 1, 1) := by decide +kernel
theorem dX4_workOut_84 : decode cX4_workOut 84 = .ok (.if_icmp .lt 32, 3) := by decide +kernel
theorem dX4_workOut_87 : decode cX4_workOut 87 = .ok (.aload_n 0, 1) := by decide +kernel
theorem dX4_workOut_88 : decode cX4_workOut 88 = .ok (.getfield 17, 3) := by decide +kernel
theorem dX4_workOut_91 : decode cX4_workOut 91 = .ok (.iload 5, 2) := by decide +kernel
theorem dX4_workOut_93 : decode cX4_workOut 93 = .ok (.iconst 1, 1) := by decide +kernel
theorem dX4_workOut_94 : decode cX4_workOut 94 = .ok (.isub, 1) := by decide +kernel
theorem dX4_workOut_95 : decode cX4_workOut 95 = .ok (.aload_n 0, 1) := by decide +kernel
theorem dX4_workOut_96 : decode cX4_workOut 96 = .ok (.getfield 17, 3) := by decide +kernel
theorem dX4_workOut_99 : decode cX4_workOut 99 = .ok (.iload 5, 2) := by decide +kernel
theorem dX4_workOut_101 : decode cX4_workOut 101 = .ok (.iconst 1, 1) := by decide +kernel
theorem dX4_workOut_102 : decode cX4_workOut 102 = .ok (.isub, 1) := by decide +kernel
theorem dX4_workOut_103 : decode cX4_workOut 103 = .ok (.iaload, 1) := by decide +kernel
theorem dX4_workOut_104 : decode cX4_workOut 104 = .ok (.ifCond .ne 7, 3) := by decide +kernel
theorem dX4_workOut_107 : decode cX4_workOut 107 = .ok (.iconst 1, 1) := by decide +kernel
theorem dX4_workOut_108 : decode cX4_workOut 108 = .ok (.goto 4, 3) := by decide +kernel
theorem dX4_workOut_111 : decode cX4_workOut 111 = .ok (.iconst 0, 1) := by decide +kernel
theorem dX4_workOut_112 : decode cX4_workOut 112 = .ok (.iastore, 1) := by decide +kernel
theorem dX4_workOut_113 : decode cX4_workOut 113 = .ok (.goto 54, 3) := by decide +kernel
theorem dX4_workOut_116 : decode cX4_workOut 116 = .ok (.iload 7, 2) := by decide +kernel
theorem dX4_workOut_118 : decode cX4_workOut 118 = .ok (.sipush 10000, 3) := by decide +kernel
theorem dX4_workOut_121 : decode cX4_workOut 121 = .ok (.if_icmp .le 46, 3) := by decide +kernel
theorem dX4_workOut_124 : decode cX4_workOut 124 = .ok (.iload 5, 2) := by decide +kernel
theorem dX4_workOut_126 : decode cX4_workOut 126 = .ok (.iconst 2, 1) := by decide +kernel
theorem dX4_workOut_127 : decode cX4_workOut 127 = .ok (.if_icmp .lt 40, 3) := by decide +kernel
theorem dX4_workOut_130 : decode cX4_workOut 130 = .ok (.iinc 5 (-1), 3) := by decide +kernel
theorem dX4_workOut_133 : decode cX4_workOut 133 = .ok (.aload_n 0, 1) := by decide +kernel
theorem dX4_workOut_134 : decode cX4_workOut 134 = .ok (.getfield 17, 3) := by decide +kernel
theorem dX4_workOut_137 : decode cX4_workOut 137 = .ok (.iload 5, 2) := by decide +kernel
theorem dX4_workOut_139 : decode cX4_workOut 139 = .ok (.iconst 1, 1) := by decide +kernel
theorem dX4_workOut_140 : decode cX4_workOut 140 = .ok (.isub, 1) := by decide +kernel
theorem dX4_workOut_141 : decode cX4_workOut 141 = .ok (.iload 7, 2) := by decide +kernel
theorem dX4_workOut_143 : decode cX4_workOut 143 = .ok (.sipush 10000, 3) := by decide +kernel
theorem dX4_workOut_146 : decode cX4_workOut 146 = .ok (.isub, 1) := by decide +kernel
theorem dX4_workOut_147 : decode cX4_workOut 147 = .ok (.aload_n 0, 1) := by decide +kernel
theorem dX4_workOut_148 : decode cX4_workOut 148 = .ok (.getfield 17, 3) := by decide +kernel
theorem dX4_workOut_151 : decode cX4_workOut 151 = .ok (.iload 5, 2) := by decide +kernel
theorem dX4_workOut_153 : decode cX4_workOut 153 = .ok (.iconst 1, 1) := by decide +kernel
theorem dX4_workOut_154 : decode cX4_workOut 154 = .ok (.isub, 1) := by decide +kernel
theorem dX4_workOut_155 : decode cX4_workOut 155 = .ok (.iaload, 1) := by decide +kernel
theorem dX4_workOut_156 : decode cX4_workOut 156 = .ok (.aload_n 0, 1) := by decide +kernel
theorem dX4_workOut_157 : decode cX4_workOut 157 = .ok (.getfield 17, 3) := by decide +kernel
theorem dX4_workOut_160 : decode cX4_workOut 160 = .ok (.iload 5, 2) := by decide +kernel
theorem dX4_workOut_162 : decode cX4_workOut 162 = .ok (.iaload, 1) := by decide +kernel
theorem dX4_workOut_163 : decode cX4_workOut 163 = .ok (.invokestatic 67, 3) := by decide +kernel
theorem dX4_workOut_166 : decode cX4_workOut 166 = .ok (.iastore, 1) := by decide +kernel
theorem dX4_workOut_167 : decode cX4_workOut 167 = .ok (.iinc 6 1, 3) := by decide +kernel
theorem dX4_workOut_170 : decode cX4_workOut 170 = .ok (.goto (-164), 3) := by decide +kernel
theorem dX4_workOut_173 : decode cX4_workOut 173 = .ok (.aload_n 0, 1) := by decide +kernel
theorem dX4_workOut_174 : decode cX4_workOut 174 = .ok (.getfield 17, 3) := by decide +kernel
theorem dX4_workOut_177 : decode cX4_workOut 177 = .ok (.iconst 0, 1) := by decide +kernel
theorem dX4_workOut_178 : decode cX4_workOut 178 = .ok (.iaload, 1) := by decide +kernel
theorem dX4_workOut_179 : decode cX4_workOut 179 = .ok (.ireturn, 1) := by decide +kernel
theorem ok_X4_workOut : okV yX4_workOut cX4_workOut 8 (some .int) 4 := ⟨mw_526, mw_527, mw_75, mw_528, by decide +kernel, by decide +kernel⟩
abbrev rm_X4_workOut : Room := { frames := 1, cells := 0, slots := 0, locals := 23 }
def b_X4_workOut_66 (K6 : St → Nat → Int32 → Int32 → Int32 → Int32 → Int32 → Prop) (post : Int32 → St → Prop) (σ : St) (y0 : Int32) (y1 : Int32) (i1 : Nat) (x2 : Int32) (x3 : Int32) (x4 : Int32) (x5 : Int32) (x6 : Int32) : Prop := vp_in y1 96 ∧ (∀ s2 : St, s2 = wr σ 16 0 y1.toNatClampNeg y0 → (∀ v3 : Int32, v3 = x5 + 1 → (∀ v4 : Int32, v4 = x6 + 1 → (K6 s2 i1 x2 x3 x4 v3 v4))))
theorem B_X4_workOut_66 (E : EnvW p s m args meth c D cy regsC ad "RoofWar$Laws" cX4_workOut 8 (some .int)) (ha : Apart regsC ad) {post : Int32 → St → Prop} {K6 : St → Nat → Int32 → Int32 → Int32 → Int32 → Int32 → Prop} (hk6 : ∀ (σ : St) (i1 : Nat) (x2 : Int32) (x3 : Int32) (x4 : Int32) (x5 : Int32) (x6 : Int32), i1 < 15 → K6 σ i1 x2 x3 x4 x5 x6 → ∀ (H : Heap) (locs : List Loc) (ls : Array Slot), va_P D CLS (wC cy ad σ) H → va_S (AC ad s.heap.size) s.heap H locs → lv_has ls 8 [(0, .ref (ad 14 0)), (1, .ref (ad 17 i1)), (2, .int x2), (3, .int x3), (4, .int x4), (5, .int x5), (6, .int x6)] → W p l e rm_X4_workOut s m args below meth c H locs 0 0 (MQ below (QI D cy (cellC cy ad) regsC ad s.heap.size post) args s 0 0 (AC ad s.heap.size)) (F0 m 6 ls [])) {σ : St} {y0 : Int32} {y1 : Int32} {i1 : Nat} {x2 : Int32} {x3 : Int32} {x4 : Int32} {x5 : Int32} {x6 : Int32} (hi1 : i1 < 15) (hw : b_X4_workOut_66 K6 post σ y0 y1 i1 x2 x3 x4 x5 x6) {H : Heap} {locs : List Loc} {ls : Array Slot} (hP : va_P D CLS (wC cy ad σ) H) (hS : va_S (AC ad s.heap.size) s.heap H locs) (hl : lv_has ls 8 [(0, .ref (ad 14 0)), (1, .ref (ad 17 i1)), (2, .int x2), (3, .int x3), (4, .int x4), (5, .int x5), (6, .int x6)]) : W p l e rm_X4_workOut s m args below meth c H locs 0 0 (MQ below (QI D cy (cellC cy ad) regsC ad s.heap.size post) args s 0 0 (AC ad s.heap.size)) (F0 m 66 ls [.int y0, .int y1, .ref (ad 16 0)]) := by
  obtain ⟨hx, hb, -⟩ := id E
  unfold b_X4_workOut_66 at hw
  obtain ⟨h1, hw⟩ := hw
  refine tC16 E ha h1 dX4_workOut_66 hP hS (fun s2 es2 H locs hP hS => ?_)
  replace hw := hw s2 es2
  obtain ⟨v3, ev3⟩ : ∃ y : Int32, y = x5 + 1 := ⟨_, rfl⟩
  replace hw := hw v3 ev3
  refine lv_iinc (v := v3) (lv' := [(5, .int v3), (0, .ref (ad 14 0)), (1, .ref (ad 17 i1)), (2, .int x2), (3, .int x3), (4, .int x4), (6, .int x6)]) hx hb dX4_workOut_67 hl (k := 5) rfl (by rw [ev3]; rfl) (by decide) rfl (fun ls hl => ?_)
  refine lv_goto (tgt := 167) hx hb dX4_workOut_70 (by decide) ?_
  obtain ⟨v4, ev4⟩ : ∃ y : Int32, y = x6 + 1 := ⟨_, rfl⟩
  replace hw := hw v4 ev4
  refine lv_iinc (v := v4) (lv' := [(6, .int v4), (5, .int v3), (0, .ref (ad 14 0)), (1, .ref (ad 17 i1)), (2, .int x2), (3, .int x3), (4, .int x4)]) hx hb dX4_workOut_167 hl (k := 6) rfl (by rw [ev4]; rfl) (by decide) rfl (fun ls hl => ?_)
  refine lv_goto (tgt := 6) hx hb dX4_workOut_170 (by decide) ?_
  exact hk6 s2 i1 x2 x3 x4 v3 v4 hi1 hw _ _ _ hP hS (lv_sub hl [2, 3, 4, 5, 6, 1, 0] rfl)
def b_X4_workOut_112 (K6 : St → Nat → Int32 → Int32 → Int32 → Int32 → Int32 → Prop) (post : Int32 → St → Prop) (σ : St) (y0 : Int32) (y1 : Int32) (i1 : Nat) (x2 : Int32) (x3 : Int32) (x4 : Int32) (x5 : Int32) (x6 : Int32) : Prop := vp_in y1 96 ∧ (∀ s2 : St, s2 = wr σ 16 0 y1.toNatClampNeg y0 → (∀ v3 : Int32, v3 = x6 + 1 → (K6 s2 i1 x2 x3 x4 x5 v3)))
theorem B_X4_workOut_112 (E : EnvW p s m args meth c D cy regsC ad "RoofWar$Laws" cX4_workOut 8 (some .int)) (ha : Apart regsC ad) {post : Int32 → St → Prop} {K6 : St → Nat → Int32 → Int32 → Int32 → Int32 → Int32 → Prop} (hk6 : ∀ (σ : St) (i1 : Nat) (x2 : Int32) (x3 : Int32) (x4 : Int32) (x5 : Int32) (x6 : Int32), i1 < 15 → K6 σ i1 x2 x3 x4 x5 x6 → ∀ (H : Heap) (locs : List Loc) (ls : Array Slot), va_P D CLS (wC cy ad σ) H → va_S (AC ad s.heap.size) s.heap H locs → lv_has ls 8 [(0, .ref (ad 14 0)), (1, .ref (ad 17 i1)), (2, .int x2), (3, .int x3), (4, .int x4), (5, .int x5), (6, .int x6)] → W p l e rm_X4_workOut s m args below meth c H locs 0 0 (MQ below (QI D cy (cellC cy ad) regsC ad s.heap.size post) args s 0 0 (AC ad s.heap.size)) (F0 m 6 ls [])) {σ : St} {y0 : Int32} {y1 : Int32} {i1 : Nat} {x2 : Int32} {x3 : Int32} {x4 : Int32} {x5 : Int32} {x6 : Int32} (hi1 : i1 < 15) (hw : b_X4_workOut_112 K6 post σ y0 y1 i1 x2 x3 x4 x5 x6) {H : Heap} {locs : List Loc} {ls : Array Slot} (hP : va_P D CLS (wC cy ad σ) H) (hS : va_S (AC ad s.heap.size) s.heap H locs) (hl : lv_has ls 8 [(0, .ref (ad 14 0)), (1, .ref (ad 17 i1)), (2, .int x2), (3, .int x3), (4, .int x4), (5, .int x5), (6, .int x6)]) : W p l e rm_X4_workOut s m args below meth c H locs 0 0 (MQ below (QI D cy (cellC cy ad) regsC ad s.heap.size post) args s 0 0 (AC ad s.heap.size)) (F0 m 112 ls [.int y0, .int y1, .ref (ad 16 0)]) := by
  obtain ⟨hx, hb, -⟩ := id E
  unfold b_X4_workOut_112 at hw
  obtain ⟨h1, hw⟩ := hw
  refine tC16 E ha h1 dX4_workOut_112 hP hS (fun s2 es2 H locs hP hS => ?_)
  replace hw := hw s2 es2
  refine lv_goto (tgt := 167) hx hb dX4_workOut_113 (by decide) ?_
  obtain ⟨v3, ev3⟩ : ∃ y : Int32, y = x6 + 1 := ⟨_, rfl⟩
  replace hw := hw v3 ev3
  refine lv_iinc (v := v3) (lv' := [(6, .int v3), (0, .ref (ad 14 0)), (1, .ref (ad 17 i1)), (2, .int x2), (3, .int x3), (4, .int x4), (5, .int x5)]) hx hb dX4_workOut_167 hl (k := 6) rfl (by rw [ev3]; rfl) (by decide) rfl (fun ls hl => ?_)
  refine lv_goto (tgt := 6) hx hb dX4_workOut_170 (by decide) ?_
  exact hk6 s2 i1 x2 x3 x4 x5 v3 hi1 hw _ _ _ hP hS (lv_sub hl [1, 2, 3, 4, 5, 6, 0] rfl)
def b_X4_workOut_116 (K6 : St → Nat → Int32 → Int32 → Int32 → Int32 → Int32 → Prop) (post : Int32 → St → Prop) (σ : St) (i1 : Nat) (x2 : Int32) (x3 : Int32) (x4 : Int32) (x5 : Int32) (x6 : Int32) (x7 : Int32) : Prop := ((x7 ≤ 10000 → (∀ v2 : Int32, v2 = x6 + 1 → (K6 σ i1 x2 x3 x4 x5 v2))) ∧ (¬ x7 ≤ 10000 → (((x5 < 2 → (∀ v4 : Int32, v4 = x6 + 1 → (K6 σ i1 x2 x3 x4 x5 v4))) ∧ (¬ x5 < 2 → (∀ v5 : Int32, v5 = x5 + (-1) → (vp_in (v5 - 1) 96 ∧ (vp_in v5 96 ∧ (w_X4_joined (fun r8 s8 => vp_in (v5 - 1) 96 ∧ (∀ s10 : St, s10 = wr s8 16 0 (v5 - 1).toNatClampNeg r8 → (∀ v11 : Int32, v11 = x6 + 1 → (K6 s10 i1 x2 x3 x4 v5 v11)))) σ (x7 - 10000) (σ 16 0 (v5 - 1).toNatClampNeg) (σ 16 0 v5.toNatClampNeg))))))))))
theorem B_X4_workOut_116 (E : EnvW p s m args meth c D cy regsC ad "RoofWar$Laws" cX4_workOut 8 (some .int)) (ha : Apart regsC ad) {post : Int32 → St → Prop} {K6 : St → Nat → Int32 → Int32 → Int32 → Int32 → Int32 → Prop} (hk6 : ∀ (σ : St) (i1 : Nat) (x2 : Int32) (x3 : Int32) (x4 : Int32) (x5 : Int32) (x6 : Int32), i1 < 15 → K6 σ i1 x2 x3 x4 x5 x6 → ∀ (H : Heap) (locs : List Loc) (ls : Array Slot), va_P D CLS (wC cy ad σ) H → va_S (AC ad s.heap.size) s.heap H locs → lv_has ls 8 [(0, .ref (ad 14 0)), (1, .ref (ad 17 i1)), (2, .int x2), (3, .int x3), (4, .int x4), (5, .int x5), (6, .int x6)] → W p l e rm_X4_workOut s m args below meth c H locs 0 0 (MQ below (QI D cy (cellC cy ad) regsC ad s.heap.size post) args s 0 0 (AC ad s.heap.size)) (F0 m 6 ls [])) {σ : St} {i1 : Nat} {x2 : Int32} {x3 : Int32} {x4 : Int32} {x5 : Int32} {x6 : Int32} {x7 : Int32} (hi1 : i1 < 15) (hw : b_X4_workOut_116 K6 post σ i1 x2 x3 x4 x5 x6 x7) {H : Heap} {locs : List Loc} {ls : Array Slot} (hP : va_P D CLS (wC cy ad σ) H) (hS : va_S (AC ad s.heap.size) s.heap H locs) (hl : lv_has ls 8 [(0, .ref (ad 14 0)), (1, .ref (ad 17 i1)), (2, .int x2), (3, .int x3), (4, .int x4), (5, .int x5), (6, .int x6), (7, .int x7)]) : W p l e rm_X4_workOut s m args below meth c H locs 0 0 (MQ below (QI D cy (cellC cy ad) regsC ad s.heap.size post) args s 0 0 (AC ad s.heap.size)) (F0 m 116 ls []) := by
  obtain ⟨hx, hb, -⟩ := id E
  unfold b_X4_workOut_116 at hw
  refine lv_iload hx hb dX4_workOut_116 (lv_at hl 7 rfl) ?_
  refine lv_sipush (v := 10000) hx hb dX4_workOut_118 (by decide) ?_
  refine lv_icmp_le (tgt := 167) hx hb dX4_workOut_121 (by decide) (fun c1 => ?_) (fun c1 => ?_)
  · replace hw := hw.1 c1
    obtain ⟨v2, ev2⟩ : ∃ y : Int32, y = x6 + 1 := ⟨_, rfl⟩
    replace hw := hw v2 ev2
    refine lv_iinc (v := v2) (lv' := [(6, .int v2), (0, .ref (ad 14 0)), (1, .ref (ad 17 i1)), (2, .int x2), (3, .int x3), (4, .int x4), (5, .int x5), (7, .int x7)]) hx hb dX4_workOut_167 hl (k := 6) rfl (by rw [ev2]; rfl) (by decide) rfl (fun ls hl => ?_)
    refine lv_goto (tgt := 6) hx hb dX4_workOut_170 (by decide) ?_
    exact hk6 σ i1 x2 x3 x4 x5 v2 hi1 hw _ _ _ hP hS (lv_sub hl [1, 2, 3, 4, 5, 6, 0] rfl)
  · replace hw := hw.2 c1
    refine lv_iload hx hb dX4_workOut_124 (lv_at hl 5 rfl) ?_
    refine lv_iconst (v := 2) hx hb dX4_workOut_126 (by decide) ?_
    refine lv_icmp_lt (tgt := 167) hx hb dX4_workOut_127 (by decide) (fun c3 => ?_) (fun c3 => ?_)
    · replace hw := hw.1 c3
      obtain ⟨v4, ev4⟩ : ∃ y : Int32, y = x6 + 1 := ⟨_, rfl⟩
      replace hw := hw v4 ev4
      refine lv_iinc (v := v4) (lv' := [(6, .int v4), (0, .ref (ad 14 0)), (1, .ref (ad 17 i1)), (2, .int x2), (3, .int x3), (4, .int x4), (5, .int x5), (7, .int x7)]) hx hb dX4_workOut_167 hl (k := 6) rfl (by rw [ev4]; rfl) (by decide) rfl (fun ls hl => ?_)
      refine lv_goto (tgt := 6) hx hb dX4_workOut_170 (by decide) ?_
      exact hk6 σ i1 x2 x3 x4 x5 v4 hi1 hw _ _ _ hP hS (lv_sub hl [1, 2, 3, 4, 5, 6, 0] rfl)
    · replace hw := hw.2 c3
      obtain ⟨v5, ev5⟩ : ∃ y : Int32, y = x5 + (-1) := ⟨_, rfl⟩
      replace hw := hw v5 ev5
      refine lv_iinc (v := v5) (lv' := [(5, .int v5), (0, .ref (ad 14 0)), (1, .ref (ad 17 i1)), (2, .int x2), (3, .int x3), (4, .int x4), (6, .int x6), (7, .int x7)]) hx hb dX4_workOut_130 hl (k := 5) rfl (by rw [ev5]; rfl) (by decide) rfl (fun ls hl => ?_)
      refine lv_aload_n hx hb dX4_workOut_133 rfl (lv_at hl 1 rfl) ?_
      refine fX4_1 E hP mw_133 dX4_workOut_134 ?_
      refine lv_iload hx hb dX4_workOut_137 (lv_at hl 0 rfl) ?_
      refine lv_iconst (v := 1) hx hb dX4_workOut_139 (by decide) ?_
      refine lv_isub hx hb dX4_workOut_140 ?_
      refine lv_iload hx hb dX4_workOut_141 (lv_at hl 7 rfl) ?_
      refine lv_sipush (v := 10000) hx hb dX4_workOut_143 (by decide) ?_
      refine lv_isub hx hb dX4_workOut_146 ?_
      refine lv_aload_n hx hb dX4_workOut_147 rfl (lv_at hl 1 rfl) ?_
      refine fX4_1 E hP mw_133 dX4_workOut_148 ?_
      refine lv_iload hx hb dX4_workOut_151 (lv_at hl 0 rfl) ?_
      refine lv_iconst (v := 1) hx hb dX4_workOut_153 (by decide) ?_
      refine lv_isub hx hb dX4_workOut_154 ?_
      obtain ⟨h6, hw⟩ := hw
      refine aC16 E hP h6 dX4_workOut_155 ?_
      refine lv_aload_n hx hb dX4_workOut_156 rfl (lv_at hl 1 rfl) ?_
      refine fX4_1 E hP mw_133 dX4_workOut_157 ?_
      refine lv_iload hx hb dX4_workOut_160 (lv_at hl 0 rfl) ?_
      obtain ⟨h7, hw⟩ := hw
      refine aC16 E hP h7 dX4_workOut_162 ?_
      refine g_cSi (As := [.int (x7 - 10000), .int (σ 16 0 (v5 - 1).toNatClampNeg), .int (σ 16 0 v5.toNatClampNeg)]) (rest := [.int (v5 - 1), .ref (ad 16 0)]) E hl.1 (c_X4_joined l D cy ad ha hw _) ok_X4_joined mw_532 ⟨(Nat.le_of_ble_eq_true rfl), (Nat.le_of_ble_eq_true rfl)⟩ ⟨rfl, rfl⟩ rfl rfl (Nat.le_of_ble_eq_true rfl) ⟨Nat.zero_le _, Nat.zero_le _⟩ hP hS dX4_workOut_163 (fun r8 s8 hw H locs hP hS => ?_)
      obtain ⟨h9, hw⟩ := hw
      refine tC16 E ha h9 dX4_workOut_166 hP hS (fun s10 es10 H locs hP hS => ?_)
      replace hw := hw s10 es10
      obtain ⟨v11, ev11⟩ : ∃ y : Int32, y = x6 + 1 := ⟨_, rfl⟩
      replace hw := hw v11 ev11
      refine lv_iinc (v := v11) (lv' := [(6, .int v11), (5, .int v5), (0, .ref (ad 14 0)), (1, .ref (ad 17 i1)), (2, .int x2), (3, .int x3), (4, .int x4), (7, .int x7)]) hx hb dX4_workOut_167 hl (k := 6) rfl (by rw [ev11]; rfl) (by decide) rfl (fun ls hl => ?_)
      refine lv_goto (tgt := 6) hx hb dX4_workOut_170 (by decide) ?_
      exact hk6 s10 i1 x2 x3 x4 v5 v11 hi1 hw _ _ _ hP hS (lv_sub hl [2, 3, 4, 5, 6, 1, 0] rfl)
def b_X4_workOut_73 (K6 : St → Nat → Int32 → Int32 → Int32 → Int32 → Int32 → Prop) (post : Int32 → St → Prop) (σ : St) (i1 : Nat) (x2 : Int32) (x3 : Int32) (x4 : Int32) (x5 : Int32) (x6 : Int32) (x7 : Int32) : Prop := ((¬ x7 = 10033 → (b_X4_workOut_116 K6 post σ i1 x2 x3 x4 x5 x6 x7)) ∧ (x7 = 10033 → (((x5 < 1 → (b_X4_workOut_116 K6 post σ i1 x2 x3 x4 x5 x6 x7)) ∧ (¬ x5 < 1 → (vp_in (x5 - 1) 96 ∧ (((¬ (σ 16 0 (x5 - 1).toNatClampNeg) = 0 → (b_X4_workOut_112 K6 post σ (0 : Int32) (x5 - 1) i1 x2 x3 x4 x5 x6)) ∧ ((σ 16 0 (x5 - 1).toNatClampNeg) = 0 → (b_X4_workOut_112 K6 post σ (1 : Int32) (x5 - 1) i1 x2 x3 x4 x5 x6))))))))))
theorem B_X4_workOut_73 (E : EnvW p s m args meth c D cy regsC ad "RoofWar$Laws" cX4_workOut 8 (some .int)) (ha : Apart regsC ad) {post : Int32 → St → Prop} {K6 : St → Nat → Int32 → Int32 → Int32 → Int32 → Int32 → Prop} (hk6 : ∀ (σ : St) (i1 : Nat) (x2 : Int32) (x3 : Int32) (x4 : Int32) (x5 : Int32) (x6 : Int32), i1 < 15 → K6 σ i1 x2 x3 x4 x5 x6 → ∀ (H : Heap) (locs : List Loc) (ls : Array Slot), va_P D CLS (wC cy ad σ) H → va_S (AC ad s.heap.size) s.heap H locs → lv_has ls 8 [(0, .ref (ad 14 0)), (1, .ref (ad 17 i1)), (2, .int x2), (3, .int x3), (4, .int x4), (5, .int x5), (6, .int x6)] → W p l e rm_X4_workOut s m args below meth c H locs 0 0 (MQ below (QI D cy (cellC cy ad) regsC ad s.heap.size post) args s 0 0 (AC ad s.heap.size)) (F0 m 6 ls [])) {σ : St} {i1 : Nat} {x2 : Int32} {x3 : Int32} {x4 : Int32} {x5 : Int32} {x6 : Int32} {x7 : Int32} (hi1 : i1 < 15) (hw : b_X4_workOut_73 K6 post σ i1 x2 x3 x4 x5 x6 x7) {H : Heap} {locs : List Loc} {ls : Array Slot} (hP : va_P D CLS (wC cy ad σ) H) (hS : va_S (AC ad s.heap.size) s.heap H locs) (hl : lv_has ls 8 [(0, .ref (ad 14 0)), (1, .ref (ad 17 i1)), (2, .int x2), (3, .int x3), (4, .int x4), (5, .int x5), (6, .int x6), (7, .int x7)]) : W p l e rm_X4_workOut s m args below meth c H locs 0 0 (MQ below (QI D cy (cellC cy ad) regsC ad s.heap.size post) args s 0 0 (AC ad s.heap.size)) (F0 m 73 ls []) := by
  obtain ⟨hx, hb, -⟩ := id E
  unfold b_X4_workOut_73 at hw
  refine lv_iload hx hb dX4_workOut_73 (lv_at hl 7 rfl) ?_
  refine lv_sipush (v := 10033) hx hb dX4_workOut_75 (by decide) ?_
  refine lv_icmp_ne (tgt := 116) hx hb dX4_workOut_78 (by decide) (fun c1 => ?_) (fun c1 => ?_)
  · replace hw := hw.1 c1
    exact B_X4_workOut_116 E ha hk6 hi1 hw hP hS (lv_sub hl [0, 1, 2, 3, 4, 5, 6, 7] rfl)
  · replace hw := hw.2 c1
    refine lv_iload hx hb dX4_workOut_81 (lv_at hl 5 rfl) ?_
    refine lv_iconst (v := 1) hx hb dX4_workOut_83 (by decide) ?_
    refine lv_icmp_lt (tgt := 116) hx hb dX4_workOut_84 (by decide) (fun c2 => ?_) (fun c2 => ?_)
    · replace hw := hw.1 c2
      exact B_X4_workOut_116 E ha hk6 hi1 hw hP hS (lv_sub hl [0, 1, 2, 3, 4, 5, 6, 7] rfl)
    · replace hw := hw.2 c2
      refine lv_aload_n hx hb dX4_workOut_87 rfl (lv_at hl 0 rfl) ?_
      refine fX4_1 E hP mw_133 dX4_workOut_88 ?_
      refine lv_iload hx hb dX4_workOut_91 (lv_at hl 5 rfl) ?_
      refine lv_iconst (v := 1) hx hb dX4_workOut_93 (by decide) ?_
      refine lv_isub hx hb dX4_workOut_94 ?_
      refine lv_aload_n hx hb dX4_workOut_95 rfl (lv_at hl 0 rfl) ?_
      refine fX4_1 E hP mw_133 dX4_workOut_96 ?_
      refine lv_iload hx hb dX4_workOut_99 (lv_at hl 5 rfl) ?_
      refine lv_iconst (v := 1) hx hb dX4_workOut_101 (by decide) ?_
      refine lv_isub hx hb dX4_workOut_102 ?_
      obtain ⟨h3, hw⟩ := hw
      refine aC16 E hP h3 dX4_workOut_103 ?_
      refine lv_if_ne (tgt := 111) hx hb dX4_workOut_104 (by decide) (fun c4 => ?_) (fun c4 => ?_)
      · replace hw := hw.1 c4
        refine lv_iconst (v := 0) hx hb dX4_workOut_111 (by decide) ?_
        exact B_X4_workOut_112 E ha hk6 hi1 hw hP hS (lv_sub hl [0, 1, 2, 3, 4, 5, 6] rfl)
      · replace hw := hw.2 c4
        refine lv_iconst (v := 1) hx hb dX4_workOut_107 (by decide) ?_
        refine lv_goto (tgt := 112) hx hb dX4_workOut_108 (by decide) ?_
        exact B_X4_workOut_112 E ha hk6 hi1 hw hP hS (lv_sub hl [0, 1, 2, 3, 4, 5, 6] rfl)
def b_X4_workOut_6 (K6 : St → Nat → Int32 → Int32 → Int32 → Int32 → Int32 → Prop) (post : Int32 → St → Prop) (σ : St) (i1 : Nat) (x2 : Int32) (x3 : Int32) (x4 : Int32) (x5 : Int32) (x6 : Int32) : Prop := (((σ 17 i1 2) ≤ x6 → (vp_in (0 : Int32) 96 ∧ (post (σ 16 0 (0 : Int32).toNatClampNeg) σ))) ∧ (¬ (σ 17 i1 2) ≤ x6 → (vp_in x6 96 ∧ (∀ v4 : Int32, v4 = σ 18 i1 x6.toNatClampNeg → (((10000 ≤ v4 → (b_X4_workOut_73 K6 post σ i1 x2 x3 x4 x5 x6 v4)) ∧ (¬ 10000 ≤ v4 → (((96 ≤ x5 → (b_X4_workOut_73 K6 post σ i1 x2 x3 x4 x5 x6 v4)) ∧ (¬ 96 ≤ x5 → (((v4 < 0 → (w_X4_named (fun r8 s8 => b_X4_workOut_66 K6 post s8 r8 x5 i1 x2 x3 x4 x5 x6) σ (((-1)) - v4) x2 x3 x4)) ∧ (¬ v4 < 0 → (b_X4_workOut_66 K6 post σ v4 x5 i1 x2 x3 x4 x5 x6))))))))))))))
noncomputable def l_X4_workOut_6 (post : Int32 → St → Prop) : Nat → St → Nat → Int32 → Int32 → Int32 → Int32 → Int32 → Prop := fun n => Nat.rec (motive := fun _ => St → Nat → Int32 → Int32 → Int32 → Int32 → Int32 → Prop) (fun _ _ _ _ _ _ _ => False) (fun _ ih => b_X4_workOut_6 ih post) n
theorem L_X4_workOut_6 (E : EnvW p s m args meth c D cy regsC ad "RoofWar$Laws" cX4_workOut 8 (some .int)) (ha : Apart regsC ad) {post : Int32 → St → Prop} : ∀ (n : Nat), ∀ (σ : St) (i1 : Nat) (x2 : Int32) (x3 : Int32) (x4 : Int32) (x5 : Int32) (x6 : Int32), i1 < 15 → l_X4_workOut_6 post n σ i1 x2 x3 x4 x5 x6 → ∀ (H : Heap) (locs : List Loc) (ls : Array Slot), va_P D CLS (wC cy ad σ) H → va_S (AC ad s.heap.size) s.heap H locs → lv_has ls 8 [(0, .ref (ad 14 0)), (1, .ref (ad 17 i1)), (2, .int x2), (3, .int x3), (4, .int x4), (5, .int x5), (6, .int x6)] → W p l e rm_X4_workOut s m args below meth c H locs 0 0 (MQ below (QI D cy (cellC cy ad) regsC ad s.heap.size post) args s 0 0 (AC ad s.heap.size)) (F0 m 6 ls []) := by
  obtain ⟨hx, hb, -⟩ := id E
  intro n
  induction n with
  | zero => intro σ i1 x2 x3 x4 x5 x6 hi1 hw; exact hw.elim
  | succ n hk6 =>
    intro σ i1 x2 x3 x4 x5 x6 hi1 hw H locs ls hP hS hl
    replace hw : b_X4_workOut_6 (l_X4_workOut_6 post n) post σ i1 x2 x3 x4 x5 x6 := hw
    unfold b_X4_workOut_6 at hw
    refine lv_iload hx hb dX4_workOut_6 (lv_at hl 6 rfl) ?_
    refine lv_aload_n hx hb dX4_workOut_8 rfl (lv_at hl 1 rfl) ?_
    refine fX3_2 hi1 E hP mw_118 dX4_workOut_9 ?_
    refine lv_icmp_ge (tgt := 173) hx hb dX4_workOut_12 (by decide) (fun c1 => ?_) (fun c1 => ?_)
    · replace hw := hw.1 c1
      refine lv_aload_n hx hb dX4_workOut_173 rfl (lv_at hl 0 rfl) ?_
      refine fX4_1 E hP mw_133 dX4_workOut_174 ?_
      refine lv_iconst (v := 0) hx hb dX4_workOut_177 (by decide) ?_
      obtain ⟨h2, hw⟩ := hw
      refine aC16 E hP h2 dX4_workOut_178 ?_
      exact g_iret E hw hP hS dX4_workOut_179
    · replace hw := hw.2 c1
      refine lv_aload_n hx hb dX4_workOut_15 rfl (lv_at hl 1 rfl) ?_
      refine fX3_3 hi1 E hP mw_120 dX4_workOut_16 ?_
      refine lv_iload hx hb dX4_workOut_19 (lv_at hl 6 rfl) ?_
      obtain ⟨h3, hw⟩ := hw
      refine aC18 hi1 E hP h3 dX4_workOut_21 ?_
      refine lv_topi (fun v4 ev4 => ?_)
      replace hw := hw v4 ev4
      refine lv_istore (lv' := [(7, .int v4), (0, .ref (ad 14 0)), (1, .ref (ad 17 i1)), (2, .int x2), (3, .int x3), (4, .int x4), (5, .int x5), (6, .int x6)]) hx hb dX4_workOut_22 hl (by decide) rfl (fun ls hl => ?_)
      refine lv_iload hx hb dX4_workOut_24 (lv_at hl 0 rfl) ?_
      refine lv_sipush (v := 10000) hx hb dX4_workOut_26 (by decide) ?_
      refine lv_icmp_ge (tgt := 73) hx hb dX4_workOut_29 (by decide) (fun c5 => ?_) (fun c5 => ?_)
      · replace hw := hw.1 c5
        exact B_X4_workOut_73 E ha hk6 hi1 hw hP hS (lv_sub hl [1, 2, 3, 4, 5, 6, 7, 0] rfl)
      · replace hw := hw.2 c5
        refine lv_iload hx hb dX4_workOut_32 (lv_at hl 6 rfl) ?_
        refine lv_bipush (v := 96) hx hb dX4_workOut_34 (by decide) ?_
        refine lv_icmp_ge (tgt := 73) hx hb dX4_workOut_36 (by decide) (fun c6 => ?_) (fun c6 => ?_)
        · replace hw := hw.1 c6
          exact B_X4_workOut_73 E ha hk6 hi1 hw hP hS (lv_sub hl [1, 2, 3, 4, 5, 6, 7, 0] rfl)
        · replace hw := hw.2 c6
          refine lv_aload_n hx hb dX4_workOut_39 rfl (lv_at hl 1 rfl) ?_
          refine fX4_1 E hP mw_133 dX4_workOut_40 ?_
          refine lv_iload hx hb dX4_workOut_43 (lv_at hl 6 rfl) ?_
          refine lv_iload hx hb dX4_workOut_45 (lv_at hl 0 rfl) ?_
          refine lv_if_lt (tgt := 55) hx hb dX4_workOut_47 (by decide) (fun c7 => ?_) (fun c7 => ?_)
          · replace hw := hw.1 c7
            refine lv_iconst (v := -1) hx hb dX4_workOut_55 (by decide) ?_
            refine lv_iload hx hb dX4_workOut_56 (lv_at hl 0 rfl) ?_
            refine lv_isub hx hb dX4_workOut_58 ?_
            refine lv_iload_n hx hb dX4_workOut_59 rfl (lv_at hl 3 rfl) ?_
            refine lv_iload_n hx hb dX4_workOut_60 rfl (lv_at hl 4 rfl) ?_
            refine lv_iload hx hb dX4_workOut_61 (lv_at hl 5 rfl) ?_
            refine g_cSi (As := [.int (((-1)) - v4), .int x2, .int x3, .int x4]) (rest := [.int x5, .ref (ad 16 0)]) E hl.1 (c_X4_named l D cy ad ha hw _) ok_X4_named mw_529 ⟨(Nat.le_of_ble_eq_true rfl), (Nat.le_of_ble_eq_true rfl)⟩ ⟨rfl, rfl⟩ rfl rfl (Nat.le_of_ble_eq_true rfl) ⟨Nat.zero_le _, Nat.zero_le _⟩ hP hS dX4_workOut_63 (fun r8 s8 hw H locs hP hS => ?_)
            exact B_X4_workOut_66 E ha hk6 hi1 hw hP hS (lv_sub hl [1, 2, 3, 4, 5, 6, 7] rfl)
          · replace hw := hw.2 c7
            refine lv_iload hx hb dX4_workOut_50 (lv_at hl 0 rfl) ?_
            refine lv_goto (tgt := 66) hx hb dX4_workOut_52 (by decide) ?_
            exact B_X4_workOut_66 E ha hk6 hi1 hw hP hS (lv_sub hl [1, 2, 3, 4, 5, 6, 7] rfl)
def w_X4_workOut (post : Int32 → St → Prop) (σ : St) (i1 : Nat) (x2 : Int32) (x3 : Int32) (x4 : Int32) : Prop := ∃ n1 : Nat, l_X4_workOut_6 post n1 σ i1 x2 x3 x4 (0 : Int32) (0 : Int32)
theorem B_X4_workOut_0 (E : EnvW p s m args meth c D cy regsC ad "RoofWar$Laws" cX4_workOut 8 (some .int)) (ha : Apart regsC ad) {post : Int32 → St → Prop} {σ : St} {i1 : Nat} {x2 : Int32} {x3 : Int32} {x4 : Int32} (hi1 : i1 < 15) (hw : w_X4_workOut post σ i1 x2 x3 x4) {H : Heap} {locs : List Loc} {ls : Array Slot} (hP : va_P D CLS (wC cy ad σ) H) (hS : va_S (AC ad s.heap.size) s.heap H locs) (hl : lv_has ls 8 [(0, .ref (ad 14 0)), (1, .ref (ad 17 i1)), (2, .int x2), (3, .int x3), (4, .int x4)]) : W p l e rm_X4_workOut s m args below meth c H locs 0 0 (MQ below (QI D cy (cellC cy ad) regsC ad s.heap.size post) args s 0 0 (AC ad s.heap.size)) (F0 m 0 ls []) := by
  obtain ⟨hx, hb, -⟩ := id E
  unfold w_X4_workOut at hw
  refine lv_iconst (v := 0) hx hb dX4_workOut_0 (by decide) ?_
  refine lv_istore (lv' := [(5, .int 0), (0, .ref (ad 14 0)), (1, .ref (ad 17 i1)), (2, .int x2), (3, .int x3), (4, .int x4)]) hx hb dX4_workOut_1 hl (by decide) rfl (fun ls hl => ?_)
  refine lv_iconst (v := 0) hx hb dX4_workOut_3 (by decide) ?_
  refine lv_istore (lv' := [(6, .int 0), (5, .int 0), (0, .ref (ad 14 0)), (1, .ref (ad 17 i1)), (2, .int x2), (3, .int x3), (4, .int x4)]) hx hb dX4_workOut_4 hl (by decide) rfl (fun ls hl => ?_)
  obtain ⟨n1, hw⟩ := hw
  exact L_X4_workOut_6 E ha n1 σ i1 x2 x3 x4 (0 : Int32) (0 : Int32) hi1 hw _ _ _ hP hS (lv_sub hl [2, 3, 4, 5, 6, 1, 0] rfl)
theorem c_X4_workOut (l : Launch) (D : va_G) (cy : Nat → ClassId) (ad : Nat → Nat → Nat) (ha : Apart regsC ad) {post : Int32 → St → Prop} {σ : St} {i1 : Nat} {x2 : Int32} {x3 : Int32} {x4 : Int32} (hi1 : i1 < 15) (hw : w_X4_workOut post σ i1 x2 x3 x4) (sz : Nat) : MetI l yX4_workOut cX4_workOut 8 .int rm_X4_workOut [.ref (ad 14 0), .ref (ad 17 i1), .int x2, .int x3, .int x4] D cy (cellC cy ad) regsC ad σ sz post :=
  Met_inI ok_X4_workOut.2.2.2.2.2 (Nat.le_of_ble_eq_true rfl) (fun p e s m below meth c ls E hP hl => B_X4_workOut_0 E ha hi1 hw hP va_S.rf hl)
-- RoofWar.heldWithin(III)I
theorem dX9_heldWithin_0 : decode cX9_heldWithin 0 = .ok (.iload_n 1, 1) := by decide +kernel
theorem dX9_heldWithin_1 : decode cX9_heldWithin 1 = .ok (.iload_n 2, 1) := by decide +kernel
theorem dX9_heldWithin_2 : decode cX9_heldWithin 2 = .ok (.iload_n 0, 1) := by decide +kernel
theorem dX9_heldWithin_3 : decode cX9_heldWithin 3 = .ok (.invokestatic 163, 3) := by decide +kernel
theorem dX9_heldWithin_6 : decode cX9_heldWithin 6 = .ok (.invokestatic 343, 3) := by decide +kernel
theorem dX9_heldWithin_9 : decode cX9_heldWithin 9 = .ok (.ireturn, 1) := by decide +kernel
theorem ok_X9_heldWithin : okS yX9_heldWithin cX9_heldWithin 3 (some .int) 3 := ⟨mw_535, mw_74, mw_536, by decide +kernel, by decide +kernel⟩
abbrev rm_X9_heldWithin : Room := { frames := 1, cells := 0, slots := 0, locals := 24 }
def w_X9_heldWithin (post : Int32 → St → Prop) (σ : St) (x0 : Int32) (x1 : Int32) (x2 : Int32) : Prop := ∀ v1 : Int32, v1 = (if x0 < x2 then x0 else x2) → (∀ v2 : Int32, v2 = (if x1 < v1 then v1 else x1) → (post v2 σ))
theorem B_X9_heldWithin_0 (E : EnvW p s m args meth c D cy regsC ad "RoofWar" cX9_heldWithin 3 (some .int)) (ha : Apart regsC ad) {post : Int32 → St → Prop} {σ : St} {x0 : Int32} {x1 : Int32} {x2 : Int32} (hw : w_X9_heldWithin post σ x0 x1 x2) {H : Heap} {locs : List Loc} {ls : Array Slot} (hP : va_P D CLS (wC cy ad σ) H) (hS : va_S (AC ad s.heap.size) s.heap H locs) (hl : lv_has ls 3 [(0, .int x0), (1, .int x1), (2, .int x2)]) : W p l e rm_X9_heldWithin s m args below meth c H locs 0 0 (MQ below (QI D cy (cellC cy ad) regsC ad s.heap.size post) args s 0 0 (AC ad s.heap.size)) (F0 m 0 ls []) := by
  obtain ⟨hx, hb, -⟩ := id E
  unfold w_X9_heldWithin at hw
  refine lv_iload_n hx hb dX9_heldWithin_0 rfl (lv_at hl 1 rfl) ?_
  refine lv_iload_n hx hb dX9_heldWithin_1 rfl (lv_at hl 2 rfl) ?_
  refine lv_iload_n hx hb dX9_heldWithin_2 rfl (lv_at hl 0 rfl) ?_
  refine g_min E hl.1 mw_458 mw_444 mw_85 mw_445 ⟨(Nat.le_of_ble_eq_true rfl), (Nat.le_of_ble_eq_true rfl)⟩ ⟨Nat.zero_le _, Nat.zero_le _⟩ dX9_heldWithin_3 ?_
  refine lv_topi (fun v1 ev1 => ?_)
  replace hw := hw v1 ev1
  refine g_max E hl.1 mw_537 mw_538 mw_85 mw_539 ⟨(Nat.le_of_ble_eq_true rfl), (Nat.le_of_ble_eq_true rfl)⟩ ⟨Nat.zero_le _, Nat.zero_le _⟩ dX9_heldWithin_6 ?_
  refine lv_topi (fun v2 ev2 => ?_)
  replace hw := hw v2 ev2
  exact g_iret E hw hP hS dX9_heldWithin_9
theorem c_X9_heldWithin (l : Launch) (D : va_G) (cy : Nat → ClassId) (ad : Nat → Nat → Nat) (ha : Apart regsC ad) {post : Int32 → St → Prop} {σ : St} {x0 : Int32} {x1 : Int32} {x2 : Int32} (hw : w_X9_heldWithin post σ x0 x1 x2) (sz : Nat) : MetI l yX9_heldWithin cX9_heldWithin 3 .int rm_X9_heldWithin [.int x0, .int x1, .int x2] D cy (cellC cy ad) regsC ad σ sz post :=
  Met_inI ok_X9_heldWithin.2.2.2.2 (Nat.le_of_ble_eq_true rfl) (fun p e s m below meth c ls E hP hl => B_X9_heldWithin_0 E ha hw hP va_S.rf hl)
-- RoofWar$Laws.spiteOf(LRoofWar$Hill;I)I
theorem dX4_spiteOf_0 : decode cX4_spiteOf 0 = .ok (.aload_n 0, 1) := by decide +kernel
theorem dX4_spiteOf_1 : decode cX4_spiteOf 1 = .ok (.iconst 0, 1) := by decide +kernel
theorem dX4_spiteOf_2 : decode cX4_spiteOf 2 = .ok (.aload_n 1, 1) := by decide +kernel
theorem dX4_spiteOf_3 : decode cX4_spiteOf 3 = .ok (.getfield 31, 3) := by decide +kernel
theorem dX4_spiteOf_6 : decode cX4_spiteOf 6 = .ok (.invokevirtual 36, 3) := by decide +kernel
theorem dX4_spiteOf_9 : decode cX4_spiteOf 9 = .ok (.astore_n 3, 1) := by decide +kernel
theorem dX4_spiteOf_10 : decode cX4_spiteOf 10 = .ok (.aload_n 3, 1) := by decide +kernel
theorem dX4_spiteOf_11 : decode cX4_spiteOf 11 = .ok (.ifnonnull 5, 3) := by decide +kernel
theorem dX4_spiteOf_14 : decode cX4_spiteOf 14 = .ok (.iconst 5, 1) := by decide +kernel
theorem dX4_spiteOf_15 : decode cX4_spiteOf 15 = .ok (.ireturn, 1) := by decide +kernel
theorem dX4_spiteOf_16 : decode cX4_spiteOf 16 = .ok (.aload_n 0, 1) := by decide +kernel
theorem dX4_spiteOf_17 : decode cX4_spiteOf 17 = .ok (.aload_n 3, 1) := by decide +kernel
theorem dX4_spiteOf_18 : decode cX4_spiteOf 18 = .ok (.aload_n 1, 1) := by decide +kernel
theorem dX4_spiteOf_19 : decode cX4_spiteOf 19 = .ok (.getfield 40, 3) := by decide +kernel
theorem dX4_spiteOf_22 : decode cX4_spiteOf 22 = .ok (.iload_n 2, 1) := by decide +kernel
theorem dX4_spiteOf_23 : decode cX4_spiteOf 23 = .ok (.iaload, 1) := by decide +kernel
theorem dX4_spiteOf_24 : decode cX4_spiteOf 24 = .ok (.aload_n 1, 1) := by decide +kernel
theorem dX4_spiteOf_25 : decode cX4_spiteOf 25 = .ok (.getfield 43, 3) := by decide +kernel
theorem dX4_spiteOf_28 : decode cX4_spiteOf 28 = .ok (.iload_n 2, 1) := by decide +kernel
theorem dX4_spiteOf_29 : decode cX4_spiteOf 29 = .ok (.iaload, 1) := by decide +kernel
theorem dX4_spiteOf_30 : decode cX4_spiteOf 30 = .ok (.aload_n 1, 1) := by decide +kernel
theorem dX4_spiteOf_31 : decode cX4_spiteOf 31 = .ok (.getfield 46, 3) := by decide +kernel
theorem dX4_spiteOf_34 : decode cX4_spiteOf 34 = .ok (.invokevirtual 49, 3) := by decide +kernel
theorem dX4_spiteOf_37 : decode cX4_spiteOf 37 = .ok (.iconst 0, 1) := by decide +kernel
theorem dX4_spiteOf_38 : decode cX4_spiteOf 38 = .ok (.bipush 99, 2) := by decide +kernel
theorem dX4_spiteOf_40 : decode cX4_spiteOf 40 = .ok (.invokestatic 53, 3) := by decide +kernel
theorem dX4_spiteOf_43 : decode cX4_spiteOf 43 = .ok (.ireturn, 1) := by decide +kernel
theorem ok_X4_spiteOf : okV yX4_spiteOf cX4_spiteOf 4 (some .int) 2 := ⟨mw_513, mw_514, mw_75, mw_515, by decide +kernel, by decide +kernel⟩
abbrev rm_X4_spiteOf : Room := { frames := 2, cells := 0, slots := 0, locals := 50 }
def w_X4_spiteOf (post : Int32 → St → Prop) (σ : St) (i1 : Nat) (x2 : Int32) : Prop := w_X4_counting (fun o1 s1 => ((o1 = none → (post 5 s1)) ∧ (∀ j1 : Nat, o1 = some j1 → (vp_in x2 12 ∧ (vp_in x2 12 ∧ (w_X4_workOut (fun r4 s4 => w_X9_heldWithin (fun r5 s5 => post r5 s5) s4 r4 (0 : Int32) (99 : Int32)) s1 j1 (s1 8 i1 x2.toNatClampNeg) (s1 7 i1 x2.toNatClampNeg) (s1 5 i1 5))))))) σ (0 : Int32) (σ 5 i1 7)
theorem B_X4_spiteOf_0 (E : EnvW p s m args meth c D cy regsC ad "RoofWar$Laws" cX4_spiteOf 4 (some .int)) (ha : Apart regsC ad) {post : Int32 → St → Prop} {σ : St} {i1 : Nat} {x2 : Int32} (hi1 : i1 < 3) (hw : w_X4_spiteOf post σ i1 x2) {H : Heap} {locs : List Loc} {ls : Array Slot} (hP : va_P D CLS (wC cy ad σ) H) (hS : va_S (AC ad s.heap.size) s.heap H locs) (hl : lv_has ls 4 [(0, .ref (ad 14 0)), (1, .ref (ad 5 i1)), (2, .int x2)]) : W p l e rm_X4_spiteOf s m args below meth c H locs 0 0 (MQ below (QI D cy (cellC cy ad) regsC ad s.heap.size post) args s 0 0 (AC ad s.heap.size)) (F0 m 0 ls []) := by
  obtain ⟨hx, hb, -⟩ := id E
  unfold w_X4_spiteOf at hw
  refine lv_aload_n hx hb dX4_spiteOf_0 rfl (lv_at hl 0 rfl) ?_
  refine lv_iconst (v := 0) hx hb dX4_spiteOf_1 (by decide) ?_
  refine lv_aload_n hx hb dX4_spiteOf_2 rfl (lv_at hl 1 rfl) ?_
  refine fX1_16 hi1 E hP mw_183 dX4_spiteOf_3 ?_
  refine g_cVq (As := [.int 0, .int (σ 5 i1 7)]) (rest := []) E hl.1 (c_X4_counting l D cy ad ha hw _) ok_X4_counting mw_516 ⟨(Nat.le_of_ble_eq_true rfl), (Nat.le_of_ble_eq_true rfl)⟩ ⟨rfl, rfl⟩ rC14 rfl rfl rfl rfl rfl (Nat.le_of_ble_eq_true rfl) ⟨Nat.zero_le _, Nat.zero_le _⟩ hP hS dX4_spiteOf_6 (fun r1 s1 hw H locs hP hS => ?_)
  obtain ⟨o1, rfl, b1, hw⟩ := hw
  rcases o1 with _ | j1
  · replace hw := hw.1 rfl
    refine lv_astore_nN (lv' := [(3, .null), (0, .ref (ad 14 0)), (1, .ref (ad 5 i1)), (2, .int x2)]) hx hb dX4_spiteOf_9 rfl hl (by decide) rfl (fun ls hl => ?_)
    refine lv_aload_nN hx hb dX4_spiteOf_10 rfl (lv_at hl 0 rfl) ?_
    refine lv_ifnonnullN hx hb dX4_spiteOf_11 ?_
    refine lv_iconst (v := 5) hx hb dX4_spiteOf_14 (by decide) ?_
    exact g_iret E hw hP hS dX4_spiteOf_15
  · replace hw := hw.2 j1 rfl
    refine lv_astore_n (lv' := [(3, .ref (ad 17 j1)), (0, .ref (ad 14 0)), (1, .ref (ad 5 i1)), (2, .int x2)]) hx hb dX4_spiteOf_9 rfl hl (by decide) rfl (fun ls hl => ?_)
    refine lv_aload_n hx hb dX4_spiteOf_10 rfl (lv_at hl 0 rfl) ?_
    refine lv_ifnonnull (tgt := 16) hx hb dX4_spiteOf_11 (by decide) ?_
    refine lv_aload_n hx hb dX4_spiteOf_16 rfl (lv_at hl 1 rfl) ?_
    refine lv_aload_n hx hb dX4_spiteOf_17 rfl (lv_at hl 0 rfl) ?_
    refine lv_aload_n hx hb dX4_spiteOf_18 rfl (lv_at hl 2 rfl) ?_
    refine fX1_3 hi1 E hP mw_154 dX4_spiteOf_19 ?_
    refine lv_iload_n hx hb dX4_spiteOf_22 rfl (lv_at hl 3 rfl) ?_
    obtain ⟨h2, hw⟩ := hw
    refine aC8 hi1 E hP h2 dX4_spiteOf_23 ?_
    refine lv_aload_n hx hb dX4_spiteOf_24 rfl (lv_at hl 2 rfl) ?_
    refine fX1_2 hi1 E hP mw_151 dX4_spiteOf_25 ?_
    refine lv_iload_n hx hb dX4_spiteOf_28 rfl (lv_at hl 3 rfl) ?_
    obtain ⟨h3, hw⟩ := hw
    refine aC7 hi1 E hP h3 dX4_spiteOf_29 ?_
    refine lv_aload_n hx hb dX4_spiteOf_30 rfl (lv_at hl 2 rfl) ?_
    refine fX1_14 hi1 E hP mw_178 dX4_spiteOf_31 ?_
    refine g_cVi (As := [.ref (ad 17 j1), .int (s1 8 i1 x2.toNatClampNeg), .int (s1 7 i1 x2.toNatClampNeg), .int (s1 5 i1 5)]) (rest := []) E hl.1 (c_X4_workOut l D cy ad ha ((b1 _ rfl)) hw _) ok_X4_workOut mw_525 ⟨(Nat.le_of_ble_eq_true rfl), (Nat.le_of_ble_eq_true rfl)⟩ ⟨rfl, rfl⟩ rC14 rfl rfl rfl rfl rfl (Nat.le_of_ble_eq_true rfl) ⟨Nat.zero_le _, Nat.zero_le _⟩ hP hS dX4_spiteOf_34 (fun r4 s4 hw H locs hP hS => ?_)
    refine lv_iconst (v := 0) hx hb dX4_spiteOf_37 (by decide) ?_
    refine lv_bipush (v := 99) hx hb dX4_spiteOf_38 (by decide) ?_
    refine g_cNi (host := "RoofWar") (As := [.int r4, .int 0, .int 99]) (rest := []) E hl.1 (c_X9_heldWithin l D cy ad ha hw _) ok_X9_heldWithin (List.mem_of_getElem? (i := 9) rfl) ⟨(Nat.le_of_ble_eq_true rfl), (Nat.le_of_ble_eq_true rfl)⟩ ⟨rfl, rfl⟩ rfl rfl (Nat.le_of_ble_eq_true rfl) ⟨Nat.zero_le _, Nat.zero_le _⟩ hP hS dX4_spiteOf_40 (fun r5 s5 hw H locs hP hS => ?_)
    exact g_iret E hw hP hS dX4_spiteOf_43
theorem c_X4_spiteOf (l : Launch) (D : va_G) (cy : Nat → ClassId) (ad : Nat → Nat → Nat) (ha : Apart regsC ad) {post : Int32 → St → Prop} {σ : St} {i1 : Nat} {x2 : Int32} (hi1 : i1 < 3) (hw : w_X4_spiteOf post σ i1 x2) (sz : Nat) : MetI l yX4_spiteOf cX4_spiteOf 4 .int rm_X4_spiteOf [.ref (ad 14 0), .ref (ad 5 i1), .int x2] D cy (cellC cy ad) regsC ad σ sz post :=
  Met_inI ok_X4_spiteOf.2.2.2.2.2 (Nat.le_of_ble_eq_true rfl) (fun p e s m below meth c ls E hP hl => B_X4_spiteOf_0 E ha hi1 hw hP va_S.rf hl)
-- RoofWar$Hill.becomeLike(LRoofWar$Hill;)V
theorem dX1_becomeLike_0 : decode cX1_becomeLike 0 = .ok (.aload_n 1, 1) := by decide +kernel
theorem dX1_becomeLike_1 : decode cX1_becomeLike 1 = .ok (.getfield 9, 3) := by decide +kernel
theorem dX1_becomeLike_4 : decode cX1_becomeLike 4 = .ok (.iconst 0, 1) := by decide +kernel
theorem dX1_becomeLike_5 : decode cX1_becomeLike 5 = .ok (.aload_n 0, 1) := by decide +kernel
theorem dX1_becomeLike_6 : decode cX1_becomeLike 6 = .ok (.getfield 9, 3) := by decide +kernel
theorem dX1_becomeLike_9 : decode cX1_becomeLike 9 = .ok (.iconst 0, 1) := by decide +kernel
theorem dX1_becomeLike_10 : decode cX1_becomeLike 10 = .ok (.bipush 12, 2) := by decide +kernel
theorem dX1_becomeLike_12 : decode cX1_becomeLike 12 = .ok (.invokestatic 48, 3) := by decide +kernel
theorem dX1_becomeLike_15 : decode cX1_becomeLike 15 = .ok (.aload_n 1, 1) := by decide +kernel
theorem dX1_becomeLike_16 : decode cX1_becomeLike 16 = .ok (.getfield 15, 3) := by decide +kernel
theorem dX1_becomeLike_19 : decode cX1_becomeLike 19 = .ok (.iconst 0, 1) := by decide +kernel
theorem dX1_becomeLike_20 : decode cX1_becomeLike 20 = .ok (.aload_n 0, 1) := by decide +kernel
theorem dX1_becomeLike_21 : decode cX1_becomeLike 21 = .ok (.getfield 15, 3) := by decide +kernel
theorem dX1_becomeLike_24 : decode cX1_becomeLike 24 = .ok (.iconst 0, 1) := by decide +kernel
theorem dX1_becomeLike_25 : decode cX1_becomeLike 25 = .ok (.bipush 12, 2) := by decide +kernel
theorem dX1_becomeLike_27 : decode cX1_becomeLike 27 = .ok (.invokestatic 48, 3) := by decide +kernel
theorem dX1_becomeLike_30 : decode cX1_becomeLike 30 = .ok (.aload_n 1, 1) := by decide +kernel
theorem dX1_becomeLike_31 : decode cX1_becomeLike 31 = .ok (.getfield 18, 3) := by decide +kernel
theorem dX1_becomeLike_34 : decode cX1_becomeLike 34 = .ok (.iconst 0, 1) := by decide +kernel
theorem dX1_becomeLike_35 : decode cX1_becomeLike 35 = .ok (.aload_n 0, 1) := by decide +kernel
theorem dX1_becomeLike_36 : decode cX1_becomeLike 36 = .ok (.getfield 18, 3) := by decide +kernel
theorem dX1_becomeLike_39 : decode cX1_becomeLike 39 = .ok (.iconst 0, 1) := by decide +kernel
theorem dX1_becomeLike_40 : decode cX1_becomeLike 40 = .ok (.bipush 12, 2) := by decide +kernel
theorem dX1_becomeLike_42 : decode cX1_becomeLike 42 = .ok (.invokestatic 48, 3) := by decide +kernel
theorem dX1_becomeLike_45 : decode cX1_becomeLike 45 = .ok (.aload_n 1, 1) := by decide +kernel
theorem dX1_becomeLike_46 : decode cX1_becomeLike 46 = .ok (.getfield 21, 3) := by decide +kernel
theorem dX1_becomeLike_49 : decode cX1_becomeLike 49 = .ok (.iconst 0, 1) := by decide +kernel
theorem dX1_becomeLike_50 : decode cX1_becomeLike 50 = .ok (.aload_n 0, 1) := by decide +kernel
theorem dX1_becomeLike_51 : decode cX1_becomeLike 51 = .ok (.getfield 21, 3) := by decide +kernel
theorem dX1_becomeLike_54 : decode cX1_becomeLike 54 = .ok (.iconst 0, 1) := by decide +kernel
theorem dX1_becomeLike_55 : decode cX1_becomeLike 55 = .ok (.bipush 12, 2) := by decide +kernel
theorem dX1_becomeLike_57 : decode cX1_becomeLike 57 = .ok (.invokestatic 48, 3) := by decide +kernel
theorem dX1_becomeLike_60 : decode cX1_becomeLike 60 = .ok (.aload_n 1, 1) := by decide +kernel
theorem dX1_becomeLike_61 : decode cX1_becomeLike 61 = .ok (.getfield 24, 3) := by decide +kernel
theorem dX1_becomeLike_64 : decode cX1_becomeLike 64 = .ok (.iconst 0, 1) := by decide +kernel
theorem dX1_becomeLike_65 : decode cX1_becomeLike 65 = .ok (.aload_n 0, 1) := by decide +kernel
theorem dX1_becomeLike_66 : decode cX1_becomeLike 66 = .ok (.getfield 24, 3) := by decide +kernel
theorem dX1_becomeLike_69 : decode cX1_becomeLike 69 = .ok (.iconst 0, 1) := by decide +kernel
theorem dX1_becomeLike_70 : decode cX1_becomeLike 70 = .ok (.bipush 12, 2) := by decide +kernel
theorem dX1_becomeLike_72 : decode cX1_becomeLike 72 = .ok (.invokestatic 48, 3) := by decide +kernel
theorem dX1_becomeLike_75 : decode cX1_becomeLike 75 = .ok (.aload_n 1, 1) := by decide +kernel
theorem dX1_becomeLike_76 : decode cX1_becomeLike 76 = .ok (.getfield 27, 3) := by decide +kernel
theorem dX1_becomeLike_79 : decode cX1_becomeLike 79 = .ok (.iconst 0, 1) := by decide +kernel
theorem dX1_becomeLike_80 : decode cX1_becomeLike 80 = .ok (.aload_n 0, 1) := by decide +kernel
theorem dX1_becomeLike_81 : decode cX1_becomeLike 81 = .ok (.getfield 27, 3) := by decide +kernel
theorem dX1_becomeLike_84 : decode cX1_becomeLike 84 = .ok (.iconst 0, 1) := by decide +kernel
theorem dX1_becomeLike_85 : decode cX1_becomeLike 85 = .ok (.bipush 12, 2) := by decide +kernel
theorem dX1_becomeLike_87 : decode cX1_becomeLike 87 = .ok (.invokestatic 48, 3) := by decide +kernel
theorem dX1_becomeLike_90 : decode cX1_becomeLike 90 = .ok (.aload_n 1, 1) := by decide +kernel
theorem dX1_becomeLike_91 : decode cX1_becomeLike 91 = .ok (.getfield 30, 3) := by decide +kernel
theorem dX1_becomeLike_94 : decode cX1_becomeLike 94 = .ok (.iconst 0, 1) := by decide +kernel
theorem dX1_becomeLike_95 : decode cX1_becomeLike 95 = .ok (.aload_n 0, 1) := by decide +kernel
theorem dX1_becomeLike_96 : decode cX1_becomeLike 96 = .ok (.getfield 30, 3) := by decide +kernel
theorem dX1_becomeLike_99 : decode cX1_becomeLike 99 = .ok (.iconst 0, 1) := by decide +kernel
theorem dX1_becomeLike_100 : decode cX1_becomeLike 100 = .ok (.bipush 12, 2) := by decide +kernel
theorem dX1_becomeLike_102 : decode cX1_becomeLike 102 = .ok (.invokestatic 48, 3) := by decide +kernel
theorem dX1_becomeLike_105 : decode cX1_becomeLike 105 = .ok (.aload_n 1, 1) := by decide +kernel
theorem dX1_becomeLike_106 : decode cX1_becomeLike 106 = .ok (.getfield 33, 3) := by decide +kernel
theorem dX1_becomeLike_109 : decode cX1_becomeLike 109 = .ok (.iconst 0, 1) := by decide +kernel
theorem dX1_becomeLike_110 : decode cX1_becomeLike 110 = .ok (.aload_n 0, 1) := by decide +kernel
theorem dX1_becomeLike_111 : decode cX1_becomeLike 111 = .ok (.getfield 33, 3) := by decide +kernel
theorem dX1_becomeLike_114 : decode cX1_becomeLike 114 = .ok (.iconst 0, 1) := by decide +kernel
theorem dX1_becomeLike_115 : decode cX1_becomeLike 115 = .ok (.iconst 2, 1) := by decide +kernel
theorem dX1_becomeLike_116 : decode cX1_becomeLike 116 = .ok (.invokestatic 48, 3) := by decide +kernel
theorem dX1_becomeLike_119 : decode cX1_becomeLike 119 = .ok (.aload_n 0, 1) := by decide +kernel
theorem dX1_becomeLike_120 : decode cX1_becomeLike 120 = .ok (.aload_n 1, 1) := by decide +kernel
theorem dX1_becomeLike_121 : decode cX1_becomeLike 121 = .ok (.getfield 54, 3) := by decide +kernel
theorem dX1_becomeLike_124 : decode cX1_becomeLike 124 = .ok (.putfield 54, 3) := by decide +kernel
theorem dX1_becomeLike_127 : decode cX1_becomeLike 127 = .ok (.aload_n 0, 1) := by decide +kernel
theorem dX1_becomeLike_128 : decode cX1_becomeLike 128 = .ok (.aload_n 1, 1) := by decide +kernel
theorem dX1_becomeLike_129 : decode cX1_becomeLike 129 = .ok (.getfield 41, 3) := by decide +kernel
theorem dX1_becomeLike_132 : decode cX1_becomeLike 132 = .ok (.putfield 41, 3) := by decide +kernel
theorem dX1_becomeLike_135 : decode cX1_becomeLike 135 = .ok (.aload_n 0, 1) := by decide +kernel
theorem dX1_becomeLike_136 : decode cX1_becomeLike 136 = .ok (.aload_n 1, 1) := by decide +kernel
theorem dX1_becomeLike_137 : decode cX1_becomeLike 137 = .ok (.getfield 57, 3) := by decide +kernel
theorem dX1_becomeLike_140 : decode cX1_becomeLike 140 = .ok (.putfield 57, 3) := by decide +kernel
theorem dX1_becomeLike_143 : decode cX1_becomeLike 143 = .ok (.aload_n 0, 1) := by decide +kernel
theorem dX1_becomeLike_144 : decode cX1_becomeLike 144 = .ok (.aload_n 1, 1) := by decide +kernel
theorem dX1_becomeLike_145 : decode cX1_becomeLike 145 = .ok (.getfield 60, 3) := by decide +kernel
theorem dX1_becomeLike_148 : decode cX1_becomeLike 148 = .ok (.putfield 60, 3) := by decide +kernel
theorem dX1_becomeLike_151 : decode cX1_becomeLike 151 = .ok (.aload_n 0, 1) := by decide +kernel
theorem dX1_becomeLike_152 : decode cX1_becomeLike 152 = .ok (.aload_n 1, 1) := by decide +kernel
theorem dX1_becomeLike_153 : decode cX1_becomeLike 153 = .ok (.getfield 63, 3) := by decide +kernel
theorem dX1_becomeLike_156 : decode cX1_becomeLike 156 = .ok (.putfield 63, 3) := by decide +kernel
theorem dX1_becomeLike_159 : decode cX1_becomeLike 159 = .ok (.aload_n 0, 1) := by decide +kernel
theorem dX1_becomeLike_160 : decode cX1_becomeLike 160 = .ok (.aload_n 1, 1) := by decide +kernel
theorem dX1_becomeLike_161 : decode cX1_becomeLike 161 = .ok (.getfield 66, 3) := by decide +kernel
theorem dX1_becomeLike_164 : decode cX1_becomeLike 164 = .ok (.putfield 66, 3) := by decide +kernel
theorem dX1_becomeLike_167 : decode cX1_becomeLike 167 = .ok (.aload_n 0, 1) := by decide +kernel
theorem dX1_becomeLike_168 : decode cX1_becomeLike 168 = .ok (.aload_n 1, 1) := by decide +kernel
theorem dX1_becomeLike_169 : decode cX1_becomeLike 169 = .ok (.getfield 45, 3) := by decide +kernel
theorem dX1_becomeLike_172 : decode cX1_becomeLike 172 = .ok (.putfield 45, 3) := by decide +kernel
theorem dX1_becomeLike_175 : decode cX1_becomeLike 175 = .ok (.aload_n 0, 1) := by decide +kernel
theorem dX1_becomeLike_176 : decode cX1_becomeLike 176 = .ok (.aload_n 1, 1) := by decide +kernel
theorem dX1_becomeLike_177 : decode cX1_becomeLike 177 = .ok (.getfield 69, 3) := by decide +kernel
theorem dX1_becomeLike_180 : decode cX1_becomeLike 180 = .ok (.putfield 69, 3) := by decide +kernel
theorem dX1_becomeLike_183 : decode cX1_becomeLike 183 = .ok (.return_, 1) := by decide +kernel
theorem ok_X1_becomeLike : okV yX1_becomeLike cX1_becomeLike 2 none 1 := ⟨mw_618, mw_619, mw_77, mw_620, by decide +kernel, by decide +kernel⟩
abbrev rm_X1_becomeLike : Room := { frames := 1, cells := 0, slots := 0, locals := 100 }
def w_X1_becomeLike (post : St → Prop) (σ : St) (i0 : Nat) (i1 : Nat) : Prop := (¬ (0 : Int32) < 0 ∧ ¬ (0 : Int32) < 0 ∧ ¬ (12 : Int32) < 0 ∧ (0 : Int32).toNatClampNeg + (12 : Int32).toNatClampNeg ≤ 12 ∧ (0 : Int32).toNatClampNeg + (12 : Int32).toNatClampNeg ≤ 12) ∧ (∀ s2 : St, s2 = wrR σ 6 i0 (va_cpy (σ 6 i1) (σ 6 i0) (0 : Int32).toNatClampNeg (0 : Int32).toNatClampNeg (12 : Int32).toNatClampNeg) → ((¬ (0 : Int32) < 0 ∧ ¬ (0 : Int32) < 0 ∧ ¬ (12 : Int32) < 0 ∧ (0 : Int32).toNatClampNeg + (12 : Int32).toNatClampNeg ≤ 12 ∧ (0 : Int32).toNatClampNeg + (12 : Int32).toNatClampNeg ≤ 12) ∧ (∀ s4 : St, s4 = wrR s2 7 i0 (va_cpy (s2 7 i1) (s2 7 i0) (0 : Int32).toNatClampNeg (0 : Int32).toNatClampNeg (12 : Int32).toNatClampNeg) → ((¬ (0 : Int32) < 0 ∧ ¬ (0 : Int32) < 0 ∧ ¬ (12 : Int32) < 0 ∧ (0 : Int32).toNatClampNeg + (12 : Int32).toNatClampNeg ≤ 12 ∧ (0 : Int32).toNatClampNeg + (12 : Int32).toNatClampNeg ≤ 12) ∧ (∀ s6 : St, s6 = wrR s4 8 i0 (va_cpy (s4 8 i1) (s4 8 i0) (0 : Int32).toNatClampNeg (0 : Int32).toNatClampNeg (12 : Int32).toNatClampNeg) → ((¬ (0 : Int32) < 0 ∧ ¬ (0 : Int32) < 0 ∧ ¬ (12 : Int32) < 0 ∧ (0 : Int32).toNatClampNeg + (12 : Int32).toNatClampNeg ≤ 12 ∧ (0 : Int32).toNatClampNeg + (12 : Int32).toNatClampNeg ≤ 12) ∧ (∀ s8 : St, s8 = wrR s6 9 i0 (va_cpy (s6 9 i1) (s6 9 i0) (0 : Int32).toNatClampNeg (0 : Int32).toNatClampNeg (12 : Int32).toNatClampNeg) → ((¬ (0 : Int32) < 0 ∧ ¬ (0 : Int32) < 0 ∧ ¬ (12 : Int32) < 0 ∧ (0 : Int32).toNatClampNeg + (12 : Int32).toNatClampNeg ≤ 12 ∧ (0 : Int32).toNatClampNeg + (12 : Int32).toNatClampNeg ≤ 12) ∧ (∀ s10 : St, s10 = wrR s8 10 i0 (va_cpy (s8 10 i1) (s8 10 i0) (0 : Int32).toNatClampNeg (0 : Int32).toNatClampNeg (12 : Int32).toNatClampNeg) → ((¬ (0 : Int32) < 0 ∧ ¬ (0 : Int32) < 0 ∧ ¬ (12 : Int32) < 0 ∧ (0 : Int32).toNatClampNeg + (12 : Int32).toNatClampNeg ≤ 12 ∧ (0 : Int32).toNatClampNeg + (12 : Int32).toNatClampNeg ≤ 12) ∧ (∀ s12 : St, s12 = wrR s10 11 i0 (va_cpy (s10 11 i1) (s10 11 i0) (0 : Int32).toNatClampNeg (0 : Int32).toNatClampNeg (12 : Int32).toNatClampNeg) → ((¬ (0 : Int32) < 0 ∧ ¬ (0 : Int32) < 0 ∧ ¬ (12 : Int32) < 0 ∧ (0 : Int32).toNatClampNeg + (12 : Int32).toNatClampNeg ≤ 12 ∧ (0 : Int32).toNatClampNeg + (12 : Int32).toNatClampNeg ≤ 12) ∧ (∀ s14 : St, s14 = wrR s12 12 i0 (va_cpy (s12 12 i1) (s12 12 i0) (0 : Int32).toNatClampNeg (0 : Int32).toNatClampNeg (12 : Int32).toNatClampNeg) → ((¬ (0 : Int32) < 0 ∧ ¬ (0 : Int32) < 0 ∧ ¬ (2 : Int32) < 0 ∧ (0 : Int32).toNatClampNeg + (2 : Int32).toNatClampNeg ≤ 2 ∧ (0 : Int32).toNatClampNeg + (2 : Int32).toNatClampNeg ≤ 2) ∧ (∀ s16 : St, s16 = wrR s14 13 i0 (va_cpy (s14 13 i1) (s14 13 i0) (0 : Int32).toNatClampNeg (0 : Int32).toNatClampNeg (2 : Int32).toNatClampNeg) → (∀ s17 : St, s17 = wr s16 5 i0 0 (s16 5 i1 0) → (∀ s18 : St, s18 = wr s17 5 i0 1 (s17 5 i1 1) → (∀ s19 : St, s19 = wr s18 5 i0 2 (s18 5 i1 2) → (∀ s20 : St, s20 = wr s19 5 i0 3 (s19 5 i1 3) → (∀ s21 : St, s21 = wr s20 5 i0 4 (s20 5 i1 4) → (∀ s22 : St, s22 = wr s21 5 i0 5 (s21 5 i1 5) → (∀ s23 : St, s23 = wr s22 5 i0 6 (s22 5 i1 6) → (∀ s24 : St, s24 = wr s23 5 i0 7 (s23 5 i1 7) → (post s24))))))))))))))))))))))))
theorem B_X1_becomeLike_0 (E : EnvW p s m args meth c D cy regsC ad "RoofWar$Hill" cX1_becomeLike 2 none) (ha : Apart regsC ad) {post : St → Prop} {σ : St} {i0 : Nat} {i1 : Nat} (hi0 : i0 < 3) (hi1 : i1 < 3) (hw : w_X1_becomeLike post σ i0 i1) {H : Heap} {locs : List Loc} {ls : Array Slot} (hP : va_P D CLS (wC cy ad σ) H) (hS : va_S (AC ad s.heap.size) s.heap H locs) (hl : lv_has ls 2 [(0, .ref (ad 5 i0)), (1, .ref (ad 5 i1))]) : W p l e rm_X1_becomeLike s m args below meth c H locs 0 0 (MQ below (QV D cy (cellC cy ad) regsC ad s.heap.size post) args s 0 0 (AC ad s.heap.size)) (F0 m 0 ls []) := by
  obtain ⟨hx, hb, -⟩ := id E
  unfold w_X1_becomeLike at hw
  refine lv_aload_n hx hb dX1_becomeLike_0 rfl (lv_at hl 1 rfl) ?_
  refine fX1_1 hi1 E hP mw_147 dX1_becomeLike_1 ?_
  refine lv_iconst (v := 0) hx hb dX1_becomeLike_4 (by decide) ?_
  refine lv_aload_n hx hb dX1_becomeLike_5 rfl (lv_at hl 0 rfl) ?_
  refine fX1_1 hi0 E hP mw_147 dX1_becomeLike_6 ?_
  refine lv_iconst (v := 0) hx hb dX1_becomeLike_9 (by decide) ?_
  refine lv_bipush (v := 12) hx hb dX1_becomeLike_10 (by decide) ?_
  obtain ⟨h1, hw⟩ := hw
  refine g_copy E hl.1 ha mw_621 (rC6 hi1) (fun _ => rfl) (rC6 hi0) (fun _ => rfl) mw_623 mw_622 mw_87 h1 ⟨(Nat.le_of_ble_eq_true rfl), by decide⟩ dX1_becomeLike_12 hP hS (fun s2 es2 H locs hP hS => ?_)
  replace hw := hw s2 es2
  refine lv_aload_n hx hb dX1_becomeLike_15 rfl (lv_at hl 1 rfl) ?_
  refine fX1_2 hi1 E hP mw_149 dX1_becomeLike_16 ?_
  refine lv_iconst (v := 0) hx hb dX1_becomeLike_19 (by decide) ?_
  refine lv_aload_n hx hb dX1_becomeLike_20 rfl (lv_at hl 0 rfl) ?_
  refine fX1_2 hi0 E hP mw_149 dX1_becomeLike_21 ?_
  refine lv_iconst (v := 0) hx hb dX1_becomeLike_24 (by decide) ?_
  refine lv_bipush (v := 12) hx hb dX1_becomeLike_25 (by decide) ?_
  obtain ⟨h3, hw⟩ := hw
  refine g_copy E hl.1 ha mw_621 (rC7 hi1) (fun _ => rfl) (rC7 hi0) (fun _ => rfl) mw_623 mw_622 mw_87 h3 ⟨(Nat.le_of_ble_eq_true rfl), by decide⟩ dX1_becomeLike_27 hP hS (fun s4 es4 H locs hP hS => ?_)
  replace hw := hw s4 es4
  refine lv_aload_n hx hb dX1_becomeLike_30 rfl (lv_at hl 1 rfl) ?_
  refine fX1_3 hi1 E hP mw_152 dX1_becomeLike_31 ?_
  refine lv_iconst (v := 0) hx hb dX1_becomeLike_34 (by decide) ?_
  refine lv_aload_n hx hb dX1_becomeLike_35 rfl (lv_at hl 0 rfl) ?_
  refine fX1_3 hi0 E hP mw_152 dX1_becomeLike_36 ?_
  refine lv_iconst (v := 0) hx hb dX1_becomeLike_39 (by decide) ?_
  refine lv_bipush (v := 12) hx hb dX1_becomeLike_40 (by decide) ?_
  obtain ⟨h5, hw⟩ := hw
  refine g_copy E hl.1 ha mw_621 (rC8 hi1) (fun _ => rfl) (rC8 hi0) (fun _ => rfl) mw_623 mw_622 mw_87 h5 ⟨(Nat.le_of_ble_eq_true rfl), by decide⟩ dX1_becomeLike_42 hP hS (fun s6 es6 H locs hP hS => ?_)
  replace hw := hw s6 es6
  refine lv_aload_n hx hb dX1_becomeLike_45 rfl (lv_at hl 1 rfl) ?_
  refine fX1_4 hi1 E hP mw_155 dX1_becomeLike_46 ?_
  refine lv_iconst (v := 0) hx hb dX1_becomeLike_49 (by decide) ?_
  refine lv_aload_n hx hb dX1_becomeLike_50 rfl (lv_at hl 0 rfl) ?_
  refine fX1_4 hi0 E hP mw_155 dX1_becomeLike_51 ?_
  refine lv_iconst (v := 0) hx hb dX1_becomeLike_54 (by decide) ?_
  refine lv_bipush (v := 12) hx hb dX1_becomeLike_55 (by decide) ?_
  obtain ⟨h7, hw⟩ := hw
  refine g_copy E hl.1 ha mw_621 (rC9 hi1) (fun _ => rfl) (rC9 hi0) (fun _ => rfl) mw_623 mw_622 mw_87 h7 ⟨(Nat.le_of_ble_eq_true rfl), by decide⟩ dX1_becomeLike_57 hP hS (fun s8 es8 H locs hP hS => ?_)
  replace hw := hw s8 es8
  refine lv_aload_n hx hb dX1_becomeLike_60 rfl (lv_at hl 1 rfl) ?_
  refine fX1_5 hi1 E hP mw_158 dX1_becomeLike_61 ?_
  refine lv_iconst (v := 0) hx hb dX1_becomeLike_64 (by decide) ?_
  refine lv_aload_n hx hb dX1_becomeLike_65 rfl (lv_at hl 0 rfl) ?_
  refine fX1_5 hi0 E hP mw_158 dX1_becomeLike_66 ?_
  refine lv_iconst (v := 0) hx hb dX1_becomeLike_69 (by decide) ?_
  refine lv_bipush (v := 12) hx hb dX1_becomeLike_70 (by decide) ?_
  obtain ⟨h9, hw⟩ := hw
  refine g_copy E hl.1 ha mw_621 (rC10 hi1) (fun _ => rfl) (rC10 hi0) (fun _ => rfl) mw_623 mw_622 mw_87 h9 ⟨(Nat.le_of_ble_eq_true rfl), by decide⟩ dX1_becomeLike_72 hP hS (fun s10 es10 H locs hP hS => ?_)
  replace hw := hw s10 es10
  refine lv_aload_n hx hb dX1_becomeLike_75 rfl (lv_at hl 1 rfl) ?_
  refine fX1_6 hi1 E hP mw_160 dX1_becomeLike_76 ?_
  refine lv_iconst (v := 0) hx hb dX1_becomeLike_79 (by decide) ?_
  refine lv_aload_n hx hb dX1_becomeLike_80 rfl (lv_at hl 0 rfl) ?_
  refine fX1_6 hi0 E hP mw_160 dX1_becomeLike_81 ?_
  refine lv_iconst (v := 0) hx hb dX1_becomeLike_84 (by decide) ?_
  refine lv_bipush (v := 12) hx hb dX1_becomeLike_85 (by decide) ?_
  obtain ⟨h11, hw⟩ := hw
  refine g_copy E hl.1 ha mw_621 (rC11 hi1) (fun _ => rfl) (rC11 hi0) (fun _ => rfl) mw_623 mw_622 mw_87 h11 ⟨(Nat.le_of_ble_eq_true rfl), by decide⟩ dX1_becomeLike_87 hP hS (fun s12 es12 H locs hP hS => ?_)
  replace hw := hw s12 es12
  refine lv_aload_n hx hb dX1_becomeLike_90 rfl (lv_at hl 1 rfl) ?_
  refine fX1_7 hi1 E hP mw_162 dX1_becomeLike_91 ?_
  refine lv_iconst (v := 0) hx hb dX1_becomeLike_94 (by decide) ?_
  refine lv_aload_n hx hb dX1_becomeLike_95 rfl (lv_at hl 0 rfl) ?_
  refine fX1_7 hi0 E hP mw_162 dX1_becomeLike_96 ?_
  refine lv_iconst (v := 0) hx hb dX1_becomeLike_99 (by decide) ?_
  refine lv_bipush (v := 12) hx hb dX1_becomeLike_100 (by decide) ?_
  obtain ⟨h13, hw⟩ := hw
  refine g_copy E hl.1 ha mw_621 (rC12 hi1) (fun _ => rfl) (rC12 hi0) (fun _ => rfl) mw_623 mw_622 mw_87 h13 ⟨(Nat.le_of_ble_eq_true rfl), by decide⟩ dX1_becomeLike_102 hP hS (fun s14 es14 H locs hP hS => ?_)
  replace hw := hw s14 es14
  refine lv_aload_n hx hb dX1_becomeLike_105 rfl (lv_at hl 1 rfl) ?_
  refine fX1_8 hi1 E hP mw_164 dX1_becomeLike_106 ?_
  refine lv_iconst (v := 0) hx hb dX1_becomeLike_109 (by decide) ?_
  refine lv_aload_n hx hb dX1_becomeLike_110 rfl (lv_at hl 0 rfl) ?_
  refine fX1_8 hi0 E hP mw_164 dX1_becomeLike_111 ?_
  refine lv_iconst (v := 0) hx hb dX1_becomeLike_114 (by decide) ?_
  refine lv_iconst (v := 2) hx hb dX1_becomeLike_115 (by decide) ?_
  obtain ⟨h15, hw⟩ := hw
  refine g_copy E hl.1 ha mw_621 (rC13 hi1) (fun _ => rfl) (rC13 hi0) (fun _ => rfl) mw_623 mw_622 mw_87 h15 ⟨(Nat.le_of_ble_eq_true rfl), by decide⟩ dX1_becomeLike_116 hP hS (fun s16 es16 H locs hP hS => ?_)
  replace hw := hw s16 es16
  refine lv_aload_n hx hb dX1_becomeLike_119 rfl (lv_at hl 0 rfl) ?_
  refine lv_aload_n hx hb dX1_becomeLike_120 rfl (lv_at hl 1 rfl) ?_
  refine fX1_9 hi1 E hP mw_168 dX1_becomeLike_121 ?_
  refine uX1_9 hi0 E ha mw_168 dX1_becomeLike_124 hP hS (fun s17 es17 H locs hP hS => ?_)
  replace hw := hw s17 es17
  refine lv_aload_n hx hb dX1_becomeLike_127 rfl (lv_at hl 0 rfl) ?_
  refine lv_aload_n hx hb dX1_becomeLike_128 rfl (lv_at hl 1 rfl) ?_
  refine fX1_10 hi1 E hP mw_169 dX1_becomeLike_129 ?_
  refine uX1_10 hi0 E ha mw_169 dX1_becomeLike_132 hP hS (fun s18 es18 H locs hP hS => ?_)
  replace hw := hw s18 es18
  refine lv_aload_n hx hb dX1_becomeLike_135 rfl (lv_at hl 0 rfl) ?_
  refine lv_aload_n hx hb dX1_becomeLike_136 rfl (lv_at hl 1 rfl) ?_
  refine fX1_11 hi1 E hP mw_171 dX1_becomeLike_137 ?_
  refine uX1_11 hi0 E ha mw_171 dX1_becomeLike_140 hP hS (fun s19 es19 H locs hP hS => ?_)
  replace hw := hw s19 es19
  refine lv_aload_n hx hb dX1_becomeLike_143 rfl (lv_at hl 0 rfl) ?_
  refine lv_aload_n hx hb dX1_becomeLike_144 rfl (lv_at hl 1 rfl) ?_
  refine fX1_12 hi1 E hP mw_173 dX1_becomeLike_145 ?_
  refine uX1_12 hi0 E ha mw_173 dX1_becomeLike_148 hP hS (fun s20 es20 H locs hP hS => ?_)
  replace hw := hw s20 es20
  refine lv_aload_n hx hb dX1_becomeLike_151 rfl (lv_at hl 0 rfl) ?_
  refine lv_aload_n hx hb dX1_becomeLike_152 rfl (lv_at hl 1 rfl) ?_
  refine fX1_13 hi1 E hP mw_175 dX1_becomeLike_153 ?_
  refine uX1_13 hi0 E ha mw_175 dX1_becomeLike_156 hP hS (fun s21 es21 H locs hP hS => ?_)
  replace hw := hw s21 es21
  refine lv_aload_n hx hb dX1_becomeLike_159 rfl (lv_at hl 0 rfl) ?_
  refine lv_aload_n hx hb dX1_becomeLike_160 rfl (lv_at hl 1 rfl) ?_
  refine fX1_14 hi1 E hP mw_177 dX1_becomeLike_161 ?_
  refine uX1_14 hi0 E ha mw_177 dX1_becomeLike_164 hP hS (fun s22 es22 H locs hP hS => ?_)
  replace hw := hw s22 es22
  refine lv_aload_n hx hb dX1_becomeLike_167 rfl (lv_at hl 0 rfl) ?_
  refine lv_aload_n hx hb dX1_becomeLike_168 rfl (lv_at hl 1 rfl) ?_
  refine fX1_15 hi1 E hP mw_180 dX1_becomeLike_169 ?_
  refine uX1_15 hi0 E ha mw_180 dX1_becomeLike_172 hP hS (fun s23 es23 H locs hP hS => ?_)
  replace hw := hw s23 es23
  refine lv_aload_n hx hb dX1_becomeLike_175 rfl (lv_at hl 0 rfl) ?_
  refine lv_aload_n hx hb dX1_becomeLike_176 rfl (lv_at hl 1 rfl) ?_
  refine fX1_16 hi1 E hP mw_182 dX1_becomeLike_177 ?_
  refine uX1_16 hi0 E ha mw_182 dX1_becomeLike_180 hP hS (fun s24 es24 H locs hP hS => ?_)
  replace hw := hw s24 es24
  exact g_vret E hw hP hS dX1_becomeLike_183
theorem c_X1_becomeLike (l : Launch) (D : va_G) (cy : Nat → ClassId) (ad : Nat → Nat → Nat) (ha : Apart regsC ad) {post : St → Prop} {σ : St} {i0 : Nat} {i1 : Nat} (hi0 : i0 < 3) (hi1 : i1 < 3) (hw : w_X1_becomeLike post σ i0 i1) (sz : Nat) : MetV l yX1_becomeLike cX1_becomeLike 2 rm_X1_becomeLike [.ref (ad 5 i0), .ref (ad 5 i1)] D cy (cellC cy ad) regsC ad σ sz post :=
  Met_inV ok_X1_becomeLike.2.2.2.2.2 (Nat.le_of_ble_eq_true rfl) (fun p e s m below meth c ls E hP hl => B_X1_becomeLike_0 E ha hi0 hi1 hw hP va_S.rf hl)
-- RoofWar$Hill.build(IIII)I
theorem dX1_build_0 : decode cX1_build 0 = .ok (.aload_n 0, 1) := by decide +kernel
theorem dX1_build_1 : decode cX1_build 1 = .ok (.getfield 54, 3) := by decide +kernel
theorem dX1_build_4 : decode cX1_build 4 = .ok (.istore 5, 2) := by decide +kernel
theorem dX1_build_6 : decode cX1_build 6 = .ok (.aload_n 0, 1) := by decide +kernel
theorem dX1_build_7 : decode cX1_build 7 = .ok (.getfield 9, 3) := by decide +kernel
theorem dX1_build_10 : decode cX1_build 10 = .ok (.iload 5, 2) := by decide +kernel
theorem dX1_build_12 : decode cX1_build 12 = .ok (.iload_n 1, 1) := by decide +kernel
theorem dX1_build_13 : decode cX1_build 13 = .ok (.iastore, 1) := by decide +kernel
theorem dX1_build_14 : decode cX1_build 14 = .ok (.aload_n 0, 1) := by decide +kernel
theorem dX1_build_15 : decode cX1_build 15 = .ok (.getfield 15, 3) := by decide +kernel
theorem dX1_build_18 : decode cX1_build 18 = .ok (.iload 5, 2) := by decide +kernel
theorem dX1_build_20 : decode cX1_build 20 = .ok (.iload_n 2, 1) := by decide +kernel
theorem dX1_build_21 : decode cX1_build 21 = .ok (.iastore, 1) := by decide +kernel
theorem dX1_build_22 : decode cX1_build 22 = .ok (.aload_n 0, 1) := by decide +kernel
theorem dX1_build_23 : decode cX1_build 23 = .ok (.getfield 18, 3) := by decide +kernel
theorem dX1_build_26 : decode cX1_build 26 = .ok (.iload 5, 2) := by decide +kernel
theorem dX1_build_28 : decode cX1_build 28 = .ok (.iload_n 3, 1) := by decide +kernel
theorem dX1_build_29 : decode cX1_build 29 = .ok (.iastore, 1) := by decide +kernel
theorem dX1_build_30 : decode cX1_build 30 = .ok (.aload_n 0, 1) := by decide +kernel
theorem dX1_build_31 : decode cX1_build 31 = .ok (.getfield 21, 3) := by decide +kernel
theorem dX1_build_34 : decode cX1_build 34 = .ok (.iload 5, 2) := by decide +kernel
theorem dX1_build_36 : decode cX1_build 36 = .ok (.iload 4, 2) := by decide +kernel
theorem dX1_build_38 : decode cX1_build 38 = .ok (.iastore, 1) := by decide +kernel
theorem dX1_build_39 : decode cX1_build 39 = .ok (.aload_n 0, 1) := by decide +kernel
theorem dX1_build_40 : decode cX1_build 40 = .ok (.getfield 30, 3) := by decide +kernel
theorem dX1_build_43 : decode cX1_build 43 = .ok (.iload 4, 2) := by decide +kernel
theorem dX1_build_45 : decode cX1_build 45 = .ok (.iload 5, 2) := by decide +kernel
theorem dX1_build_47 : decode cX1_build 47 = .ok (.iastore, 1) := by decide +kernel
theorem dX1_build_48 : decode cX1_build 48 = .ok (.aload_n 0, 1) := by decide +kernel
theorem dX1_build_49 : decode cX1_build 49 = .ok (.dup, 1) := by decide +kernel
theorem dX1_build_50 : decode cX1_build 50 = .ok (.getfield 54, 3) := by decide +kernel
theorem dX1_build_53 : decode cX1_build 53 = .ok (.iconst 1, 1) := by decide +kernel
theorem dX1_build_54 : decode cX1_build 54 = .ok (.iadd, 1) := by decide +kernel
theorem dX1_build_55 : decode cX1_build 55 = .ok (.putfield 54, 3) := by decide +kernel
theorem dX1_build_58 : decode cX1_build 58 = .ok (.iload 5, 2) := by decide +kernel
theorem dX1_build_60 : decode cX1_build 60 = .ok (.ireturn, 1) := by decide +kernel
theorem ok_X1_build : okV yX1_build cX1_build 6 (some .int) 4 := ⟨mw_381, mw_382, mw_77, mw_383, by decide +kernel, by decide +kernel⟩
abbrev rm_X1_build : Room := { frames := 0, cells := 0, slots := 0, locals := 0 }
def w_X1_build (post : Int32 → St → Prop) (σ : St) (i0 : Nat) (x1 : Int32) (x2 : Int32) (x3 : Int32) (x4 : Int32) : Prop := ∀ v1 : Int32, v1 = σ 5 i0 0 → (vp_in v1 12 ∧ (∀ s3 : St, s3 = wr σ 6 i0 v1.toNatClampNeg x1 → (vp_in v1 12 ∧ (∀ s5 : St, s5 = wr s3 7 i0 v1.toNatClampNeg x2 → (vp_in v1 12 ∧ (∀ s7 : St, s7 = wr s5 8 i0 v1.toNatClampNeg x3 → (vp_in v1 12 ∧ (∀ s9 : St, s9 = wr s7 9 i0 v1.toNatClampNeg x4 → (vp_in x4 12 ∧ (∀ s11 : St, s11 = wr s9 12 i0 x4.toNatClampNeg v1 → (∀ s12 : St, s12 = wr s11 5 i0 0 ((s11 5 i0 0) + 1) → (post v1 s12))))))))))))
theorem B_X1_build_0 (E : EnvW p s m args meth c D cy regsC ad "RoofWar$Hill" cX1_build 6 (some .int)) (ha : Apart regsC ad) {post : Int32 → St → Prop} {σ : St} {i0 : Nat} {x1 : Int32} {x2 : Int32} {x3 : Int32} {x4 : Int32} (hi0 : i0 < 3) (hw : w_X1_build post σ i0 x1 x2 x3 x4) {H : Heap} {locs : List Loc} {ls : Array Slot} (hP : va_P D CLS (wC cy ad σ) H) (hS : va_S (AC ad s.heap.size) s.heap H locs) (hl : lv_has ls 6 [(0, .ref (ad 5 i0)), (1, .int x1), (2, .int x2), (3, .int x3), (4, .int x4)]) : W p l e rm_X1_build s m args below meth c H locs 0 0 (MQ below (QI D cy (cellC cy ad) regsC ad s.heap.size post) args s 0 0 (AC ad s.heap.size)) (F0 m 0 ls []) := by
  obtain ⟨hx, hb, -⟩ := id E
  unfold w_X1_build at hw
  refine lv_aload_n hx hb dX1_build_0 rfl (lv_at hl 0 rfl) ?_
  refine fX1_9 hi0 E hP mw_168 dX1_build_1 ?_
  refine lv_topi (fun v1 ev1 => ?_)
  replace hw := hw v1 ev1
  refine lv_istore (lv' := [(5, .int v1), (0, .ref (ad 5 i0)), (1, .int x1), (2, .int x2), (3, .int x3), (4, .int x4)]) hx hb dX1_build_4 hl (by decide) rfl (fun ls hl => ?_)
  refine lv_aload_n hx hb dX1_build_6 rfl (lv_at hl 1 rfl) ?_
  refine fX1_1 hi0 E hP mw_147 dX1_build_7 ?_
  refine lv_iload hx hb dX1_build_10 (lv_at hl 0 rfl) ?_
  refine lv_iload_n hx hb dX1_build_12 rfl (lv_at hl 2 rfl) ?_
  obtain ⟨h2, hw⟩ := hw
  refine tC6 hi0 E ha h2 dX1_build_13 hP hS (fun s3 es3 H locs hP hS => ?_)
  replace hw := hw s3 es3
  refine lv_aload_n hx hb dX1_build_14 rfl (lv_at hl 1 rfl) ?_
  refine fX1_2 hi0 E hP mw_149 dX1_build_15 ?_
  refine lv_iload hx hb dX1_build_18 (lv_at hl 0 rfl) ?_
  refine lv_iload_n hx hb dX1_build_20 rfl (lv_at hl 3 rfl) ?_
  obtain ⟨h4, hw⟩ := hw
  refine tC7 hi0 E ha h4 dX1_build_21 hP hS (fun s5 es5 H locs hP hS => ?_)
  replace hw := hw s5 es5
  refine lv_aload_n hx hb dX1_build_22 rfl (lv_at hl 1 rfl) ?_
  refine fX1_3 hi0 E hP mw_152 dX1_build_23 ?_
  refine lv_iload hx hb dX1_build_26 (lv_at hl 0 rfl) ?_
  refine lv_iload_n hx hb dX1_build_28 rfl (lv_at hl 4 rfl) ?_
  obtain ⟨h6, hw⟩ := hw
  refine tC8 hi0 E ha h6 dX1_build_29 hP hS (fun s7 es7 H locs hP hS => ?_)
  replace hw := hw s7 es7
  refine lv_aload_n hx hb dX1_build_30 rfl (lv_at hl 1 rfl) ?_
  refine fX1_4 hi0 E hP mw_155 dX1_build_31 ?_
  refine lv_iload hx hb dX1_build_34 (lv_at hl 0 rfl) ?_
  refine lv_iload hx hb dX1_build_36 (lv_at hl 5 rfl) ?_
  obtain ⟨h8, hw⟩ := hw
  refine tC9 hi0 E ha h8 dX1_build_38 hP hS (fun s9 es9 H locs hP hS => ?_)
  replace hw := hw s9 es9
  refine lv_aload_n hx hb dX1_build_39 rfl (lv_at hl 1 rfl) ?_
  refine fX1_7 hi0 E hP mw_162 dX1_build_40 ?_
  refine lv_iload hx hb dX1_build_43 (lv_at hl 5 rfl) ?_
  refine lv_iload hx hb dX1_build_45 (lv_at hl 0 rfl) ?_
  obtain ⟨h10, hw⟩ := hw
  refine tC12 hi0 E ha h10 dX1_build_47 hP hS (fun s11 es11 H locs hP hS => ?_)
  replace hw := hw s11 es11
  refine lv_aload_n hx hb dX1_build_48 rfl (lv_at hl 1 rfl) ?_
  refine lv_dup hx hb dX1_build_49 rfl ?_
  refine fX1_9 hi0 E hP mw_168 dX1_build_50 ?_
  refine lv_iconst (v := 1) hx hb dX1_build_53 (by decide) ?_
  refine lv_iadd hx hb dX1_build_54 ?_
  refine uX1_9 hi0 E ha mw_168 dX1_build_55 hP hS (fun s12 es12 H locs hP hS => ?_)
  replace hw := hw s12 es12
  refine lv_iload hx hb dX1_build_58 (lv_at hl 0 rfl) ?_
  exact g_iret E hw hP hS dX1_build_60
theorem c_X1_build (l : Launch) (D : va_G) (cy : Nat → ClassId) (ad : Nat → Nat → Nat) (ha : Apart regsC ad) {post : Int32 → St → Prop} {σ : St} {i0 : Nat} {x1 : Int32} {x2 : Int32} {x3 : Int32} {x4 : Int32} (hi0 : i0 < 3) (hw : w_X1_build post σ i0 x1 x2 x3 x4) (sz : Nat) : MetI l yX1_build cX1_build 6 .int rm_X1_build [.ref (ad 5 i0), .int x1, .int x2, .int x3, .int x4] D cy (cellC cy ad) regsC ad σ sz post :=
  Met_inI ok_X1_build.2.2.2.2.2 (Nat.le_of_ble_eq_true rfl) (fun p e s m below meth c ls E hP hl => B_X1_build_0 E ha hi0 hw hP va_S.rf hl)
-- RoofWar$Hill.put(II)V
theorem dX1_put_0 : decode cX1_put 0 = .ok (.aload_n 0, 1) := by decide +kernel
theorem dX1_put_1 : decode cX1_put 1 = .ok (.getfield 30, 3) := by decide +kernel
theorem dX1_put_4 : decode cX1_put 4 = .ok (.aload_n 0, 1) := by decide +kernel
theorem dX1_put_5 : decode cX1_put 5 = .ok (.getfield 21, 3) := by decide +kernel
theorem dX1_put_8 : decode cX1_put 8 = .ok (.iload_n 1, 1) := by decide +kernel
theorem dX1_put_9 : decode cX1_put 9 = .ok (.iaload, 1) := by decide +kernel
theorem dX1_put_10 : decode cX1_put 10 = .ok (.ldc 40, 2) := by decide +kernel
theorem dX1_put_12 : decode cX1_put 12 = .ok (.iastore, 1) := by decide +kernel
theorem dX1_put_13 : decode cX1_put 13 = .ok (.aload_n 0, 1) := by decide +kernel
theorem dX1_put_14 : decode cX1_put 14 = .ok (.getfield 21, 3) := by decide +kernel
theorem dX1_put_17 : decode cX1_put 17 = .ok (.iload_n 1, 1) := by decide +kernel
theorem dX1_put_18 : decode cX1_put 18 = .ok (.iload_n 2, 1) := by decide +kernel
theorem dX1_put_19 : decode cX1_put 19 = .ok (.iastore, 1) := by decide +kernel
theorem dX1_put_20 : decode cX1_put 20 = .ok (.aload_n 0, 1) := by decide +kernel
theorem dX1_put_21 : decode cX1_put 21 = .ok (.getfield 30, 3) := by decide +kernel
theorem dX1_put_24 : decode cX1_put 24 = .ok (.iload_n 2, 1) := by decide +kernel
theorem dX1_put_25 : decode cX1_put 25 = .ok (.iload_n 1, 1) := by decide +kernel
theorem dX1_put_26 : decode cX1_put 26 = .ok (.iastore, 1) := by decide +kernel
theorem dX1_put_27 : decode cX1_put 27 = .ok (.return_, 1) := by decide +kernel
theorem ok_X1_put : okV yX1_put cX1_put 3 none 2 := ⟨mw_427, mw_428, mw_77, mw_429, by decide +kernel, by decide +kernel⟩
abbrev rm_X1_put : Room := { frames := 0, cells := 0, slots := 0, locals := 0 }
def w_X1_put (post : St → Prop) (σ : St) (i0 : Nat) (x1 : Int32) (x2 : Int32) : Prop := vp_in x1 12 ∧ (vp_in (σ 9 i0 x1.toNatClampNeg) 12 ∧ (∀ s3 : St, s3 = wr σ 12 i0 (σ 9 i0 x1.toNatClampNeg).toNatClampNeg ((-1000000005)) → (vp_in x1 12 ∧ (∀ s5 : St, s5 = wr s3 9 i0 x1.toNatClampNeg x2 → (vp_in x2 12 ∧ (∀ s7 : St, s7 = wr s5 12 i0 x2.toNatClampNeg x1 → (post s7)))))))
theorem B_X1_put_0 (E : EnvW p s m args meth c D cy regsC ad "RoofWar$Hill" cX1_put 3 none) (ha : Apart regsC ad) {post : St → Prop} {σ : St} {i0 : Nat} {x1 : Int32} {x2 : Int32} (hi0 : i0 < 3) (hw : w_X1_put post σ i0 x1 x2) {H : Heap} {locs : List Loc} {ls : Array Slot} (hP : va_P D CLS (wC cy ad σ) H) (hS : va_S (AC ad s.heap.size) s.heap H locs) (hl : lv_has ls 3 [(0, .ref (ad 5 i0)), (1, .int x1), (2, .int x2)]) : W p l e rm_X1_put s m args below meth c H locs 0 0 (MQ below (QV D cy (cellC cy ad) regsC ad s.heap.size post) args s 0 0 (AC ad s.heap.size)) (F0 m 0 ls []) := by
  obtain ⟨hx, hb, -⟩ := id E
  unfold w_X1_put at hw
  refine lv_aload_n hx hb dX1_put_0 rfl (lv_at hl 0 rfl) ?_
  refine fX1_7 hi0 E hP mw_162 dX1_put_1 ?_
  refine lv_aload_n hx hb dX1_put_4 rfl (lv_at hl 0 rfl) ?_
  refine fX1_4 hi0 E hP mw_155 dX1_put_5 ?_
  refine lv_iload_n hx hb dX1_put_8 rfl (lv_at hl 1 rfl) ?_
  obtain ⟨h1, hw⟩ := hw
  refine aC9 hi0 E hP h1 dX1_put_9 ?_
  refine g_ldc (v := -1000000005) E mw_145 dX1_put_10 ?_
  obtain ⟨h2, hw⟩ := hw
  refine tC12 hi0 E ha h2 dX1_put_12 hP hS (fun s3 es3 H locs hP hS => ?_)
  replace hw := hw s3 es3
  refine lv_aload_n hx hb dX1_put_13 rfl (lv_at hl 0 rfl) ?_
  refine fX1_4 hi0 E hP mw_155 dX1_put_14 ?_
  refine lv_iload_n hx hb dX1_put_17 rfl (lv_at hl 1 rfl) ?_
  refine lv_iload_n hx hb dX1_put_18 rfl (lv_at hl 2 rfl) ?_
  obtain ⟨h4, hw⟩ := hw
  refine tC9 hi0 E ha h4 dX1_put_19 hP hS (fun s5 es5 H locs hP hS => ?_)
  replace hw := hw s5 es5
  refine lv_aload_n hx hb dX1_put_20 rfl (lv_at hl 0 rfl) ?_
  refine fX1_7 hi0 E hP mw_162 dX1_put_21 ?_
  refine lv_iload_n hx hb dX1_put_24 rfl (lv_at hl 2 rfl) ?_
  refine lv_iload_n hx hb dX1_put_25 rfl (lv_at hl 1 rfl) ?_
  obtain ⟨h6, hw⟩ := hw
  refine tC12 hi0 E ha h6 dX1_put_26 hP hS (fun s7 es7 H locs hP hS => ?_)
  replace hw := hw s7 es7
  exact g_vret E hw hP hS dX1_put_27
theorem c_X1_put (l : Launch) (D : va_G) (cy : Nat → ClassId) (ad : Nat → Nat → Nat) (ha : Apart regsC ad) {post : St → Prop} {σ : St} {i0 : Nat} {x1 : Int32} {x2 : Int32} (hi0 : i0 < 3) (hw : w_X1_put post σ i0 x1 x2) (sz : Nat) : MetV l yX1_put cX1_put 3 rm_X1_put [.ref (ad 5 i0), .int x1, .int x2] D cy (cellC cy ad) regsC ad σ sz post :=
  Met_inV ok_X1_put.2.2.2.2.2 (Nat.le_of_ble_eq_true rfl) (fun p e s m below meth c ls E hP hl => B_X1_put_0 E ha hi0 hw hP va_S.rf hl)
-- RoofWar$Hill.draw()I
theorem dX1_draw_0 : decode cX1_draw 0 = .ok (.aload_n 0, 1) := by decide +kernel
theorem dX1_draw_1 : decode cX1_draw 1 = .ok (.aload_n 0, 1) := by decide +kernel
theorem dX1_draw_2 : decode cX1_draw 2 = .ok (.getfield 45, 3) := by decide +kernel
theorem dX1_draw_5 : decode cX1_draw 5 = .ok (.ldc 72, 2) := by decide +kernel
theorem dX1_draw_7 : decode cX1_draw 7 = .ok (.imul, 1) := by decide +kernel
theorem dX1_draw_8 : decode cX1_draw 8 = .ok (.sipush 12345, 3) := by decide +kernel
theorem dX1_draw_11 : decode cX1_draw 11 = .ok (.iadd, 1) := by decide +kernel
theorem dX1_draw_12 : decode cX1_draw 12 = .ok (.putfield 45, 3) := by decide +kernel
theorem dX1_draw_15 : decode cX1_draw 15 = .ok (.aload_n 0, 1) := by decide +kernel
theorem dX1_draw_16 : decode cX1_draw 16 = .ok (.getfield 45, 3) := by decide +kernel
theorem dX1_draw_19 : decode cX1_draw 19 = .ok (.bipush 8, 2) := by decide +kernel
theorem dX1_draw_21 : decode cX1_draw 21 = .ok (.iushr, 1) := by decide +kernel
theorem dX1_draw_22 : decode cX1_draw 22 = .ok (.ireturn, 1) := by decide +kernel
theorem ok_X1_draw : okV yX1_draw cX1_draw 1 (some .int) 0 := ⟨mw_464, mw_465, mw_77, mw_466, by decide +kernel, by decide +kernel⟩
abbrev rm_X1_draw : Room := { frames := 0, cells := 0, slots := 0, locals := 0 }
def w_X1_draw (post : Int32 → St → Prop) (σ : St) (i0 : Nat) : Prop := ∀ s1 : St, s1 = wr σ 5 i0 6 (((σ 5 i0 6) * 1103515245) + 12345) → (post (jushr (s1 5 i0 6) 8) s1)
theorem B_X1_draw_0 (E : EnvW p s m args meth c D cy regsC ad "RoofWar$Hill" cX1_draw 1 (some .int)) (ha : Apart regsC ad) {post : Int32 → St → Prop} {σ : St} {i0 : Nat} (hi0 : i0 < 3) (hw : w_X1_draw post σ i0) {H : Heap} {locs : List Loc} {ls : Array Slot} (hP : va_P D CLS (wC cy ad σ) H) (hS : va_S (AC ad s.heap.size) s.heap H locs) (hl : lv_has ls 1 [(0, .ref (ad 5 i0))]) : W p l e rm_X1_draw s m args below meth c H locs 0 0 (MQ below (QI D cy (cellC cy ad) regsC ad s.heap.size post) args s 0 0 (AC ad s.heap.size)) (F0 m 0 ls []) := by
  obtain ⟨hx, hb, -⟩ := id E
  unfold w_X1_draw at hw
  refine lv_aload_n hx hb dX1_draw_0 rfl (lv_at hl 0 rfl) ?_
  refine lv_aload_n hx hb dX1_draw_1 rfl (lv_at hl 0 rfl) ?_
  refine fX1_15 hi0 E hP mw_180 dX1_draw_2 ?_
  refine g_ldc (v := 1103515245) E mw_467 dX1_draw_5 ?_
  refine lv_imul hx hb dX1_draw_7 ?_
  refine lv_sipush (v := 12345) hx hb dX1_draw_8 (by decide) ?_
  refine lv_iadd hx hb dX1_draw_11 ?_
  refine uX1_15 hi0 E ha mw_180 dX1_draw_12 hP hS (fun s1 es1 H locs hP hS => ?_)
  replace hw := hw s1 es1
  refine lv_aload_n hx hb dX1_draw_15 rfl (lv_at hl 0 rfl) ?_
  refine fX1_15 hi0 E hP mw_180 dX1_draw_16 ?_
  refine lv_bipush (v := 8) hx hb dX1_draw_19 (by decide) ?_
  refine lv_iushr (v := jushr (s1 5 i0 6) 8) hx hb dX1_draw_21 rfl ?_
  exact g_iret E hw hP hS dX1_draw_22
theorem c_X1_draw (l : Launch) (D : va_G) (cy : Nat → ClassId) (ad : Nat → Nat → Nat) (ha : Apart regsC ad) {post : Int32 → St → Prop} {σ : St} {i0 : Nat} (hi0 : i0 < 3) (hw : w_X1_draw post σ i0) (sz : Nat) : MetI l yX1_draw cX1_draw 1 .int rm_X1_draw [.ref (ad 5 i0)] D cy (cellC cy ad) regsC ad σ sz post :=
  Met_inI ok_X1_draw.2.2.2.2.2 (Nat.le_of_ble_eq_true rfl) (fun p e s m below meth c ls E hP hl => B_X1_draw_0 E ha hi0 hw hP va_S.rf hl)
-- RoofWar$Hill.drawRoof()V
theorem dX1_drawRoof_0 : decode cX1_drawRoof 0 = .ok (.aload_n 0, 1) := by decide +kernel
theorem dX1_drawRoof_1 : decode cX1_drawRoof 1 = .ok (.invokevirtual 73, 3) := by decide +kernel
theorem dX1_drawRoof_4 : decode cX1_drawRoof 4 = .ok (.bipush 6, 2) := by decide +kernel
theorem dX1_drawRoof_6 : decode cX1_drawRoof 6 = .ok (.irem, 1) := by decide +kernel
theorem dX1_drawRoof_7 : decode cX1_drawRoof 7 = .ok (.istore_n 1, 1) := by decide +kernel
theorem dX1_drawRoof_8 : decode cX1_drawRoof 8 = .ok (.iconst 1, 1) := by decide +kernel
theorem dX1_drawRoof_9 : decode cX1_drawRoof 9 = .ok (.aload_n 0, 1) := by decide +kernel
theorem dX1_drawRoof_10 : decode cX1_drawRoof 10 = .ok (.invokevirtual 73, 3) := by decide +kernel
theorem dX1_drawRoof_13 : decode cX1_drawRoof 13 = .ok (.bipush 9, 2) := by decide +kernel
theorem dX1_drawRoof_15 : decode cX1_drawRoof 15 = .ok (.irem, 1) := by decide +kernel
theorem dX1_drawRoof_16 : decode cX1_drawRoof 16 = .ok (.iadd, 1) := by decide +kernel
theorem dX1_drawRoof_17 : decode cX1_drawRoof 17 = .ok (.istore_n 2, 1) := by decide +kernel
theorem dX1_drawRoof_18 : decode cX1_drawRoof 18 = .ok (.aload_n 0, 1) := by decide +kernel
theorem dX1_drawRoof_19 : decode cX1_drawRoof 19 = .ok (.invokevirtual 73, 3) := by decide +kernel
theorem dX1_drawRoof_22 : decode cX1_drawRoof 22 = .ok (.bipush 50, 2) := by decide +kernel
theorem dX1_drawRoof_24 : decode cX1_drawRoof 24 = .ok (.irem, 1) := by decide +kernel
theorem dX1_drawRoof_25 : decode cX1_drawRoof 25 = .ok (.istore_n 3, 1) := by decide +kernel
theorem dX1_drawRoof_26 : decode cX1_drawRoof 26 = .ok (.aload_n 0, 1) := by decide +kernel
theorem dX1_drawRoof_27 : decode cX1_drawRoof 27 = .ok (.invokevirtual 73, 3) := by decide +kernel
theorem dX1_drawRoof_30 : decode cX1_drawRoof 30 = .ok (.bipush 12, 2) := by decide +kernel
theorem dX1_drawRoof_32 : decode cX1_drawRoof 32 = .ok (.irem, 1) := by decide +kernel
theorem dX1_drawRoof_33 : decode cX1_drawRoof 33 = .ok (.istore 4, 2) := by decide +kernel
theorem dX1_drawRoof_35 : decode cX1_drawRoof 35 = .ok (.iconst 0, 1) := by decide +kernel
theorem dX1_drawRoof_36 : decode cX1_drawRoof 36 = .ok (.istore 5, 2) := by decide +kernel
theorem dX1_drawRoof_38 : decode cX1_drawRoof 38 = .ok (.iload 5, 2) := by decide +kernel
theorem dX1_drawRoof_40 : decode cX1_drawRoof 40 = .ok (.bipush 12, 2) := by decide +kernel
theorem dX1_drawRoof_42 : decode cX1_drawRoof 42 = .ok (.if_icmp .ge 30, 3) := by decide +kernel
theorem dX1_drawRoof_45 : decode cX1_drawRoof 45 = .ok (.aload_n 0, 1) := by decide +kernel
theorem dX1_drawRoof_46 : decode cX1_drawRoof 46 = .ok (.getfield 30, 3) := by decide +kernel
theorem dX1_drawRoof_49 : decode cX1_drawRoof 49 = .ok (.iload 4, 2) := by decide +kernel
theorem dX1_drawRoof_51 : decode cX1_drawRoof 51 = .ok (.iaload, 1) := by decide +kernel
theorem dX1_drawRoof_52 : decode cX1_drawRoof 52 = .ok (.ldc 40, 2) := by decide +kernel
theorem dX1_drawRoof_54 : decode cX1_drawRoof 54 = .ok (.if_icmp .eq 18, 3) := by decide +kernel
theorem dX1_drawRoof_57 : decode cX1_drawRoof 57 = .ok (.iload 4, 2) := by decide +kernel
theorem dX1_drawRoof_59 : decode cX1_drawRoof 59 = .ok (.iconst 1, 1) := by decide +kernel
theorem dX1_drawRoof_60 : decode cX1_drawRoof 60 = .ok (.iadd, 1) := by decide +kernel
theorem dX1_drawRoof_61 : decode cX1_drawRoof 61 = .ok (.bipush 12, 2) := by decide +kernel
theorem dX1_drawRoof_63 : decode cX1_drawRoof 63 = .ok (.irem, 1) := by decide +kernel
theorem dX1_drawRoof_64 : decode cX1_drawRoof 64 = .ok (.istore 4, 2) := by decide +kernel
theorem dX1_drawRoof_66 : decode cX1_drawRoof 66 = .ok (.iinc 5 1, 3) := by decide +kernel
theorem dX1_drawRoof_69 : decode cX1_drawRoof 69 = .ok (.goto (-31), 3) := by decide +kernel
theorem dX1_drawRoof_72 : decode cX1_drawRoof 72 = .ok (.aload_n 0, 1) := by decide +kernel
theorem dX1_drawRoof_73 : decode cX1_drawRoof 73 = .ok (.iload_n 1, 1) := by decide +kernel
theorem dX1_drawRoof_74 : decode cX1_drawRoof 74 = .ok (.iload_n 2, 1) := by decide +kernel
theorem dX1_drawRoof_75 : decode cX1_drawRoof 75 = .ok (.iload_n 3, 1) := by decide +kernel
theorem dX1_drawRoof_76 : decode cX1_drawRoof 76 = .ok (.iload 4, 2) := by decide +kernel
theorem dX1_drawRoof_78 : decode cX1_drawRoof 78 = .ok (.invokevirtual 79, 3) := by decide +kernel
theorem dX1_drawRoof_81 : decode cX1_drawRoof 81 = .ok (.pop, 1) := by decide +kernel
theorem dX1_drawRoof_82 : decode cX1_drawRoof 82 = .ok (.return_, 1) := by decide +kernel
theorem ok_X1_drawRoof : okV yX1_drawRoof cX1_drawRoof 6 none 0 := ⟨mw_460, mw_461, mw_77, mw_462, by decide +kernel, by decide +kernel⟩
abbrev rm_X1_drawRoof : Room := { frames := 1, cells := 0, slots := 0, locals := 25 }
def b_X1_drawRoof_72 (post : St → Prop) (σ : St) (i0 : Nat) (x1 : Int32) (x2 : Int32) (x3 : Int32) (x4 : Int32) : Prop := w_X1_build (fun r1 s1 => post s1) σ i0 x1 x2 x3 x4
theorem B_X1_drawRoof_72 (E : EnvW p s m args meth c D cy regsC ad "RoofWar$Hill" cX1_drawRoof 6 none) (ha : Apart regsC ad) {post : St → Prop} {σ : St} {i0 : Nat} {x1 : Int32} {x2 : Int32} {x3 : Int32} {x4 : Int32} (hi0 : i0 < 3) (hw : b_X1_drawRoof_72 post σ i0 x1 x2 x3 x4) {H : Heap} {locs : List Loc} {ls : Array Slot} (hP : va_P D CLS (wC cy ad σ) H) (hS : va_S (AC ad s.heap.size) s.heap H locs) (hl : lv_has ls 6 [(0, .ref (ad 5 i0)), (1, .int x1), (2, .int x2), (3, .int x3), (4, .int x4)]) : W p l e rm_X1_drawRoof s m args below meth c H locs 0 0 (MQ below (QV D cy (cellC cy ad) regsC ad s.heap.size post) args s 0 0 (AC ad s.heap.size)) (F0 m 72 ls []) := by
  obtain ⟨hx, hb, -⟩ := id E
  unfold b_X1_drawRoof_72 at hw
  refine lv_aload_n hx hb dX1_drawRoof_72 rfl (lv_at hl 0 rfl) ?_
  refine lv_iload_n hx hb dX1_drawRoof_73 rfl (lv_at hl 1 rfl) ?_
  refine lv_iload_n hx hb dX1_drawRoof_74 rfl (lv_at hl 2 rfl) ?_
  refine lv_iload_n hx hb dX1_drawRoof_75 rfl (lv_at hl 3 rfl) ?_
  refine lv_iload hx hb dX1_drawRoof_76 (lv_at hl 4 rfl) ?_
  refine g_cVi (As := [.int x1, .int x2, .int x3, .int x4]) (rest := []) E hl.1 (c_X1_build l D cy ad ha hi0 hw _) ok_X1_build mw_468 ⟨(Nat.le_of_ble_eq_true rfl), (Nat.le_of_ble_eq_true rfl)⟩ ⟨rfl, rfl⟩ (rC5 hi0) rfl rfl rfl rfl rfl (Nat.le_of_ble_eq_true rfl) ⟨Nat.zero_le _, Nat.zero_le _⟩ hP hS dX1_drawRoof_78 (fun r1 s1 hw H locs hP hS => ?_)
  refine lv_pop hx hb dX1_drawRoof_81 rfl ?_
  exact g_vret E hw hP hS dX1_drawRoof_82
def b_X1_drawRoof_38 (K38 : St → Nat → Int32 → Int32 → Int32 → Int32 → Int32 → Prop) (post : St → Prop) (σ : St) (i0 : Nat) (x1 : Int32) (x2 : Int32) (x3 : Int32) (x4 : Int32) (x5 : Int32) : Prop := ((12 ≤ x5 → (b_X1_drawRoof_72 post σ i0 x1 x2 x3 x4)) ∧ (¬ 12 ≤ x5 → (vp_in x4 12 ∧ ((((σ 12 i0 x4.toNatClampNeg) = ((-1000000005)) → (b_X1_drawRoof_72 post σ i0 x1 x2 x3 x4)) ∧ (¬ (σ 12 i0 x4.toNatClampNeg) = ((-1000000005)) → (¬ (12 : Int32) = 0 ∧ (∀ v5 : Int32, v5 = jrem (x4 + 1) 12 → (∀ v6 : Int32, v6 = x5 + 1 → (K38 σ i0 x1 x2 x3 v5 v6))))))))))
noncomputable def l_X1_drawRoof_38 (post : St → Prop) : Nat → St → Nat → Int32 → Int32 → Int32 → Int32 → Int32 → Prop := fun n => Nat.rec (motive := fun _ => St → Nat → Int32 → Int32 → Int32 → Int32 → Int32 → Prop) (fun _ _ _ _ _ _ _ => False) (fun _ ih => b_X1_drawRoof_38 ih post) n
theorem L_X1_drawRoof_38 (E : EnvW p s m args meth c D cy regsC ad "RoofWar$Hill" cX1_drawRoof 6 none) (ha : Apart regsC ad) {post : St → Prop} : ∀ (n : Nat), ∀ (σ : St) (i0 : Nat) (x1 : Int32) (x2 : Int32) (x3 : Int32) (x4 : Int32) (x5 : Int32), i0 < 3 → l_X1_drawRoof_38 post n σ i0 x1 x2 x3 x4 x5 → ∀ (H : Heap) (locs : List Loc) (ls : Array Slot), va_P D CLS (wC cy ad σ) H → va_S (AC ad s.heap.size) s.heap H locs → lv_has ls 6 [(0, .ref (ad 5 i0)), (1, .int x1), (2, .int x2), (3, .int x3), (4, .int x4), (5, .int x5)] → W p l e rm_X1_drawRoof s m args below meth c H locs 0 0 (MQ below (QV D cy (cellC cy ad) regsC ad s.heap.size post) args s 0 0 (AC ad s.heap.size)) (F0 m 38 ls []) := by
  obtain ⟨hx, hb, -⟩ := id E
  intro n
  induction n with
  | zero => intro σ i0 x1 x2 x3 x4 x5 hi0 hw; exact hw.elim
  | succ n hk38 =>
    intro σ i0 x1 x2 x3 x4 x5 hi0 hw H locs ls hP hS hl
    replace hw : b_X1_drawRoof_38 (l_X1_drawRoof_38 post n) post σ i0 x1 x2 x3 x4 x5 := hw
    unfold b_X1_drawRoof_38 at hw
    refine lv_iload hx hb dX1_drawRoof_38 (lv_at hl 5 rfl) ?_
    refine lv_bipush (v := 12) hx hb dX1_drawRoof_40 (by decide) ?_
    refine lv_icmp_ge (tgt := 72) hx hb dX1_drawRoof_42 (by decide) (fun c1 => ?_) (fun c1 => ?_)
    · replace hw := hw.1 c1
      exact B_X1_drawRoof_72 E ha hi0 hw hP hS (lv_sub hl [0, 1, 2, 3, 4] rfl)
    · replace hw := hw.2 c1
      refine lv_aload_n hx hb dX1_drawRoof_45 rfl (lv_at hl 0 rfl) ?_
      refine fX1_7 hi0 E hP mw_162 dX1_drawRoof_46 ?_
      refine lv_iload hx hb dX1_drawRoof_49 (lv_at hl 4 rfl) ?_
      obtain ⟨h2, hw⟩ := hw
      refine aC12 hi0 E hP h2 dX1_drawRoof_51 ?_
      refine g_ldc (v := -1000000005) E mw_145 dX1_drawRoof_52 ?_
      refine lv_icmp_eq (tgt := 72) hx hb dX1_drawRoof_54 (by decide) (fun c3 => ?_) (fun c3 => ?_)
      · replace hw := hw.1 c3
        exact B_X1_drawRoof_72 E ha hi0 hw hP hS (lv_sub hl [0, 1, 2, 3, 4] rfl)
      · replace hw := hw.2 c3
        refine lv_iload hx hb dX1_drawRoof_57 (lv_at hl 4 rfl) ?_
        refine lv_iconst (v := 1) hx hb dX1_drawRoof_59 (by decide) ?_
        refine lv_iadd hx hb dX1_drawRoof_60 ?_
        refine lv_bipush (v := 12) hx hb dX1_drawRoof_61 (by decide) ?_
        obtain ⟨h4, hw⟩ := hw
        refine lv_irem hx hb dX1_drawRoof_63 h4 ?_
        refine lv_topi (fun v5 ev5 => ?_)
        replace hw := hw v5 ev5
        refine lv_istore (lv' := [(4, .int v5), (0, .ref (ad 5 i0)), (1, .int x1), (2, .int x2), (3, .int x3), (5, .int x5)]) hx hb dX1_drawRoof_64 hl (by decide) rfl (fun ls hl => ?_)
        obtain ⟨v6, ev6⟩ : ∃ y : Int32, y = x5 + 1 := ⟨_, rfl⟩
        replace hw := hw v6 ev6
        refine lv_iinc (v := v6) (lv' := [(5, .int v6), (4, .int v5), (0, .ref (ad 5 i0)), (1, .int x1), (2, .int x2), (3, .int x3)]) hx hb dX1_drawRoof_66 hl (k := 5) rfl (by rw [ev6]; rfl) (by decide) rfl (fun ls hl => ?_)
        refine lv_goto (tgt := 38) hx hb dX1_drawRoof_69 (by decide) ?_
        exact hk38 σ i0 x1 x2 x3 v5 v6 hi0 hw _ _ _ hP hS (lv_sub hl [2, 3, 4, 5, 1, 0] rfl)
def w_X1_drawRoof (post : St → Prop) (σ : St) (i0 : Nat) : Prop := w_X1_draw (fun r1 s1 => ¬ (6 : Int32) = 0 ∧ (∀ v3 : Int32, v3 = jrem r1 6 → (w_X1_draw (fun r4 s4 => ¬ (9 : Int32) = 0 ∧ (∀ v6 : Int32, v6 = jrem r4 9 → (∀ v7 : Int32, v7 = 1 + v6 → (w_X1_draw (fun r8 s8 => ¬ (50 : Int32) = 0 ∧ (∀ v10 : Int32, v10 = jrem r8 50 → (w_X1_draw (fun r11 s11 => ¬ (12 : Int32) = 0 ∧ (∀ v13 : Int32, v13 = jrem r11 12 → (∃ n14 : Nat, l_X1_drawRoof_38 post n14 s11 i0 v3 v7 v10 v13 (0 : Int32)))) s8 i0))) s4 i0)))) s1 i0))) σ i0
theorem B_X1_drawRoof_0 (E : EnvW p s m args meth c D cy regsC ad "RoofWar$Hill" cX1_drawRoof 6 none) (ha : Apart regsC ad) {post : St → Prop} {σ : St} {i0 : Nat} (hi0 : i0 < 3) (hw : w_X1_drawRoof post σ i0) {H : Heap} {locs : List Loc} {ls : Array Slot} (hP : va_P D CLS (wC cy ad σ) H) (hS : va_S (AC ad s.heap.size) s.heap H locs) (hl : lv_has ls 6 [(0, .ref (ad 5 i0))]) : W p l e rm_X1_drawRoof s m args below meth c H locs 0 0 (MQ below (QV D cy (cellC cy ad) regsC ad s.heap.size post) args s 0 0 (AC ad s.heap.size)) (F0 m 0 ls []) := by
  obtain ⟨hx, hb, -⟩ := id E
  unfold w_X1_drawRoof at hw
  refine lv_aload_n hx hb dX1_drawRoof_0 rfl (lv_at hl 0 rfl) ?_
  refine g_cVi (As := []) (rest := []) E hl.1 (c_X1_draw l D cy ad ha hi0 hw _) ok_X1_draw mw_463 ⟨(Nat.le_of_ble_eq_true rfl), (Nat.le_of_ble_eq_true rfl)⟩ ⟨rfl, rfl⟩ (rC5 hi0) rfl rfl rfl rfl rfl (Nat.le_of_ble_eq_true rfl) ⟨Nat.zero_le _, Nat.zero_le _⟩ hP hS dX1_drawRoof_1 (fun r1 s1 hw H locs hP hS => ?_)
  refine lv_bipush (v := 6) hx hb dX1_drawRoof_4 (by decide) ?_
  obtain ⟨h2, hw⟩ := hw
  refine lv_irem hx hb dX1_drawRoof_6 h2 ?_
  refine lv_topi (fun v3 ev3 => ?_)
  replace hw := hw v3 ev3
  refine lv_istore_n (lv' := [(1, .int v3), (0, .ref (ad 5 i0))]) hx hb dX1_drawRoof_7 rfl hl (by decide) rfl (fun ls hl => ?_)
  refine lv_iconst (v := 1) hx hb dX1_drawRoof_8 (by decide) ?_
  refine lv_aload_n hx hb dX1_drawRoof_9 rfl (lv_at hl 1 rfl) ?_
  refine g_cVi (As := []) (rest := [.int 1]) E hl.1 (c_X1_draw l D cy ad ha hi0 hw _) ok_X1_draw mw_463 ⟨(Nat.le_of_ble_eq_true rfl), (Nat.le_of_ble_eq_true rfl)⟩ ⟨rfl, rfl⟩ (rC5 hi0) rfl rfl rfl rfl rfl (Nat.le_of_ble_eq_true rfl) ⟨Nat.zero_le _, Nat.zero_le _⟩ hP hS dX1_drawRoof_10 (fun r4 s4 hw H locs hP hS => ?_)
  refine lv_bipush (v := 9) hx hb dX1_drawRoof_13 (by decide) ?_
  obtain ⟨h5, hw⟩ := hw
  refine lv_irem hx hb dX1_drawRoof_15 h5 ?_
  refine lv_topi (fun v6 ev6 => ?_)
  replace hw := hw v6 ev6
  refine lv_iadd hx hb dX1_drawRoof_16 ?_
  refine lv_topi (fun v7 ev7 => ?_)
  replace hw := hw v7 ev7
  refine lv_istore_n (lv' := [(2, .int v7), (1, .int v3), (0, .ref (ad 5 i0))]) hx hb dX1_drawRoof_17 rfl hl (by decide) rfl (fun ls hl => ?_)
  refine lv_aload_n hx hb dX1_drawRoof_18 rfl (lv_at hl 2 rfl) ?_
  refine g_cVi (As := []) (rest := []) E hl.1 (c_X1_draw l D cy ad ha hi0 hw _) ok_X1_draw mw_463 ⟨(Nat.le_of_ble_eq_true rfl), (Nat.le_of_ble_eq_true rfl)⟩ ⟨rfl, rfl⟩ (rC5 hi0) rfl rfl rfl rfl rfl (Nat.le_of_ble_eq_true rfl) ⟨Nat.zero_le _, Nat.zero_le _⟩ hP hS dX1_drawRoof_19 (fun r8 s8 hw H locs hP hS => ?_)
  refine lv_bipush (v := 50) hx hb dX1_drawRoof_22 (by decide) ?_
  obtain ⟨h9, hw⟩ := hw
  refine lv_irem hx hb dX1_drawRoof_24 h9 ?_
  refine lv_topi (fun v10 ev10 => ?_)
  replace hw := hw v10 ev10
  refine lv_istore_n (lv' := [(3, .int v10), (2, .int v7), (1, .int v3), (0, .ref (ad 5 i0))]) hx hb dX1_drawRoof_25 rfl hl (by decide) rfl (fun ls hl => ?_)
  refine lv_aload_n hx hb dX1_drawRoof_26 rfl (lv_at hl 3 rfl) ?_
  refine g_cVi (As := []) (rest := []) E hl.1 (c_X1_draw l D cy ad ha hi0 hw _) ok_X1_draw mw_463 ⟨(Nat.le_of_ble_eq_true rfl), (Nat.le_of_ble_eq_true rfl)⟩ ⟨rfl, rfl⟩ (rC5 hi0) rfl rfl rfl rfl rfl (Nat.le_of_ble_eq_true rfl) ⟨Nat.zero_le _, Nat.zero_le _⟩ hP hS dX1_drawRoof_27 (fun r11 s11 hw H locs hP hS => ?_)
  refine lv_bipush (v := 12) hx hb dX1_drawRoof_30 (by decide) ?_
  obtain ⟨h12, hw⟩ := hw
  refine lv_irem hx hb dX1_drawRoof_32 h12 ?_
  refine lv_topi (fun v13 ev13 => ?_)
  replace hw := hw v13 ev13
  refine lv_istore (lv' := [(4, .int v13), (3, .int v10), (2, .int v7), (1, .int v3), (0, .ref (ad 5 i0))]) hx hb dX1_drawRoof_33 hl (by decide) rfl (fun ls hl => ?_)
  refine lv_iconst (v := 0) hx hb dX1_drawRoof_35 (by decide) ?_
  refine lv_istore (lv' := [(5, .int 0), (4, .int v13), (3, .int v10), (2, .int v7), (1, .int v3), (0, .ref (ad 5 i0))]) hx hb dX1_drawRoof_36 hl (by decide) rfl (fun ls hl => ?_)
  obtain ⟨n14, hw⟩ := hw
  exact L_X1_drawRoof_38 E ha n14 s11 i0 v3 v7 v10 v13 (0 : Int32) hi0 hw _ _ _ hP hS (lv_sub hl [5, 4, 3, 2, 1, 0] rfl)
theorem c_X1_drawRoof (l : Launch) (D : va_G) (cy : Nat → ClassId) (ad : Nat → Nat → Nat) (ha : Apart regsC ad) {post : St → Prop} {σ : St} {i0 : Nat} (hi0 : i0 < 3) (hw : w_X1_drawRoof post σ i0) (sz : Nat) : MetV l yX1_drawRoof cX1_drawRoof 6 rm_X1_drawRoof [.ref (ad 5 i0)] D cy (cellC cy ad) regsC ad σ sz post :=
  Met_inV ok_X1_drawRoof.2.2.2.2.2 (Nat.le_of_ble_eq_true rfl) (fun p e s m below meth c ls E hP hl => B_X1_drawRoof_0 E ha hi0 hw hP va_S.rf hl)
-- RoofWar$Hill.dryWere(II)I
theorem dX1_dryWere_0 : decode cX1_dryWere 0 = .ok (.aload_n 0, 1) := by decide +kernel
theorem dX1_dryWere_1 : decode cX1_dryWere 1 = .ok (.getfield 24, 3) := by decide +kernel
theorem dX1_dryWere_4 : decode cX1_dryWere 4 = .ok (.iload_n 2, 1) := by decide +kernel
theorem dX1_dryWere_5 : decode cX1_dryWere 5 = .ok (.iaload, 1) := by decide +kernel
theorem dX1_dryWere_6 : decode cX1_dryWere 6 = .ok (.aload_n 0, 1) := by decide +kernel
theorem dX1_dryWere_7 : decode cX1_dryWere 7 = .ok (.getfield 9, 3) := by decide +kernel
theorem dX1_dryWere_10 : decode cX1_dryWere 10 = .ok (.iload_n 1, 1) := by decide +kernel
theorem dX1_dryWere_11 : decode cX1_dryWere 11 = .ok (.iaload, 1) := by decide +kernel
theorem dX1_dryWere_12 : decode cX1_dryWere 12 = .ok (.aload_n 0, 1) := by decide +kernel
theorem dX1_dryWere_13 : decode cX1_dryWere 13 = .ok (.getfield 15, 3) := by decide +kernel
theorem dX1_dryWere_16 : decode cX1_dryWere 16 = .ok (.iload_n 1, 1) := by decide +kernel
theorem dX1_dryWere_17 : decode cX1_dryWere 17 = .ok (.iaload, 1) := by decide +kernel
theorem dX1_dryWere_18 : decode cX1_dryWere 18 = .ok (.invokestatic 83, 3) := by decide +kernel
theorem dX1_dryWere_21 : decode cX1_dryWere 21 = .ok (.invokestatic 87, 3) := by decide +kernel
theorem dX1_dryWere_24 : decode cX1_dryWere 24 = .ok (.ireturn, 1) := by decide +kernel
theorem ok_X1_dryWere : okV yX1_dryWere cX1_dryWere 3 (some .int) 2 := ⟨mw_439, mw_440, mw_77, mw_441, by decide +kernel, by decide +kernel⟩
abbrev rm_X1_dryWere : Room := { frames := 1, cells := 0, slots := 0, locals := 24 }
def w_X1_dryWere (post : Int32 → St → Prop) (σ : St) (i0 : Nat) (x1 : Int32) (x2 : Int32) : Prop := vp_in x2 12 ∧ (vp_in x1 12 ∧ (vp_in x1 12 ∧ (w_X2_covers (fun r4 s4 => ∀ v5 : Int32, v5 = (if r4 < (σ 10 i0 x2.toNatClampNeg) then r4 else (σ 10 i0 x2.toNatClampNeg)) → (post v5 s4)) σ (σ 6 i0 x1.toNatClampNeg) (σ 7 i0 x1.toNatClampNeg))))
theorem B_X1_dryWere_0 (E : EnvW p s m args meth c D cy regsC ad "RoofWar$Hill" cX1_dryWere 3 (some .int)) (ha : Apart regsC ad) {post : Int32 → St → Prop} {σ : St} {i0 : Nat} {x1 : Int32} {x2 : Int32} (hi0 : i0 < 3) (hw : w_X1_dryWere post σ i0 x1 x2) {H : Heap} {locs : List Loc} {ls : Array Slot} (hP : va_P D CLS (wC cy ad σ) H) (hS : va_S (AC ad s.heap.size) s.heap H locs) (hl : lv_has ls 3 [(0, .ref (ad 5 i0)), (1, .int x1), (2, .int x2)]) : W p l e rm_X1_dryWere s m args below meth c H locs 0 0 (MQ below (QI D cy (cellC cy ad) regsC ad s.heap.size post) args s 0 0 (AC ad s.heap.size)) (F0 m 0 ls []) := by
  obtain ⟨hx, hb, -⟩ := id E
  unfold w_X1_dryWere at hw
  refine lv_aload_n hx hb dX1_dryWere_0 rfl (lv_at hl 0 rfl) ?_
  refine fX1_5 hi0 E hP mw_158 dX1_dryWere_1 ?_
  refine lv_iload_n hx hb dX1_dryWere_4 rfl (lv_at hl 2 rfl) ?_
  obtain ⟨h1, hw⟩ := hw
  refine aC10 hi0 E hP h1 dX1_dryWere_5 ?_
  refine lv_aload_n hx hb dX1_dryWere_6 rfl (lv_at hl 0 rfl) ?_
  refine fX1_1 hi0 E hP mw_147 dX1_dryWere_7 ?_
  refine lv_iload_n hx hb dX1_dryWere_10 rfl (lv_at hl 1 rfl) ?_
  obtain ⟨h2, hw⟩ := hw
  refine aC6 hi0 E hP h2 dX1_dryWere_11 ?_
  refine lv_aload_n hx hb dX1_dryWere_12 rfl (lv_at hl 0 rfl) ?_
  refine fX1_2 hi0 E hP mw_149 dX1_dryWere_13 ?_
  refine lv_iload_n hx hb dX1_dryWere_16 rfl (lv_at hl 1 rfl) ?_
  obtain ⟨h3, hw⟩ := hw
  refine aC7 hi0 E hP h3 dX1_dryWere_17 ?_
  refine g_cSi (As := [.int (σ 6 i0 x1.toNatClampNeg), .int (σ 7 i0 x1.toNatClampNeg)]) (rest := [.int (σ 10 i0 x2.toNatClampNeg)]) E hl.1 (c_X2_covers l D cy ad ha hw _) ok_X2_covers mw_442 ⟨(Nat.le_of_ble_eq_true rfl), (Nat.le_of_ble_eq_true rfl)⟩ ⟨rfl, rfl⟩ rfl rfl (Nat.le_of_ble_eq_true rfl) ⟨Nat.zero_le _, Nat.zero_le _⟩ hP hS dX1_dryWere_18 (fun r4 s4 hw H locs hP hS => ?_)
  refine g_min E hl.1 mw_443 mw_444 mw_85 mw_445 ⟨(Nat.le_of_ble_eq_true rfl), (Nat.le_of_ble_eq_true rfl)⟩ ⟨Nat.zero_le _, Nat.zero_le _⟩ dX1_dryWere_21 ?_
  refine lv_topi (fun v5 ev5 => ?_)
  replace hw := hw v5 ev5
  exact g_iret E hw hP hS dX1_dryWere_24
theorem c_X1_dryWere (l : Launch) (D : va_G) (cy : Nat → ClassId) (ad : Nat → Nat → Nat) (ha : Apart regsC ad) {post : Int32 → St → Prop} {σ : St} {i0 : Nat} {x1 : Int32} {x2 : Int32} (hi0 : i0 < 3) (hw : w_X1_dryWere post σ i0 x1 x2) (sz : Nat) : MetI l yX1_dryWere cX1_dryWere 3 .int rm_X1_dryWere [.ref (ad 5 i0), .int x1, .int x2] D cy (cellC cy ad) regsC ad σ sz post :=
  Met_inI ok_X1_dryWere.2.2.2.2.2 (Nat.le_of_ble_eq_true rfl) (fun p e s m below meth c ls E hP hl => B_X1_dryWere_0 E ha hi0 hw hP va_S.rf hl)
-- RoofWar$Hill.dryIn(I)I
theorem dX1_dryIn_0 : decode cX1_dryIn 0 = .ok (.aload_n 0, 1) := by decide +kernel
theorem dX1_dryIn_1 : decode cX1_dryIn 1 = .ok (.getfield 30, 3) := by decide +kernel
theorem dX1_dryIn_4 : decode cX1_dryIn 4 = .ok (.iload_n 1, 1) := by decide +kernel
theorem dX1_dryIn_5 : decode cX1_dryIn 5 = .ok (.iaload, 1) := by decide +kernel
theorem dX1_dryIn_6 : decode cX1_dryIn 6 = .ok (.istore_n 2, 1) := by decide +kernel
theorem dX1_dryIn_7 : decode cX1_dryIn 7 = .ok (.iload_n 2, 1) := by decide +kernel
theorem dX1_dryIn_8 : decode cX1_dryIn 8 = .ok (.ldc 40, 2) := by decide +kernel
theorem dX1_dryIn_10 : decode cX1_dryIn 10 = .ok (.if_icmp .ne 7, 3) := by decide +kernel
theorem dX1_dryIn_13 : decode cX1_dryIn 13 = .ok (.iconst 0, 1) := by decide +kernel
theorem dX1_dryIn_14 : decode cX1_dryIn 14 = .ok (.goto 9, 3) := by decide +kernel
theorem dX1_dryIn_17 : decode cX1_dryIn 17 = .ok (.aload_n 0, 1) := by decide +kernel
theorem dX1_dryIn_18 : decode cX1_dryIn 18 = .ok (.iload_n 2, 1) := by decide +kernel
theorem dX1_dryIn_19 : decode cX1_dryIn 19 = .ok (.iload_n 1, 1) := by decide +kernel
theorem dX1_dryIn_20 : decode cX1_dryIn 20 = .ok (.invokevirtual 92, 3) := by decide +kernel
theorem dX1_dryIn_23 : decode cX1_dryIn 23 = .ok (.ireturn, 1) := by decide +kernel
theorem ok_X1_dryIn : okV yX1_dryIn cX1_dryIn 3 (some .int) 1 := ⟨mw_435, mw_436, mw_77, mw_437, by decide +kernel, by decide +kernel⟩
abbrev rm_X1_dryIn : Room := { frames := 2, cells := 0, slots := 0, locals := 46 }
def w_X1_dryIn (post : Int32 → St → Prop) (σ : St) (i0 : Nat) (x1 : Int32) : Prop := vp_in x1 12 ∧ (∀ v2 : Int32, v2 = σ 12 i0 x1.toNatClampNeg → (((¬ v2 = ((-1000000005)) → (w_X1_dryWere (fun r4 s4 => post r4 s4) σ i0 v2 x1)) ∧ (v2 = ((-1000000005)) → (post 0 σ)))))
theorem B_X1_dryIn_0 (E : EnvW p s m args meth c D cy regsC ad "RoofWar$Hill" cX1_dryIn 3 (some .int)) (ha : Apart regsC ad) {post : Int32 → St → Prop} {σ : St} {i0 : Nat} {x1 : Int32} (hi0 : i0 < 3) (hw : w_X1_dryIn post σ i0 x1) {H : Heap} {locs : List Loc} {ls : Array Slot} (hP : va_P D CLS (wC cy ad σ) H) (hS : va_S (AC ad s.heap.size) s.heap H locs) (hl : lv_has ls 3 [(0, .ref (ad 5 i0)), (1, .int x1)]) : W p l e rm_X1_dryIn s m args below meth c H locs 0 0 (MQ below (QI D cy (cellC cy ad) regsC ad s.heap.size post) args s 0 0 (AC ad s.heap.size)) (F0 m 0 ls []) := by
  obtain ⟨hx, hb, -⟩ := id E
  unfold w_X1_dryIn at hw
  refine lv_aload_n hx hb dX1_dryIn_0 rfl (lv_at hl 0 rfl) ?_
  refine fX1_7 hi0 E hP mw_162 dX1_dryIn_1 ?_
  refine lv_iload_n hx hb dX1_dryIn_4 rfl (lv_at hl 1 rfl) ?_
  obtain ⟨h1, hw⟩ := hw
  refine aC12 hi0 E hP h1 dX1_dryIn_5 ?_
  refine lv_topi (fun v2 ev2 => ?_)
  replace hw := hw v2 ev2
  refine lv_istore_n (lv' := [(2, .int v2), (0, .ref (ad 5 i0)), (1, .int x1)]) hx hb dX1_dryIn_6 rfl hl (by decide) rfl (fun ls hl => ?_)
  refine lv_iload_n hx hb dX1_dryIn_7 rfl (lv_at hl 0 rfl) ?_
  refine g_ldc (v := -1000000005) E mw_145 dX1_dryIn_8 ?_
  refine lv_icmp_ne (tgt := 17) hx hb dX1_dryIn_10 (by decide) (fun c3 => ?_) (fun c3 => ?_)
  · replace hw := hw.1 c3
    refine lv_aload_n hx hb dX1_dryIn_17 rfl (lv_at hl 1 rfl) ?_
    refine lv_iload_n hx hb dX1_dryIn_18 rfl (lv_at hl 0 rfl) ?_
    refine lv_iload_n hx hb dX1_dryIn_19 rfl (lv_at hl 2 rfl) ?_
    refine g_cVi (As := [.int v2, .int x1]) (rest := []) E hl.1 (c_X1_dryWere l D cy ad ha hi0 hw _) ok_X1_dryWere mw_438 ⟨(Nat.le_of_ble_eq_true rfl), (Nat.le_of_ble_eq_true rfl)⟩ ⟨rfl, rfl⟩ (rC5 hi0) rfl rfl rfl rfl rfl (Nat.le_of_ble_eq_true rfl) ⟨Nat.zero_le _, Nat.zero_le _⟩ hP hS dX1_dryIn_20 (fun r4 s4 hw H locs hP hS => ?_)
    exact g_iret E hw hP hS dX1_dryIn_23
  · replace hw := hw.2 c3
    refine lv_iconst (v := 0) hx hb dX1_dryIn_13 (by decide) ?_
    refine lv_goto (tgt := 23) hx hb dX1_dryIn_14 (by decide) ?_
    exact g_iret E hw hP hS dX1_dryIn_23
theorem c_X1_dryIn (l : Launch) (D : va_G) (cy : Nat → ClassId) (ad : Nat → Nat → Nat) (ha : Apart regsC ad) {post : Int32 → St → Prop} {σ : St} {i0 : Nat} {x1 : Int32} (hi0 : i0 < 3) (hw : w_X1_dryIn post σ i0 x1) (sz : Nat) : MetI l yX1_dryIn cX1_dryIn 3 .int rm_X1_dryIn [.ref (ad 5 i0), .int x1] D cy (cellC cy ad) regsC ad σ sz post :=
  Met_inI ok_X1_dryIn.2.2.2.2.2 (Nat.le_of_ble_eq_true rfl) (fun p e s m below meth c ls E hP hl => B_X1_dryIn_0 E ha hi0 hw hP va_S.rf hl)
-- RoofWar.firstHouse(I)I
theorem dX9_firstHouse_0 : decode cX9_firstHouse 0 = .ok (.iload_n 0, 1) := by decide +kernel
theorem dX9_firstHouse_1 : decode cX9_firstHouse 1 = .ok (.bipush 6, 2) := by decide +kernel
theorem dX9_firstHouse_3 : decode cX9_firstHouse 3 = .ok (.imul, 1) := by decide +kernel
theorem dX9_firstHouse_4 : decode cX9_firstHouse 4 = .ok (.ireturn, 1) := by decide +kernel
theorem ok_X9_firstHouse : okS yX9_firstHouse cX9_firstHouse 1 (some .int) 1 := ⟨mw_495, mw_74, mw_496, by decide +kernel, by decide +kernel⟩
abbrev rm_X9_firstHouse : Room := { frames := 0, cells := 0, slots := 0, locals := 0 }
def w_X9_firstHouse (post : Int32 → St → Prop) (σ : St) (x0 : Int32) : Prop := post (x0 * 6) σ
theorem B_X9_firstHouse_0 (E : EnvW p s m args meth c D cy regsC ad "RoofWar" cX9_firstHouse 1 (some .int)) (ha : Apart regsC ad) {post : Int32 → St → Prop} {σ : St} {x0 : Int32} (hw : w_X9_firstHouse post σ x0) {H : Heap} {locs : List Loc} {ls : Array Slot} (hP : va_P D CLS (wC cy ad σ) H) (hS : va_S (AC ad s.heap.size) s.heap H locs) (hl : lv_has ls 1 [(0, .int x0)]) : W p l e rm_X9_firstHouse s m args below meth c H locs 0 0 (MQ below (QI D cy (cellC cy ad) regsC ad s.heap.size post) args s 0 0 (AC ad s.heap.size)) (F0 m 0 ls []) := by
  obtain ⟨hx, hb, -⟩ := id E
  unfold w_X9_firstHouse at hw
  refine lv_iload_n hx hb dX9_firstHouse_0 rfl (lv_at hl 0 rfl) ?_
  refine lv_bipush (v := 6) hx hb dX9_firstHouse_1 (by decide) ?_
  refine lv_imul hx hb dX9_firstHouse_3 ?_
  exact g_iret E hw hP hS dX9_firstHouse_4
theorem c_X9_firstHouse (l : Launch) (D : va_G) (cy : Nat → ClassId) (ad : Nat → Nat → Nat) (ha : Apart regsC ad) {post : Int32 → St → Prop} {σ : St} {x0 : Int32} (hw : w_X9_firstHouse post σ x0) (sz : Nat) : MetI l yX9_firstHouse cX9_firstHouse 1 .int rm_X9_firstHouse [.int x0] D cy (cellC cy ad) regsC ad σ sz post :=
  Met_inI ok_X9_firstHouse.2.2.2.2 (Nat.le_of_ble_eq_true rfl) (fun p e s m below meth c ls E hP hl => B_X9_firstHouse_0 E ha hw hP va_S.rf hl)
-- RoofWar$Hill.dryOf(I)I
theorem dX1_dryOf_0 : decode cX1_dryOf 0 = .ok (.iload_n 1, 1) := by decide +kernel
theorem dX1_dryOf_1 : decode cX1_dryOf 1 = .ok (.invokestatic 95, 3) := by decide +kernel
theorem dX1_dryOf_4 : decode cX1_dryOf 4 = .ok (.istore_n 2, 1) := by decide +kernel
theorem dX1_dryOf_5 : decode cX1_dryOf 5 = .ok (.iconst 0, 1) := by decide +kernel
theorem dX1_dryOf_6 : decode cX1_dryOf 6 = .ok (.istore_n 3, 1) := by decide +kernel
theorem dX1_dryOf_7 : decode cX1_dryOf 7 = .ok (.iload_n 2, 1) := by decide +kernel
theorem dX1_dryOf_8 : decode cX1_dryOf 8 = .ok (.istore 4, 2) := by decide +kernel
theorem dX1_dryOf_10 : decode cX1_dryOf 10 = .ok (.iload 4, 2) := by decide +kernel
theorem dX1_dryOf_12 : decode cX1_dryOf 12 = .ok (.iload_n 2, 1) := by decide +kernel
theorem dX1_dryOf_13 : decode cX1_dryOf 13 = .ok (.bipush 6, 2) := by decide +kernel
theorem dX1_dryOf_15 : decode cX1_dryOf 15 = .ok (.iadd, 1) := by decide +kernel
theorem dX1_dryOf_16 : decode cX1_dryOf 16 = .ok (.if_icmp .ge 18, 3) := by decide +kernel
theorem dX1_dryOf_19 : decode cX1_dryOf 19 = .ok (.iload_n 3, 1) := by decide +kernel
theorem dX1_dryOf_20 : decode cX1_dryOf 20 = .ok (.aload_n 0, 1) := by decide +kernel
theorem dX1_dryOf_21 : decode cX1_dryOf 21 = .ok (.iload 4, 2) := by decide +kernel
theorem dX1_dryOf_23 : decode cX1_dryOf 23 = .ok (.invokevirtual 99, 3) := by decide +kernel
theorem dX1_dryOf_26 : decode cX1_dryOf 26 = .ok (.iadd, 1) := by decide +kernel
theorem dX1_dryOf_27 : decode cX1_dryOf 27 = .ok (.istore_n 3, 1) := by decide +kernel
theorem dX1_dryOf_28 : decode cX1_dryOf 28 = .ok (.iinc 4 1, 3) := by decide +kernel
theorem dX1_dryOf_31 : decode cX1_dryOf 31 = .ok (.goto (-21), 3) := by decide +kernel
theorem dX1_dryOf_34 : decode cX1_dryOf 34 = .ok (.iload_n 3, 1) := by decide +kernel
theorem dX1_dryOf_35 : decode cX1_dryOf 35 = .ok (.ireturn, 1) := by decide +kernel
theorem ok_X1_dryOf : okV yX1_dryOf cX1_dryOf 5 (some .int) 1 := ⟨mw_552, mw_553, mw_77, mw_554, by decide +kernel, by decide +kernel⟩
abbrev rm_X1_dryOf : Room := { frames := 3, cells := 0, slots := 0, locals := 68 }
def b_X1_dryOf_10 (K10 : St → Nat → Int32 → Int32 → Int32 → Prop) (post : Int32 → St → Prop) (σ : St) (i0 : Nat) (x2 : Int32) (x3 : Int32) (x4 : Int32) : Prop := (((x2 + 6) ≤ x4 → (post x3 σ)) ∧ (¬ (x2 + 6) ≤ x4 → (w_X1_dryIn (fun r2 s2 => ∀ v3 : Int32, v3 = x3 + r2 → (∀ v4 : Int32, v4 = x4 + 1 → (K10 s2 i0 x2 v3 v4))) σ i0 x4)))
noncomputable def l_X1_dryOf_10 (post : Int32 → St → Prop) : Nat → St → Nat → Int32 → Int32 → Int32 → Prop := fun n => Nat.rec (motive := fun _ => St → Nat → Int32 → Int32 → Int32 → Prop) (fun _ _ _ _ _ => False) (fun _ ih => b_X1_dryOf_10 ih post) n
theorem L_X1_dryOf_10 (E : EnvW p s m args meth c D cy regsC ad "RoofWar$Hill" cX1_dryOf 5 (some .int)) (ha : Apart regsC ad) {post : Int32 → St → Prop} : ∀ (n : Nat), ∀ (σ : St) (i0 : Nat) (x2 : Int32) (x3 : Int32) (x4 : Int32), i0 < 3 → l_X1_dryOf_10 post n σ i0 x2 x3 x4 → ∀ (H : Heap) (locs : List Loc) (ls : Array Slot), va_P D CLS (wC cy ad σ) H → va_S (AC ad s.heap.size) s.heap H locs → lv_has ls 5 [(0, .ref (ad 5 i0)), (2, .int x2), (3, .int x3), (4, .int x4)] → W p l e rm_X1_dryOf s m args below meth c H locs 0 0 (MQ below (QI D cy (cellC cy ad) regsC ad s.heap.size post) args s 0 0 (AC ad s.heap.size)) (F0 m 10 ls []) := by
  obtain ⟨hx, hb, -⟩ := id E
  intro n
  induction n with
  | zero => intro σ i0 x2 x3 x4 hi0 hw; exact hw.elim
  | succ n hk10 =>
    intro σ i0 x2 x3 x4 hi0 hw H locs ls hP hS hl
    replace hw : b_X1_dryOf_10 (l_X1_dryOf_10 post n) post σ i0 x2 x3 x4 := hw
    unfold b_X1_dryOf_10 at hw
    refine lv_iload hx hb dX1_dryOf_10 (lv_at hl 3 rfl) ?_
    refine lv_iload_n hx hb dX1_dryOf_12 rfl (lv_at hl 1 rfl) ?_
    refine lv_bipush (v := 6) hx hb dX1_dryOf_13 (by decide) ?_
    refine lv_iadd hx hb dX1_dryOf_15 ?_
    refine lv_icmp_ge (tgt := 34) hx hb dX1_dryOf_16 (by decide) (fun c1 => ?_) (fun c1 => ?_)
    · replace hw := hw.1 c1
      refine lv_iload_n hx hb dX1_dryOf_34 rfl (lv_at hl 2 rfl) ?_
      exact g_iret E hw hP hS dX1_dryOf_35
    · replace hw := hw.2 c1
      refine lv_iload_n hx hb dX1_dryOf_19 rfl (lv_at hl 2 rfl) ?_
      refine lv_aload_n hx hb dX1_dryOf_20 rfl (lv_at hl 0 rfl) ?_
      refine lv_iload hx hb dX1_dryOf_21 (lv_at hl 3 rfl) ?_
      refine g_cVi (As := [.int x4]) (rest := [.int x3]) E hl.1 (c_X1_dryIn l D cy ad ha hi0 hw _) ok_X1_dryIn mw_555 ⟨(Nat.le_of_ble_eq_true rfl), (Nat.le_of_ble_eq_true rfl)⟩ ⟨rfl, rfl⟩ (rC5 hi0) rfl rfl rfl rfl rfl (Nat.le_of_ble_eq_true rfl) ⟨Nat.zero_le _, Nat.zero_le _⟩ hP hS dX1_dryOf_23 (fun r2 s2 hw H locs hP hS => ?_)
      refine lv_iadd hx hb dX1_dryOf_26 ?_
      refine lv_topi (fun v3 ev3 => ?_)
      replace hw := hw v3 ev3
      refine lv_istore_n (lv' := [(3, .int v3), (0, .ref (ad 5 i0)), (2, .int x2), (4, .int x4)]) hx hb dX1_dryOf_27 rfl hl (by decide) rfl (fun ls hl => ?_)
      obtain ⟨v4, ev4⟩ : ∃ y : Int32, y = x4 + 1 := ⟨_, rfl⟩
      replace hw := hw v4 ev4
      refine lv_iinc (v := v4) (lv' := [(4, .int v4), (3, .int v3), (0, .ref (ad 5 i0)), (2, .int x2)]) hx hb dX1_dryOf_28 hl (k := 3) rfl (by rw [ev4]; rfl) (by decide) rfl (fun ls hl => ?_)
      refine lv_goto (tgt := 10) hx hb dX1_dryOf_31 (by decide) ?_
      exact hk10 s2 i0 x2 v3 v4 hi0 hw _ _ _ hP hS (lv_sub hl [2, 3, 1, 0] rfl)
def w_X1_dryOf (post : Int32 → St → Prop) (σ : St) (i0 : Nat) (x1 : Int32) : Prop := w_X9_firstHouse (fun r1 s1 => ∃ n2 : Nat, l_X1_dryOf_10 post n2 s1 i0 r1 (0 : Int32) r1) σ x1
theorem B_X1_dryOf_0 (E : EnvW p s m args meth c D cy regsC ad "RoofWar$Hill" cX1_dryOf 5 (some .int)) (ha : Apart regsC ad) {post : Int32 → St → Prop} {σ : St} {i0 : Nat} {x1 : Int32} (hi0 : i0 < 3) (hw : w_X1_dryOf post σ i0 x1) {H : Heap} {locs : List Loc} {ls : Array Slot} (hP : va_P D CLS (wC cy ad σ) H) (hS : va_S (AC ad s.heap.size) s.heap H locs) (hl : lv_has ls 5 [(0, .ref (ad 5 i0)), (1, .int x1)]) : W p l e rm_X1_dryOf s m args below meth c H locs 0 0 (MQ below (QI D cy (cellC cy ad) regsC ad s.heap.size post) args s 0 0 (AC ad s.heap.size)) (F0 m 0 ls []) := by
  obtain ⟨hx, hb, -⟩ := id E
  unfold w_X1_dryOf at hw
  refine lv_iload_n hx hb dX1_dryOf_0 rfl (lv_at hl 1 rfl) ?_
  refine g_cNi (host := "RoofWar") (As := [.int x1]) (rest := []) E hl.1 (c_X9_firstHouse l D cy ad ha hw _) ok_X9_firstHouse (List.mem_of_getElem? (i := 7) rfl) ⟨(Nat.le_of_ble_eq_true rfl), (Nat.le_of_ble_eq_true rfl)⟩ ⟨rfl, rfl⟩ rfl rfl (Nat.le_of_ble_eq_true rfl) ⟨Nat.zero_le _, Nat.zero_le _⟩ hP hS dX1_dryOf_1 (fun r1 s1 hw H locs hP hS => ?_)
  refine lv_istore_n (lv' := [(2, .int r1), (0, .ref (ad 5 i0)), (1, .int x1)]) hx hb dX1_dryOf_4 rfl hl (by decide) rfl (fun ls hl => ?_)
  refine lv_iconst (v := 0) hx hb dX1_dryOf_5 (by decide) ?_
  refine lv_istore_n (lv' := [(3, .int 0), (2, .int r1), (0, .ref (ad 5 i0)), (1, .int x1)]) hx hb dX1_dryOf_6 rfl hl (by decide) rfl (fun ls hl => ?_)
  refine lv_iload_n hx hb dX1_dryOf_7 rfl (lv_at hl 1 rfl) ?_
  refine lv_istore (lv' := [(4, .int r1), (3, .int 0), (2, .int r1), (0, .ref (ad 5 i0)), (1, .int x1)]) hx hb dX1_dryOf_8 hl (by decide) rfl (fun ls hl => ?_)
  obtain ⟨n2, hw⟩ := hw
  exact L_X1_dryOf_10 E ha n2 s1 i0 r1 (0 : Int32) r1 hi0 hw _ _ _ hP hS (lv_sub hl [3, 2, 1, 0] rfl)
theorem c_X1_dryOf (l : Launch) (D : va_G) (cy : Nat → ClassId) (ad : Nat → Nat → Nat) (ha : Apart regsC ad) {post : Int32 → St → Prop} {σ : St} {i0 : Nat} {x1 : Int32} (hi0 : i0 < 3) (hw : w_X1_dryOf post σ i0 x1) (sz : Nat) : MetI l yX1_dryOf cX1_dryOf 5 .int rm_X1_dryOf [.ref (ad 5 i0), .int x1] D cy (cellC cy ad) regsC ad σ sz post :=
  Met_inI ok_X1_dryOf.2.2.2.2.2 (Nat.le_of_ble_eq_true rfl) (fun p e s m below meth c ls E hP hl => B_X1_dryOf_0 E ha hi0 hw hP va_S.rf hl)
-- RoofWar$Hill.leakOfAll()I
theorem dX1_leakOfAll_0 : decode cX1_leakOfAll 0 = .ok (.iconst 0, 1) := by decide +kernel
theorem dX1_leakOfAll_1 : decode cX1_leakOfAll 1 = .ok (.istore_n 1, 1) := by decide +kernel
theorem dX1_leakOfAll_2 : decode cX1_leakOfAll 2 = .ok (.iconst 0, 1) := by decide +kernel
theorem dX1_leakOfAll_3 : decode cX1_leakOfAll 3 = .ok (.istore_n 2, 1) := by decide +kernel
theorem dX1_leakOfAll_4 : decode cX1_leakOfAll 4 = .ok (.iload_n 2, 1) := by decide +kernel
theorem dX1_leakOfAll_5 : decode cX1_leakOfAll 5 = .ok (.aload_n 0, 1) := by decide +kernel
theorem dX1_leakOfAll_6 : decode cX1_leakOfAll 6 = .ok (.getfield 54, 3) := by decide +kernel
theorem dX1_leakOfAll_9 : decode cX1_leakOfAll 9 = .ok (.if_icmp .ge 18, 3) := by decide +kernel
theorem dX1_leakOfAll_12 : decode cX1_leakOfAll 12 = .ok (.iload_n 1, 1) := by decide +kernel
theorem dX1_leakOfAll_13 : decode cX1_leakOfAll 13 = .ok (.aload_n 0, 1) := by decide +kernel
theorem dX1_leakOfAll_14 : decode cX1_leakOfAll 14 = .ok (.getfield 18, 3) := by decide +kernel
theorem dX1_leakOfAll_17 : decode cX1_leakOfAll 17 = .ok (.iload_n 2, 1) := by decide +kernel
theorem dX1_leakOfAll_18 : decode cX1_leakOfAll 18 = .ok (.iaload, 1) := by decide +kernel
theorem dX1_leakOfAll_19 : decode cX1_leakOfAll 19 = .ok (.iadd, 1) := by decide +kernel
theorem dX1_leakOfAll_20 : decode cX1_leakOfAll 20 = .ok (.istore_n 1, 1) := by decide +kernel
theorem dX1_leakOfAll_21 : decode cX1_leakOfAll 21 = .ok (.iinc 2 1, 3) := by decide +kernel
theorem dX1_leakOfAll_24 : decode cX1_leakOfAll 24 = .ok (.goto (-20), 3) := by decide +kernel
theorem dX1_leakOfAll_27 : decode cX1_leakOfAll 27 = .ok (.iload_n 1, 1) := by decide +kernel
theorem dX1_leakOfAll_28 : decode cX1_leakOfAll 28 = .ok (.ireturn, 1) := by decide +kernel
theorem ok_X1_leakOfAll : okV yX1_leakOfAll cX1_leakOfAll 3 (some .int) 0 := ⟨mw_557, mw_558, mw_77, mw_559, by decide +kernel, by decide +kernel⟩
abbrev rm_X1_leakOfAll : Room := { frames := 0, cells := 0, slots := 0, locals := 0 }
def b_X1_leakOfAll_4 (K4 : St → Nat → Int32 → Int32 → Prop) (post : Int32 → St → Prop) (σ : St) (i0 : Nat) (x1 : Int32) (x2 : Int32) : Prop := (((σ 5 i0 0) ≤ x2 → (post x1 σ)) ∧ (¬ (σ 5 i0 0) ≤ x2 → (vp_in x2 12 ∧ (∀ v3 : Int32, v3 = x1 + (σ 8 i0 x2.toNatClampNeg) → (∀ v4 : Int32, v4 = x2 + 1 → (K4 σ i0 v3 v4))))))
noncomputable def l_X1_leakOfAll_4 (post : Int32 → St → Prop) : Nat → St → Nat → Int32 → Int32 → Prop := fun n => Nat.rec (motive := fun _ => St → Nat → Int32 → Int32 → Prop) (fun _ _ _ _ => False) (fun _ ih => b_X1_leakOfAll_4 ih post) n
theorem L_X1_leakOfAll_4 (E : EnvW p s m args meth c D cy regsC ad "RoofWar$Hill" cX1_leakOfAll 3 (some .int)) (ha : Apart regsC ad) {post : Int32 → St → Prop} : ∀ (n : Nat), ∀ (σ : St) (i0 : Nat) (x1 : Int32) (x2 : Int32), i0 < 3 → l_X1_leakOfAll_4 post n σ i0 x1 x2 → ∀ (H : Heap) (locs : List Loc) (ls : Array Slot), va_P D CLS (wC cy ad σ) H → va_S (AC ad s.heap.size) s.heap H locs → lv_has ls 3 [(0, .ref (ad 5 i0)), (1, .int x1), (2, .int x2)] → W p l e rm_X1_leakOfAll s m args below meth c H locs 0 0 (MQ below (QI D cy (cellC cy ad) regsC ad s.heap.size post) args s 0 0 (AC ad s.heap.size)) (F0 m 4 ls []) := by
  obtain ⟨hx, hb, -⟩ := id E
  intro n
  induction n with
  | zero => intro σ i0 x1 x2 hi0 hw; exact hw.elim
  | succ n hk4 =>
    intro σ i0 x1 x2 hi0 hw H locs ls hP hS hl
    replace hw : b_X1_leakOfAll_4 (l_X1_leakOfAll_4 post n) post σ i0 x1 x2 := hw
    unfold b_X1_leakOfAll_4 at hw
    refine lv_iload_n hx hb dX1_leakOfAll_4 rfl (lv_at hl 2 rfl) ?_
    refine lv_aload_n hx hb dX1_leakOfAll_5 rfl (lv_at hl 0 rfl) ?_
    refine fX1_9 hi0 E hP mw_168 dX1_leakOfAll_6 ?_
    refine lv_icmp_ge (tgt := 27) hx hb dX1_leakOfAll_9 (by decide) (fun c1 => ?_) (fun c1 => ?_)
    · replace hw := hw.1 c1
      refine lv_iload_n hx hb dX1_leakOfAll_27 rfl (lv_at hl 1 rfl) ?_
      exact g_iret E hw hP hS dX1_leakOfAll_28
    · replace hw := hw.2 c1
      refine lv_iload_n hx hb dX1_leakOfAll_12 rfl (lv_at hl 1 rfl) ?_
      refine lv_aload_n hx hb dX1_leakOfAll_13 rfl (lv_at hl 0 rfl) ?_
      refine fX1_3 hi0 E hP mw_152 dX1_leakOfAll_14 ?_
      refine lv_iload_n hx hb dX1_leakOfAll_17 rfl (lv_at hl 2 rfl) ?_
      obtain ⟨h2, hw⟩ := hw
      refine aC8 hi0 E hP h2 dX1_leakOfAll_18 ?_
      refine lv_iadd hx hb dX1_leakOfAll_19 ?_
      refine lv_topi (fun v3 ev3 => ?_)
      replace hw := hw v3 ev3
      refine lv_istore_n (lv' := [(1, .int v3), (0, .ref (ad 5 i0)), (2, .int x2)]) hx hb dX1_leakOfAll_20 rfl hl (by decide) rfl (fun ls hl => ?_)
      obtain ⟨v4, ev4⟩ : ∃ y : Int32, y = x2 + 1 := ⟨_, rfl⟩
      replace hw := hw v4 ev4
      refine lv_iinc (v := v4) (lv' := [(2, .int v4), (1, .int v3), (0, .ref (ad 5 i0))]) hx hb dX1_leakOfAll_21 hl (k := 2) rfl (by rw [ev4]; rfl) (by decide) rfl (fun ls hl => ?_)
      refine lv_goto (tgt := 4) hx hb dX1_leakOfAll_24 (by decide) ?_
      exact hk4 σ i0 v3 v4 hi0 hw _ _ _ hP hS (lv_sub hl [2, 1, 0] rfl)
def w_X1_leakOfAll (post : Int32 → St → Prop) (σ : St) (i0 : Nat) : Prop := ∃ n1 : Nat, l_X1_leakOfAll_4 post n1 σ i0 (0 : Int32) (0 : Int32)
theorem B_X1_leakOfAll_0 (E : EnvW p s m args meth c D cy regsC ad "RoofWar$Hill" cX1_leakOfAll 3 (some .int)) (ha : Apart regsC ad) {post : Int32 → St → Prop} {σ : St} {i0 : Nat} (hi0 : i0 < 3) (hw : w_X1_leakOfAll post σ i0) {H : Heap} {locs : List Loc} {ls : Array Slot} (hP : va_P D CLS (wC cy ad σ) H) (hS : va_S (AC ad s.heap.size) s.heap H locs) (hl : lv_has ls 3 [(0, .ref (ad 5 i0))]) : W p l e rm_X1_leakOfAll s m args below meth c H locs 0 0 (MQ below (QI D cy (cellC cy ad) regsC ad s.heap.size post) args s 0 0 (AC ad s.heap.size)) (F0 m 0 ls []) := by
  obtain ⟨hx, hb, -⟩ := id E
  unfold w_X1_leakOfAll at hw
  refine lv_iconst (v := 0) hx hb dX1_leakOfAll_0 (by decide) ?_
  refine lv_istore_n (lv' := [(1, .int 0), (0, .ref (ad 5 i0))]) hx hb dX1_leakOfAll_1 rfl hl (by decide) rfl (fun ls hl => ?_)
  refine lv_iconst (v := 0) hx hb dX1_leakOfAll_2 (by decide) ?_
  refine lv_istore_n (lv' := [(2, .int 0), (1, .int 0), (0, .ref (ad 5 i0))]) hx hb dX1_leakOfAll_3 rfl hl (by decide) rfl (fun ls hl => ?_)
  obtain ⟨n1, hw⟩ := hw
  exact L_X1_leakOfAll_4 E ha n1 σ i0 (0 : Int32) (0 : Int32) hi0 hw _ _ _ hP hS (lv_sub hl [2, 1, 0] rfl)
theorem c_X1_leakOfAll (l : Launch) (D : va_G) (cy : Nat → ClassId) (ad : Nat → Nat → Nat) (ha : Apart regsC ad) {post : Int32 → St → Prop} {σ : St} {i0 : Nat} (hi0 : i0 < 3) (hw : w_X1_leakOfAll post σ i0) (sz : Nat) : MetI l yX1_leakOfAll cX1_leakOfAll 3 .int rm_X1_leakOfAll [.ref (ad 5 i0)] D cy (cellC cy ad) regsC ad σ sz post :=
  Met_inI ok_X1_leakOfAll.2.2.2.2.2 (Nat.le_of_ble_eq_true rfl) (fun p e s m below meth c ls E hP hl => B_X1_leakOfAll_0 E ha hi0 hw hP va_S.rf hl)
-- RoofWar$Hill.homeOf(I)I
theorem dX1_homeOf_0 : decode cX1_homeOf 0 = .ok (.iload_n 1, 1) := by decide +kernel
theorem dX1_homeOf_1 : decode cX1_homeOf 1 = .ok (.invokestatic 95, 3) := by decide +kernel
theorem dX1_homeOf_4 : decode cX1_homeOf 4 = .ok (.istore_n 2, 1) := by decide +kernel
theorem dX1_homeOf_5 : decode cX1_homeOf 5 = .ok (.iload_n 2, 1) := by decide +kernel
theorem dX1_homeOf_6 : decode cX1_homeOf 6 = .ok (.istore_n 3, 1) := by decide +kernel
theorem dX1_homeOf_7 : decode cX1_homeOf 7 = .ok (.iload_n 3, 1) := by decide +kernel
theorem dX1_homeOf_8 : decode cX1_homeOf 8 = .ok (.iload_n 2, 1) := by decide +kernel
theorem dX1_homeOf_9 : decode cX1_homeOf 9 = .ok (.bipush 6, 2) := by decide +kernel
theorem dX1_homeOf_11 : decode cX1_homeOf 11 = .ok (.iadd, 1) := by decide +kernel
theorem dX1_homeOf_12 : decode cX1_homeOf 12 = .ok (.if_icmp .ge 22, 3) := by decide +kernel
theorem dX1_homeOf_15 : decode cX1_homeOf 15 = .ok (.aload_n 0, 1) := by decide +kernel
theorem dX1_homeOf_16 : decode cX1_homeOf 16 = .ok (.getfield 30, 3) := by decide +kernel
theorem dX1_homeOf_19 : decode cX1_homeOf 19 = .ok (.iload_n 3, 1) := by decide +kernel
theorem dX1_homeOf_20 : decode cX1_homeOf 20 = .ok (.iaload, 1) := by decide +kernel
theorem dX1_homeOf_21 : decode cX1_homeOf 21 = .ok (.ldc 40, 2) := by decide +kernel
theorem dX1_homeOf_23 : decode cX1_homeOf 23 = .ok (.if_icmp .ne 5, 3) := by decide +kernel
theorem dX1_homeOf_26 : decode cX1_homeOf 26 = .ok (.iload_n 3, 1) := by decide +kernel
theorem dX1_homeOf_27 : decode cX1_homeOf 27 = .ok (.ireturn, 1) := by decide +kernel
theorem dX1_homeOf_28 : decode cX1_homeOf 28 = .ok (.iinc 3 1, 3) := by decide +kernel
theorem dX1_homeOf_31 : decode cX1_homeOf 31 = .ok (.goto (-24), 3) := by decide +kernel
theorem dX1_homeOf_34 : decode cX1_homeOf 34 = .ok (.ldc 40, 2) := by decide +kernel
theorem dX1_homeOf_36 : decode cX1_homeOf 36 = .ok (.ireturn, 1) := by decide +kernel
theorem ok_X1_homeOf : okV yX1_homeOf cX1_homeOf 4 (some .int) 1 := ⟨mw_492, mw_493, mw_77, mw_494, by decide +kernel, by decide +kernel⟩
abbrev rm_X1_homeOf : Room := { frames := 1, cells := 0, slots := 0, locals := 20 }
def b_X1_homeOf_7 (K7 : St → Nat → Int32 → Int32 → Prop) (post : Int32 → St → Prop) (σ : St) (i0 : Nat) (x2 : Int32) (x3 : Int32) : Prop := (((x2 + 6) ≤ x3 → (post ((-1000000005)) σ)) ∧ (¬ (x2 + 6) ≤ x3 → (vp_in x3 12 ∧ (((¬ (σ 12 i0 x3.toNatClampNeg) = ((-1000000005)) → (∀ v4 : Int32, v4 = x3 + 1 → (K7 σ i0 x2 v4))) ∧ ((σ 12 i0 x3.toNatClampNeg) = ((-1000000005)) → (post x3 σ)))))))
noncomputable def l_X1_homeOf_7 (post : Int32 → St → Prop) : Nat → St → Nat → Int32 → Int32 → Prop := fun n => Nat.rec (motive := fun _ => St → Nat → Int32 → Int32 → Prop) (fun _ _ _ _ => False) (fun _ ih => b_X1_homeOf_7 ih post) n
theorem L_X1_homeOf_7 (E : EnvW p s m args meth c D cy regsC ad "RoofWar$Hill" cX1_homeOf 4 (some .int)) (ha : Apart regsC ad) {post : Int32 → St → Prop} : ∀ (n : Nat), ∀ (σ : St) (i0 : Nat) (x2 : Int32) (x3 : Int32), i0 < 3 → l_X1_homeOf_7 post n σ i0 x2 x3 → ∀ (H : Heap) (locs : List Loc) (ls : Array Slot), va_P D CLS (wC cy ad σ) H → va_S (AC ad s.heap.size) s.heap H locs → lv_has ls 4 [(0, .ref (ad 5 i0)), (2, .int x2), (3, .int x3)] → W p l e rm_X1_homeOf s m args below meth c H locs 0 0 (MQ below (QI D cy (cellC cy ad) regsC ad s.heap.size post) args s 0 0 (AC ad s.heap.size)) (F0 m 7 ls []) := by
  obtain ⟨hx, hb, -⟩ := id E
  intro n
  induction n with
  | zero => intro σ i0 x2 x3 hi0 hw; exact hw.elim
  | succ n hk7 =>
    intro σ i0 x2 x3 hi0 hw H locs ls hP hS hl
    replace hw : b_X1_homeOf_7 (l_X1_homeOf_7 post n) post σ i0 x2 x3 := hw
    unfold b_X1_homeOf_7 at hw
    refine lv_iload_n hx hb dX1_homeOf_7 rfl (lv_at hl 2 rfl) ?_
    refine lv_iload_n hx hb dX1_homeOf_8 rfl (lv_at hl 1 rfl) ?_
    refine lv_bipush (v := 6) hx hb dX1_homeOf_9 (by decide) ?_
    refine lv_iadd hx hb dX1_homeOf_11 ?_
    refine lv_icmp_ge (tgt := 34) hx hb dX1_homeOf_12 (by decide) (fun c1 => ?_) (fun c1 => ?_)
    · replace hw := hw.1 c1
      refine g_ldc (v := -1000000005) E mw_145 dX1_homeOf_34 ?_
      exact g_iret E hw hP hS dX1_homeOf_36
    · replace hw := hw.2 c1
      refine lv_aload_n hx hb dX1_homeOf_15 rfl (lv_at hl 0 rfl) ?_
      refine fX1_7 hi0 E hP mw_162 dX1_homeOf_16 ?_
      refine lv_iload_n hx hb dX1_homeOf_19 rfl (lv_at hl 2 rfl) ?_
      obtain ⟨h2, hw⟩ := hw
      refine aC12 hi0 E hP h2 dX1_homeOf_20 ?_
      refine g_ldc (v := -1000000005) E mw_145 dX1_homeOf_21 ?_
      refine lv_icmp_ne (tgt := 28) hx hb dX1_homeOf_23 (by decide) (fun c3 => ?_) (fun c3 => ?_)
      · replace hw := hw.1 c3
        obtain ⟨v4, ev4⟩ : ∃ y : Int32, y = x3 + 1 := ⟨_, rfl⟩
        replace hw := hw v4 ev4
        refine lv_iinc (v := v4) (lv' := [(3, .int v4), (0, .ref (ad 5 i0)), (2, .int x2)]) hx hb dX1_homeOf_28 hl (k := 2) rfl (by rw [ev4]; rfl) (by decide) rfl (fun ls hl => ?_)
        refine lv_goto (tgt := 7) hx hb dX1_homeOf_31 (by decide) ?_
        exact hk7 σ i0 x2 v4 hi0 hw _ _ _ hP hS (lv_sub hl [1, 2, 0] rfl)
      · replace hw := hw.2 c3
        refine lv_iload_n hx hb dX1_homeOf_26 rfl (lv_at hl 2 rfl) ?_
        exact g_iret E hw hP hS dX1_homeOf_27
def w_X1_homeOf (post : Int32 → St → Prop) (σ : St) (i0 : Nat) (x1 : Int32) : Prop := w_X9_firstHouse (fun r1 s1 => ∃ n2 : Nat, l_X1_homeOf_7 post n2 s1 i0 r1 r1) σ x1
theorem B_X1_homeOf_0 (E : EnvW p s m args meth c D cy regsC ad "RoofWar$Hill" cX1_homeOf 4 (some .int)) (ha : Apart regsC ad) {post : Int32 → St → Prop} {σ : St} {i0 : Nat} {x1 : Int32} (hi0 : i0 < 3) (hw : w_X1_homeOf post σ i0 x1) {H : Heap} {locs : List Loc} {ls : Array Slot} (hP : va_P D CLS (wC cy ad σ) H) (hS : va_S (AC ad s.heap.size) s.heap H locs) (hl : lv_has ls 4 [(0, .ref (ad 5 i0)), (1, .int x1)]) : W p l e rm_X1_homeOf s m args below meth c H locs 0 0 (MQ below (QI D cy (cellC cy ad) regsC ad s.heap.size post) args s 0 0 (AC ad s.heap.size)) (F0 m 0 ls []) := by
  obtain ⟨hx, hb, -⟩ := id E
  unfold w_X1_homeOf at hw
  refine lv_iload_n hx hb dX1_homeOf_0 rfl (lv_at hl 1 rfl) ?_
  refine g_cNi (host := "RoofWar") (As := [.int x1]) (rest := []) E hl.1 (c_X9_firstHouse l D cy ad ha hw _) ok_X9_firstHouse (List.mem_of_getElem? (i := 7) rfl) ⟨(Nat.le_of_ble_eq_true rfl), (Nat.le_of_ble_eq_true rfl)⟩ ⟨rfl, rfl⟩ rfl rfl (Nat.le_of_ble_eq_true rfl) ⟨Nat.zero_le _, Nat.zero_le _⟩ hP hS dX1_homeOf_1 (fun r1 s1 hw H locs hP hS => ?_)
  refine lv_istore_n (lv' := [(2, .int r1), (0, .ref (ad 5 i0)), (1, .int x1)]) hx hb dX1_homeOf_4 rfl hl (by decide) rfl (fun ls hl => ?_)
  refine lv_iload_n hx hb dX1_homeOf_5 rfl (lv_at hl 0 rfl) ?_
  refine lv_istore_n (lv' := [(3, .int r1), (2, .int r1), (0, .ref (ad 5 i0)), (1, .int x1)]) hx hb dX1_homeOf_6 rfl hl (by decide) rfl (fun ls hl => ?_)
  obtain ⟨n2, hw⟩ := hw
  exact L_X1_homeOf_7 E ha n2 s1 i0 r1 r1 hi0 hw _ _ _ hP hS (lv_sub hl [2, 1, 0] rfl)
theorem c_X1_homeOf (l : Launch) (D : va_G) (cy : Nat → ClassId) (ad : Nat → Nat → Nat) (ha : Apart regsC ad) {post : Int32 → St → Prop} {σ : St} {i0 : Nat} {x1 : Int32} (hi0 : i0 < 3) (hw : w_X1_homeOf post σ i0 x1) (sz : Nat) : MetI l yX1_homeOf cX1_homeOf 4 .int rm_X1_homeOf [.ref (ad 5 i0), .int x1] D cy (cellC cy ad) regsC ad σ sz post :=
  Met_inI ok_X1_homeOf.2.2.2.2.2 (Nat.le_of_ble_eq_true rfl) (fun p e s m below meth c ls E hP hl => B_X1_homeOf_0 E ha hi0 hw hP va_S.rf hl)
-- RoofWar.townOf(I)I
theorem dX9_townOf_0 : decode cX9_townOf 0 = .ok (.iload_n 0, 1) := by decide +kernel
theorem dX9_townOf_1 : decode cX9_townOf 1 = .ok (.bipush 6, 2) := by decide +kernel
theorem dX9_townOf_3 : decode cX9_townOf 3 = .ok (.if_icmp .ge 7, 3) := by decide +kernel
theorem dX9_townOf_6 : decode cX9_townOf 6 = .ok (.iconst 0, 1) := by decide +kernel
theorem dX9_townOf_7 : decode cX9_townOf 7 = .ok (.goto 4, 3) := by decide +kernel
theorem dX9_townOf_10 : decode cX9_townOf 10 = .ok (.iconst 1, 1) := by decide +kernel
theorem dX9_townOf_11 : decode cX9_townOf 11 = .ok (.ireturn, 1) := by decide +kernel
theorem ok_X9_townOf : okS yX9_townOf cX9_townOf 1 (some .int) 1 := ⟨mw_488, mw_74, mw_489, by decide +kernel, by decide +kernel⟩
abbrev rm_X9_townOf : Room := { frames := 0, cells := 0, slots := 0, locals := 0 }
def w_X9_townOf (post : Int32 → St → Prop) (σ : St) (x0 : Int32) : Prop := ((6 ≤ x0 → (post 1 σ)) ∧ (¬ 6 ≤ x0 → (post 0 σ)))
theorem B_X9_townOf_0 (E : EnvW p s m args meth c D cy regsC ad "RoofWar" cX9_townOf 1 (some .int)) (ha : Apart regsC ad) {post : Int32 → St → Prop} {σ : St} {x0 : Int32} (hw : w_X9_townOf post σ x0) {H : Heap} {locs : List Loc} {ls : Array Slot} (hP : va_P D CLS (wC cy ad σ) H) (hS : va_S (AC ad s.heap.size) s.heap H locs) (hl : lv_has ls 1 [(0, .int x0)]) : W p l e rm_X9_townOf s m args below meth c H locs 0 0 (MQ below (QI D cy (cellC cy ad) regsC ad s.heap.size post) args s 0 0 (AC ad s.heap.size)) (F0 m 0 ls []) := by
  obtain ⟨hx, hb, -⟩ := id E
  unfold w_X9_townOf at hw
  refine lv_iload_n hx hb dX9_townOf_0 rfl (lv_at hl 0 rfl) ?_
  refine lv_bipush (v := 6) hx hb dX9_townOf_1 (by decide) ?_
  refine lv_icmp_ge (tgt := 10) hx hb dX9_townOf_3 (by decide) (fun c1 => ?_) (fun c1 => ?_)
  · replace hw := hw.1 c1
    refine lv_iconst (v := 1) hx hb dX9_townOf_10 (by decide) ?_
    exact g_iret E hw hP hS dX9_townOf_11
  · replace hw := hw.2 c1
    refine lv_iconst (v := 0) hx hb dX9_townOf_6 (by decide) ?_
    refine lv_goto (tgt := 11) hx hb dX9_townOf_7 (by decide) ?_
    exact g_iret E hw hP hS dX9_townOf_11
theorem c_X9_townOf (l : Launch) (D : va_G) (cy : Nat → ClassId) (ad : Nat → Nat → Nat) (ha : Apart regsC ad) {post : Int32 → St → Prop} {σ : St} {x0 : Int32} (hw : w_X9_townOf post σ x0) (sz : Nat) : MetI l yX9_townOf cX9_townOf 1 .int rm_X9_townOf [.int x0] D cy (cellC cy ad) regsC ad σ sz post :=
  Met_inI ok_X9_townOf.2.2.2.2 (Nat.le_of_ble_eq_true rfl) (fun p e s m below meth c ls E hP hl => B_X9_townOf_0 E ha hw hP va_S.rf hl)
-- RoofWar$Hill.mayCarry(I)I
theorem dX1_mayCarry_0 : decode cX1_mayCarry 0 = .ok (.iconst 0, 1) := by decide +kernel
theorem dX1_mayCarry_1 : decode cX1_mayCarry 1 = .ok (.istore_n 2, 1) := by decide +kernel
theorem dX1_mayCarry_2 : decode cX1_mayCarry 2 = .ok (.iconst 0, 1) := by decide +kernel
theorem dX1_mayCarry_3 : decode cX1_mayCarry 3 = .ok (.istore_n 3, 1) := by decide +kernel
theorem dX1_mayCarry_4 : decode cX1_mayCarry 4 = .ok (.iload_n 3, 1) := by decide +kernel
theorem dX1_mayCarry_5 : decode cX1_mayCarry 5 = .ok (.aload_n 0, 1) := by decide +kernel
theorem dX1_mayCarry_6 : decode cX1_mayCarry 6 = .ok (.getfield 54, 3) := by decide +kernel
theorem dX1_mayCarry_9 : decode cX1_mayCarry 9 = .ok (.if_icmp .ge 52, 3) := by decide +kernel
theorem dX1_mayCarry_12 : decode cX1_mayCarry 12 = .ok (.aload_n 0, 1) := by decide +kernel
theorem dX1_mayCarry_13 : decode cX1_mayCarry 13 = .ok (.getfield 21, 3) := by decide +kernel
theorem dX1_mayCarry_16 : decode cX1_mayCarry 16 = .ok (.iload_n 3, 1) := by decide +kernel
theorem dX1_mayCarry_17 : decode cX1_mayCarry 17 = .ok (.iaload, 1) := by decide +kernel
theorem dX1_mayCarry_18 : decode cX1_mayCarry 18 = .ok (.invokestatic 102, 3) := by decide +kernel
theorem dX1_mayCarry_21 : decode cX1_mayCarry 21 = .ok (.iload_n 1, 1) := by decide +kernel
theorem dX1_mayCarry_22 : decode cX1_mayCarry 22 = .ok (.if_icmp .eq 33, 3) := by decide +kernel
theorem dX1_mayCarry_25 : decode cX1_mayCarry 25 = .ok (.aload_n 0, 1) := by decide +kernel
theorem dX1_mayCarry_26 : decode cX1_mayCarry 26 = .ok (.getfield 9, 3) := by decide +kernel
theorem dX1_mayCarry_29 : decode cX1_mayCarry 29 = .ok (.iload_n 3, 1) := by decide +kernel
theorem dX1_mayCarry_30 : decode cX1_mayCarry 30 = .ok (.iaload, 1) := by decide +kernel
theorem dX1_mayCarry_31 : decode cX1_mayCarry 31 = .ok (.aload_n 0, 1) := by decide +kernel
theorem dX1_mayCarry_32 : decode cX1_mayCarry 32 = .ok (.getfield 15, 3) := by decide +kernel
theorem dX1_mayCarry_35 : decode cX1_mayCarry 35 = .ok (.iload_n 3, 1) := by decide +kernel
theorem dX1_mayCarry_36 : decode cX1_mayCarry 36 = .ok (.iaload, 1) := by decide +kernel
theorem dX1_mayCarry_37 : decode cX1_mayCarry 37 = .ok (.invokestatic 105, 3) := by decide +kernel
theorem dX1_mayCarry_40 : decode cX1_mayCarry 40 = .ok (.aload_n 0, 1) := by decide +kernel
theorem dX1_mayCarry_41 : decode cX1_mayCarry 41 = .ok (.getfield 33, 3) := by decide +kernel
theorem dX1_mayCarry_44 : decode cX1_mayCarry 44 = .ok (.iload_n 1, 1) := by decide +kernel
theorem dX1_mayCarry_45 : decode cX1_mayCarry 45 = .ok (.iaload, 1) := by decide +kernel
theorem dX1_mayCarry_46 : decode cX1_mayCarry 46 = .ok (.if_icmp .gt 9, 3) := by decide +kernel
theorem dX1_mayCarry_49 : decode cX1_mayCarry 49 = .ok (.iload_n 2, 1) := by decide +kernel
theorem dX1_mayCarry_50 : decode cX1_mayCarry 50 = .ok (.iconst 1, 1) := by decide +kernel
theorem dX1_mayCarry_51 : decode cX1_mayCarry 51 = .ok (.iload_n 3, 1) := by decide +kernel
theorem dX1_mayCarry_52 : decode cX1_mayCarry 52 = .ok (.ishl, 1) := by decide +kernel
theorem dX1_mayCarry_53 : decode cX1_mayCarry 53 = .ok (.ior, 1) := by decide +kernel
theorem dX1_mayCarry_54 : decode cX1_mayCarry 54 = .ok (.istore_n 2, 1) := by decide +kernel
theorem dX1_mayCarry_55 : decode cX1_mayCarry 55 = .ok (.iinc 3 1, 3) := by decide +kernel
theorem dX1_mayCarry_58 : decode cX1_mayCarry 58 = .ok (.goto (-54), 3) := by decide +kernel
theorem dX1_mayCarry_61 : decode cX1_mayCarry 61 = .ok (.iload_n 2, 1) := by decide +kernel
theorem dX1_mayCarry_62 : decode cX1_mayCarry 62 = .ok (.ireturn, 1) := by decide +kernel
theorem ok_X1_mayCarry : okV yX1_mayCarry cX1_mayCarry 4 (some .int) 1 := ⟨mw_485, mw_486, mw_77, mw_487, by decide +kernel, by decide +kernel⟩
abbrev rm_X1_mayCarry : Room := { frames := 1, cells := 0, slots := 0, locals := 22 }
def b_X1_mayCarry_4 (K4 : St → Nat → Int32 → Int32 → Int32 → Prop) (post : Int32 → St → Prop) (σ : St) (i0 : Nat) (x1 : Int32) (x2 : Int32) (x3 : Int32) : Prop := (((σ 5 i0 0) ≤ x3 → (post x2 σ)) ∧ (¬ (σ 5 i0 0) ≤ x3 → (vp_in x3 12 ∧ (w_X9_townOf (fun r3 s3 => ((r3 = x1 → (∀ v5 : Int32, v5 = x3 + 1 → (K4 s3 i0 x1 x2 v5))) ∧ (¬ r3 = x1 → (vp_in x3 12 ∧ (vp_in x3 12 ∧ (w_X2_weighs (fun r8 s8 => vp_in x1 2 ∧ ((((s8 13 i0 x1.toNatClampNeg) < r8 → (∀ v11 : Int32, v11 = x3 + 1 → (K4 s8 i0 x1 x2 v11))) ∧ (¬ (s8 13 i0 x1.toNatClampNeg) < r8 → (∀ v12 : Int32, v12 = x2 ||| (1 <<< (x3 &&& 31)) → (∀ v13 : Int32, v13 = x3 + 1 → (K4 s8 i0 x1 v12 v13))))))) s3 (s3 6 i0 x3.toNatClampNeg) (s3 7 i0 x3.toNatClampNeg))))))) σ (σ 9 i0 x3.toNatClampNeg)))))
noncomputable def l_X1_mayCarry_4 (post : Int32 → St → Prop) : Nat → St → Nat → Int32 → Int32 → Int32 → Prop := fun n => Nat.rec (motive := fun _ => St → Nat → Int32 → Int32 → Int32 → Prop) (fun _ _ _ _ _ => False) (fun _ ih => b_X1_mayCarry_4 ih post) n
theorem L_X1_mayCarry_4 (E : EnvW p s m args meth c D cy regsC ad "RoofWar$Hill" cX1_mayCarry 4 (some .int)) (ha : Apart regsC ad) {post : Int32 → St → Prop} : ∀ (n : Nat), ∀ (σ : St) (i0 : Nat) (x1 : Int32) (x2 : Int32) (x3 : Int32), i0 < 3 → l_X1_mayCarry_4 post n σ i0 x1 x2 x3 → ∀ (H : Heap) (locs : List Loc) (ls : Array Slot), va_P D CLS (wC cy ad σ) H → va_S (AC ad s.heap.size) s.heap H locs → lv_has ls 4 [(0, .ref (ad 5 i0)), (1, .int x1), (2, .int x2), (3, .int x3)] → W p l e rm_X1_mayCarry s m args below meth c H locs 0 0 (MQ below (QI D cy (cellC cy ad) regsC ad s.heap.size post) args s 0 0 (AC ad s.heap.size)) (F0 m 4 ls []) := by
  obtain ⟨hx, hb, -⟩ := id E
  intro n
  induction n with
  | zero => intro σ i0 x1 x2 x3 hi0 hw; exact hw.elim
  | succ n hk4 =>
    intro σ i0 x1 x2 x3 hi0 hw H locs ls hP hS hl
    replace hw : b_X1_mayCarry_4 (l_X1_mayCarry_4 post n) post σ i0 x1 x2 x3 := hw
    unfold b_X1_mayCarry_4 at hw
    refine lv_iload_n hx hb dX1_mayCarry_4 rfl (lv_at hl 3 rfl) ?_
    refine lv_aload_n hx hb dX1_mayCarry_5 rfl (lv_at hl 0 rfl) ?_
    refine fX1_9 hi0 E hP mw_168 dX1_mayCarry_6 ?_
    refine lv_icmp_ge (tgt := 61) hx hb dX1_mayCarry_9 (by decide) (fun c1 => ?_) (fun c1 => ?_)
    · replace hw := hw.1 c1
      refine lv_iload_n hx hb dX1_mayCarry_61 rfl (lv_at hl 2 rfl) ?_
      exact g_iret E hw hP hS dX1_mayCarry_62
    · replace hw := hw.2 c1
      refine lv_aload_n hx hb dX1_mayCarry_12 rfl (lv_at hl 0 rfl) ?_
      refine fX1_4 hi0 E hP mw_155 dX1_mayCarry_13 ?_
      refine lv_iload_n hx hb dX1_mayCarry_16 rfl (lv_at hl 3 rfl) ?_
      obtain ⟨h2, hw⟩ := hw
      refine aC9 hi0 E hP h2 dX1_mayCarry_17 ?_
      refine g_cNi (host := "RoofWar") (As := [.int (σ 9 i0 x3.toNatClampNeg)]) (rest := []) E hl.1 (c_X9_townOf l D cy ad ha hw _) ok_X9_townOf (List.mem_of_getElem? (i := 6) rfl) ⟨(Nat.le_of_ble_eq_true rfl), (Nat.le_of_ble_eq_true rfl)⟩ ⟨rfl, rfl⟩ rfl rfl (Nat.le_of_ble_eq_true rfl) ⟨Nat.zero_le _, Nat.zero_le _⟩ hP hS dX1_mayCarry_18 (fun r3 s3 hw H locs hP hS => ?_)
      refine lv_iload_n hx hb dX1_mayCarry_21 rfl (lv_at hl 1 rfl) ?_
      refine lv_icmp_eq (tgt := 55) hx hb dX1_mayCarry_22 (by decide) (fun c4 => ?_) (fun c4 => ?_)
      · replace hw := hw.1 c4
        obtain ⟨v5, ev5⟩ : ∃ y : Int32, y = x3 + 1 := ⟨_, rfl⟩
        replace hw := hw v5 ev5
        refine lv_iinc (v := v5) (lv' := [(3, .int v5), (0, .ref (ad 5 i0)), (1, .int x1), (2, .int x2)]) hx hb dX1_mayCarry_55 hl (k := 3) rfl (by rw [ev5]; rfl) (by decide) rfl (fun ls hl => ?_)
        refine lv_goto (tgt := 4) hx hb dX1_mayCarry_58 (by decide) ?_
        exact hk4 s3 i0 x1 x2 v5 hi0 hw _ _ _ hP hS (lv_sub hl [1, 2, 3, 0] rfl)
      · replace hw := hw.2 c4
        refine lv_aload_n hx hb dX1_mayCarry_25 rfl (lv_at hl 0 rfl) ?_
        refine fX1_1 hi0 E hP mw_147 dX1_mayCarry_26 ?_
        refine lv_iload_n hx hb dX1_mayCarry_29 rfl (lv_at hl 3 rfl) ?_
        obtain ⟨h6, hw⟩ := hw
        refine aC6 hi0 E hP h6 dX1_mayCarry_30 ?_
        refine lv_aload_n hx hb dX1_mayCarry_31 rfl (lv_at hl 0 rfl) ?_
        refine fX1_2 hi0 E hP mw_149 dX1_mayCarry_32 ?_
        refine lv_iload_n hx hb dX1_mayCarry_35 rfl (lv_at hl 3 rfl) ?_
        obtain ⟨h7, hw⟩ := hw
        refine aC7 hi0 E hP h7 dX1_mayCarry_36 ?_
        refine g_cSi (As := [.int (s3 6 i0 x3.toNatClampNeg), .int (s3 7 i0 x3.toNatClampNeg)]) (rest := []) E hl.1 (c_X2_weighs l D cy ad ha hw _) ok_X2_weighs mw_490 ⟨(Nat.le_of_ble_eq_true rfl), (Nat.le_of_ble_eq_true rfl)⟩ ⟨rfl, rfl⟩ rfl rfl (Nat.le_of_ble_eq_true rfl) ⟨Nat.zero_le _, Nat.zero_le _⟩ hP hS dX1_mayCarry_37 (fun r8 s8 hw H locs hP hS => ?_)
        refine lv_aload_n hx hb dX1_mayCarry_40 rfl (lv_at hl 0 rfl) ?_
        refine fX1_8 hi0 E hP mw_164 dX1_mayCarry_41 ?_
        refine lv_iload_n hx hb dX1_mayCarry_44 rfl (lv_at hl 1 rfl) ?_
        obtain ⟨h9, hw⟩ := hw
        refine aC13 hi0 E hP h9 dX1_mayCarry_45 ?_
        refine lv_icmp_gt (tgt := 55) hx hb dX1_mayCarry_46 (by decide) (fun c10 => ?_) (fun c10 => ?_)
        · replace hw := hw.1 c10
          obtain ⟨v11, ev11⟩ : ∃ y : Int32, y = x3 + 1 := ⟨_, rfl⟩
          replace hw := hw v11 ev11
          refine lv_iinc (v := v11) (lv' := [(3, .int v11), (0, .ref (ad 5 i0)), (1, .int x1), (2, .int x2)]) hx hb dX1_mayCarry_55 hl (k := 3) rfl (by rw [ev11]; rfl) (by decide) rfl (fun ls hl => ?_)
          refine lv_goto (tgt := 4) hx hb dX1_mayCarry_58 (by decide) ?_
          exact hk4 s8 i0 x1 x2 v11 hi0 hw _ _ _ hP hS (lv_sub hl [1, 2, 3, 0] rfl)
        · replace hw := hw.2 c10
          refine lv_iload_n hx hb dX1_mayCarry_49 rfl (lv_at hl 2 rfl) ?_
          refine lv_iconst (v := 1) hx hb dX1_mayCarry_50 (by decide) ?_
          refine lv_iload_n hx hb dX1_mayCarry_51 rfl (lv_at hl 3 rfl) ?_
          refine lv_ishl hx hb dX1_mayCarry_52 ?_
          refine lv_ior hx hb dX1_mayCarry_53 ?_
          refine lv_topi (fun v12 ev12 => ?_)
          replace hw := hw v12 ev12
          refine lv_istore_n (lv' := [(2, .int v12), (0, .ref (ad 5 i0)), (1, .int x1), (3, .int x3)]) hx hb dX1_mayCarry_54 rfl hl (by decide) rfl (fun ls hl => ?_)
          obtain ⟨v13, ev13⟩ : ∃ y : Int32, y = x3 + 1 := ⟨_, rfl⟩
          replace hw := hw v13 ev13
          refine lv_iinc (v := v13) (lv' := [(3, .int v13), (2, .int v12), (0, .ref (ad 5 i0)), (1, .int x1)]) hx hb dX1_mayCarry_55 hl (k := 3) rfl (by rw [ev13]; rfl) (by decide) rfl (fun ls hl => ?_)
          refine lv_goto (tgt := 4) hx hb dX1_mayCarry_58 (by decide) ?_
          exact hk4 s8 i0 x1 v12 v13 hi0 hw _ _ _ hP hS (lv_sub hl [2, 3, 1, 0] rfl)
def w_X1_mayCarry (post : Int32 → St → Prop) (σ : St) (i0 : Nat) (x1 : Int32) : Prop := ∃ n1 : Nat, l_X1_mayCarry_4 post n1 σ i0 x1 (0 : Int32) (0 : Int32)
theorem B_X1_mayCarry_0 (E : EnvW p s m args meth c D cy regsC ad "RoofWar$Hill" cX1_mayCarry 4 (some .int)) (ha : Apart regsC ad) {post : Int32 → St → Prop} {σ : St} {i0 : Nat} {x1 : Int32} (hi0 : i0 < 3) (hw : w_X1_mayCarry post σ i0 x1) {H : Heap} {locs : List Loc} {ls : Array Slot} (hP : va_P D CLS (wC cy ad σ) H) (hS : va_S (AC ad s.heap.size) s.heap H locs) (hl : lv_has ls 4 [(0, .ref (ad 5 i0)), (1, .int x1)]) : W p l e rm_X1_mayCarry s m args below meth c H locs 0 0 (MQ below (QI D cy (cellC cy ad) regsC ad s.heap.size post) args s 0 0 (AC ad s.heap.size)) (F0 m 0 ls []) := by
  obtain ⟨hx, hb, -⟩ := id E
  unfold w_X1_mayCarry at hw
  refine lv_iconst (v := 0) hx hb dX1_mayCarry_0 (by decide) ?_
  refine lv_istore_n (lv' := [(2, .int 0), (0, .ref (ad 5 i0)), (1, .int x1)]) hx hb dX1_mayCarry_1 rfl hl (by decide) rfl (fun ls hl => ?_)
  refine lv_iconst (v := 0) hx hb dX1_mayCarry_2 (by decide) ?_
  refine lv_istore_n (lv' := [(3, .int 0), (2, .int 0), (0, .ref (ad 5 i0)), (1, .int x1)]) hx hb dX1_mayCarry_3 rfl hl (by decide) rfl (fun ls hl => ?_)
  obtain ⟨n1, hw⟩ := hw
  exact L_X1_mayCarry_4 E ha n1 σ i0 x1 (0 : Int32) (0 : Int32) hi0 hw _ _ _ hP hS (lv_sub hl [2, 3, 1, 0] rfl)
theorem c_X1_mayCarry (l : Launch) (D : va_G) (cy : Nat → ClassId) (ad : Nat → Nat → Nat) (ha : Apart regsC ad) {post : Int32 → St → Prop} {σ : St} {i0 : Nat} {x1 : Int32} (hi0 : i0 < 3) (hw : w_X1_mayCarry post σ i0 x1) (sz : Nat) : MetI l yX1_mayCarry cX1_mayCarry 4 .int rm_X1_mayCarry [.ref (ad 5 i0), .int x1] D cy (cellC cy ad) regsC ad σ sz post :=
  Met_inI ok_X1_mayCarry.2.2.2.2.2 (Nat.le_of_ble_eq_true rfl) (fun p e s m below meth c ls E hP hl => B_X1_mayCarry_0 E ha hi0 hw hP va_S.rf hl)
-- RoofWar$Hill.carry(II)V
theorem dX1_carry_0 : decode cX1_carry 0 = .ok (.aload_n 0, 1) := by decide +kernel
theorem dX1_carry_1 : decode cX1_carry 1 = .ok (.getfield 36, 3) := by decide +kernel
theorem dX1_carry_4 : decode cX1_carry 4 = .ok (.aload_n 0, 1) := by decide +kernel
theorem dX1_carry_5 : decode cX1_carry 5 = .ok (.iload_n 1, 1) := by decide +kernel
theorem dX1_carry_6 : decode cX1_carry 6 = .ok (.invokevirtual 108, 3) := by decide +kernel
theorem dX1_carry_9 : decode cX1_carry 9 = .ok (.istore_n 3, 1) := by decide +kernel
theorem dX1_carry_10 : decode cX1_carry 10 = .ok (.aload_n 0, 1) := by decide +kernel
theorem dX1_carry_11 : decode cX1_carry 11 = .ok (.iload_n 1, 1) := by decide +kernel
theorem dX1_carry_12 : decode cX1_carry 12 = .ok (.iload_n 2, 1) := by decide +kernel
theorem dX1_carry_13 : decode cX1_carry 13 = .ok (.invokevirtual 114, 3) := by decide +kernel
theorem dX1_carry_16 : decode cX1_carry 16 = .ok (.aload_n 0, 1) := by decide +kernel
theorem dX1_carry_17 : decode cX1_carry 17 = .ok (.getfield 18, 3) := by decide +kernel
theorem dX1_carry_20 : decode cX1_carry 20 = .ok (.iload_n 1, 1) := by decide +kernel
theorem dX1_carry_21 : decode cX1_carry 21 = .ok (.bipush 99, 2) := by decide +kernel
theorem dX1_carry_23 : decode cX1_carry 23 = .ok (.aload_n 0, 1) := by decide +kernel
theorem dX1_carry_24 : decode cX1_carry 24 = .ok (.getfield 18, 3) := by decide +kernel
theorem dX1_carry_27 : decode cX1_carry 27 = .ok (.iload_n 1, 1) := by decide +kernel
theorem dX1_carry_28 : decode cX1_carry 28 = .ok (.iaload, 1) := by decide +kernel
theorem dX1_carry_29 : decode cX1_carry 29 = .ok (.iload_n 3, 1) := by decide +kernel
theorem dX1_carry_30 : decode cX1_carry 30 = .ok (.iadd, 1) := by decide +kernel
theorem dX1_carry_31 : decode cX1_carry 31 = .ok (.invokestatic 87, 3) := by decide +kernel
theorem dX1_carry_34 : decode cX1_carry 34 = .ok (.iastore, 1) := by decide +kernel
theorem dX1_carry_35 : decode cX1_carry 35 = .ok (.aload_n 0, 1) := by decide +kernel
theorem dX1_carry_36 : decode cX1_carry 36 = .ok (.dup, 1) := by decide +kernel
theorem dX1_carry_37 : decode cX1_carry 37 = .ok (.getfield 57, 3) := by decide +kernel
theorem dX1_carry_40 : decode cX1_carry 40 = .ok (.iconst 1, 1) := by decide +kernel
theorem dX1_carry_41 : decode cX1_carry 41 = .ok (.iadd, 1) := by decide +kernel
theorem dX1_carry_42 : decode cX1_carry 42 = .ok (.putfield 57, 3) := by decide +kernel
theorem dX1_carry_45 : decode cX1_carry 45 = .ok (.return_, 1) := by decide +kernel
theorem ok_X1_carry : okV yX1_carry cX1_carry 4 none 2 := ⟨mw_509, mw_510, mw_77, mw_511, by decide +kernel, by decide +kernel⟩
abbrev rm_X1_carry : Room := { frames := 3, cells := 0, slots := 0, locals := 73 }
def w_X1_carry (post : St → Prop) (σ : St) (i0 : Nat) (x1 : Int32) (x2 : Int32) : Prop := w_X4_spiteOf (fun r1 s1 => w_X1_put (fun s2 => vp_in x1 12 ∧ (∀ v4 : Int32, v4 = (if ((s2 8 i0 x1.toNatClampNeg) + r1) < 99 then ((s2 8 i0 x1.toNatClampNeg) + r1) else 99) → (vp_in x1 12 ∧ (∀ s6 : St, s6 = wr s2 8 i0 x1.toNatClampNeg v4 → (∀ s7 : St, s7 = wr s6 5 i0 2 ((s6 5 i0 2) + 1) → (post s7)))))) s1 i0 x1 x2) σ i0 x1
theorem B_X1_carry_0 (E : EnvW p s m args meth c D cy regsC ad "RoofWar$Hill" cX1_carry 4 none) (ha : Apart regsC ad) {post : St → Prop} {σ : St} {i0 : Nat} {x1 : Int32} {x2 : Int32} (hi0 : i0 < 3) (hw : w_X1_carry post σ i0 x1 x2) {H : Heap} {locs : List Loc} {ls : Array Slot} (hP : va_P D CLS (wC cy ad σ) H) (hS : va_S (AC ad s.heap.size) s.heap H locs) (hl : lv_has ls 4 [(0, .ref (ad 5 i0)), (1, .int x1), (2, .int x2)]) : W p l e rm_X1_carry s m args below meth c H locs 0 0 (MQ below (QV D cy (cellC cy ad) regsC ad s.heap.size post) args s 0 0 (AC ad s.heap.size)) (F0 m 0 ls []) := by
  obtain ⟨hx, hb, -⟩ := id E
  unfold w_X1_carry at hw
  refine lv_aload_n hx hb dX1_carry_0 rfl (lv_at hl 0 rfl) ?_
  refine fX1_0 hi0 E hP mw_146 dX1_carry_1 ?_
  refine lv_aload_n hx hb dX1_carry_4 rfl (lv_at hl 0 rfl) ?_
  refine lv_iload_n hx hb dX1_carry_5 rfl (lv_at hl 1 rfl) ?_
  refine g_cVi (As := [.ref (ad 5 i0), .int x1]) (rest := []) E hl.1 (c_X4_spiteOf l D cy ad ha hi0 hw _) ok_X4_spiteOf mw_512 ⟨(Nat.le_of_ble_eq_true rfl), (Nat.le_of_ble_eq_true rfl)⟩ ⟨rfl, rfl⟩ rC14 rfl rfl rfl rfl rfl (Nat.le_of_ble_eq_true rfl) ⟨Nat.zero_le _, Nat.zero_le _⟩ hP hS dX1_carry_6 (fun r1 s1 hw H locs hP hS => ?_)
  refine lv_istore_n (lv' := [(3, .int r1), (0, .ref (ad 5 i0)), (1, .int x1), (2, .int x2)]) hx hb dX1_carry_9 rfl hl (by decide) rfl (fun ls hl => ?_)
  refine lv_aload_n hx hb dX1_carry_10 rfl (lv_at hl 1 rfl) ?_
  refine lv_iload_n hx hb dX1_carry_11 rfl (lv_at hl 2 rfl) ?_
  refine lv_iload_n hx hb dX1_carry_12 rfl (lv_at hl 3 rfl) ?_
  refine g_cVv (As := [.int x1, .int x2]) (rest := []) E hl.1 (c_X1_put l D cy ad ha hi0 hw _) ok_X1_put mw_540 ⟨(Nat.le_of_ble_eq_true rfl), (Nat.le_of_ble_eq_true rfl)⟩ ⟨rfl, rfl⟩ (rC5 hi0) rfl rfl rfl rfl rfl (Nat.le_of_ble_eq_true rfl) ⟨Nat.zero_le _, Nat.zero_le _⟩ hP hS dX1_carry_13 (fun s2 hw H locs hP hS => ?_)
  refine lv_aload_n hx hb dX1_carry_16 rfl (lv_at hl 1 rfl) ?_
  refine fX1_3 hi0 E hP mw_152 dX1_carry_17 ?_
  refine lv_iload_n hx hb dX1_carry_20 rfl (lv_at hl 2 rfl) ?_
  refine lv_bipush (v := 99) hx hb dX1_carry_21 (by decide) ?_
  refine lv_aload_n hx hb dX1_carry_23 rfl (lv_at hl 1 rfl) ?_
  refine fX1_3 hi0 E hP mw_152 dX1_carry_24 ?_
  refine lv_iload_n hx hb dX1_carry_27 rfl (lv_at hl 2 rfl) ?_
  obtain ⟨h3, hw⟩ := hw
  refine aC8 hi0 E hP h3 dX1_carry_28 ?_
  refine lv_iload_n hx hb dX1_carry_29 rfl (lv_at hl 0 rfl) ?_
  refine lv_iadd hx hb dX1_carry_30 ?_
  refine g_min E hl.1 mw_443 mw_444 mw_85 mw_445 ⟨(Nat.le_of_ble_eq_true rfl), (Nat.le_of_ble_eq_true rfl)⟩ ⟨Nat.zero_le _, Nat.zero_le _⟩ dX1_carry_31 ?_
  refine lv_topi (fun v4 ev4 => ?_)
  replace hw := hw v4 ev4
  obtain ⟨h5, hw⟩ := hw
  refine tC8 hi0 E ha h5 dX1_carry_34 hP hS (fun s6 es6 H locs hP hS => ?_)
  replace hw := hw s6 es6
  refine lv_aload_n hx hb dX1_carry_35 rfl (lv_at hl 1 rfl) ?_
  refine lv_dup hx hb dX1_carry_36 rfl ?_
  refine fX1_11 hi0 E hP mw_171 dX1_carry_37 ?_
  refine lv_iconst (v := 1) hx hb dX1_carry_40 (by decide) ?_
  refine lv_iadd hx hb dX1_carry_41 ?_
  refine uX1_11 hi0 E ha mw_171 dX1_carry_42 hP hS (fun s7 es7 H locs hP hS => ?_)
  replace hw := hw s7 es7
  exact g_vret E hw hP hS dX1_carry_45
theorem c_X1_carry (l : Launch) (D : va_G) (cy : Nat → ClassId) (ad : Nat → Nat → Nat) (ha : Apart regsC ad) {post : St → Prop} {σ : St} {i0 : Nat} {x1 : Int32} {x2 : Int32} (hi0 : i0 < 3) (hw : w_X1_carry post σ i0 x1 x2) (sz : Nat) : MetV l yX1_carry cX1_carry 4 rm_X1_carry [.ref (ad 5 i0), .int x1, .int x2] D cy (cellC cy ad) regsC ad σ sz post :=
  Met_inV ok_X1_carry.2.2.2.2.2 (Nat.le_of_ble_eq_true rfl) (fun p e s m below meth c ls E hP hl => B_X1_carry_0 E ha hi0 hw hP va_S.rf hl)
-- RoofWar.inSet(II)Z
theorem dX9_inSet_0 : decode cX9_inSet 0 = .ok (.iload_n 0, 1) := by decide +kernel
theorem dX9_inSet_1 : decode cX9_inSet 1 = .ok (.iload_n 1, 1) := by decide +kernel
theorem dX9_inSet_2 : decode cX9_inSet 2 = .ok (.ishr, 1) := by decide +kernel
theorem dX9_inSet_3 : decode cX9_inSet 3 = .ok (.iconst 1, 1) := by decide +kernel
theorem dX9_inSet_4 : decode cX9_inSet 4 = .ok (.iand, 1) := by decide +kernel
theorem dX9_inSet_5 : decode cX9_inSet 5 = .ok (.iconst 1, 1) := by decide +kernel
theorem dX9_inSet_6 : decode cX9_inSet 6 = .ok (.if_icmp .ne 7, 3) := by decide +kernel
theorem dX9_inSet_9 : decode cX9_inSet 9 = .ok (.iconst 1, 1) := by decide +kernel
theorem dX9_inSet_10 : decode cX9_inSet 10 = .ok (.goto 4, 3) := by decide +kernel
theorem dX9_inSet_13 : decode cX9_inSet 13 = .ok (.iconst 0, 1) := by decide +kernel
theorem dX9_inSet_14 : decode cX9_inSet 14 = .ok (.ireturn, 1) := by decide +kernel
theorem ok_X9_inSet : okS yX9_inSet cX9_inSet 2 (some .boolean) 2 := ⟨mw_506, mw_74, mw_507, by decide +kernel, by decide +kernel⟩
abbrev rm_X9_inSet : Room := { frames := 0, cells := 0, slots := 0, locals := 0 }
def w_X9_inSet (post : Int32 → St → Prop) (σ : St) (x0 : Int32) (x1 : Int32) : Prop := ((¬ ((x0 >>> (x1 &&& 31)) &&& 1) = 1 → (post 0 σ)) ∧ (((x0 >>> (x1 &&& 31)) &&& 1) = 1 → (post 1 σ)))
theorem B_X9_inSet_0 (E : EnvW p s m args meth c D cy regsC ad "RoofWar" cX9_inSet 2 (some .boolean)) (ha : Apart regsC ad) {post : Int32 → St → Prop} {σ : St} {x0 : Int32} {x1 : Int32} (hw : w_X9_inSet post σ x0 x1) {H : Heap} {locs : List Loc} {ls : Array Slot} (hP : va_P D CLS (wC cy ad σ) H) (hS : va_S (AC ad s.heap.size) s.heap H locs) (hl : lv_has ls 2 [(0, .int x0), (1, .int x1)]) : W p l e rm_X9_inSet s m args below meth c H locs 0 0 (MQ below (QI D cy (cellC cy ad) regsC ad s.heap.size (fun r u => (r = 0 ∨ r = 1) ∧ post r u)) args s 0 0 (AC ad s.heap.size)) (F0 m 0 ls []) := by
  obtain ⟨hx, hb, -⟩ := id E
  unfold w_X9_inSet at hw
  refine lv_iload_n hx hb dX9_inSet_0 rfl (lv_at hl 0 rfl) ?_
  refine lv_iload_n hx hb dX9_inSet_1 rfl (lv_at hl 1 rfl) ?_
  refine lv_ishr hx hb dX9_inSet_2 ?_
  refine lv_iconst (v := 1) hx hb dX9_inSet_3 (by decide) ?_
  refine lv_iand hx hb dX9_inSet_4 ?_
  refine lv_iconst (v := 1) hx hb dX9_inSet_5 (by decide) ?_
  refine lv_icmp_ne (tgt := 13) hx hb dX9_inSet_6 (by decide) (fun c1 => ?_) (fun c1 => ?_)
  · replace hw := hw.1 c1
    refine lv_iconst (v := 0) hx hb dX9_inSet_13 (by decide) ?_
    exact g_zret E (Or.inl rfl) hw hP hS dX9_inSet_14
  · replace hw := hw.2 c1
    refine lv_iconst (v := 1) hx hb dX9_inSet_9 (by decide) ?_
    refine lv_goto (tgt := 14) hx hb dX9_inSet_10 (by decide) ?_
    exact g_zret E (Or.inr rfl) hw hP hS dX9_inSet_14
theorem c_X9_inSet (l : Launch) (D : va_G) (cy : Nat → ClassId) (ad : Nat → Nat → Nat) (ha : Apart regsC ad) {post : Int32 → St → Prop} {σ : St} {x0 : Int32} {x1 : Int32} (hw : w_X9_inSet post σ x0 x1) (sz : Nat) : MetI l yX9_inSet cX9_inSet 2 .boolean rm_X9_inSet [.int x0, .int x1] D cy (cellC cy ad) regsC ad σ sz (fun r u => (r = 0 ∨ r = 1) ∧ post r u) :=
  Met_inI ok_X9_inSet.2.2.2.2 (Nat.le_of_ble_eq_true rfl) (fun p e s m below meth c ls E hP hl => B_X9_inSet_0 E ha hw hP va_S.rf hl)
-- RoofWar$Hill.roofOfSet(II)I
theorem dX1_roofOfSet_0 : decode cX1_roofOfSet 0 = .ok (.iload_n 2, 1) := by decide +kernel
theorem dX1_roofOfSet_1 : decode cX1_roofOfSet 1 = .ok (.istore_n 3, 1) := by decide +kernel
theorem dX1_roofOfSet_2 : decode cX1_roofOfSet 2 = .ok (.iconst 0, 1) := by decide +kernel
theorem dX1_roofOfSet_3 : decode cX1_roofOfSet 3 = .ok (.istore 4, 2) := by decide +kernel
theorem dX1_roofOfSet_5 : decode cX1_roofOfSet 5 = .ok (.iload 4, 2) := by decide +kernel
theorem dX1_roofOfSet_7 : decode cX1_roofOfSet 7 = .ok (.bipush 12, 2) := by decide +kernel
theorem dX1_roofOfSet_9 : decode cX1_roofOfSet 9 = .ok (.if_icmp .ge 28, 3) := by decide +kernel
theorem dX1_roofOfSet_12 : decode cX1_roofOfSet 12 = .ok (.iload_n 1, 1) := by decide +kernel
theorem dX1_roofOfSet_13 : decode cX1_roofOfSet 13 = .ok (.iload 4, 2) := by decide +kernel
theorem dX1_roofOfSet_15 : decode cX1_roofOfSet 15 = .ok (.invokestatic 118, 3) := by decide +kernel
theorem dX1_roofOfSet_18 : decode cX1_roofOfSet 18 = .ok (.ifCond .eq 13, 3) := by decide +kernel
theorem dX1_roofOfSet_21 : decode cX1_roofOfSet 21 = .ok (.iload_n 3, 1) := by decide +kernel
theorem dX1_roofOfSet_22 : decode cX1_roofOfSet 22 = .ok (.ifCond .ne 6, 3) := by decide +kernel
theorem dX1_roofOfSet_25 : decode cX1_roofOfSet 25 = .ok (.iload 4, 2) := by decide +kernel
theorem dX1_roofOfSet_27 : decode cX1_roofOfSet 27 = .ok (.ireturn, 1) := by decide +kernel
theorem dX1_roofOfSet_28 : decode cX1_roofOfSet 28 = .ok (.iinc 3 (-1), 3) := by decide +kernel
theorem dX1_roofOfSet_31 : decode cX1_roofOfSet 31 = .ok (.iinc 4 1, 3) := by decide +kernel
theorem dX1_roofOfSet_34 : decode cX1_roofOfSet 34 = .ok (.goto (-29), 3) := by decide +kernel
theorem dX1_roofOfSet_37 : decode cX1_roofOfSet 37 = .ok (.ldc 40, 2) := by decide +kernel
theorem dX1_roofOfSet_39 : decode cX1_roofOfSet 39 = .ok (.ireturn, 1) := by decide +kernel
theorem ok_X1_roofOfSet : okV yX1_roofOfSet cX1_roofOfSet 5 (some .int) 2 := ⟨mw_504, mw_2, mw_77, mw_505, by decide +kernel, by decide +kernel⟩
abbrev rm_X1_roofOfSet : Room := { frames := 1, cells := 0, slots := 0, locals := 21 }
def b_X1_roofOfSet_5 (K5 : St → Int32 → Int32 → Int32 → Prop) (post : Int32 → St → Prop) (σ : St) (x1 : Int32) (x3 : Int32) (x4 : Int32) : Prop := ((12 ≤ x4 → (post ((-1000000005)) σ)) ∧ (¬ 12 ≤ x4 → (w_X9_inSet (fun r2 s2 => ((r2 = 0 → (∀ v4 : Int32, v4 = x4 + 1 → (K5 s2 x1 x3 v4))) ∧ (¬ r2 = 0 → (((¬ x3 = 0 → (∀ v6 : Int32, v6 = x3 + (-1) → (∀ v7 : Int32, v7 = x4 + 1 → (K5 s2 x1 v6 v7)))) ∧ (x3 = 0 → (post x4 s2))))))) σ x1 x4)))
noncomputable def l_X1_roofOfSet_5 (post : Int32 → St → Prop) : Nat → St → Int32 → Int32 → Int32 → Prop := fun n => Nat.rec (motive := fun _ => St → Int32 → Int32 → Int32 → Prop) (fun _ _ _ _ => False) (fun _ ih => b_X1_roofOfSet_5 ih post) n
theorem L_X1_roofOfSet_5 (E : EnvW p s m args meth c D cy regsC ad "RoofWar$Hill" cX1_roofOfSet 5 (some .int)) (ha : Apart regsC ad) {post : Int32 → St → Prop} : ∀ (n : Nat), ∀ (σ : St) (x1 : Int32) (x3 : Int32) (x4 : Int32), l_X1_roofOfSet_5 post n σ x1 x3 x4 → ∀ (H : Heap) (locs : List Loc) (ls : Array Slot), va_P D CLS (wC cy ad σ) H → va_S (AC ad s.heap.size) s.heap H locs → lv_has ls 5 [(1, .int x1), (3, .int x3), (4, .int x4)] → W p l e rm_X1_roofOfSet s m args below meth c H locs 0 0 (MQ below (QI D cy (cellC cy ad) regsC ad s.heap.size post) args s 0 0 (AC ad s.heap.size)) (F0 m 5 ls []) := by
  obtain ⟨hx, hb, -⟩ := id E
  intro n
  induction n with
  | zero => intro σ x1 x3 x4 hw; exact hw.elim
  | succ n hk5 =>
    intro σ x1 x3 x4 hw H locs ls hP hS hl
    replace hw : b_X1_roofOfSet_5 (l_X1_roofOfSet_5 post n) post σ x1 x3 x4 := hw
    unfold b_X1_roofOfSet_5 at hw
    refine lv_iload hx hb dX1_roofOfSet_5 (lv_at hl 2 rfl) ?_
    refine lv_bipush (v := 12) hx hb dX1_roofOfSet_7 (by decide) ?_
    refine lv_icmp_ge (tgt := 37) hx hb dX1_roofOfSet_9 (by decide) (fun c1 => ?_) (fun c1 => ?_)
    · replace hw := hw.1 c1
      refine g_ldc (v := -1000000005) E mw_145 dX1_roofOfSet_37 ?_
      exact g_iret E hw hP hS dX1_roofOfSet_39
    · replace hw := hw.2 c1
      refine lv_iload_n hx hb dX1_roofOfSet_12 rfl (lv_at hl 0 rfl) ?_
      refine lv_iload hx hb dX1_roofOfSet_13 (lv_at hl 2 rfl) ?_
      refine g_cNi (host := "RoofWar") (As := [.int x1, .int x4]) (rest := []) E hl.1 (c_X9_inSet l D cy ad ha hw _) ok_X9_inSet (List.mem_of_getElem? (i := 8) rfl) ⟨(Nat.le_of_ble_eq_true rfl), (Nat.le_of_ble_eq_true rfl)⟩ ⟨rfl, rfl⟩ rfl rfl (Nat.le_of_ble_eq_true rfl) ⟨Nat.zero_le _, Nat.zero_le _⟩ hP hS dX1_roofOfSet_15 (fun r2 s2 hw H locs hP hS => ?_)
      obtain ⟨z2, hw⟩ := hw
      refine lv_if_eq (tgt := 31) hx hb dX1_roofOfSet_18 (by decide) (fun c3 => ?_) (fun c3 => ?_)
      · replace hw := hw.1 c3
        obtain ⟨v4, ev4⟩ : ∃ y : Int32, y = x4 + 1 := ⟨_, rfl⟩
        replace hw := hw v4 ev4
        refine lv_iinc (v := v4) (lv' := [(4, .int v4), (1, .int x1), (3, .int x3)]) hx hb dX1_roofOfSet_31 hl (k := 2) rfl (by rw [ev4]; rfl) (by decide) rfl (fun ls hl => ?_)
        refine lv_goto (tgt := 5) hx hb dX1_roofOfSet_34 (by decide) ?_
        exact hk5 s2 x1 x3 v4 hw _ _ _ hP hS (lv_sub hl [1, 2, 0] rfl)
      · replace hw := hw.2 c3
        refine lv_iload_n hx hb dX1_roofOfSet_21 rfl (lv_at hl 1 rfl) ?_
        refine lv_if_ne (tgt := 28) hx hb dX1_roofOfSet_22 (by decide) (fun c5 => ?_) (fun c5 => ?_)
        · replace hw := hw.1 c5
          obtain ⟨v6, ev6⟩ : ∃ y : Int32, y = x3 + (-1) := ⟨_, rfl⟩
          replace hw := hw v6 ev6
          refine lv_iinc (v := v6) (lv' := [(3, .int v6), (1, .int x1), (4, .int x4)]) hx hb dX1_roofOfSet_28 hl (k := 1) rfl (by rw [ev6]; rfl) (by decide) rfl (fun ls hl => ?_)
          obtain ⟨v7, ev7⟩ : ∃ y : Int32, y = x4 + 1 := ⟨_, rfl⟩
          replace hw := hw v7 ev7
          refine lv_iinc (v := v7) (lv' := [(4, .int v7), (3, .int v6), (1, .int x1)]) hx hb dX1_roofOfSet_31 hl (k := 2) rfl (by rw [ev7]; rfl) (by decide) rfl (fun ls hl => ?_)
          refine lv_goto (tgt := 5) hx hb dX1_roofOfSet_34 (by decide) ?_
          exact hk5 s2 x1 v6 v7 hw _ _ _ hP hS (lv_sub hl [2, 1, 0] rfl)
        · replace hw := hw.2 c5
          refine lv_iload hx hb dX1_roofOfSet_25 (lv_at hl 2 rfl) ?_
          exact g_iret E hw hP hS dX1_roofOfSet_27
def w_X1_roofOfSet (post : Int32 → St → Prop) (σ : St) (i0 : Nat) (x1 : Int32) (x2 : Int32) : Prop := ∃ n1 : Nat, l_X1_roofOfSet_5 post n1 σ x1 x2 (0 : Int32)
theorem B_X1_roofOfSet_0 (E : EnvW p s m args meth c D cy regsC ad "RoofWar$Hill" cX1_roofOfSet 5 (some .int)) (ha : Apart regsC ad) {post : Int32 → St → Prop} {σ : St} {i0 : Nat} {x1 : Int32} {x2 : Int32} (hi0 : i0 < 3) (hw : w_X1_roofOfSet post σ i0 x1 x2) {H : Heap} {locs : List Loc} {ls : Array Slot} (hP : va_P D CLS (wC cy ad σ) H) (hS : va_S (AC ad s.heap.size) s.heap H locs) (hl : lv_has ls 5 [(0, .ref (ad 5 i0)), (1, .int x1), (2, .int x2)]) : W p l e rm_X1_roofOfSet s m args below meth c H locs 0 0 (MQ below (QI D cy (cellC cy ad) regsC ad s.heap.size post) args s 0 0 (AC ad s.heap.size)) (F0 m 0 ls []) := by
  obtain ⟨hx, hb, -⟩ := id E
  unfold w_X1_roofOfSet at hw
  refine lv_iload_n hx hb dX1_roofOfSet_0 rfl (lv_at hl 2 rfl) ?_
  refine lv_istore_n (lv' := [(3, .int x2), (0, .ref (ad 5 i0)), (1, .int x1), (2, .int x2)]) hx hb dX1_roofOfSet_1 rfl hl (by decide) rfl (fun ls hl => ?_)
  refine lv_iconst (v := 0) hx hb dX1_roofOfSet_2 (by decide) ?_
  refine lv_istore (lv' := [(4, .int 0), (3, .int x2), (0, .ref (ad 5 i0)), (1, .int x1), (2, .int x2)]) hx hb dX1_roofOfSet_3 hl (by decide) rfl (fun ls hl => ?_)
  obtain ⟨n1, hw⟩ := hw
  exact L_X1_roofOfSet_5 E ha n1 σ x1 x2 (0 : Int32) hw _ _ _ hP hS (lv_sub hl [3, 1, 0] rfl)
theorem c_X1_roofOfSet (l : Launch) (D : va_G) (cy : Nat → ClassId) (ad : Nat → Nat → Nat) (ha : Apart regsC ad) {post : Int32 → St → Prop} {σ : St} {i0 : Nat} {x1 : Int32} {x2 : Int32} (hi0 : i0 < 3) (hw : w_X1_roofOfSet post σ i0 x1 x2) (sz : Nat) : MetI l yX1_roofOfSet cX1_roofOfSet 5 .int rm_X1_roofOfSet [.ref (ad 5 i0), .int x1, .int x2] D cy (cellC cy ad) regsC ad σ sz post :=
  Met_inI ok_X1_roofOfSet.2.2.2.2.2 (Nat.le_of_ble_eq_true rfl) (fun p e s m below meth c ls E hP hl => B_X1_roofOfSet_0 E ha hi0 hw hP va_S.rf hl)
-- java/lang/Integer.bitCount(I)I
theorem dJ6_bitCount_0f7a4_0 : decode cJ6_bitCount_0f7a4 0 = .ok (.iload_n 0, 1) := by decide +kernel
theorem dJ6_bitCount_0f7a4_1 : decode cJ6_bitCount_0f7a4 1 = .ok (.iload_n 0, 1) := by decide +kernel
theorem dJ6_bitCount_0f7a4_2 : decode cJ6_bitCount_0f7a4 2 = .ok (.iconst 1, 1) := by decide +kernel
theorem dJ6_bitCount_0f7a4_3 : decode cJ6_bitCount_0f7a4 3 = .ok (.iushr, 1) := by decide +kernel
theorem dJ6_bitCount_0f7a4_4 : decode cJ6_bitCount_0f7a4 4 = .ok (.ldc_w 265, 3) := by decide +kernel
theorem dJ6_bitCount_0f7a4_7 : decode cJ6_bitCount_0f7a4 7 = .ok (.iand, 1) := by decide +kernel
theorem dJ6_bitCount_0f7a4_8 : decode cJ6_bitCount_0f7a4 8 = .ok (.isub, 1) := by decide +kernel
theorem dJ6_bitCount_0f7a4_9 : decode cJ6_bitCount_0f7a4 9 = .ok (.istore_n 0, 1) := by decide +kernel
theorem dJ6_bitCount_0f7a4_10 : decode cJ6_bitCount_0f7a4 10 = .ok (.iload_n 0, 1) := by decide +kernel
theorem dJ6_bitCount_0f7a4_11 : decode cJ6_bitCount_0f7a4 11 = .ok (.ldc_w 266, 3) := by decide +kernel
theorem dJ6_bitCount_0f7a4_14 : decode cJ6_bitCount_0f7a4 14 = .ok (.iand, 1) := by decide +kernel
theorem dJ6_bitCount_0f7a4_15 : decode cJ6_bitCount_0f7a4 15 = .ok (.iload_n 0, 1) := by decide +kernel
theorem dJ6_bitCount_0f7a4_16 : decode cJ6_bitCount_0f7a4 16 = .ok (.iconst 2, 1) := by decide +kernel
theorem dJ6_bitCount_0f7a4_17 : decode cJ6_bitCount_0f7a4 17 = .ok (.iushr, 1) := by decide +kernel
theorem dJ6_bitCount_0f7a4_18 : decode cJ6_bitCount_0f7a4 18 = .ok (.ldc_w 266, 3) := by decide +kernel
theorem dJ6_bitCount_0f7a4_21 : decode cJ6_bitCount_0f7a4 21 = .ok (.iand, 1) := by decide +kernel
theorem dJ6_bitCount_0f7a4_22 : decode cJ6_bitCount_0f7a4 22 = .ok (.iadd, 1) := by decide +kernel
theorem dJ6_bitCount_0f7a4_23 : decode cJ6_bitCount_0f7a4 23 = .ok (.istore_n 0, 1) := by decide +kernel
theorem dJ6_bitCount_0f7a4_24 : decode cJ6_bitCount_0f7a4 24 = .ok (.iload_n 0, 1) := by decide +kernel
theorem dJ6_bitCount_0f7a4_25 : decode cJ6_bitCount_0f7a4 25 = .ok (.iload_n 0, 1) := by decide +kernel
theorem dJ6_bitCount_0f7a4_26 : decode cJ6_bitCount_0f7a4 26 = .ok (.iconst 4, 1) := by decide +kernel
theorem dJ6_bitCount_0f7a4_27 : decode cJ6_bitCount_0f7a4 27 = .ok (.iushr, 1) := by decide +kernel
theorem dJ6_bitCount_0f7a4_28 : decode cJ6_bitCount_0f7a4 28 = .ok (.iadd, 1) := by decide +kernel
theorem dJ6_bitCount_0f7a4_29 : decode cJ6_bitCount_0f7a4 29 = .ok (.ldc_w 267, 3) := by decide +kernel
theorem dJ6_bitCount_0f7a4_32 : decode cJ6_bitCount_0f7a4 32 = .ok (.iand, 1) := by decide +kernel
theorem dJ6_bitCount_0f7a4_33 : decode cJ6_bitCount_0f7a4 33 = .ok (.istore_n 0, 1) := by decide +kernel
theorem dJ6_bitCount_0f7a4_34 : decode cJ6_bitCount_0f7a4 34 = .ok (.iload_n 0, 1) := by decide +kernel
theorem dJ6_bitCount_0f7a4_35 : decode cJ6_bitCount_0f7a4 35 = .ok (.iload_n 0, 1) := by decide +kernel
theorem dJ6_bitCount_0f7a4_36 : decode cJ6_bitCount_0f7a4 36 = .ok (.bipush 8, 2) := by decide +kernel
theorem dJ6_bitCount_0f7a4_38 : decode cJ6_bitCount_0f7a4 38 = .ok (.iushr, 1) := by decide +kernel
theorem dJ6_bitCount_0f7a4_39 : decode cJ6_bitCount_0f7a4 39 = .ok (.iadd, 1) := by decide +kernel
theorem dJ6_bitCount_0f7a4_40 : decode cJ6_bitCount_0f7a4 40 = .ok (.istore_n 0, 1) := by decide +kernel
theorem dJ6_bitCount_0f7a4_41 : decode cJ6_bitCount_0f7a4 41 = .ok (.iload_n 0, 1) := by decide +kernel
theorem dJ6_bitCount_0f7a4_42 : decode cJ6_bitCount_0f7a4 42 = .ok (.iload_n 0, 1) := by decide +kernel
theorem dJ6_bitCount_0f7a4_43 : decode cJ6_bitCount_0f7a4 43 = .ok (.bipush 16, 2) := by decide +kernel
theorem dJ6_bitCount_0f7a4_45 : decode cJ6_bitCount_0f7a4 45 = .ok (.iushr, 1) := by decide +kernel
theorem dJ6_bitCount_0f7a4_46 : decode cJ6_bitCount_0f7a4 46 = .ok (.iadd, 1) := by decide +kernel
theorem dJ6_bitCount_0f7a4_47 : decode cJ6_bitCount_0f7a4 47 = .ok (.istore_n 0, 1) := by decide +kernel
theorem dJ6_bitCount_0f7a4_48 : decode cJ6_bitCount_0f7a4 48 = .ok (.iload_n 0, 1) := by decide +kernel
theorem dJ6_bitCount_0f7a4_49 : decode cJ6_bitCount_0f7a4 49 = .ok (.bipush 63, 2) := by decide +kernel
theorem dJ6_bitCount_0f7a4_51 : decode cJ6_bitCount_0f7a4 51 = .ok (.iand, 1) := by decide +kernel
theorem dJ6_bitCount_0f7a4_52 : decode cJ6_bitCount_0f7a4 52 = .ok (.ireturn, 1) := by decide +kernel
theorem ok_J6_bitCount_0f7a4 : okS yJ6_bitCount_0f7a4 cJ6_bitCount_0f7a4 1 (some .int) 1 := ⟨mw_498, mw_86, mw_499, by decide +kernel, by decide +kernel⟩
abbrev rm_J6_bitCount_0f7a4 : Room := { frames := 0, cells := 0, slots := 0, locals := 0 }
def w_J6_bitCount_0f7a4 (post : Int32 → St → Prop) (σ : St) (x0 : Int32) : Prop := ∀ v1 : Int32, v1 = x0 - ((jushr x0 1) &&& 1431655765) → (∀ v2 : Int32, v2 = (v1 &&& 858993459) + ((jushr v1 2) &&& 858993459) → (∀ v3 : Int32, v3 = (v2 + (jushr v2 4)) &&& 252645135 → (∀ v4 : Int32, v4 = v3 + (jushr v3 8) → (∀ v5 : Int32, v5 = v4 + (jushr v4 16) → (post (v5 &&& 63) σ)))))
theorem B_J6_bitCount_0f7a4_0 (E : EnvW p s m args meth c D cy regsC ad "java/lang/Integer" cJ6_bitCount_0f7a4 1 (some .int)) (ha : Apart regsC ad) {post : Int32 → St → Prop} {σ : St} {x0 : Int32} (hw : w_J6_bitCount_0f7a4 post σ x0) {H : Heap} {locs : List Loc} {ls : Array Slot} (hP : va_P D CLS (wC cy ad σ) H) (hS : va_S (AC ad s.heap.size) s.heap H locs) (hl : lv_has ls 1 [(0, .int x0)]) : W p l e rm_J6_bitCount_0f7a4 s m args below meth c H locs 0 0 (MQ below (QI D cy (cellC cy ad) regsC ad s.heap.size post) args s 0 0 (AC ad s.heap.size)) (F0 m 0 ls []) := by
  obtain ⟨hx, hb, -⟩ := id E
  unfold w_J6_bitCount_0f7a4 at hw
  refine lv_iload_n hx hb dJ6_bitCount_0f7a4_0 rfl (lv_at hl 0 rfl) ?_
  refine lv_iload_n hx hb dJ6_bitCount_0f7a4_1 rfl (lv_at hl 0 rfl) ?_
  refine lv_iconst (v := 1) hx hb dJ6_bitCount_0f7a4_2 (by decide) ?_
  refine lv_iushr (v := jushr x0 1) hx hb dJ6_bitCount_0f7a4_3 rfl ?_
  refine g_ldcw (v := 1431655765) E mw_500 dJ6_bitCount_0f7a4_4 ?_
  refine lv_iand hx hb dJ6_bitCount_0f7a4_7 ?_
  refine lv_isub hx hb dJ6_bitCount_0f7a4_8 ?_
  refine lv_topi (fun v1 ev1 => ?_)
  replace hw := hw v1 ev1
  refine lv_istore_n (lv' := [(0, .int v1)]) hx hb dJ6_bitCount_0f7a4_9 rfl hl (by decide) rfl (fun ls hl => ?_)
  refine lv_iload_n hx hb dJ6_bitCount_0f7a4_10 rfl (lv_at hl 0 rfl) ?_
  refine g_ldcw (v := 858993459) E mw_501 dJ6_bitCount_0f7a4_11 ?_
  refine lv_iand hx hb dJ6_bitCount_0f7a4_14 ?_
  refine lv_iload_n hx hb dJ6_bitCount_0f7a4_15 rfl (lv_at hl 0 rfl) ?_
  refine lv_iconst (v := 2) hx hb dJ6_bitCount_0f7a4_16 (by decide) ?_
  refine lv_iushr (v := jushr v1 2) hx hb dJ6_bitCount_0f7a4_17 rfl ?_
  refine g_ldcw (v := 858993459) E mw_501 dJ6_bitCount_0f7a4_18 ?_
  refine lv_iand hx hb dJ6_bitCount_0f7a4_21 ?_
  refine lv_iadd hx hb dJ6_bitCount_0f7a4_22 ?_
  refine lv_topi (fun v2 ev2 => ?_)
  replace hw := hw v2 ev2
  refine lv_istore_n (lv' := [(0, .int v2)]) hx hb dJ6_bitCount_0f7a4_23 rfl hl (by decide) rfl (fun ls hl => ?_)
  refine lv_iload_n hx hb dJ6_bitCount_0f7a4_24 rfl (lv_at hl 0 rfl) ?_
  refine lv_iload_n hx hb dJ6_bitCount_0f7a4_25 rfl (lv_at hl 0 rfl) ?_
  refine lv_iconst (v := 4) hx hb dJ6_bitCount_0f7a4_26 (by decide) ?_
  refine lv_iushr (v := jushr v2 4) hx hb dJ6_bitCount_0f7a4_27 rfl ?_
  refine lv_iadd hx hb dJ6_bitCount_0f7a4_28 ?_
  refine g_ldcw (v := 252645135) E mw_502 dJ6_bitCount_0f7a4_29 ?_
  refine lv_iand hx hb dJ6_bitCount_0f7a4_32 ?_
  refine lv_topi (fun v3 ev3 => ?_)
  replace hw := hw v3 ev3
  refine lv_istore_n (lv' := [(0, .int v3)]) hx hb dJ6_bitCount_0f7a4_33 rfl hl (by decide) rfl (fun ls hl => ?_)
  refine lv_iload_n hx hb dJ6_bitCount_0f7a4_34 rfl (lv_at hl 0 rfl) ?_
  refine lv_iload_n hx hb dJ6_bitCount_0f7a4_35 rfl (lv_at hl 0 rfl) ?_
  refine lv_bipush (v := 8) hx hb dJ6_bitCount_0f7a4_36 (by decide) ?_
  refine lv_iushr (v := jushr v3 8) hx hb dJ6_bitCount_0f7a4_38 rfl ?_
  refine lv_iadd hx hb dJ6_bitCount_0f7a4_39 ?_
  refine lv_topi (fun v4 ev4 => ?_)
  replace hw := hw v4 ev4
  refine lv_istore_n (lv' := [(0, .int v4)]) hx hb dJ6_bitCount_0f7a4_40 rfl hl (by decide) rfl (fun ls hl => ?_)
  refine lv_iload_n hx hb dJ6_bitCount_0f7a4_41 rfl (lv_at hl 0 rfl) ?_
  refine lv_iload_n hx hb dJ6_bitCount_0f7a4_42 rfl (lv_at hl 0 rfl) ?_
  refine lv_bipush (v := 16) hx hb dJ6_bitCount_0f7a4_43 (by decide) ?_
  refine lv_iushr (v := jushr v4 16) hx hb dJ6_bitCount_0f7a4_45 rfl ?_
  refine lv_iadd hx hb dJ6_bitCount_0f7a4_46 ?_
  refine lv_topi (fun v5 ev5 => ?_)
  replace hw := hw v5 ev5
  refine lv_istore_n (lv' := [(0, .int v5)]) hx hb dJ6_bitCount_0f7a4_47 rfl hl (by decide) rfl (fun ls hl => ?_)
  refine lv_iload_n hx hb dJ6_bitCount_0f7a4_48 rfl (lv_at hl 0 rfl) ?_
  refine lv_bipush (v := 63) hx hb dJ6_bitCount_0f7a4_49 (by decide) ?_
  refine lv_iand hx hb dJ6_bitCount_0f7a4_51 ?_
  exact g_iret E hw hP hS dJ6_bitCount_0f7a4_52
theorem c_J6_bitCount_0f7a4 (l : Launch) (D : va_G) (cy : Nat → ClassId) (ad : Nat → Nat → Nat) (ha : Apart regsC ad) {post : Int32 → St → Prop} {σ : St} {x0 : Int32} (hw : w_J6_bitCount_0f7a4 post σ x0) (sz : Nat) : MetI l yJ6_bitCount_0f7a4 cJ6_bitCount_0f7a4 1 .int rm_J6_bitCount_0f7a4 [.int x0] D cy (cellC cy ad) regsC ad σ sz post :=
  Met_inI ok_J6_bitCount_0f7a4.2.2.2.2 (Nat.le_of_ble_eq_true rfl) (fun p e s m below meth c ls E hP hl => B_J6_bitCount_0f7a4_0 E ha hw hP va_S.rf hl)
-- RoofWar$Hill.goOut(I)V
theorem dX1_goOut_0 : decode cX1_goOut 0 = .ok (.aload_n 0, 1) := by decide +kernel
theorem dX1_goOut_1 : decode cX1_goOut 1 = .ok (.iload_n 1, 1) := by decide +kernel
theorem dX1_goOut_2 : decode cX1_goOut 2 = .ok (.invokevirtual 122, 3) := by decide +kernel
theorem dX1_goOut_5 : decode cX1_goOut 5 = .ok (.istore_n 2, 1) := by decide +kernel
theorem dX1_goOut_6 : decode cX1_goOut 6 = .ok (.aload_n 0, 1) := by decide +kernel
theorem dX1_goOut_7 : decode cX1_goOut 7 = .ok (.iload_n 1, 1) := by decide +kernel
theorem dX1_goOut_8 : decode cX1_goOut 8 = .ok (.invokevirtual 125, 3) := by decide +kernel
theorem dX1_goOut_11 : decode cX1_goOut 11 = .ok (.istore_n 3, 1) := by decide +kernel
theorem dX1_goOut_12 : decode cX1_goOut 12 = .ok (.iload_n 2, 1) := by decide +kernel
theorem dX1_goOut_13 : decode cX1_goOut 13 = .ok (.invokestatic 128, 3) := by decide +kernel
theorem dX1_goOut_16 : decode cX1_goOut 16 = .ok (.istore 4, 2) := by decide +kernel
theorem dX1_goOut_18 : decode cX1_goOut 18 = .ok (.iload 4, 2) := by decide +kernel
theorem dX1_goOut_20 : decode cX1_goOut 20 = .ok (.ifCond .eq 9, 3) := by decide +kernel
theorem dX1_goOut_23 : decode cX1_goOut 23 = .ok (.iload_n 3, 1) := by decide +kernel
theorem dX1_goOut_24 : decode cX1_goOut 24 = .ok (.ldc 40, 2) := by decide +kernel
theorem dX1_goOut_26 : decode cX1_goOut 26 = .ok (.if_icmp .ne 4, 3) := by decide +kernel
theorem dX1_goOut_29 : decode cX1_goOut 29 = .ok (.return_, 1) := by decide +kernel
theorem dX1_goOut_30 : decode cX1_goOut 30 = .ok (.aload_n 0, 1) := by decide +kernel
theorem dX1_goOut_31 : decode cX1_goOut 31 = .ok (.iload_n 2, 1) := by decide +kernel
theorem dX1_goOut_32 : decode cX1_goOut 32 = .ok (.aload_n 0, 1) := by decide +kernel
theorem dX1_goOut_33 : decode cX1_goOut 33 = .ok (.invokevirtual 73, 3) := by decide +kernel
theorem dX1_goOut_36 : decode cX1_goOut 36 = .ok (.iload 4, 2) := by decide +kernel
theorem dX1_goOut_38 : decode cX1_goOut 38 = .ok (.irem, 1) := by decide +kernel
theorem dX1_goOut_39 : decode cX1_goOut 39 = .ok (.invokevirtual 133, 3) := by decide +kernel
theorem dX1_goOut_42 : decode cX1_goOut 42 = .ok (.istore 5, 2) := by decide +kernel
theorem dX1_goOut_44 : decode cX1_goOut 44 = .ok (.aload_n 0, 1) := by decide +kernel
theorem dX1_goOut_45 : decode cX1_goOut 45 = .ok (.invokevirtual 73, 3) := by decide +kernel
theorem dX1_goOut_48 : decode cX1_goOut 48 = .ok (.bipush 100, 2) := by decide +kernel
theorem dX1_goOut_50 : decode cX1_goOut 50 = .ok (.irem, 1) := by decide +kernel
theorem dX1_goOut_51 : decode cX1_goOut 51 = .ok (.istore 6, 2) := by decide +kernel
theorem dX1_goOut_53 : decode cX1_goOut 53 = .ok (.iload 5, 2) := by decide +kernel
theorem dX1_goOut_55 : decode cX1_goOut 55 = .ok (.ldc 40, 2) := by decide +kernel
theorem dX1_goOut_57 : decode cX1_goOut 57 = .ok (.if_icmp .ne 4, 3) := by decide +kernel
theorem dX1_goOut_60 : decode cX1_goOut 60 = .ok (.return_, 1) := by decide +kernel
theorem dX1_goOut_61 : decode cX1_goOut 61 = .ok (.iload 6, 2) := by decide +kernel
theorem dX1_goOut_63 : decode cX1_goOut 63 = .ok (.aload_n 0, 1) := by decide +kernel
theorem dX1_goOut_64 : decode cX1_goOut 64 = .ok (.getfield 27, 3) := by decide +kernel
theorem dX1_goOut_67 : decode cX1_goOut 67 = .ok (.aload_n 0, 1) := by decide +kernel
theorem dX1_goOut_68 : decode cX1_goOut 68 = .ok (.getfield 21, 3) := by decide +kernel
theorem dX1_goOut_71 : decode cX1_goOut 71 = .ok (.iload 5, 2) := by decide +kernel
theorem dX1_goOut_73 : decode cX1_goOut 73 = .ok (.iaload, 1) := by decide +kernel
theorem dX1_goOut_74 : decode cX1_goOut 74 = .ok (.iaload, 1) := by decide +kernel
theorem dX1_goOut_75 : decode cX1_goOut 75 = .ok (.if_icmp .ge 16, 3) := by decide +kernel
theorem dX1_goOut_78 : decode cX1_goOut 78 = .ok (.aload_n 0, 1) := by decide +kernel
theorem dX1_goOut_79 : decode cX1_goOut 79 = .ok (.dup, 1) := by decide +kernel
theorem dX1_goOut_80 : decode cX1_goOut 80 = .ok (.getfield 60, 3) := by decide +kernel
theorem dX1_goOut_83 : decode cX1_goOut 83 = .ok (.iconst 1, 1) := by decide +kernel
theorem dX1_goOut_84 : decode cX1_goOut 84 = .ok (.iadd, 1) := by decide +kernel
theorem dX1_goOut_85 : decode cX1_goOut 85 = .ok (.putfield 60, 3) := by decide +kernel
theorem dX1_goOut_88 : decode cX1_goOut 88 = .ok (.goto 10, 3) := by decide +kernel
theorem dX1_goOut_91 : decode cX1_goOut 91 = .ok (.aload_n 0, 1) := by decide +kernel
theorem dX1_goOut_92 : decode cX1_goOut 92 = .ok (.iload 5, 2) := by decide +kernel
theorem dX1_goOut_94 : decode cX1_goOut 94 = .ok (.iload_n 3, 1) := by decide +kernel
theorem dX1_goOut_95 : decode cX1_goOut 95 = .ok (.invokevirtual 136, 3) := by decide +kernel
theorem dX1_goOut_98 : decode cX1_goOut 98 = .ok (.return_, 1) := by decide +kernel
theorem ok_X1_goOut : okV yX1_goOut cX1_goOut 7 none 1 := ⟨mw_482, mw_1, mw_77, mw_483, by decide +kernel, by decide +kernel⟩
abbrev rm_X1_goOut : Room := { frames := 4, cells := 0, slots := 0, locals := 96 }
def w_X1_goOut (post : St → Prop) (σ : St) (i0 : Nat) (x1 : Int32) : Prop := w_X1_mayCarry (fun r1 s1 => w_X1_homeOf (fun r2 s2 => w_J6_bitCount_0f7a4 (fun r3 s3 => ((r3 = 0 → (post s3)) ∧ (¬ r3 = 0 → (((¬ r2 = ((-1000000005)) → (w_X1_draw (fun r6 s6 => ¬ r3 = 0 ∧ (∀ v8 : Int32, v8 = jrem r6 r3 → (w_X1_roofOfSet (fun r9 s9 => w_X1_draw (fun r10 s10 => ¬ (100 : Int32) = 0 ∧ (∀ v12 : Int32, v12 = jrem r10 100 → (((¬ r9 = ((-1000000005)) → (vp_in r9 12 ∧ (vp_in (s10 9 i0 r9.toNatClampNeg) 12 ∧ ((((s10 11 i0 (s10 9 i0 r9.toNatClampNeg).toNatClampNeg) ≤ v12 → (w_X1_carry (fun s17 => post s17) s10 i0 r9 r2)) ∧ (¬ (s10 11 i0 (s10 9 i0 r9.toNatClampNeg).toNatClampNeg) ≤ v12 → (∀ s18 : St, s18 = wr s10 5 i0 3 ((s10 5 i0 3) + 1) → (post s18)))))))) ∧ (r9 = ((-1000000005)) → (post s10)))))) s9 i0) s6 i0 r1 v8))) s3 i0)) ∧ (r2 = ((-1000000005)) → (post s3))))))) s2 r1) s1 i0 x1) σ i0 x1
theorem B_X1_goOut_0 (E : EnvW p s m args meth c D cy regsC ad "RoofWar$Hill" cX1_goOut 7 none) (ha : Apart regsC ad) {post : St → Prop} {σ : St} {i0 : Nat} {x1 : Int32} (hi0 : i0 < 3) (hw : w_X1_goOut post σ i0 x1) {H : Heap} {locs : List Loc} {ls : Array Slot} (hP : va_P D CLS (wC cy ad σ) H) (hS : va_S (AC ad s.heap.size) s.heap H locs) (hl : lv_has ls 7 [(0, .ref (ad 5 i0)), (1, .int x1)]) : W p l e rm_X1_goOut s m args below meth c H locs 0 0 (MQ below (QV D cy (cellC cy ad) regsC ad s.heap.size post) args s 0 0 (AC ad s.heap.size)) (F0 m 0 ls []) := by
  obtain ⟨hx, hb, -⟩ := id E
  unfold w_X1_goOut at hw
  refine lv_aload_n hx hb dX1_goOut_0 rfl (lv_at hl 0 rfl) ?_
  refine lv_iload_n hx hb dX1_goOut_1 rfl (lv_at hl 1 rfl) ?_
  refine g_cVi (As := [.int x1]) (rest := []) E hl.1 (c_X1_mayCarry l D cy ad ha hi0 hw _) ok_X1_mayCarry mw_484 ⟨(Nat.le_of_ble_eq_true rfl), (Nat.le_of_ble_eq_true rfl)⟩ ⟨rfl, rfl⟩ (rC5 hi0) rfl rfl rfl rfl rfl (Nat.le_of_ble_eq_true rfl) ⟨Nat.zero_le _, Nat.zero_le _⟩ hP hS dX1_goOut_2 (fun r1 s1 hw H locs hP hS => ?_)
  refine lv_istore_n (lv' := [(2, .int r1), (0, .ref (ad 5 i0)), (1, .int x1)]) hx hb dX1_goOut_5 rfl hl (by decide) rfl (fun ls hl => ?_)
  refine lv_aload_n hx hb dX1_goOut_6 rfl (lv_at hl 1 rfl) ?_
  refine lv_iload_n hx hb dX1_goOut_7 rfl (lv_at hl 2 rfl) ?_
  refine g_cVi (As := [.int x1]) (rest := []) E hl.1 (c_X1_homeOf l D cy ad ha hi0 hw _) ok_X1_homeOf mw_491 ⟨(Nat.le_of_ble_eq_true rfl), (Nat.le_of_ble_eq_true rfl)⟩ ⟨rfl, rfl⟩ (rC5 hi0) rfl rfl rfl rfl rfl (Nat.le_of_ble_eq_true rfl) ⟨Nat.zero_le _, Nat.zero_le _⟩ hP hS dX1_goOut_8 (fun r2 s2 hw H locs hP hS => ?_)
  refine lv_istore_n (lv' := [(3, .int r2), (2, .int r1), (0, .ref (ad 5 i0)), (1, .int x1)]) hx hb dX1_goOut_11 rfl hl (by decide) rfl (fun ls hl => ?_)
  refine lv_iload_n hx hb dX1_goOut_12 rfl (lv_at hl 1 rfl) ?_
  refine g_cSi (As := [.int r1]) (rest := []) E hl.1 (c_J6_bitCount_0f7a4 l D cy ad ha hw _) ok_J6_bitCount_0f7a4 mw_497 ⟨(Nat.le_of_ble_eq_true rfl), (Nat.le_of_ble_eq_true rfl)⟩ ⟨rfl, rfl⟩ rfl rfl (Nat.le_of_ble_eq_true rfl) ⟨Nat.zero_le _, Nat.zero_le _⟩ hP hS dX1_goOut_13 (fun r3 s3 hw H locs hP hS => ?_)
  refine lv_istore (lv' := [(4, .int r3), (3, .int r2), (2, .int r1), (0, .ref (ad 5 i0)), (1, .int x1)]) hx hb dX1_goOut_16 hl (by decide) rfl (fun ls hl => ?_)
  refine lv_iload hx hb dX1_goOut_18 (lv_at hl 0 rfl) ?_
  refine lv_if_eq (tgt := 29) hx hb dX1_goOut_20 (by decide) (fun c4 => ?_) (fun c4 => ?_)
  · replace hw := hw.1 c4
    exact g_vret E hw hP hS dX1_goOut_29
  · replace hw := hw.2 c4
    refine lv_iload_n hx hb dX1_goOut_23 rfl (lv_at hl 1 rfl) ?_
    refine g_ldc (v := -1000000005) E mw_145 dX1_goOut_24 ?_
    refine lv_icmp_ne (tgt := 30) hx hb dX1_goOut_26 (by decide) (fun c5 => ?_) (fun c5 => ?_)
    · replace hw := hw.1 c5
      refine lv_aload_n hx hb dX1_goOut_30 rfl (lv_at hl 3 rfl) ?_
      refine lv_iload_n hx hb dX1_goOut_31 rfl (lv_at hl 2 rfl) ?_
      refine lv_aload_n hx hb dX1_goOut_32 rfl (lv_at hl 3 rfl) ?_
      refine g_cVi (As := []) (rest := [.int r1, .ref (ad 5 i0)]) E hl.1 (c_X1_draw l D cy ad ha hi0 hw _) ok_X1_draw mw_463 ⟨(Nat.le_of_ble_eq_true rfl), (Nat.le_of_ble_eq_true rfl)⟩ ⟨rfl, rfl⟩ (rC5 hi0) rfl rfl rfl rfl rfl (Nat.le_of_ble_eq_true rfl) ⟨Nat.zero_le _, Nat.zero_le _⟩ hP hS dX1_goOut_33 (fun r6 s6 hw H locs hP hS => ?_)
      refine lv_iload hx hb dX1_goOut_36 (lv_at hl 0 rfl) ?_
      obtain ⟨h7, hw⟩ := hw
      refine lv_irem hx hb dX1_goOut_38 h7 ?_
      refine lv_topi (fun v8 ev8 => ?_)
      replace hw := hw v8 ev8
      refine g_cVi (As := [.int r1, .int v8]) (rest := []) E hl.1 (c_X1_roofOfSet l D cy ad ha hi0 hw _) ok_X1_roofOfSet mw_503 ⟨(Nat.le_of_ble_eq_true rfl), (Nat.le_of_ble_eq_true rfl)⟩ ⟨rfl, rfl⟩ (rC5 hi0) rfl rfl rfl rfl rfl (Nat.le_of_ble_eq_true rfl) ⟨Nat.zero_le _, Nat.zero_le _⟩ hP hS dX1_goOut_39 (fun r9 s9 hw H locs hP hS => ?_)
      refine lv_istore (lv' := [(5, .int r9), (4, .int r3), (3, .int r2), (2, .int r1), (0, .ref (ad 5 i0)), (1, .int x1)]) hx hb dX1_goOut_42 hl (by decide) rfl (fun ls hl => ?_)
      refine lv_aload_n hx hb dX1_goOut_44 rfl (lv_at hl 4 rfl) ?_
      refine g_cVi (As := []) (rest := []) E hl.1 (c_X1_draw l D cy ad ha hi0 hw _) ok_X1_draw mw_463 ⟨(Nat.le_of_ble_eq_true rfl), (Nat.le_of_ble_eq_true rfl)⟩ ⟨rfl, rfl⟩ (rC5 hi0) rfl rfl rfl rfl rfl (Nat.le_of_ble_eq_true rfl) ⟨Nat.zero_le _, Nat.zero_le _⟩ hP hS dX1_goOut_45 (fun r10 s10 hw H locs hP hS => ?_)
      refine lv_bipush (v := 100) hx hb dX1_goOut_48 (by decide) ?_
      obtain ⟨h11, hw⟩ := hw
      refine lv_irem hx hb dX1_goOut_50 h11 ?_
      refine lv_topi (fun v12 ev12 => ?_)
      replace hw := hw v12 ev12
      refine lv_istore (lv' := [(6, .int v12), (5, .int r9), (4, .int r3), (3, .int r2), (2, .int r1), (0, .ref (ad 5 i0)), (1, .int x1)]) hx hb dX1_goOut_51 hl (by decide) rfl (fun ls hl => ?_)
      refine lv_iload hx hb dX1_goOut_53 (lv_at hl 1 rfl) ?_
      refine g_ldc (v := -1000000005) E mw_145 dX1_goOut_55 ?_
      refine lv_icmp_ne (tgt := 61) hx hb dX1_goOut_57 (by decide) (fun c13 => ?_) (fun c13 => ?_)
      · replace hw := hw.1 c13
        refine lv_iload hx hb dX1_goOut_61 (lv_at hl 0 rfl) ?_
        refine lv_aload_n hx hb dX1_goOut_63 rfl (lv_at hl 5 rfl) ?_
        refine fX1_6 hi0 E hP mw_160 dX1_goOut_64 ?_
        refine lv_aload_n hx hb dX1_goOut_67 rfl (lv_at hl 5 rfl) ?_
        refine fX1_4 hi0 E hP mw_155 dX1_goOut_68 ?_
        refine lv_iload hx hb dX1_goOut_71 (lv_at hl 1 rfl) ?_
        obtain ⟨h14, hw⟩ := hw
        refine aC9 hi0 E hP h14 dX1_goOut_73 ?_
        obtain ⟨h15, hw⟩ := hw
        refine aC11 hi0 E hP h15 dX1_goOut_74 ?_
        refine lv_icmp_ge (tgt := 91) hx hb dX1_goOut_75 (by decide) (fun c16 => ?_) (fun c16 => ?_)
        · replace hw := hw.1 c16
          refine lv_aload_n hx hb dX1_goOut_91 rfl (lv_at hl 5 rfl) ?_
          refine lv_iload hx hb dX1_goOut_92 (lv_at hl 1 rfl) ?_
          refine lv_iload_n hx hb dX1_goOut_94 rfl (lv_at hl 3 rfl) ?_
          refine g_cVv (As := [.int r9, .int r2]) (rest := []) E hl.1 (c_X1_carry l D cy ad ha hi0 hw _) ok_X1_carry mw_508 ⟨(Nat.le_of_ble_eq_true rfl), (Nat.le_of_ble_eq_true rfl)⟩ ⟨rfl, rfl⟩ (rC5 hi0) rfl rfl rfl rfl rfl (Nat.le_of_ble_eq_true rfl) ⟨Nat.zero_le _, Nat.zero_le _⟩ hP hS dX1_goOut_95 (fun s17 hw H locs hP hS => ?_)
          exact g_vret E hw hP hS dX1_goOut_98
        · replace hw := hw.2 c16
          refine lv_aload_n hx hb dX1_goOut_78 rfl (lv_at hl 5 rfl) ?_
          refine lv_dup hx hb dX1_goOut_79 rfl ?_
          refine fX1_12 hi0 E hP mw_173 dX1_goOut_80 ?_
          refine lv_iconst (v := 1) hx hb dX1_goOut_83 (by decide) ?_
          refine lv_iadd hx hb dX1_goOut_84 ?_
          refine uX1_12 hi0 E ha mw_173 dX1_goOut_85 hP hS (fun s18 es18 H locs hP hS => ?_)
          replace hw := hw s18 es18
          refine lv_goto (tgt := 98) hx hb dX1_goOut_88 (by decide) ?_
          exact g_vret E hw hP hS dX1_goOut_98
      · replace hw := hw.2 c13
        exact g_vret E hw hP hS dX1_goOut_60
    · replace hw := hw.2 c5
      exact g_vret E hw hP hS dX1_goOut_29
theorem c_X1_goOut (l : Launch) (D : va_G) (cy : Nat → ClassId) (ad : Nat → Nat → Nat) (ha : Apart regsC ad) {post : St → Prop} {σ : St} {i0 : Nat} {x1 : Int32} (hi0 : i0 < 3) (hw : w_X1_goOut post σ i0 x1) (sz : Nat) : MetV l yX1_goOut cX1_goOut 7 rm_X1_goOut [.ref (ad 5 i0), .int x1] D cy (cellC cy ad) regsC ad σ sz post :=
  Met_inV ok_X1_goOut.2.2.2.2.2 (Nat.le_of_ble_eq_true rfl) (fun p e s m below meth c ls E hP hl => B_X1_goOut_0 E ha hi0 hw hP va_S.rf hl)
-- RoofWar$Hill.rainsIn()I
theorem dX1_rainsIn_0 : decode cX1_rainsIn 0 = .ok (.iconst 0, 1) := by decide +kernel
theorem dX1_rainsIn_1 : decode cX1_rainsIn 1 = .ok (.istore_n 1, 1) := by decide +kernel
theorem dX1_rainsIn_2 : decode cX1_rainsIn 2 = .ok (.iconst 0, 1) := by decide +kernel
theorem dX1_rainsIn_3 : decode cX1_rainsIn 3 = .ok (.istore_n 2, 1) := by decide +kernel
theorem dX1_rainsIn_4 : decode cX1_rainsIn 4 = .ok (.iload_n 2, 1) := by decide +kernel
theorem dX1_rainsIn_5 : decode cX1_rainsIn 5 = .ok (.aload_n 0, 1) := by decide +kernel
theorem dX1_rainsIn_6 : decode cX1_rainsIn 6 = .ok (.getfield 54, 3) := by decide +kernel
theorem dX1_rainsIn_9 : decode cX1_rainsIn 9 = .ok (.if_icmp .ge 27, 3) := by decide +kernel
theorem dX1_rainsIn_12 : decode cX1_rainsIn 12 = .ok (.iload_n 1, 1) := by decide +kernel
theorem dX1_rainsIn_13 : decode cX1_rainsIn 13 = .ok (.aload_n 0, 1) := by decide +kernel
theorem dX1_rainsIn_14 : decode cX1_rainsIn 14 = .ok (.getfield 9, 3) := by decide +kernel
theorem dX1_rainsIn_17 : decode cX1_rainsIn 17 = .ok (.iload_n 2, 1) := by decide +kernel
theorem dX1_rainsIn_18 : decode cX1_rainsIn 18 = .ok (.iaload, 1) := by decide +kernel
theorem dX1_rainsIn_19 : decode cX1_rainsIn 19 = .ok (.aload_n 0, 1) := by decide +kernel
theorem dX1_rainsIn_20 : decode cX1_rainsIn 20 = .ok (.getfield 18, 3) := by decide +kernel
theorem dX1_rainsIn_23 : decode cX1_rainsIn 23 = .ok (.iload_n 2, 1) := by decide +kernel
theorem dX1_rainsIn_24 : decode cX1_rainsIn 24 = .ok (.iaload, 1) := by decide +kernel
theorem dX1_rainsIn_25 : decode cX1_rainsIn 25 = .ok (.invokestatic 139, 3) := by decide +kernel
theorem dX1_rainsIn_28 : decode cX1_rainsIn 28 = .ok (.iadd, 1) := by decide +kernel
theorem dX1_rainsIn_29 : decode cX1_rainsIn 29 = .ok (.istore_n 1, 1) := by decide +kernel
theorem dX1_rainsIn_30 : decode cX1_rainsIn 30 = .ok (.iinc 2 1, 3) := by decide +kernel
theorem dX1_rainsIn_33 : decode cX1_rainsIn 33 = .ok (.goto (-29), 3) := by decide +kernel
theorem dX1_rainsIn_36 : decode cX1_rainsIn 36 = .ok (.iconst 0, 1) := by decide +kernel
theorem dX1_rainsIn_37 : decode cX1_rainsIn 37 = .ok (.istore_n 2, 1) := by decide +kernel
theorem dX1_rainsIn_38 : decode cX1_rainsIn 38 = .ok (.iload_n 2, 1) := by decide +kernel
theorem dX1_rainsIn_39 : decode cX1_rainsIn 39 = .ok (.bipush 12, 2) := by decide +kernel
theorem dX1_rainsIn_41 : decode cX1_rainsIn 41 = .ok (.if_icmp .ge 32, 3) := by decide +kernel
theorem dX1_rainsIn_44 : decode cX1_rainsIn 44 = .ok (.aload_n 0, 1) := by decide +kernel
theorem dX1_rainsIn_45 : decode cX1_rainsIn 45 = .ok (.getfield 24, 3) := by decide +kernel
theorem dX1_rainsIn_48 : decode cX1_rainsIn 48 = .ok (.iload_n 2, 1) := by decide +kernel
theorem dX1_rainsIn_49 : decode cX1_rainsIn 49 = .ok (.iaload, 1) := by decide +kernel
theorem dX1_rainsIn_50 : decode cX1_rainsIn 50 = .ok (.ifCond .le 17, 3) := by decide +kernel
theorem dX1_rainsIn_53 : decode cX1_rainsIn 53 = .ok (.aload_n 0, 1) := by decide +kernel
theorem dX1_rainsIn_54 : decode cX1_rainsIn 54 = .ok (.getfield 30, 3) := by decide +kernel
theorem dX1_rainsIn_57 : decode cX1_rainsIn 57 = .ok (.iload_n 2, 1) := by decide +kernel
theorem dX1_rainsIn_58 : decode cX1_rainsIn 58 = .ok (.iaload, 1) := by decide +kernel
theorem dX1_rainsIn_59 : decode cX1_rainsIn 59 = .ok (.ldc 40, 2) := by decide +kernel
theorem dX1_rainsIn_61 : decode cX1_rainsIn 61 = .ok (.if_icmp .ne 6, 3) := by decide +kernel
theorem dX1_rainsIn_64 : decode cX1_rainsIn 64 = .ok (.iinc 1 20, 3) := by decide +kernel
theorem dX1_rainsIn_67 : decode cX1_rainsIn 67 = .ok (.iinc 2 1, 3) := by decide +kernel
theorem dX1_rainsIn_70 : decode cX1_rainsIn 70 = .ok (.goto (-32), 3) := by decide +kernel
theorem dX1_rainsIn_73 : decode cX1_rainsIn 73 = .ok (.iload_n 1, 1) := by decide +kernel
theorem dX1_rainsIn_74 : decode cX1_rainsIn 74 = .ok (.ireturn, 1) := by decide +kernel
theorem ok_X1_rainsIn : okV yX1_rainsIn cX1_rainsIn 3 (some .int) 0 := ⟨mw_544, mw_3, mw_77, mw_545, by decide +kernel, by decide +kernel⟩
abbrev rm_X1_rainsIn : Room := { frames := 1, cells := 0, slots := 0, locals := 22 }
def b_X1_rainsIn_38 (K38 : St → Nat → Int32 → Int32 → Prop) (post : Int32 → St → Prop) (σ : St) (i0 : Nat) (x1 : Int32) (x2 : Int32) : Prop := ((12 ≤ x2 → (post x1 σ)) ∧ (¬ 12 ≤ x2 → (vp_in x2 12 ∧ ((((σ 10 i0 x2.toNatClampNeg) ≤ 0 → (∀ v4 : Int32, v4 = x2 + 1 → (K38 σ i0 x1 v4))) ∧ (¬ (σ 10 i0 x2.toNatClampNeg) ≤ 0 → (vp_in x2 12 ∧ (((¬ (σ 12 i0 x2.toNatClampNeg) = ((-1000000005)) → (∀ v7 : Int32, v7 = x2 + 1 → (K38 σ i0 x1 v7))) ∧ ((σ 12 i0 x2.toNatClampNeg) = ((-1000000005)) → (∀ v8 : Int32, v8 = x1 + 20 → (∀ v9 : Int32, v9 = x2 + 1 → (K38 σ i0 v8 v9)))))))))))))
noncomputable def l_X1_rainsIn_38 (post : Int32 → St → Prop) : Nat → St → Nat → Int32 → Int32 → Prop := fun n => Nat.rec (motive := fun _ => St → Nat → Int32 → Int32 → Prop) (fun _ _ _ _ => False) (fun _ ih => b_X1_rainsIn_38 ih post) n
theorem L_X1_rainsIn_38 (E : EnvW p s m args meth c D cy regsC ad "RoofWar$Hill" cX1_rainsIn 3 (some .int)) (ha : Apart regsC ad) {post : Int32 → St → Prop} : ∀ (n : Nat), ∀ (σ : St) (i0 : Nat) (x1 : Int32) (x2 : Int32), i0 < 3 → l_X1_rainsIn_38 post n σ i0 x1 x2 → ∀ (H : Heap) (locs : List Loc) (ls : Array Slot), va_P D CLS (wC cy ad σ) H → va_S (AC ad s.heap.size) s.heap H locs → lv_has ls 3 [(0, .ref (ad 5 i0)), (1, .int x1), (2, .int x2)] → W p l e rm_X1_rainsIn s m args below meth c H locs 0 0 (MQ below (QI D cy (cellC cy ad) regsC ad s.heap.size post) args s 0 0 (AC ad s.heap.size)) (F0 m 38 ls []) := by
  obtain ⟨hx, hb, -⟩ := id E
  intro n
  induction n with
  | zero => intro σ i0 x1 x2 hi0 hw; exact hw.elim
  | succ n hk38 =>
    intro σ i0 x1 x2 hi0 hw H locs ls hP hS hl
    replace hw : b_X1_rainsIn_38 (l_X1_rainsIn_38 post n) post σ i0 x1 x2 := hw
    unfold b_X1_rainsIn_38 at hw
    refine lv_iload_n hx hb dX1_rainsIn_38 rfl (lv_at hl 2 rfl) ?_
    refine lv_bipush (v := 12) hx hb dX1_rainsIn_39 (by decide) ?_
    refine lv_icmp_ge (tgt := 73) hx hb dX1_rainsIn_41 (by decide) (fun c1 => ?_) (fun c1 => ?_)
    · replace hw := hw.1 c1
      refine lv_iload_n hx hb dX1_rainsIn_73 rfl (lv_at hl 1 rfl) ?_
      exact g_iret E hw hP hS dX1_rainsIn_74
    · replace hw := hw.2 c1
      refine lv_aload_n hx hb dX1_rainsIn_44 rfl (lv_at hl 0 rfl) ?_
      refine fX1_5 hi0 E hP mw_158 dX1_rainsIn_45 ?_
      refine lv_iload_n hx hb dX1_rainsIn_48 rfl (lv_at hl 2 rfl) ?_
      obtain ⟨h2, hw⟩ := hw
      refine aC10 hi0 E hP h2 dX1_rainsIn_49 ?_
      refine lv_if_le (tgt := 67) hx hb dX1_rainsIn_50 (by decide) (fun c3 => ?_) (fun c3 => ?_)
      · replace hw := hw.1 c3
        obtain ⟨v4, ev4⟩ : ∃ y : Int32, y = x2 + 1 := ⟨_, rfl⟩
        replace hw := hw v4 ev4
        refine lv_iinc (v := v4) (lv' := [(2, .int v4), (0, .ref (ad 5 i0)), (1, .int x1)]) hx hb dX1_rainsIn_67 hl (k := 2) rfl (by rw [ev4]; rfl) (by decide) rfl (fun ls hl => ?_)
        refine lv_goto (tgt := 38) hx hb dX1_rainsIn_70 (by decide) ?_
        exact hk38 σ i0 x1 v4 hi0 hw _ _ _ hP hS (lv_sub hl [1, 2, 0] rfl)
      · replace hw := hw.2 c3
        refine lv_aload_n hx hb dX1_rainsIn_53 rfl (lv_at hl 0 rfl) ?_
        refine fX1_7 hi0 E hP mw_162 dX1_rainsIn_54 ?_
        refine lv_iload_n hx hb dX1_rainsIn_57 rfl (lv_at hl 2 rfl) ?_
        obtain ⟨h5, hw⟩ := hw
        refine aC12 hi0 E hP h5 dX1_rainsIn_58 ?_
        refine g_ldc (v := -1000000005) E mw_145 dX1_rainsIn_59 ?_
        refine lv_icmp_ne (tgt := 67) hx hb dX1_rainsIn_61 (by decide) (fun c6 => ?_) (fun c6 => ?_)
        · replace hw := hw.1 c6
          obtain ⟨v7, ev7⟩ : ∃ y : Int32, y = x2 + 1 := ⟨_, rfl⟩
          replace hw := hw v7 ev7
          refine lv_iinc (v := v7) (lv' := [(2, .int v7), (0, .ref (ad 5 i0)), (1, .int x1)]) hx hb dX1_rainsIn_67 hl (k := 2) rfl (by rw [ev7]; rfl) (by decide) rfl (fun ls hl => ?_)
          refine lv_goto (tgt := 38) hx hb dX1_rainsIn_70 (by decide) ?_
          exact hk38 σ i0 x1 v7 hi0 hw _ _ _ hP hS (lv_sub hl [1, 2, 0] rfl)
        · replace hw := hw.2 c6
          obtain ⟨v8, ev8⟩ : ∃ y : Int32, y = x1 + 20 := ⟨_, rfl⟩
          replace hw := hw v8 ev8
          refine lv_iinc (v := v8) (lv' := [(1, .int v8), (0, .ref (ad 5 i0)), (2, .int x2)]) hx hb dX1_rainsIn_64 hl (k := 1) rfl (by rw [ev8]; rfl) (by decide) rfl (fun ls hl => ?_)
          obtain ⟨v9, ev9⟩ : ∃ y : Int32, y = x2 + 1 := ⟨_, rfl⟩
          replace hw := hw v9 ev9
          refine lv_iinc (v := v9) (lv' := [(2, .int v9), (1, .int v8), (0, .ref (ad 5 i0))]) hx hb dX1_rainsIn_67 hl (k := 2) rfl (by rw [ev9]; rfl) (by decide) rfl (fun ls hl => ?_)
          refine lv_goto (tgt := 38) hx hb dX1_rainsIn_70 (by decide) ?_
          exact hk38 σ i0 v8 v9 hi0 hw _ _ _ hP hS (lv_sub hl [2, 1, 0] rfl)
def b_X1_rainsIn_4 (K4 : St → Nat → Int32 → Int32 → Prop) (post : Int32 → St → Prop) (σ : St) (i0 : Nat) (x1 : Int32) (x2 : Int32) : Prop := (((σ 5 i0 0) ≤ x2 → (∃ n2 : Nat, l_X1_rainsIn_38 post n2 σ i0 x1 (0 : Int32))) ∧ (¬ (σ 5 i0 0) ≤ x2 → (vp_in x2 12 ∧ (vp_in x2 12 ∧ (w_X2_drips (fun r5 s5 => ∀ v6 : Int32, v6 = x1 + r5 → (∀ v7 : Int32, v7 = x2 + 1 → (K4 s5 i0 v6 v7))) σ (σ 6 i0 x2.toNatClampNeg) (σ 8 i0 x2.toNatClampNeg))))))
noncomputable def l_X1_rainsIn_4 (post : Int32 → St → Prop) : Nat → St → Nat → Int32 → Int32 → Prop := fun n => Nat.rec (motive := fun _ => St → Nat → Int32 → Int32 → Prop) (fun _ _ _ _ => False) (fun _ ih => b_X1_rainsIn_4 ih post) n
theorem L_X1_rainsIn_4 (E : EnvW p s m args meth c D cy regsC ad "RoofWar$Hill" cX1_rainsIn 3 (some .int)) (ha : Apart regsC ad) {post : Int32 → St → Prop} : ∀ (n : Nat), ∀ (σ : St) (i0 : Nat) (x1 : Int32) (x2 : Int32), i0 < 3 → l_X1_rainsIn_4 post n σ i0 x1 x2 → ∀ (H : Heap) (locs : List Loc) (ls : Array Slot), va_P D CLS (wC cy ad σ) H → va_S (AC ad s.heap.size) s.heap H locs → lv_has ls 3 [(0, .ref (ad 5 i0)), (1, .int x1), (2, .int x2)] → W p l e rm_X1_rainsIn s m args below meth c H locs 0 0 (MQ below (QI D cy (cellC cy ad) regsC ad s.heap.size post) args s 0 0 (AC ad s.heap.size)) (F0 m 4 ls []) := by
  obtain ⟨hx, hb, -⟩ := id E
  intro n
  induction n with
  | zero => intro σ i0 x1 x2 hi0 hw; exact hw.elim
  | succ n hk4 =>
    intro σ i0 x1 x2 hi0 hw H locs ls hP hS hl
    replace hw : b_X1_rainsIn_4 (l_X1_rainsIn_4 post n) post σ i0 x1 x2 := hw
    unfold b_X1_rainsIn_4 at hw
    refine lv_iload_n hx hb dX1_rainsIn_4 rfl (lv_at hl 2 rfl) ?_
    refine lv_aload_n hx hb dX1_rainsIn_5 rfl (lv_at hl 0 rfl) ?_
    refine fX1_9 hi0 E hP mw_168 dX1_rainsIn_6 ?_
    refine lv_icmp_ge (tgt := 36) hx hb dX1_rainsIn_9 (by decide) (fun c1 => ?_) (fun c1 => ?_)
    · replace hw := hw.1 c1
      refine lv_iconst (v := 0) hx hb dX1_rainsIn_36 (by decide) ?_
      refine lv_istore_n (lv' := [(2, .int 0), (0, .ref (ad 5 i0)), (1, .int x1)]) hx hb dX1_rainsIn_37 rfl hl (by decide) rfl (fun ls hl => ?_)
      obtain ⟨n2, hw⟩ := hw
      exact L_X1_rainsIn_38 E ha n2 σ i0 x1 (0 : Int32) hi0 hw _ _ _ hP hS (lv_sub hl [1, 2, 0] rfl)
    · replace hw := hw.2 c1
      refine lv_iload_n hx hb dX1_rainsIn_12 rfl (lv_at hl 1 rfl) ?_
      refine lv_aload_n hx hb dX1_rainsIn_13 rfl (lv_at hl 0 rfl) ?_
      refine fX1_1 hi0 E hP mw_147 dX1_rainsIn_14 ?_
      refine lv_iload_n hx hb dX1_rainsIn_17 rfl (lv_at hl 2 rfl) ?_
      obtain ⟨h3, hw⟩ := hw
      refine aC6 hi0 E hP h3 dX1_rainsIn_18 ?_
      refine lv_aload_n hx hb dX1_rainsIn_19 rfl (lv_at hl 0 rfl) ?_
      refine fX1_3 hi0 E hP mw_152 dX1_rainsIn_20 ?_
      refine lv_iload_n hx hb dX1_rainsIn_23 rfl (lv_at hl 2 rfl) ?_
      obtain ⟨h4, hw⟩ := hw
      refine aC8 hi0 E hP h4 dX1_rainsIn_24 ?_
      refine g_cSi (As := [.int (σ 6 i0 x2.toNatClampNeg), .int (σ 8 i0 x2.toNatClampNeg)]) (rest := [.int x1]) E hl.1 (c_X2_drips l D cy ad ha hw _) ok_X2_drips mw_546 ⟨(Nat.le_of_ble_eq_true rfl), (Nat.le_of_ble_eq_true rfl)⟩ ⟨rfl, rfl⟩ rfl rfl (Nat.le_of_ble_eq_true rfl) ⟨Nat.zero_le _, Nat.zero_le _⟩ hP hS dX1_rainsIn_25 (fun r5 s5 hw H locs hP hS => ?_)
      refine lv_iadd hx hb dX1_rainsIn_28 ?_
      refine lv_topi (fun v6 ev6 => ?_)
      replace hw := hw v6 ev6
      refine lv_istore_n (lv' := [(1, .int v6), (0, .ref (ad 5 i0)), (2, .int x2)]) hx hb dX1_rainsIn_29 rfl hl (by decide) rfl (fun ls hl => ?_)
      obtain ⟨v7, ev7⟩ : ∃ y : Int32, y = x2 + 1 := ⟨_, rfl⟩
      replace hw := hw v7 ev7
      refine lv_iinc (v := v7) (lv' := [(2, .int v7), (1, .int v6), (0, .ref (ad 5 i0))]) hx hb dX1_rainsIn_30 hl (k := 2) rfl (by rw [ev7]; rfl) (by decide) rfl (fun ls hl => ?_)
      refine lv_goto (tgt := 4) hx hb dX1_rainsIn_33 (by decide) ?_
      exact hk4 s5 i0 v6 v7 hi0 hw _ _ _ hP hS (lv_sub hl [2, 1, 0] rfl)
def w_X1_rainsIn (post : Int32 → St → Prop) (σ : St) (i0 : Nat) : Prop := ∃ n1 : Nat, l_X1_rainsIn_4 post n1 σ i0 (0 : Int32) (0 : Int32)
theorem B_X1_rainsIn_0 (E : EnvW p s m args meth c D cy regsC ad "RoofWar$Hill" cX1_rainsIn 3 (some .int)) (ha : Apart regsC ad) {post : Int32 → St → Prop} {σ : St} {i0 : Nat} (hi0 : i0 < 3) (hw : w_X1_rainsIn post σ i0) {H : Heap} {locs : List Loc} {ls : Array Slot} (hP : va_P D CLS (wC cy ad σ) H) (hS : va_S (AC ad s.heap.size) s.heap H locs) (hl : lv_has ls 3 [(0, .ref (ad 5 i0))]) : W p l e rm_X1_rainsIn s m args below meth c H locs 0 0 (MQ below (QI D cy (cellC cy ad) regsC ad s.heap.size post) args s 0 0 (AC ad s.heap.size)) (F0 m 0 ls []) := by
  obtain ⟨hx, hb, -⟩ := id E
  unfold w_X1_rainsIn at hw
  refine lv_iconst (v := 0) hx hb dX1_rainsIn_0 (by decide) ?_
  refine lv_istore_n (lv' := [(1, .int 0), (0, .ref (ad 5 i0))]) hx hb dX1_rainsIn_1 rfl hl (by decide) rfl (fun ls hl => ?_)
  refine lv_iconst (v := 0) hx hb dX1_rainsIn_2 (by decide) ?_
  refine lv_istore_n (lv' := [(2, .int 0), (1, .int 0), (0, .ref (ad 5 i0))]) hx hb dX1_rainsIn_3 rfl hl (by decide) rfl (fun ls hl => ?_)
  obtain ⟨n1, hw⟩ := hw
  exact L_X1_rainsIn_4 E ha n1 σ i0 (0 : Int32) (0 : Int32) hi0 hw _ _ _ hP hS (lv_sub hl [2, 1, 0] rfl)
theorem c_X1_rainsIn (l : Launch) (D : va_G) (cy : Nat → ClassId) (ad : Nat → Nat → Nat) (ha : Apart regsC ad) {post : Int32 → St → Prop} {σ : St} {i0 : Nat} (hi0 : i0 < 3) (hw : w_X1_rainsIn post σ i0) (sz : Nat) : MetI l yX1_rainsIn cX1_rainsIn 3 .int rm_X1_rainsIn [.ref (ad 5 i0)] D cy (cellC cy ad) regsC ad σ sz post :=
  Met_inI ok_X1_rainsIn.2.2.2.2.2 (Nat.le_of_ble_eq_true rfl) (fun p e s m below meth c ls E hP hl => B_X1_rainsIn_0 E ha hi0 hw hP va_S.rf hl)
-- RoofWar.otherTown(I)I
theorem dX9_otherTown_0 : decode cX9_otherTown 0 = .ok (.iconst 1, 1) := by decide +kernel
theorem dX9_otherTown_1 : decode cX9_otherTown 1 = .ok (.iload_n 0, 1) := by decide +kernel
theorem dX9_otherTown_2 : decode cX9_otherTown 2 = .ok (.isub, 1) := by decide +kernel
theorem dX9_otherTown_3 : decode cX9_otherTown 3 = .ok (.ireturn, 1) := by decide +kernel
theorem ok_X9_otherTown : okS yX9_otherTown cX9_otherTown 1 (some .int) 1 := ⟨mw_541, mw_74, mw_542, by decide +kernel, by decide +kernel⟩
abbrev rm_X9_otherTown : Room := { frames := 0, cells := 0, slots := 0, locals := 0 }
def w_X9_otherTown (post : Int32 → St → Prop) (σ : St) (x0 : Int32) : Prop := post (1 - x0) σ
theorem B_X9_otherTown_0 (E : EnvW p s m args meth c D cy regsC ad "RoofWar" cX9_otherTown 1 (some .int)) (ha : Apart regsC ad) {post : Int32 → St → Prop} {σ : St} {x0 : Int32} (hw : w_X9_otherTown post σ x0) {H : Heap} {locs : List Loc} {ls : Array Slot} (hP : va_P D CLS (wC cy ad σ) H) (hS : va_S (AC ad s.heap.size) s.heap H locs) (hl : lv_has ls 1 [(0, .int x0)]) : W p l e rm_X9_otherTown s m args below meth c H locs 0 0 (MQ below (QI D cy (cellC cy ad) regsC ad s.heap.size post) args s 0 0 (AC ad s.heap.size)) (F0 m 0 ls []) := by
  obtain ⟨hx, hb, -⟩ := id E
  unfold w_X9_otherTown at hw
  refine lv_iconst (v := 1) hx hb dX9_otherTown_0 (by decide) ?_
  refine lv_iload_n hx hb dX9_otherTown_1 rfl (lv_at hl 0 rfl) ?_
  refine lv_isub hx hb dX9_otherTown_2 ?_
  exact g_iret E hw hP hS dX9_otherTown_3
theorem c_X9_otherTown (l : Launch) (D : va_G) (cy : Nat → ClassId) (ad : Nat → Nat → Nat) (ha : Apart regsC ad) {post : Int32 → St → Prop} {σ : St} {x0 : Int32} (hw : w_X9_otherTown post σ x0) (sz : Nat) : MetI l yX9_otherTown cX9_otherTown 1 .int rm_X9_otherTown [.int x0] D cy (cellC cy ad) regsC ad σ sz post :=
  Met_inI ok_X9_otherTown.2.2.2.2 (Nat.le_of_ble_eq_true rfl) (fun p e s m below meth c ls E hP hl => B_X9_otherTown_0 E ha hw hP va_S.rf hl)
-- RoofWar$Hill.pass(I)V
theorem dX1_pass_0 : decode cX1_pass 0 = .ok (.iconst 0, 1) := by decide +kernel
theorem dX1_pass_1 : decode cX1_pass 1 = .ok (.istore_n 2, 1) := by decide +kernel
theorem dX1_pass_2 : decode cX1_pass 2 = .ok (.iload_n 2, 1) := by decide +kernel
theorem dX1_pass_3 : decode cX1_pass 3 = .ok (.iload_n 1, 1) := by decide +kernel
theorem dX1_pass_4 : decode cX1_pass 4 = .ok (.if_icmp .ge 66, 3) := by decide +kernel
theorem dX1_pass_7 : decode cX1_pass 7 = .ok (.aload_n 0, 1) := by decide +kernel
theorem dX1_pass_8 : decode cX1_pass 8 = .ok (.getfield 66, 3) := by decide +kernel
theorem dX1_pass_11 : decode cX1_pass 11 = .ok (.iconst 2, 1) := by decide +kernel
theorem dX1_pass_12 : decode cX1_pass 12 = .ok (.irem, 1) := by decide +kernel
theorem dX1_pass_13 : decode cX1_pass 13 = .ok (.istore_n 3, 1) := by decide +kernel
theorem dX1_pass_14 : decode cX1_pass 14 = .ok (.aload_n 0, 1) := by decide +kernel
theorem dX1_pass_15 : decode cX1_pass 15 = .ok (.iload_n 3, 1) := by decide +kernel
theorem dX1_pass_16 : decode cX1_pass 16 = .ok (.invokevirtual 142, 3) := by decide +kernel
theorem dX1_pass_19 : decode cX1_pass 19 = .ok (.aload_n 0, 1) := by decide +kernel
theorem dX1_pass_20 : decode cX1_pass 20 = .ok (.iload_n 3, 1) := by decide +kernel
theorem dX1_pass_21 : decode cX1_pass 21 = .ok (.invokestatic 146, 3) := by decide +kernel
theorem dX1_pass_24 : decode cX1_pass 24 = .ok (.invokevirtual 142, 3) := by decide +kernel
theorem dX1_pass_27 : decode cX1_pass 27 = .ok (.aload_n 0, 1) := by decide +kernel
theorem dX1_pass_28 : decode cX1_pass 28 = .ok (.invokevirtual 73, 3) := by decide +kernel
theorem dX1_pass_31 : decode cX1_pass 31 = .ok (.bipush 100, 2) := by decide +kernel
theorem dX1_pass_33 : decode cX1_pass 33 = .ok (.irem, 1) := by decide +kernel
theorem dX1_pass_34 : decode cX1_pass 34 = .ok (.aload_n 0, 1) := by decide +kernel
theorem dX1_pass_35 : decode cX1_pass 35 = .ok (.getfield 41, 3) := by decide +kernel
theorem dX1_pass_38 : decode cX1_pass 38 = .ok (.if_icmp .ge 16, 3) := by decide +kernel
theorem dX1_pass_41 : decode cX1_pass 41 = .ok (.aload_n 0, 1) := by decide +kernel
theorem dX1_pass_42 : decode cX1_pass 42 = .ok (.dup, 1) := by decide +kernel
theorem dX1_pass_43 : decode cX1_pass 43 = .ok (.getfield 63, 3) := by decide +kernel
theorem dX1_pass_46 : decode cX1_pass 46 = .ok (.aload_n 0, 1) := by decide +kernel
theorem dX1_pass_47 : decode cX1_pass 47 = .ok (.invokevirtual 149, 3) := by decide +kernel
theorem dX1_pass_50 : decode cX1_pass 50 = .ok (.iadd, 1) := by decide +kernel
theorem dX1_pass_51 : decode cX1_pass 51 = .ok (.putfield 63, 3) := by decide +kernel
theorem dX1_pass_54 : decode cX1_pass 54 = .ok (.aload_n 0, 1) := by decide +kernel
theorem dX1_pass_55 : decode cX1_pass 55 = .ok (.dup, 1) := by decide +kernel
theorem dX1_pass_56 : decode cX1_pass 56 = .ok (.getfield 66, 3) := by decide +kernel
theorem dX1_pass_59 : decode cX1_pass 59 = .ok (.iconst 1, 1) := by decide +kernel
theorem dX1_pass_60 : decode cX1_pass 60 = .ok (.iadd, 1) := by decide +kernel
theorem dX1_pass_61 : decode cX1_pass 61 = .ok (.putfield 66, 3) := by decide +kernel
theorem dX1_pass_64 : decode cX1_pass 64 = .ok (.iinc 2 1, 3) := by decide +kernel
theorem dX1_pass_67 : decode cX1_pass 67 = .ok (.goto (-65), 3) := by decide +kernel
theorem dX1_pass_70 : decode cX1_pass 70 = .ok (.return_, 1) := by decide +kernel
theorem ok_X1_pass : okV yX1_pass cX1_pass 4 none 1 := ⟨mw_478, mw_479, mw_77, mw_480, by decide +kernel, by decide +kernel⟩
abbrev rm_X1_pass : Room := { frames := 5, cells := 0, slots := 0, locals := 122 }
def b_X1_pass_54 (K2 : St → Nat → Int32 → Int32 → Prop) (post : St → Prop) (σ : St) (i0 : Nat) (x1 : Int32) (x2 : Int32) : Prop := ∀ s1 : St, s1 = wr σ 5 i0 5 ((σ 5 i0 5) + 1) → (∀ v2 : Int32, v2 = x2 + 1 → (K2 s1 i0 x1 v2))
theorem B_X1_pass_54 (E : EnvW p s m args meth c D cy regsC ad "RoofWar$Hill" cX1_pass 4 none) (ha : Apart regsC ad) {post : St → Prop} {K2 : St → Nat → Int32 → Int32 → Prop} (hk2 : ∀ (σ : St) (i0 : Nat) (x1 : Int32) (x2 : Int32), i0 < 3 → K2 σ i0 x1 x2 → ∀ (H : Heap) (locs : List Loc) (ls : Array Slot), va_P D CLS (wC cy ad σ) H → va_S (AC ad s.heap.size) s.heap H locs → lv_has ls 4 [(0, .ref (ad 5 i0)), (1, .int x1), (2, .int x2)] → W p l e rm_X1_pass s m args below meth c H locs 0 0 (MQ below (QV D cy (cellC cy ad) regsC ad s.heap.size post) args s 0 0 (AC ad s.heap.size)) (F0 m 2 ls [])) {σ : St} {i0 : Nat} {x1 : Int32} {x2 : Int32} (hi0 : i0 < 3) (hw : b_X1_pass_54 K2 post σ i0 x1 x2) {H : Heap} {locs : List Loc} {ls : Array Slot} (hP : va_P D CLS (wC cy ad σ) H) (hS : va_S (AC ad s.heap.size) s.heap H locs) (hl : lv_has ls 4 [(0, .ref (ad 5 i0)), (1, .int x1), (2, .int x2)]) : W p l e rm_X1_pass s m args below meth c H locs 0 0 (MQ below (QV D cy (cellC cy ad) regsC ad s.heap.size post) args s 0 0 (AC ad s.heap.size)) (F0 m 54 ls []) := by
  obtain ⟨hx, hb, -⟩ := id E
  unfold b_X1_pass_54 at hw
  refine lv_aload_n hx hb dX1_pass_54 rfl (lv_at hl 0 rfl) ?_
  refine lv_dup hx hb dX1_pass_55 rfl ?_
  refine fX1_14 hi0 E hP mw_177 dX1_pass_56 ?_
  refine lv_iconst (v := 1) hx hb dX1_pass_59 (by decide) ?_
  refine lv_iadd hx hb dX1_pass_60 ?_
  refine uX1_14 hi0 E ha mw_177 dX1_pass_61 hP hS (fun s1 es1 H locs hP hS => ?_)
  replace hw := hw s1 es1
  obtain ⟨v2, ev2⟩ : ∃ y : Int32, y = x2 + 1 := ⟨_, rfl⟩
  replace hw := hw v2 ev2
  refine lv_iinc (v := v2) (lv' := [(2, .int v2), (0, .ref (ad 5 i0)), (1, .int x1)]) hx hb dX1_pass_64 hl (k := 2) rfl (by rw [ev2]; rfl) (by decide) rfl (fun ls hl => ?_)
  refine lv_goto (tgt := 2) hx hb dX1_pass_67 (by decide) ?_
  exact hk2 s1 i0 x1 v2 hi0 hw _ _ _ hP hS (lv_sub hl [1, 2, 0] rfl)
def b_X1_pass_2 (K2 : St → Nat → Int32 → Int32 → Prop) (post : St → Prop) (σ : St) (i0 : Nat) (x1 : Int32) (x2 : Int32) : Prop := ((x1 ≤ x2 → (post σ)) ∧ (¬ x1 ≤ x2 → (¬ (2 : Int32) = 0 ∧ (∀ v3 : Int32, v3 = jrem (σ 5 i0 5) 2 → (w_X1_goOut (fun s4 => w_X9_otherTown (fun r5 s5 => w_X1_goOut (fun s6 => w_X1_draw (fun r7 s7 => ¬ (100 : Int32) = 0 ∧ (∀ v9 : Int32, v9 = jrem r7 100 → ((((s7 5 i0 1) ≤ v9 → (b_X1_pass_54 K2 post s7 i0 x1 x2)) ∧ (¬ (s7 5 i0 1) ≤ v9 → (w_X1_rainsIn (fun r11 s11 => ∀ s12 : St, s12 = wr s11 5 i0 4 ((s7 5 i0 4) + r11) → (b_X1_pass_54 K2 post s12 i0 x1 x2)) s7 i0)))))) s6 i0) s5 i0 r5) s4 v3) σ i0 v3)))))
noncomputable def l_X1_pass_2 (post : St → Prop) : Nat → St → Nat → Int32 → Int32 → Prop := fun n => Nat.rec (motive := fun _ => St → Nat → Int32 → Int32 → Prop) (fun _ _ _ _ => False) (fun _ ih => b_X1_pass_2 ih post) n
theorem L_X1_pass_2 (E : EnvW p s m args meth c D cy regsC ad "RoofWar$Hill" cX1_pass 4 none) (ha : Apart regsC ad) {post : St → Prop} : ∀ (n : Nat), ∀ (σ : St) (i0 : Nat) (x1 : Int32) (x2 : Int32), i0 < 3 → l_X1_pass_2 post n σ i0 x1 x2 → ∀ (H : Heap) (locs : List Loc) (ls : Array Slot), va_P D CLS (wC cy ad σ) H → va_S (AC ad s.heap.size) s.heap H locs → lv_has ls 4 [(0, .ref (ad 5 i0)), (1, .int x1), (2, .int x2)] → W p l e rm_X1_pass s m args below meth c H locs 0 0 (MQ below (QV D cy (cellC cy ad) regsC ad s.heap.size post) args s 0 0 (AC ad s.heap.size)) (F0 m 2 ls []) := by
  obtain ⟨hx, hb, -⟩ := id E
  intro n
  induction n with
  | zero => intro σ i0 x1 x2 hi0 hw; exact hw.elim
  | succ n hk2 =>
    intro σ i0 x1 x2 hi0 hw H locs ls hP hS hl
    replace hw : b_X1_pass_2 (l_X1_pass_2 post n) post σ i0 x1 x2 := hw
    unfold b_X1_pass_2 at hw
    refine lv_iload_n hx hb dX1_pass_2 rfl (lv_at hl 2 rfl) ?_
    refine lv_iload_n hx hb dX1_pass_3 rfl (lv_at hl 1 rfl) ?_
    refine lv_icmp_ge (tgt := 70) hx hb dX1_pass_4 (by decide) (fun c1 => ?_) (fun c1 => ?_)
    · replace hw := hw.1 c1
      exact g_vret E hw hP hS dX1_pass_70
    · replace hw := hw.2 c1
      refine lv_aload_n hx hb dX1_pass_7 rfl (lv_at hl 0 rfl) ?_
      refine fX1_14 hi0 E hP mw_177 dX1_pass_8 ?_
      refine lv_iconst (v := 2) hx hb dX1_pass_11 (by decide) ?_
      obtain ⟨h2, hw⟩ := hw
      refine lv_irem hx hb dX1_pass_12 h2 ?_
      refine lv_topi (fun v3 ev3 => ?_)
      replace hw := hw v3 ev3
      refine lv_istore_n (lv' := [(3, .int v3), (0, .ref (ad 5 i0)), (1, .int x1), (2, .int x2)]) hx hb dX1_pass_13 rfl hl (by decide) rfl (fun ls hl => ?_)
      refine lv_aload_n hx hb dX1_pass_14 rfl (lv_at hl 1 rfl) ?_
      refine lv_iload_n hx hb dX1_pass_15 rfl (lv_at hl 0 rfl) ?_
      refine g_cVv (As := [.int v3]) (rest := []) E hl.1 (c_X1_goOut l D cy ad ha hi0 hw _) ok_X1_goOut mw_481 ⟨(Nat.le_of_ble_eq_true rfl), (Nat.le_of_ble_eq_true rfl)⟩ ⟨rfl, rfl⟩ (rC5 hi0) rfl rfl rfl rfl rfl (Nat.le_of_ble_eq_true rfl) ⟨Nat.zero_le _, Nat.zero_le _⟩ hP hS dX1_pass_16 (fun s4 hw H locs hP hS => ?_)
      refine lv_aload_n hx hb dX1_pass_19 rfl (lv_at hl 1 rfl) ?_
      refine lv_iload_n hx hb dX1_pass_20 rfl (lv_at hl 0 rfl) ?_
      refine g_cNi (host := "RoofWar") (As := [.int v3]) (rest := [.ref (ad 5 i0)]) E hl.1 (c_X9_otherTown l D cy ad ha hw _) ok_X9_otherTown (List.mem_of_getElem? (i := 10) rfl) ⟨(Nat.le_of_ble_eq_true rfl), (Nat.le_of_ble_eq_true rfl)⟩ ⟨rfl, rfl⟩ rfl rfl (Nat.le_of_ble_eq_true rfl) ⟨Nat.zero_le _, Nat.zero_le _⟩ hP hS dX1_pass_21 (fun r5 s5 hw H locs hP hS => ?_)
      refine g_cVv (As := [.int r5]) (rest := []) E hl.1 (c_X1_goOut l D cy ad ha hi0 hw _) ok_X1_goOut mw_481 ⟨(Nat.le_of_ble_eq_true rfl), (Nat.le_of_ble_eq_true rfl)⟩ ⟨rfl, rfl⟩ (rC5 hi0) rfl rfl rfl rfl rfl (Nat.le_of_ble_eq_true rfl) ⟨Nat.zero_le _, Nat.zero_le _⟩ hP hS dX1_pass_24 (fun s6 hw H locs hP hS => ?_)
      refine lv_aload_n hx hb dX1_pass_27 rfl (lv_at hl 1 rfl) ?_
      refine g_cVi (As := []) (rest := []) E hl.1 (c_X1_draw l D cy ad ha hi0 hw _) ok_X1_draw mw_463 ⟨(Nat.le_of_ble_eq_true rfl), (Nat.le_of_ble_eq_true rfl)⟩ ⟨rfl, rfl⟩ (rC5 hi0) rfl rfl rfl rfl rfl (Nat.le_of_ble_eq_true rfl) ⟨Nat.zero_le _, Nat.zero_le _⟩ hP hS dX1_pass_28 (fun r7 s7 hw H locs hP hS => ?_)
      refine lv_bipush (v := 100) hx hb dX1_pass_31 (by decide) ?_
      obtain ⟨h8, hw⟩ := hw
      refine lv_irem hx hb dX1_pass_33 h8 ?_
      refine lv_topi (fun v9 ev9 => ?_)
      replace hw := hw v9 ev9
      refine lv_aload_n hx hb dX1_pass_34 rfl (lv_at hl 1 rfl) ?_
      refine fX1_10 hi0 E hP mw_169 dX1_pass_35 ?_
      refine lv_icmp_ge (tgt := 54) hx hb dX1_pass_38 (by decide) (fun c10 => ?_) (fun c10 => ?_)
      · replace hw := hw.1 c10
        exact B_X1_pass_54 E ha hk2 hi0 hw hP hS (lv_sub hl [1, 2, 3] rfl)
      · replace hw := hw.2 c10
        refine lv_aload_n hx hb dX1_pass_41 rfl (lv_at hl 1 rfl) ?_
        refine lv_dup hx hb dX1_pass_42 rfl ?_
        refine fX1_13 hi0 E hP mw_175 dX1_pass_43 ?_
        refine lv_aload_n hx hb dX1_pass_46 rfl (lv_at hl 1 rfl) ?_
        refine g_cVi (As := []) (rest := [.int (s7 5 i0 4), .ref (ad 5 i0)]) E hl.1 (c_X1_rainsIn l D cy ad ha hi0 hw _) ok_X1_rainsIn mw_543 ⟨(Nat.le_of_ble_eq_true rfl), (Nat.le_of_ble_eq_true rfl)⟩ ⟨rfl, rfl⟩ (rC5 hi0) rfl rfl rfl rfl rfl (Nat.le_of_ble_eq_true rfl) ⟨Nat.zero_le _, Nat.zero_le _⟩ hP hS dX1_pass_47 (fun r11 s11 hw H locs hP hS => ?_)
        refine lv_iadd hx hb dX1_pass_50 ?_
        refine uX1_13 hi0 E ha mw_175 dX1_pass_51 hP hS (fun s12 es12 H locs hP hS => ?_)
        replace hw := hw s12 es12
        exact B_X1_pass_54 E ha hk2 hi0 hw hP hS (lv_sub hl [1, 2, 3] rfl)
def w_X1_pass (post : St → Prop) (σ : St) (i0 : Nat) (x1 : Int32) : Prop := ∃ n1 : Nat, l_X1_pass_2 post n1 σ i0 x1 (0 : Int32)
theorem B_X1_pass_0 (E : EnvW p s m args meth c D cy regsC ad "RoofWar$Hill" cX1_pass 4 none) (ha : Apart regsC ad) {post : St → Prop} {σ : St} {i0 : Nat} {x1 : Int32} (hi0 : i0 < 3) (hw : w_X1_pass post σ i0 x1) {H : Heap} {locs : List Loc} {ls : Array Slot} (hP : va_P D CLS (wC cy ad σ) H) (hS : va_S (AC ad s.heap.size) s.heap H locs) (hl : lv_has ls 4 [(0, .ref (ad 5 i0)), (1, .int x1)]) : W p l e rm_X1_pass s m args below meth c H locs 0 0 (MQ below (QV D cy (cellC cy ad) regsC ad s.heap.size post) args s 0 0 (AC ad s.heap.size)) (F0 m 0 ls []) := by
  obtain ⟨hx, hb, -⟩ := id E
  unfold w_X1_pass at hw
  refine lv_iconst (v := 0) hx hb dX1_pass_0 (by decide) ?_
  refine lv_istore_n (lv' := [(2, .int 0), (0, .ref (ad 5 i0)), (1, .int x1)]) hx hb dX1_pass_1 rfl hl (by decide) rfl (fun ls hl => ?_)
  obtain ⟨n1, hw⟩ := hw
  exact L_X1_pass_2 E ha n1 σ i0 x1 (0 : Int32) hi0 hw _ _ _ hP hS (lv_sub hl [1, 2, 0] rfl)
theorem c_X1_pass (l : Launch) (D : va_G) (cy : Nat → ClassId) (ad : Nat → Nat → Nat) (ha : Apart regsC ad) {post : St → Prop} {σ : St} {i0 : Nat} {x1 : Int32} (hi0 : i0 < 3) (hw : w_X1_pass post σ i0 x1) (sz : Nat) : MetV l yX1_pass cX1_pass 4 rm_X1_pass [.ref (ad 5 i0), .int x1] D cy (cellC cy ad) regsC ad σ sz post :=
  Met_inV ok_X1_pass.2.2.2.2.2 (Nat.le_of_ble_eq_true rfl) (fun p e s m below meth c ls E hP hl => B_X1_pass_0 E ha hi0 hw hP va_S.rf hl)
end WalkH
