theorem vp_lt {x : Int32} {n : Nat} (h : vp_in x n) : x.toNatClampNeg < n := Nat.not_le.mp fun q => h (Or.inr q)
theorem ne_toI {x n : Int32} {k : Int} (h : ¬ x = n) (hk : n.toInt = k) : ¬ x.toInt = k := fun q => h (Int32.toInt_inj.mp (q.trans hk.symm))
/-- the rest, as the machine has it -/
def jrem (x y : Int32) : Int32 := x - x / y * y
def jushr (x y : Int32) : Int32 := (x.toUInt32 >>> (y.toUInt32 &&& Int32.toUInt32 31)).toInt32

section WalkK
variable {p : Program} {l : Launch} {e : Env} {s : State} {m : MethodId} {args : Array Value} {below : List Frame} {meth : Method} {c : Code} {D : va_G} {cy : Nat → ClassId} {ad : Nat → Nat → Nat}
-- RoofWar$Kinds.above(I)I
theorem dX2_above_0 : decode cX2_above 0 = .ok (.iload_n 0, 1) := by decide +kernel
theorem dX2_above_1 : decode cX2_above 1 = .ok (.tableswitch 41 1 5 #[35, 35, 37, 39, 35], 35) := by decide +kernel
theorem dX2_above_36 : decode cX2_above 36 = .ok (.iconst 0, 1) := by decide +kernel
theorem dX2_above_37 : decode cX2_above 37 = .ok (.ireturn, 1) := by decide +kernel
theorem dX2_above_38 : decode cX2_above 38 = .ok (.iconst 1, 1) := by decide +kernel
theorem dX2_above_39 : decode cX2_above 39 = .ok (.ireturn, 1) := by decide +kernel
theorem dX2_above_40 : decode cX2_above 40 = .ok (.iconst 2, 1) := by decide +kernel
theorem dX2_above_41 : decode cX2_above 41 = .ok (.ireturn, 1) := by decide +kernel
theorem dX2_above_42 : decode cX2_above 42 = .ok (.iconst (-1), 1) := by decide +kernel
theorem dX2_above_43 : decode cX2_above 43 = .ok (.ireturn, 1) := by decide +kernel
theorem ok_X2_above : okS yX2_above cX2_above 1 (some .int) 1 := ⟨mw_411, mw_84, mw_412, by decide +kernel, by decide +kernel⟩
abbrev rm_X2_above : Room := { frames := 0, cells := 0, slots := 0, locals := 0 }
def w_X2_above (post : Int32 → St → Prop) (σ : St) (x0 : Int32) : Prop := ((x0 = 1 → (post 0 σ)) ∧ (¬ x0 = 1 → (((x0 = 2 → (post 0 σ)) ∧ (¬ x0 = 2 → (((x0 = 3 → (post 1 σ)) ∧ (¬ x0 = 3 → (((x0 = 4 → (post 2 σ)) ∧ (¬ x0 = 4 → (((x0 = 5 → (post 0 σ)) ∧ (¬ x0 = 5 → (post ((-1)) σ)))))))))))))))
theorem B_X2_above_0 (E : EnvW p s m args meth c D cy regsC ad "RoofWar$Kinds" cX2_above 1 (some .int)) (ha : Apart regsC ad) {post : Int32 → St → Prop} {σ : St} {x0 : Int32} (hw : w_X2_above post σ x0) {H : Heap} {locs : List Loc} {ls : Array Slot} (hP : va_P D CLS (wC cy ad σ) H) (hS : va_S (AC ad s.heap.size) s.heap H locs) (hl : lv_has ls 1 [(0, .int x0)]) : W p l e rm_X2_above s m args below meth c H locs 0 0 (MQ below (QI D cy (cellC cy ad) regsC ad s.heap.size post) args s 0 0 (AC ad s.heap.size)) (F0 m 0 ls []) := by
  obtain ⟨hx, hb, -⟩ := id E
  unfold w_X2_above at hw
  refine lv_iload_n hx hb dX2_above_0 rfl (lv_at hl 0 rfl) ?_
  by_cases c1 : x0 = 1
  · replace hw := hw.1 c1
    refine lv_tableIn (off := 35) (tgt := 36) hx hb dX2_above_1 (by rw [c1]; decide) (by rw [c1]; decide) (by rw [c1]; rfl) (by decide) ?_
    refine lv_iconst (v := 0) hx hb dX2_above_36 (by decide) ?_
    exact g_iret E hw hP hS dX2_above_37
  · replace hw := hw.2 c1
    by_cases c2 : x0 = 2
    · replace hw := hw.1 c2
      refine lv_tableIn (off := 35) (tgt := 36) hx hb dX2_above_1 (by rw [c2]; decide) (by rw [c2]; decide) (by rw [c2]; rfl) (by decide) ?_
      refine lv_iconst (v := 0) hx hb dX2_above_36 (by decide) ?_
      exact g_iret E hw hP hS dX2_above_37
    · replace hw := hw.2 c2
      by_cases c3 : x0 = 3
      · replace hw := hw.1 c3
        refine lv_tableIn (off := 37) (tgt := 38) hx hb dX2_above_1 (by rw [c3]; decide) (by rw [c3]; decide) (by rw [c3]; rfl) (by decide) ?_
        refine lv_iconst (v := 1) hx hb dX2_above_38 (by decide) ?_
        exact g_iret E hw hP hS dX2_above_39
      · replace hw := hw.2 c3
        by_cases c4 : x0 = 4
        · replace hw := hw.1 c4
          refine lv_tableIn (off := 39) (tgt := 40) hx hb dX2_above_1 (by rw [c4]; decide) (by rw [c4]; decide) (by rw [c4]; rfl) (by decide) ?_
          refine lv_iconst (v := 2) hx hb dX2_above_40 (by decide) ?_
          exact g_iret E hw hP hS dX2_above_41
        · replace hw := hw.2 c4
          by_cases c5 : x0 = 5
          · replace hw := hw.1 c5
            refine lv_tableIn (off := 35) (tgt := 36) hx hb dX2_above_1 (by rw [c5]; decide) (by rw [c5]; decide) (by rw [c5]; rfl) (by decide) ?_
            refine lv_iconst (v := 0) hx hb dX2_above_36 (by decide) ?_
            exact g_iret E hw hP hS dX2_above_37
          · replace hw := hw.2 c5
            have e1 := ne_toI c1 (n := 1) (k := 1) (by decide)
            have e2 := ne_toI c2 (n := 2) (k := 2) (by decide)
            have e3 := ne_toI c3 (n := 3) (k := 3) (by decide)
            have e4 := ne_toI c4 (n := 4) (k := 4) (by decide)
            have e5 := ne_toI c5 (n := 5) (k := 5) (by decide)
            refine lv_tableOut (tgt := 42) hx hb dX2_above_1 (by omega) (by decide) ?_
            refine lv_iconst (v := -1) hx hb dX2_above_42 (by decide) ?_
            exact g_iret E hw hP hS dX2_above_43
theorem c_X2_above (l : Launch) (D : va_G) (cy : Nat → ClassId) (ad : Nat → Nat → Nat) (ha : Apart regsC ad) {post : Int32 → St → Prop} {σ : St} {x0 : Int32} (hw : w_X2_above post σ x0) (sz : Nat) : MetI l yX2_above cX2_above 1 .int rm_X2_above [.int x0] D cy (cellC cy ad) regsC ad σ sz post :=
  Met_inI ok_X2_above.2.2.2.2 (Nat.le_of_ble_eq_true rfl) (fun p e s m below meth c ls E hP hl => B_X2_above_0 E ha hw hP va_S.rf hl)
-- RoofWar$Kinds.isOne(II)Z
theorem dX2_isOne_0 : decode cX2_isOne 0 = .ok (.iload_n 0, 1) := by decide +kernel
theorem dX2_isOne_1 : decode cX2_isOne 1 = .ok (.istore_n 2, 1) := by decide +kernel
theorem dX2_isOne_2 : decode cX2_isOne 2 = .ok (.iconst 0, 1) := by decide +kernel
theorem dX2_isOne_3 : decode cX2_isOne 3 = .ok (.istore_n 3, 1) := by decide +kernel
theorem dX2_isOne_4 : decode cX2_isOne 4 = .ok (.iload_n 3, 1) := by decide +kernel
theorem dX2_isOne_5 : decode cX2_isOne 5 = .ok (.bipush 6, 2) := by decide +kernel
theorem dX2_isOne_7 : decode cX2_isOne 7 = .ok (.if_icmp .ge 25, 3) := by decide +kernel
theorem dX2_isOne_10 : decode cX2_isOne 10 = .ok (.iload_n 2, 1) := by decide +kernel
theorem dX2_isOne_11 : decode cX2_isOne 11 = .ok (.ifCond .lt 21, 3) := by decide +kernel
theorem dX2_isOne_14 : decode cX2_isOne 14 = .ok (.iload_n 2, 1) := by decide +kernel
theorem dX2_isOne_15 : decode cX2_isOne 15 = .ok (.iload_n 1, 1) := by decide +kernel
theorem dX2_isOne_16 : decode cX2_isOne 16 = .ok (.if_icmp .ne 5, 3) := by decide +kernel
theorem dX2_isOne_19 : decode cX2_isOne 19 = .ok (.iconst 1, 1) := by decide +kernel
theorem dX2_isOne_20 : decode cX2_isOne 20 = .ok (.ireturn, 1) := by decide +kernel
theorem dX2_isOne_21 : decode cX2_isOne 21 = .ok (.iload_n 2, 1) := by decide +kernel
theorem dX2_isOne_22 : decode cX2_isOne 22 = .ok (.invokestatic 9, 3) := by decide +kernel
theorem dX2_isOne_25 : decode cX2_isOne 25 = .ok (.istore_n 2, 1) := by decide +kernel
theorem dX2_isOne_26 : decode cX2_isOne 26 = .ok (.iinc 3 1, 3) := by decide +kernel
theorem dX2_isOne_29 : decode cX2_isOne 29 = .ok (.goto (-25), 3) := by decide +kernel
theorem dX2_isOne_32 : decode cX2_isOne 32 = .ok (.iconst 0, 1) := by decide +kernel
theorem dX2_isOne_33 : decode cX2_isOne 33 = .ok (.ireturn, 1) := by decide +kernel
theorem ok_X2_isOne : okS yX2_isOne cX2_isOne 4 (some .boolean) 2 := ⟨mw_408, mw_84, mw_409, by decide +kernel, by decide +kernel⟩
abbrev rm_X2_isOne : Room := { frames := 1, cells := 0, slots := 0, locals := 20 }
def b_X2_isOne_4 (K4 : St → Int32 → Int32 → Int32 → Prop) (post : Int32 → St → Prop) (σ : St) (x1 : Int32) (x2 : Int32) (x3 : Int32) : Prop := ((6 ≤ x3 → (post 0 σ)) ∧ (¬ 6 ≤ x3 → (((x2 < 0 → (post 0 σ)) ∧ (¬ x2 < 0 → (((¬ x2 = x1 → (w_X2_above (fun r4 s4 => ∀ v5 : Int32, v5 = x3 + 1 → (K4 s4 x1 r4 v5)) σ x2)) ∧ (x2 = x1 → (post 1 σ)))))))))
noncomputable def l_X2_isOne_4 (post : Int32 → St → Prop) : Nat → St → Int32 → Int32 → Int32 → Prop := fun n => Nat.rec (motive := fun _ => St → Int32 → Int32 → Int32 → Prop) (fun _ _ _ _ => False) (fun _ ih => b_X2_isOne_4 ih post) n
theorem L_X2_isOne_4 (E : EnvW p s m args meth c D cy regsC ad "RoofWar$Kinds" cX2_isOne 4 (some .boolean)) (ha : Apart regsC ad) {post : Int32 → St → Prop} : ∀ (n : Nat), ∀ (σ : St) (x1 : Int32) (x2 : Int32) (x3 : Int32), l_X2_isOne_4 post n σ x1 x2 x3 → ∀ (H : Heap) (locs : List Loc) (ls : Array Slot), va_P D CLS (wC cy ad σ) H → va_S (AC ad s.heap.size) s.heap H locs → lv_has ls 4 [(1, .int x1), (2, .int x2), (3, .int x3)] → W p l e rm_X2_isOne s m args below meth c H locs 0 0 (MQ below (QI D cy (cellC cy ad) regsC ad s.heap.size (fun r u => (r = 0 ∨ r = 1) ∧ post r u)) args s 0 0 (AC ad s.heap.size)) (F0 m 4 ls []) := by
  obtain ⟨hx, hb, -⟩ := id E
  intro n
  induction n with
  | zero => intro σ x1 x2 x3 hw; exact hw.elim
  | succ n hk4 =>
    intro σ x1 x2 x3 hw H locs ls hP hS hl
    replace hw : b_X2_isOne_4 (l_X2_isOne_4 post n) post σ x1 x2 x3 := hw
    unfold b_X2_isOne_4 at hw
    refine lv_iload_n hx hb dX2_isOne_4 rfl (lv_at hl 2 rfl) ?_
    refine lv_bipush (v := 6) hx hb dX2_isOne_5 (by decide) ?_
    refine lv_icmp_ge (tgt := 32) hx hb dX2_isOne_7 (by decide) (fun c1 => ?_) (fun c1 => ?_)
    · replace hw := hw.1 c1
      refine lv_iconst (v := 0) hx hb dX2_isOne_32 (by decide) ?_
      exact g_zret E (Or.inl rfl) hw hP hS dX2_isOne_33
    · replace hw := hw.2 c1
      refine lv_iload_n hx hb dX2_isOne_10 rfl (lv_at hl 1 rfl) ?_
      refine lv_if_lt (tgt := 32) hx hb dX2_isOne_11 (by decide) (fun c2 => ?_) (fun c2 => ?_)
      · replace hw := hw.1 c2
        refine lv_iconst (v := 0) hx hb dX2_isOne_32 (by decide) ?_
        exact g_zret E (Or.inl rfl) hw hP hS dX2_isOne_33
      · replace hw := hw.2 c2
        refine lv_iload_n hx hb dX2_isOne_14 rfl (lv_at hl 1 rfl) ?_
        refine lv_iload_n hx hb dX2_isOne_15 rfl (lv_at hl 0 rfl) ?_
        refine lv_icmp_ne (tgt := 21) hx hb dX2_isOne_16 (by decide) (fun c3 => ?_) (fun c3 => ?_)
        · replace hw := hw.1 c3
          refine lv_iload_n hx hb dX2_isOne_21 rfl (lv_at hl 1 rfl) ?_
          refine g_cSi (As := [.int x2]) (rest := []) E hl.1 (c_X2_above l D cy ad ha hw _) ok_X2_above mw_410 ⟨(Nat.le_of_ble_eq_true rfl), (Nat.le_of_ble_eq_true rfl)⟩ ⟨rfl, rfl⟩ rfl rfl (Nat.le_of_ble_eq_true rfl) ⟨Nat.zero_le _, Nat.zero_le _⟩ hP hS dX2_isOne_22 (fun r4 s4 hw H locs hP hS => ?_)
          refine lv_istore_n (lv' := [(2, .int r4), (1, .int x1), (3, .int x3)]) hx hb dX2_isOne_25 rfl hl (by decide) rfl (fun ls hl => ?_)
          obtain ⟨v5, ev5⟩ : ∃ y : Int32, y = x3 + 1 := ⟨_, rfl⟩
          replace hw := hw v5 ev5
          refine lv_iinc (v := v5) (lv' := [(3, .int v5), (2, .int r4), (1, .int x1)]) hx hb dX2_isOne_26 hl (k := 2) rfl (by rw [ev5]; rfl) (by decide) rfl (fun ls hl => ?_)
          refine lv_goto (tgt := 4) hx hb dX2_isOne_29 (by decide) ?_
          exact hk4 s4 x1 r4 v5 hw _ _ _ hP hS (lv_sub hl [2, 1, 0] rfl)
        · replace hw := hw.2 c3
          refine lv_iconst (v := 1) hx hb dX2_isOne_19 (by decide) ?_
          exact g_zret E (Or.inr rfl) hw hP hS dX2_isOne_20
def w_X2_isOne (post : Int32 → St → Prop) (σ : St) (x0 : Int32) (x1 : Int32) : Prop := ∃ n1 : Nat, l_X2_isOne_4 post n1 σ x1 x0 (0 : Int32)
theorem B_X2_isOne_0 (E : EnvW p s m args meth c D cy regsC ad "RoofWar$Kinds" cX2_isOne 4 (some .boolean)) (ha : Apart regsC ad) {post : Int32 → St → Prop} {σ : St} {x0 : Int32} {x1 : Int32} (hw : w_X2_isOne post σ x0 x1) {H : Heap} {locs : List Loc} {ls : Array Slot} (hP : va_P D CLS (wC cy ad σ) H) (hS : va_S (AC ad s.heap.size) s.heap H locs) (hl : lv_has ls 4 [(0, .int x0), (1, .int x1)]) : W p l e rm_X2_isOne s m args below meth c H locs 0 0 (MQ below (QI D cy (cellC cy ad) regsC ad s.heap.size (fun r u => (r = 0 ∨ r = 1) ∧ post r u)) args s 0 0 (AC ad s.heap.size)) (F0 m 0 ls []) := by
  obtain ⟨hx, hb, -⟩ := id E
  unfold w_X2_isOne at hw
  refine lv_iload_n hx hb dX2_isOne_0 rfl (lv_at hl 0 rfl) ?_
  refine lv_istore_n (lv' := [(2, .int x0), (0, .int x0), (1, .int x1)]) hx hb dX2_isOne_1 rfl hl (by decide) rfl (fun ls hl => ?_)
  refine lv_iconst (v := 0) hx hb dX2_isOne_2 (by decide) ?_
  refine lv_istore_n (lv' := [(3, .int 0), (2, .int x0), (0, .int x0), (1, .int x1)]) hx hb dX2_isOne_3 rfl hl (by decide) rfl (fun ls hl => ?_)
  obtain ⟨n1, hw⟩ := hw
  exact L_X2_isOne_4 E ha n1 σ x1 x0 (0 : Int32) hw _ _ _ hP hS (lv_sub hl [3, 1, 0] rfl)
theorem c_X2_isOne (l : Launch) (D : va_G) (cy : Nat → ClassId) (ad : Nat → Nat → Nat) (ha : Apart regsC ad) {post : Int32 → St → Prop} {σ : St} {x0 : Int32} {x1 : Int32} (hw : w_X2_isOne post σ x0 x1) (sz : Nat) : MetI l yX2_isOne cX2_isOne 4 .boolean rm_X2_isOne [.int x0, .int x1] D cy (cellC cy ad) regsC ad σ sz (fun r u => (r = 0 ∨ r = 1) ∧ post r u) :=
  Met_inI ok_X2_isOne.2.2.2.2 (Nat.le_of_ble_eq_true rfl) (fun p e s m below meth c ls E hP hl => B_X2_isOne_0 E ha hw hP va_S.rf hl)
-- RoofWar$Kinds.weighs(II)I
theorem dX2_weighs_0 : decode cX2_weighs 0 = .ok (.iconst 2, 1) := by decide +kernel
theorem dX2_weighs_1 : decode cX2_weighs 1 = .ok (.iload_n 1, 1) := by decide +kernel
theorem dX2_weighs_2 : decode cX2_weighs 2 = .ok (.imul, 1) := by decide +kernel
theorem dX2_weighs_3 : decode cX2_weighs 3 = .ok (.istore_n 2, 1) := by decide +kernel
theorem dX2_weighs_4 : decode cX2_weighs 4 = .ok (.iload_n 0, 1) := by decide +kernel
theorem dX2_weighs_5 : decode cX2_weighs 5 = .ok (.tableswitch 51 1 5 #[35, 39, 35, 43, 49], 35) := by decide +kernel
theorem dX2_weighs_40 : decode cX2_weighs 40 = .ok (.iload_n 2, 1) := by decide +kernel
theorem dX2_weighs_41 : decode cX2_weighs 41 = .ok (.iconst 2, 1) := by decide +kernel
theorem dX2_weighs_42 : decode cX2_weighs 42 = .ok (.idiv, 1) := by decide +kernel
theorem dX2_weighs_43 : decode cX2_weighs 43 = .ok (.ireturn, 1) := by decide +kernel
theorem dX2_weighs_44 : decode cX2_weighs 44 = .ok (.iconst 2, 1) := by decide +kernel
theorem dX2_weighs_45 : decode cX2_weighs 45 = .ok (.iload_n 2, 1) := by decide +kernel
theorem dX2_weighs_46 : decode cX2_weighs 46 = .ok (.imul, 1) := by decide +kernel
theorem dX2_weighs_47 : decode cX2_weighs 47 = .ok (.ireturn, 1) := by decide +kernel
theorem dX2_weighs_48 : decode cX2_weighs 48 = .ok (.iconst 2, 1) := by decide +kernel
theorem dX2_weighs_49 : decode cX2_weighs 49 = .ok (.iload_n 2, 1) := by decide +kernel
theorem dX2_weighs_50 : decode cX2_weighs 50 = .ok (.imul, 1) := by decide +kernel
theorem dX2_weighs_51 : decode cX2_weighs 51 = .ok (.iconst 2, 1) := by decide +kernel
theorem dX2_weighs_52 : decode cX2_weighs 52 = .ok (.isub, 1) := by decide +kernel
theorem dX2_weighs_53 : decode cX2_weighs 53 = .ok (.ireturn, 1) := by decide +kernel
theorem dX2_weighs_54 : decode cX2_weighs 54 = .ok (.iconst 1, 1) := by decide +kernel
theorem dX2_weighs_55 : decode cX2_weighs 55 = .ok (.ireturn, 1) := by decide +kernel
theorem dX2_weighs_56 : decode cX2_weighs 56 = .ok (.iload_n 2, 1) := by decide +kernel
theorem dX2_weighs_57 : decode cX2_weighs 57 = .ok (.ireturn, 1) := by decide +kernel
theorem ok_X2_weighs : okS yX2_weighs cX2_weighs 3 (some .int) 2 := ⟨mw_392, mw_84, mw_393, by decide +kernel, by decide +kernel⟩
abbrev rm_X2_weighs : Room := { frames := 0, cells := 0, slots := 0, locals := 0 }
def w_X2_weighs (post : Int32 → St → Prop) (σ : St) (x0 : Int32) (x1 : Int32) : Prop := ∀ v1 : Int32, v1 = 2 * x1 → (((x0 = 1 → (¬ (2 : Int32) = 0 ∧ (post (v1 / 2) σ))) ∧ (¬ x0 = 1 → (((x0 = 2 → (post (2 * v1) σ)) ∧ (¬ x0 = 2 → (((x0 = 3 → (¬ (2 : Int32) = 0 ∧ (post (v1 / 2) σ))) ∧ (¬ x0 = 3 → (((x0 = 4 → (post ((2 * v1) - 2) σ)) ∧ (¬ x0 = 4 → (((x0 = 5 → (post 1 σ)) ∧ (¬ x0 = 5 → (post v1 σ))))))))))))))))
theorem B_X2_weighs_0 (E : EnvW p s m args meth c D cy regsC ad "RoofWar$Kinds" cX2_weighs 3 (some .int)) (ha : Apart regsC ad) {post : Int32 → St → Prop} {σ : St} {x0 : Int32} {x1 : Int32} (hw : w_X2_weighs post σ x0 x1) {H : Heap} {locs : List Loc} {ls : Array Slot} (hP : va_P D CLS (wC cy ad σ) H) (hS : va_S (AC ad s.heap.size) s.heap H locs) (hl : lv_has ls 3 [(0, .int x0), (1, .int x1)]) : W p l e rm_X2_weighs s m args below meth c H locs 0 0 (MQ below (QI D cy (cellC cy ad) regsC ad s.heap.size post) args s 0 0 (AC ad s.heap.size)) (F0 m 0 ls []) := by
  obtain ⟨hx, hb, -⟩ := id E
  unfold w_X2_weighs at hw
  refine lv_iconst (v := 2) hx hb dX2_weighs_0 (by decide) ?_
  refine lv_iload_n hx hb dX2_weighs_1 rfl (lv_at hl 1 rfl) ?_
  refine lv_imul hx hb dX2_weighs_2 ?_
  refine lv_topi (fun v1 ev1 => ?_)
  replace hw := hw v1 ev1
  refine lv_istore_n (lv' := [(2, .int v1), (0, .int x0), (1, .int x1)]) hx hb dX2_weighs_3 rfl hl (by decide) rfl (fun ls hl => ?_)
  refine lv_iload_n hx hb dX2_weighs_4 rfl (lv_at hl 1 rfl) ?_
  by_cases c2 : x0 = 1
  · replace hw := hw.1 c2
    refine lv_tableIn (off := 35) (tgt := 40) hx hb dX2_weighs_5 (by rw [c2]; decide) (by rw [c2]; decide) (by rw [c2]; rfl) (by decide) ?_
    refine lv_iload_n hx hb dX2_weighs_40 rfl (lv_at hl 0 rfl) ?_
    refine lv_iconst (v := 2) hx hb dX2_weighs_41 (by decide) ?_
    obtain ⟨h3, hw⟩ := hw
    refine lv_idiv hx hb dX2_weighs_42 h3 ?_
    exact g_iret E hw hP hS dX2_weighs_43
  · replace hw := hw.2 c2
    by_cases c4 : x0 = 2
    · replace hw := hw.1 c4
      refine lv_tableIn (off := 39) (tgt := 44) hx hb dX2_weighs_5 (by rw [c4]; decide) (by rw [c4]; decide) (by rw [c4]; rfl) (by decide) ?_
      refine lv_iconst (v := 2) hx hb dX2_weighs_44 (by decide) ?_
      refine lv_iload_n hx hb dX2_weighs_45 rfl (lv_at hl 0 rfl) ?_
      refine lv_imul hx hb dX2_weighs_46 ?_
      exact g_iret E hw hP hS dX2_weighs_47
    · replace hw := hw.2 c4
      by_cases c5 : x0 = 3
      · replace hw := hw.1 c5
        refine lv_tableIn (off := 35) (tgt := 40) hx hb dX2_weighs_5 (by rw [c5]; decide) (by rw [c5]; decide) (by rw [c5]; rfl) (by decide) ?_
        refine lv_iload_n hx hb dX2_weighs_40 rfl (lv_at hl 0 rfl) ?_
        refine lv_iconst (v := 2) hx hb dX2_weighs_41 (by decide) ?_
        obtain ⟨h6, hw⟩ := hw
        refine lv_idiv hx hb dX2_weighs_42 h6 ?_
        exact g_iret E hw hP hS dX2_weighs_43
      · replace hw := hw.2 c5
        by_cases c7 : x0 = 4
        · replace hw := hw.1 c7
          refine lv_tableIn (off := 43) (tgt := 48) hx hb dX2_weighs_5 (by rw [c7]; decide) (by rw [c7]; decide) (by rw [c7]; rfl) (by decide) ?_
          refine lv_iconst (v := 2) hx hb dX2_weighs_48 (by decide) ?_
          refine lv_iload_n hx hb dX2_weighs_49 rfl (lv_at hl 0 rfl) ?_
          refine lv_imul hx hb dX2_weighs_50 ?_
          refine lv_iconst (v := 2) hx hb dX2_weighs_51 (by decide) ?_
          refine lv_isub hx hb dX2_weighs_52 ?_
          exact g_iret E hw hP hS dX2_weighs_53
        · replace hw := hw.2 c7
          by_cases c8 : x0 = 5
          · replace hw := hw.1 c8
            refine lv_tableIn (off := 49) (tgt := 54) hx hb dX2_weighs_5 (by rw [c8]; decide) (by rw [c8]; decide) (by rw [c8]; rfl) (by decide) ?_
            refine lv_iconst (v := 1) hx hb dX2_weighs_54 (by decide) ?_
            exact g_iret E hw hP hS dX2_weighs_55
          · replace hw := hw.2 c8
            have e2 := ne_toI c2 (n := 1) (k := 1) (by decide)
            have e4 := ne_toI c4 (n := 2) (k := 2) (by decide)
            have e5 := ne_toI c5 (n := 3) (k := 3) (by decide)
            have e7 := ne_toI c7 (n := 4) (k := 4) (by decide)
            have e8 := ne_toI c8 (n := 5) (k := 5) (by decide)
            refine lv_tableOut (tgt := 56) hx hb dX2_weighs_5 (by omega) (by decide) ?_
            refine lv_iload_n hx hb dX2_weighs_56 rfl (lv_at hl 0 rfl) ?_
            exact g_iret E hw hP hS dX2_weighs_57
theorem c_X2_weighs (l : Launch) (D : va_G) (cy : Nat → ClassId) (ad : Nat → Nat → Nat) (ha : Apart regsC ad) {post : Int32 → St → Prop} {σ : St} {x0 : Int32} {x1 : Int32} (hw : w_X2_weighs post σ x0 x1) (sz : Nat) : MetI l yX2_weighs cX2_weighs 3 .int rm_X2_weighs [.int x0, .int x1] D cy (cellC cy ad) regsC ad σ sz post :=
  Met_inI ok_X2_weighs.2.2.2.2 (Nat.le_of_ble_eq_true rfl) (fun p e s m below meth c ls E hP hl => B_X2_weighs_0 E ha hw hP va_S.rf hl)
-- RoofWar$Kinds.covers(II)I
theorem dX2_covers_0 : decode cX2_covers 0 = .ok (.iload_n 0, 1) := by decide +kernel
theorem dX2_covers_1 : decode cX2_covers 1 = .ok (.tableswitch 41 2 5 #[35, 31, 35, 39], 31) := by decide +kernel
theorem dX2_covers_32 : decode cX2_covers 32 = .ok (.iload_n 1, 1) := by decide +kernel
theorem dX2_covers_33 : decode cX2_covers 33 = .ok (.iconst 2, 1) := by decide +kernel
theorem dX2_covers_34 : decode cX2_covers 34 = .ok (.idiv, 1) := by decide +kernel
theorem dX2_covers_35 : decode cX2_covers 35 = .ok (.ireturn, 1) := by decide +kernel
theorem dX2_covers_36 : decode cX2_covers 36 = .ok (.iload_n 1, 1) := by decide +kernel
theorem dX2_covers_37 : decode cX2_covers 37 = .ok (.iconst 3, 1) := by decide +kernel
theorem dX2_covers_38 : decode cX2_covers 38 = .ok (.iadd, 1) := by decide +kernel
theorem dX2_covers_39 : decode cX2_covers 39 = .ok (.ireturn, 1) := by decide +kernel
theorem dX2_covers_40 : decode cX2_covers 40 = .ok (.iconst 0, 1) := by decide +kernel
theorem dX2_covers_41 : decode cX2_covers 41 = .ok (.ireturn, 1) := by decide +kernel
theorem dX2_covers_42 : decode cX2_covers 42 = .ok (.iload_n 1, 1) := by decide +kernel
theorem dX2_covers_43 : decode cX2_covers 43 = .ok (.ireturn, 1) := by decide +kernel
theorem ok_X2_covers : okS yX2_covers cX2_covers 2 (some .int) 2 := ⟨mw_395, mw_84, mw_396, by decide +kernel, by decide +kernel⟩
abbrev rm_X2_covers : Room := { frames := 0, cells := 0, slots := 0, locals := 0 }
def w_X2_covers (post : Int32 → St → Prop) (σ : St) (x0 : Int32) (x1 : Int32) : Prop := ((x0 = 2 → (post (x1 + 3) σ)) ∧ (¬ x0 = 2 → (((x0 = 3 → (¬ (2 : Int32) = 0 ∧ (post (x1 / 2) σ))) ∧ (¬ x0 = 3 → (((x0 = 4 → (post (x1 + 3) σ)) ∧ (¬ x0 = 4 → (((x0 = 5 → (post 0 σ)) ∧ (¬ x0 = 5 → (post x1 σ))))))))))))
theorem B_X2_covers_0 (E : EnvW p s m args meth c D cy regsC ad "RoofWar$Kinds" cX2_covers 2 (some .int)) (ha : Apart regsC ad) {post : Int32 → St → Prop} {σ : St} {x0 : Int32} {x1 : Int32} (hw : w_X2_covers post σ x0 x1) {H : Heap} {locs : List Loc} {ls : Array Slot} (hP : va_P D CLS (wC cy ad σ) H) (hS : va_S (AC ad s.heap.size) s.heap H locs) (hl : lv_has ls 2 [(0, .int x0), (1, .int x1)]) : W p l e rm_X2_covers s m args below meth c H locs 0 0 (MQ below (QI D cy (cellC cy ad) regsC ad s.heap.size post) args s 0 0 (AC ad s.heap.size)) (F0 m 0 ls []) := by
  obtain ⟨hx, hb, -⟩ := id E
  unfold w_X2_covers at hw
  refine lv_iload_n hx hb dX2_covers_0 rfl (lv_at hl 0 rfl) ?_
  by_cases c1 : x0 = 2
  · replace hw := hw.1 c1
    refine lv_tableIn (off := 35) (tgt := 36) hx hb dX2_covers_1 (by rw [c1]; decide) (by rw [c1]; decide) (by rw [c1]; rfl) (by decide) ?_
    refine lv_iload_n hx hb dX2_covers_36 rfl (lv_at hl 1 rfl) ?_
    refine lv_iconst (v := 3) hx hb dX2_covers_37 (by decide) ?_
    refine lv_iadd hx hb dX2_covers_38 ?_
    exact g_iret E hw hP hS dX2_covers_39
  · replace hw := hw.2 c1
    by_cases c2 : x0 = 3
    · replace hw := hw.1 c2
      refine lv_tableIn (off := 31) (tgt := 32) hx hb dX2_covers_1 (by rw [c2]; decide) (by rw [c2]; decide) (by rw [c2]; rfl) (by decide) ?_
      refine lv_iload_n hx hb dX2_covers_32 rfl (lv_at hl 1 rfl) ?_
      refine lv_iconst (v := 2) hx hb dX2_covers_33 (by decide) ?_
      obtain ⟨h3, hw⟩ := hw
      refine lv_idiv hx hb dX2_covers_34 h3 ?_
      exact g_iret E hw hP hS dX2_covers_35
    · replace hw := hw.2 c2
      by_cases c4 : x0 = 4
      · replace hw := hw.1 c4
        refine lv_tableIn (off := 35) (tgt := 36) hx hb dX2_covers_1 (by rw [c4]; decide) (by rw [c4]; decide) (by rw [c4]; rfl) (by decide) ?_
        refine lv_iload_n hx hb dX2_covers_36 rfl (lv_at hl 1 rfl) ?_
        refine lv_iconst (v := 3) hx hb dX2_covers_37 (by decide) ?_
        refine lv_iadd hx hb dX2_covers_38 ?_
        exact g_iret E hw hP hS dX2_covers_39
      · replace hw := hw.2 c4
        by_cases c5 : x0 = 5
        · replace hw := hw.1 c5
          refine lv_tableIn (off := 39) (tgt := 40) hx hb dX2_covers_1 (by rw [c5]; decide) (by rw [c5]; decide) (by rw [c5]; rfl) (by decide) ?_
          refine lv_iconst (v := 0) hx hb dX2_covers_40 (by decide) ?_
          exact g_iret E hw hP hS dX2_covers_41
        · replace hw := hw.2 c5
          have e1 := ne_toI c1 (n := 2) (k := 2) (by decide)
          have e2 := ne_toI c2 (n := 3) (k := 3) (by decide)
          have e4 := ne_toI c4 (n := 4) (k := 4) (by decide)
          have e5 := ne_toI c5 (n := 5) (k := 5) (by decide)
          refine lv_tableOut (tgt := 42) hx hb dX2_covers_1 (by omega) (by decide) ?_
          refine lv_iload_n hx hb dX2_covers_42 rfl (lv_at hl 1 rfl) ?_
          exact g_iret E hw hP hS dX2_covers_43
theorem c_X2_covers (l : Launch) (D : va_G) (cy : Nat → ClassId) (ad : Nat → Nat → Nat) (ha : Apart regsC ad) {post : Int32 → St → Prop} {σ : St} {x0 : Int32} {x1 : Int32} (hw : w_X2_covers post σ x0 x1) (sz : Nat) : MetI l yX2_covers cX2_covers 2 .int rm_X2_covers [.int x0, .int x1] D cy (cellC cy ad) regsC ad σ sz post :=
  Met_inI ok_X2_covers.2.2.2.2 (Nat.le_of_ble_eq_true rfl) (fun p e s m below meth c ls E hP hl => B_X2_covers_0 E ha hw hP va_S.rf hl)
-- RoofWar$Kinds.drips(II)I
theorem dX2_drips_0 : decode cX2_drips 0 = .ok (.iload_n 1, 1) := by decide +kernel
theorem dX2_drips_1 : decode cX2_drips 1 = .ok (.bipush 10, 2) := by decide +kernel
theorem dX2_drips_3 : decode cX2_drips 3 = .ok (.idiv, 1) := by decide +kernel
theorem dX2_drips_4 : decode cX2_drips 4 = .ok (.istore_n 2, 1) := by decide +kernel
theorem dX2_drips_5 : decode cX2_drips 5 = .ok (.iload_n 0, 1) := by decide +kernel
theorem dX2_drips_6 : decode cX2_drips 6 = .ok (.tableswitch 42 1 4 #[30, 42, 34, 40], 30) := by decide +kernel
theorem dX2_drips_36 : decode cX2_drips 36 = .ok (.iload_n 2, 1) := by decide +kernel
theorem dX2_drips_37 : decode cX2_drips 37 = .ok (.iconst 2, 1) := by decide +kernel
theorem dX2_drips_38 : decode cX2_drips 38 = .ok (.iadd, 1) := by decide +kernel
theorem dX2_drips_39 : decode cX2_drips 39 = .ok (.ireturn, 1) := by decide +kernel
theorem dX2_drips_40 : decode cX2_drips 40 = .ok (.iconst 2, 1) := by decide +kernel
theorem dX2_drips_41 : decode cX2_drips 41 = .ok (.iload_n 2, 1) := by decide +kernel
theorem dX2_drips_42 : decode cX2_drips 42 = .ok (.iconst 2, 1) := by decide +kernel
theorem dX2_drips_43 : decode cX2_drips 43 = .ok (.iadd, 1) := by decide +kernel
theorem dX2_drips_44 : decode cX2_drips 44 = .ok (.imul, 1) := by decide +kernel
theorem dX2_drips_45 : decode cX2_drips 45 = .ok (.ireturn, 1) := by decide +kernel
theorem dX2_drips_46 : decode cX2_drips 46 = .ok (.iconst 1, 1) := by decide +kernel
theorem dX2_drips_47 : decode cX2_drips 47 = .ok (.ireturn, 1) := by decide +kernel
theorem dX2_drips_48 : decode cX2_drips 48 = .ok (.iload_n 2, 1) := by decide +kernel
theorem dX2_drips_49 : decode cX2_drips 49 = .ok (.ireturn, 1) := by decide +kernel
theorem ok_X2_drips : okS yX2_drips cX2_drips 3 (some .int) 2 := ⟨mw_398, mw_84, mw_399, by decide +kernel, by decide +kernel⟩
abbrev rm_X2_drips : Room := { frames := 0, cells := 0, slots := 0, locals := 0 }
def w_X2_drips (post : Int32 → St → Prop) (σ : St) (x0 : Int32) (x1 : Int32) : Prop := ¬ (10 : Int32) = 0 ∧ (∀ v2 : Int32, v2 = x1 / 10 → (((x0 = 1 → (post (v2 + 2) σ)) ∧ (¬ x0 = 1 → (((x0 = 2 → (post v2 σ)) ∧ (¬ x0 = 2 → (((x0 = 3 → (post (2 * (v2 + 2)) σ)) ∧ (¬ x0 = 3 → (((x0 = 4 → (post 1 σ)) ∧ (¬ x0 = 4 → (post v2 σ))))))))))))))
theorem B_X2_drips_0 (E : EnvW p s m args meth c D cy regsC ad "RoofWar$Kinds" cX2_drips 3 (some .int)) (ha : Apart regsC ad) {post : Int32 → St → Prop} {σ : St} {x0 : Int32} {x1 : Int32} (hw : w_X2_drips post σ x0 x1) {H : Heap} {locs : List Loc} {ls : Array Slot} (hP : va_P D CLS (wC cy ad σ) H) (hS : va_S (AC ad s.heap.size) s.heap H locs) (hl : lv_has ls 3 [(0, .int x0), (1, .int x1)]) : W p l e rm_X2_drips s m args below meth c H locs 0 0 (MQ below (QI D cy (cellC cy ad) regsC ad s.heap.size post) args s 0 0 (AC ad s.heap.size)) (F0 m 0 ls []) := by
  obtain ⟨hx, hb, -⟩ := id E
  unfold w_X2_drips at hw
  refine lv_iload_n hx hb dX2_drips_0 rfl (lv_at hl 1 rfl) ?_
  refine lv_bipush (v := 10) hx hb dX2_drips_1 (by decide) ?_
  obtain ⟨h1, hw⟩ := hw
  refine lv_idiv hx hb dX2_drips_3 h1 ?_
  refine lv_topi (fun v2 ev2 => ?_)
  replace hw := hw v2 ev2
  refine lv_istore_n (lv' := [(2, .int v2), (0, .int x0), (1, .int x1)]) hx hb dX2_drips_4 rfl hl (by decide) rfl (fun ls hl => ?_)
  refine lv_iload_n hx hb dX2_drips_5 rfl (lv_at hl 1 rfl) ?_
  by_cases c3 : x0 = 1
  · replace hw := hw.1 c3
    refine lv_tableIn (off := 30) (tgt := 36) hx hb dX2_drips_6 (by rw [c3]; decide) (by rw [c3]; decide) (by rw [c3]; rfl) (by decide) ?_
    refine lv_iload_n hx hb dX2_drips_36 rfl (lv_at hl 0 rfl) ?_
    refine lv_iconst (v := 2) hx hb dX2_drips_37 (by decide) ?_
    refine lv_iadd hx hb dX2_drips_38 ?_
    exact g_iret E hw hP hS dX2_drips_39
  · replace hw := hw.2 c3
    by_cases c4 : x0 = 2
    · replace hw := hw.1 c4
      refine lv_tableIn (off := 42) (tgt := 48) hx hb dX2_drips_6 (by rw [c4]; decide) (by rw [c4]; decide) (by rw [c4]; rfl) (by decide) ?_
      refine lv_iload_n hx hb dX2_drips_48 rfl (lv_at hl 0 rfl) ?_
      exact g_iret E hw hP hS dX2_drips_49
    · replace hw := hw.2 c4
      by_cases c5 : x0 = 3
      · replace hw := hw.1 c5
        refine lv_tableIn (off := 34) (tgt := 40) hx hb dX2_drips_6 (by rw [c5]; decide) (by rw [c5]; decide) (by rw [c5]; rfl) (by decide) ?_
        refine lv_iconst (v := 2) hx hb dX2_drips_40 (by decide) ?_
        refine lv_iload_n hx hb dX2_drips_41 rfl (lv_at hl 0 rfl) ?_
        refine lv_iconst (v := 2) hx hb dX2_drips_42 (by decide) ?_
        refine lv_iadd hx hb dX2_drips_43 ?_
        refine lv_imul hx hb dX2_drips_44 ?_
        exact g_iret E hw hP hS dX2_drips_45
      · replace hw := hw.2 c5
        by_cases c6 : x0 = 4
        · replace hw := hw.1 c6
          refine lv_tableIn (off := 40) (tgt := 46) hx hb dX2_drips_6 (by rw [c6]; decide) (by rw [c6]; decide) (by rw [c6]; rfl) (by decide) ?_
          refine lv_iconst (v := 1) hx hb dX2_drips_46 (by decide) ?_
          exact g_iret E hw hP hS dX2_drips_47
        · replace hw := hw.2 c6
          have e3 := ne_toI c3 (n := 1) (k := 1) (by decide)
          have e4 := ne_toI c4 (n := 2) (k := 2) (by decide)
          have e5 := ne_toI c5 (n := 3) (k := 3) (by decide)
          have e6 := ne_toI c6 (n := 4) (k := 4) (by decide)
          refine lv_tableOut (tgt := 48) hx hb dX2_drips_6 (by omega) (by decide) ?_
          refine lv_iload_n hx hb dX2_drips_48 rfl (lv_at hl 0 rfl) ?_
          exact g_iret E hw hP hS dX2_drips_49
theorem c_X2_drips (l : Launch) (D : va_G) (cy : Nat → ClassId) (ad : Nat → Nat → Nat) (ha : Apart regsC ad) {post : Int32 → St → Prop} {σ : St} {x0 : Int32} {x1 : Int32} (hw : w_X2_drips post σ x0 x1) (sz : Nat) : MetI l yX2_drips cX2_drips 3 .int rm_X2_drips [.int x0, .int x1] D cy (cellC cy ad) regsC ad σ sz post :=
  Met_inI ok_X2_drips.2.2.2.2 (Nat.le_of_ble_eq_true rfl) (fun p e s m below meth c ls E hP hl => B_X2_drips_0 E ha hw hP va_S.rf hl)
-- RoofWar$Kinds.worth(II)I
theorem dX2_worth_0 : decode cX2_worth 0 = .ok (.iload_n 0, 1) := by decide +kernel
theorem dX2_worth_1 : decode cX2_worth 1 = .ok (.tableswitch 60 1 5 #[35, 45, 39, 50, 58], 35) := by decide +kernel
theorem dX2_worth_36 : decode cX2_worth 36 = .ok (.iload_n 1, 1) := by decide +kernel
theorem dX2_worth_37 : decode cX2_worth 37 = .ok (.iconst 4, 1) := by decide +kernel
theorem dX2_worth_38 : decode cX2_worth 38 = .ok (.iadd, 1) := by decide +kernel
theorem dX2_worth_39 : decode cX2_worth 39 = .ok (.ireturn, 1) := by decide +kernel
theorem dX2_worth_40 : decode cX2_worth 40 = .ok (.iconst 2, 1) := by decide +kernel
theorem dX2_worth_41 : decode cX2_worth 41 = .ok (.iload_n 1, 1) := by decide +kernel
theorem dX2_worth_42 : decode cX2_worth 42 = .ok (.iconst 4, 1) := by decide +kernel
theorem dX2_worth_43 : decode cX2_worth 43 = .ok (.iadd, 1) := by decide +kernel
theorem dX2_worth_44 : decode cX2_worth 44 = .ok (.imul, 1) := by decide +kernel
theorem dX2_worth_45 : decode cX2_worth 45 = .ok (.ireturn, 1) := by decide +kernel
theorem dX2_worth_46 : decode cX2_worth 46 = .ok (.bipush 30, 2) := by decide +kernel
theorem dX2_worth_48 : decode cX2_worth 48 = .ok (.iload_n 1, 1) := by decide +kernel
theorem dX2_worth_49 : decode cX2_worth 49 = .ok (.isub, 1) := by decide +kernel
theorem dX2_worth_50 : decode cX2_worth 50 = .ok (.ireturn, 1) := by decide +kernel
theorem dX2_worth_51 : decode cX2_worth 51 = .ok (.bipush 30, 2) := by decide +kernel
theorem dX2_worth_53 : decode cX2_worth 53 = .ok (.iload_n 1, 1) := by decide +kernel
theorem dX2_worth_54 : decode cX2_worth 54 = .ok (.isub, 1) := by decide +kernel
theorem dX2_worth_55 : decode cX2_worth 55 = .ok (.bipush 6, 2) := by decide +kernel
theorem dX2_worth_57 : decode cX2_worth 57 = .ok (.isub, 1) := by decide +kernel
theorem dX2_worth_58 : decode cX2_worth 58 = .ok (.ireturn, 1) := by decide +kernel
theorem dX2_worth_59 : decode cX2_worth 59 = .ok (.iconst 2, 1) := by decide +kernel
theorem dX2_worth_60 : decode cX2_worth 60 = .ok (.ireturn, 1) := by decide +kernel
theorem dX2_worth_61 : decode cX2_worth 61 = .ok (.iload_n 1, 1) := by decide +kernel
theorem dX2_worth_62 : decode cX2_worth 62 = .ok (.ireturn, 1) := by decide +kernel
theorem ok_X2_worth : okS yX2_worth cX2_worth 2 (some .int) 2 := ⟨mw_401, mw_84, mw_402, by decide +kernel, by decide +kernel⟩
abbrev rm_X2_worth : Room := { frames := 0, cells := 0, slots := 0, locals := 0 }
def w_X2_worth (post : Int32 → St → Prop) (σ : St) (x0 : Int32) (x1 : Int32) : Prop := ((x0 = 1 → (post (x1 + 4) σ)) ∧ (¬ x0 = 1 → (((x0 = 2 → (post (30 - x1) σ)) ∧ (¬ x0 = 2 → (((x0 = 3 → (post (2 * (x1 + 4)) σ)) ∧ (¬ x0 = 3 → (((x0 = 4 → (post ((30 - x1) - 6) σ)) ∧ (¬ x0 = 4 → (((x0 = 5 → (post 2 σ)) ∧ (¬ x0 = 5 → (post x1 σ)))))))))))))))
theorem B_X2_worth_0 (E : EnvW p s m args meth c D cy regsC ad "RoofWar$Kinds" cX2_worth 2 (some .int)) (ha : Apart regsC ad) {post : Int32 → St → Prop} {σ : St} {x0 : Int32} {x1 : Int32} (hw : w_X2_worth post σ x0 x1) {H : Heap} {locs : List Loc} {ls : Array Slot} (hP : va_P D CLS (wC cy ad σ) H) (hS : va_S (AC ad s.heap.size) s.heap H locs) (hl : lv_has ls 2 [(0, .int x0), (1, .int x1)]) : W p l e rm_X2_worth s m args below meth c H locs 0 0 (MQ below (QI D cy (cellC cy ad) regsC ad s.heap.size post) args s 0 0 (AC ad s.heap.size)) (F0 m 0 ls []) := by
  obtain ⟨hx, hb, -⟩ := id E
  unfold w_X2_worth at hw
  refine lv_iload_n hx hb dX2_worth_0 rfl (lv_at hl 0 rfl) ?_
  by_cases c1 : x0 = 1
  · replace hw := hw.1 c1
    refine lv_tableIn (off := 35) (tgt := 36) hx hb dX2_worth_1 (by rw [c1]; decide) (by rw [c1]; decide) (by rw [c1]; rfl) (by decide) ?_
    refine lv_iload_n hx hb dX2_worth_36 rfl (lv_at hl 1 rfl) ?_
    refine lv_iconst (v := 4) hx hb dX2_worth_37 (by decide) ?_
    refine lv_iadd hx hb dX2_worth_38 ?_
    exact g_iret E hw hP hS dX2_worth_39
  · replace hw := hw.2 c1
    by_cases c2 : x0 = 2
    · replace hw := hw.1 c2
      refine lv_tableIn (off := 45) (tgt := 46) hx hb dX2_worth_1 (by rw [c2]; decide) (by rw [c2]; decide) (by rw [c2]; rfl) (by decide) ?_
      refine lv_bipush (v := 30) hx hb dX2_worth_46 (by decide) ?_
      refine lv_iload_n hx hb dX2_worth_48 rfl (lv_at hl 1 rfl) ?_
      refine lv_isub hx hb dX2_worth_49 ?_
      exact g_iret E hw hP hS dX2_worth_50
    · replace hw := hw.2 c2
      by_cases c3 : x0 = 3
      · replace hw := hw.1 c3
        refine lv_tableIn (off := 39) (tgt := 40) hx hb dX2_worth_1 (by rw [c3]; decide) (by rw [c3]; decide) (by rw [c3]; rfl) (by decide) ?_
        refine lv_iconst (v := 2) hx hb dX2_worth_40 (by decide) ?_
        refine lv_iload_n hx hb dX2_worth_41 rfl (lv_at hl 1 rfl) ?_
        refine lv_iconst (v := 4) hx hb dX2_worth_42 (by decide) ?_
        refine lv_iadd hx hb dX2_worth_43 ?_
        refine lv_imul hx hb dX2_worth_44 ?_
        exact g_iret E hw hP hS dX2_worth_45
      · replace hw := hw.2 c3
        by_cases c4 : x0 = 4
        · replace hw := hw.1 c4
          refine lv_tableIn (off := 50) (tgt := 51) hx hb dX2_worth_1 (by rw [c4]; decide) (by rw [c4]; decide) (by rw [c4]; rfl) (by decide) ?_
          refine lv_bipush (v := 30) hx hb dX2_worth_51 (by decide) ?_
          refine lv_iload_n hx hb dX2_worth_53 rfl (lv_at hl 1 rfl) ?_
          refine lv_isub hx hb dX2_worth_54 ?_
          refine lv_bipush (v := 6) hx hb dX2_worth_55 (by decide) ?_
          refine lv_isub hx hb dX2_worth_57 ?_
          exact g_iret E hw hP hS dX2_worth_58
        · replace hw := hw.2 c4
          by_cases c5 : x0 = 5
          · replace hw := hw.1 c5
            refine lv_tableIn (off := 58) (tgt := 59) hx hb dX2_worth_1 (by rw [c5]; decide) (by rw [c5]; decide) (by rw [c5]; rfl) (by decide) ?_
            refine lv_iconst (v := 2) hx hb dX2_worth_59 (by decide) ?_
            exact g_iret E hw hP hS dX2_worth_60
          · replace hw := hw.2 c5
            have e1 := ne_toI c1 (n := 1) (k := 1) (by decide)
            have e2 := ne_toI c2 (n := 2) (k := 2) (by decide)
            have e3 := ne_toI c3 (n := 3) (k := 3) (by decide)
            have e4 := ne_toI c4 (n := 4) (k := 4) (by decide)
            have e5 := ne_toI c5 (n := 5) (k := 5) (by decide)
            refine lv_tableOut (tgt := 61) hx hb dX2_worth_1 (by omega) (by decide) ?_
            refine lv_iload_n hx hb dX2_worth_61 rfl (lv_at hl 1 rfl) ?_
            exact g_iret E hw hP hS dX2_worth_62
theorem c_X2_worth (l : Launch) (D : va_G) (cy : Nat → ClassId) (ad : Nat → Nat → Nat) (ha : Apart regsC ad) {post : Int32 → St → Prop} {σ : St} {x0 : Int32} {x1 : Int32} (hw : w_X2_worth post σ x0 x1) (sz : Nat) : MetI l yX2_worth cX2_worth 2 .int rm_X2_worth [.int x0, .int x1] D cy (cellC cy ad) regsC ad σ sz post :=
  Met_inI ok_X2_worth.2.2.2.2 (Nat.le_of_ble_eq_true rfl) (fun p e s m below meth c ls E hP hl => B_X2_worth_0 E ha hw hP va_S.rf hl)
-- RoofWar$Law.clear()V
theorem dX3_clear_0 : decode cX3_clear 0 = .ok (.aload_n 0, 1) := by decide +kernel
theorem dX3_clear_1 : decode cX3_clear 1 = .ok (.iconst 0, 1) := by decide +kernel
theorem dX3_clear_2 : decode cX3_clear 2 = .ok (.putfield 15, 3) := by decide +kernel
theorem dX3_clear_5 : decode cX3_clear 5 = .ok (.aload_n 0, 1) := by decide +kernel
theorem dX3_clear_6 : decode cX3_clear 6 = .ok (.iconst 0, 1) := by decide +kernel
theorem dX3_clear_7 : decode cX3_clear 7 = .ok (.putfield 19, 3) := by decide +kernel
theorem dX3_clear_10 : decode cX3_clear 10 = .ok (.return_, 1) := by decide +kernel
theorem ok_X3_clear : okV yX3_clear cX3_clear 1 none 0 := ⟨mw_688, mw_689, mw_76, mw_690, by decide +kernel, by decide +kernel⟩
abbrev rm_X3_clear : Room := { frames := 0, cells := 0, slots := 0, locals := 0 }
def w_X3_clear (post : St → Prop) (σ : St) (i0 : Nat) : Prop := ∀ s1 : St, s1 = wr σ 17 i0 1 0 → (∀ s2 : St, s2 = wr s1 17 i0 2 0 → (post s2))
theorem B_X3_clear_0 (E : EnvW p s m args meth c D cy regsC ad "RoofWar$Law" cX3_clear 1 none) (ha : Apart regsC ad) {post : St → Prop} {σ : St} {i0 : Nat} (hi0 : i0 < 15) (hw : w_X3_clear post σ i0) {H : Heap} {locs : List Loc} {ls : Array Slot} (hP : va_P D CLS (wC cy ad σ) H) (hS : va_S (AC ad s.heap.size) s.heap H locs) (hl : lv_has ls 1 [(0, .ref (ad 17 i0))]) : W p l e rm_X3_clear s m args below meth c H locs 0 0 (MQ below (QV D cy (cellC cy ad) regsC ad s.heap.size post) args s 0 0 (AC ad s.heap.size)) (F0 m 0 ls []) := by
  obtain ⟨hx, hb, -⟩ := id E
  unfold w_X3_clear at hw
  refine lv_aload_n hx hb dX3_clear_0 rfl (lv_at hl 0 rfl) ?_
  refine lv_iconst (v := 0) hx hb dX3_clear_1 (by decide) ?_
  refine uX3_1 hi0 E ha mw_115 dX3_clear_2 hP hS (fun s1 es1 H locs hP hS => ?_)
  replace hw := hw s1 es1
  refine lv_aload_n hx hb dX3_clear_5 rfl (lv_at hl 0 rfl) ?_
  refine lv_iconst (v := 0) hx hb dX3_clear_6 (by decide) ?_
  refine uX3_2 hi0 E ha mw_117 dX3_clear_7 hP hS (fun s2 es2 H locs hP hS => ?_)
  replace hw := hw s2 es2
  exact g_vret E hw hP hS dX3_clear_10
theorem c_X3_clear (l : Launch) (D : va_G) (cy : Nat → ClassId) (ad : Nat → Nat → Nat) (ha : Apart regsC ad) {post : St → Prop} {σ : St} {i0 : Nat} (hi0 : i0 < 15) (hw : w_X3_clear post σ i0) (sz : Nat) : MetV l yX3_clear cX3_clear 1 rm_X3_clear [.ref (ad 17 i0)] D cy (cellC cy ad) regsC ad σ sz post :=
  Met_inV ok_X3_clear.2.2.2.2.2 (Nat.le_of_ble_eq_true rfl) (fun p e s m below meth c ls E hP hl => B_X3_clear_0 E ha hi0 hw hP va_S.rf hl)
-- RoofWar$Law.addCode(I)V
theorem dX3_addCode_0 : decode cX3_addCode 0 = .ok (.aload_n 0, 1) := by decide +kernel
theorem dX3_addCode_1 : decode cX3_addCode 1 = .ok (.getfield 19, 3) := by decide +kernel
theorem dX3_addCode_4 : decode cX3_addCode 4 = .ok (.bipush 96, 2) := by decide +kernel
theorem dX3_addCode_6 : decode cX3_addCode 6 = .ok (.if_icmp .ge 23, 3) := by decide +kernel
theorem dX3_addCode_9 : decode cX3_addCode 9 = .ok (.aload_n 0, 1) := by decide +kernel
theorem dX3_addCode_10 : decode cX3_addCode 10 = .ok (.getfield 9, 3) := by decide +kernel
theorem dX3_addCode_13 : decode cX3_addCode 13 = .ok (.aload_n 0, 1) := by decide +kernel
theorem dX3_addCode_14 : decode cX3_addCode 14 = .ok (.getfield 19, 3) := by decide +kernel
theorem dX3_addCode_17 : decode cX3_addCode 17 = .ok (.iload_n 1, 1) := by decide +kernel
theorem dX3_addCode_18 : decode cX3_addCode 18 = .ok (.iastore, 1) := by decide +kernel
theorem dX3_addCode_19 : decode cX3_addCode 19 = .ok (.aload_n 0, 1) := by decide +kernel
theorem dX3_addCode_20 : decode cX3_addCode 20 = .ok (.dup, 1) := by decide +kernel
theorem dX3_addCode_21 : decode cX3_addCode 21 = .ok (.getfield 19, 3) := by decide +kernel
theorem dX3_addCode_24 : decode cX3_addCode 24 = .ok (.iconst 1, 1) := by decide +kernel
theorem dX3_addCode_25 : decode cX3_addCode 25 = .ok (.iadd, 1) := by decide +kernel
theorem dX3_addCode_26 : decode cX3_addCode 26 = .ok (.putfield 19, 3) := by decide +kernel
theorem dX3_addCode_29 : decode cX3_addCode 29 = .ok (.return_, 1) := by decide +kernel
theorem ok_X3_addCode : okV yX3_addCode cX3_addCode 2 none 1 := ⟨mw_766, mw_16, mw_76, mw_767, by decide +kernel, by decide +kernel⟩
abbrev rm_X3_addCode : Room := { frames := 0, cells := 0, slots := 0, locals := 0 }
def w_X3_addCode (post : St → Prop) (σ : St) (i0 : Nat) (x1 : Int32) : Prop := ((96 ≤ (σ 17 i0 2) → (post σ)) ∧ (¬ 96 ≤ (σ 17 i0 2) → (vp_in (σ 17 i0 2) 96 ∧ (∀ s3 : St, s3 = wr σ 18 i0 (σ 17 i0 2).toNatClampNeg x1 → (∀ s4 : St, s4 = wr s3 17 i0 2 ((s3 17 i0 2) + 1) → (post s4))))))
theorem B_X3_addCode_0 (E : EnvW p s m args meth c D cy regsC ad "RoofWar$Law" cX3_addCode 2 none) (ha : Apart regsC ad) {post : St → Prop} {σ : St} {i0 : Nat} {x1 : Int32} (hi0 : i0 < 15) (hw : w_X3_addCode post σ i0 x1) {H : Heap} {locs : List Loc} {ls : Array Slot} (hP : va_P D CLS (wC cy ad σ) H) (hS : va_S (AC ad s.heap.size) s.heap H locs) (hl : lv_has ls 2 [(0, .ref (ad 17 i0)), (1, .int x1)]) : W p l e rm_X3_addCode s m args below meth c H locs 0 0 (MQ below (QV D cy (cellC cy ad) regsC ad s.heap.size post) args s 0 0 (AC ad s.heap.size)) (F0 m 0 ls []) := by
  obtain ⟨hx, hb, -⟩ := id E
  unfold w_X3_addCode at hw
  refine lv_aload_n hx hb dX3_addCode_0 rfl (lv_at hl 0 rfl) ?_
  refine fX3_2 hi0 E hP mw_117 dX3_addCode_1 ?_
  refine lv_bipush (v := 96) hx hb dX3_addCode_4 (by decide) ?_
  refine lv_icmp_ge (tgt := 29) hx hb dX3_addCode_6 (by decide) (fun c1 => ?_) (fun c1 => ?_)
  · replace hw := hw.1 c1
    exact g_vret E hw hP hS dX3_addCode_29
  · replace hw := hw.2 c1
    refine lv_aload_n hx hb dX3_addCode_9 rfl (lv_at hl 0 rfl) ?_
    refine fX3_3 hi0 E hP mw_119 dX3_addCode_10 ?_
    refine lv_aload_n hx hb dX3_addCode_13 rfl (lv_at hl 0 rfl) ?_
    refine fX3_2 hi0 E hP mw_117 dX3_addCode_14 ?_
    refine lv_iload_n hx hb dX3_addCode_17 rfl (lv_at hl 1 rfl) ?_
    obtain ⟨h2, hw⟩ := hw
    refine tC18 hi0 E ha h2 dX3_addCode_18 hP hS (fun s3 es3 H locs hP hS => ?_)
    replace hw := hw s3 es3
    refine lv_aload_n hx hb dX3_addCode_19 rfl (lv_at hl 0 rfl) ?_
    refine lv_dup hx hb dX3_addCode_20 rfl ?_
    refine fX3_2 hi0 E hP mw_117 dX3_addCode_21 ?_
    refine lv_iconst (v := 1) hx hb dX3_addCode_24 (by decide) ?_
    refine lv_iadd hx hb dX3_addCode_25 ?_
    refine uX3_2 hi0 E ha mw_117 dX3_addCode_26 hP hS (fun s4 es4 H locs hP hS => ?_)
    replace hw := hw s4 es4
    exact g_vret E hw hP hS dX3_addCode_29
theorem c_X3_addCode (l : Launch) (D : va_G) (cy : Nat → ClassId) (ad : Nat → Nat → Nat) (ha : Apart regsC ad) {post : St → Prop} {σ : St} {i0 : Nat} {x1 : Int32} (hi0 : i0 < 15) (hw : w_X3_addCode post σ i0 x1) (sz : Nat) : MetV l yX3_addCode cX3_addCode 2 rm_X3_addCode [.ref (ad 17 i0), .int x1] D cy (cellC cy ad) regsC ad σ sz post :=
  Met_inV ok_X3_addCode.2.2.2.2.2 (Nat.le_of_ble_eq_true rfl) (fun p e s m below meth c ls E hP hl => B_X3_addCode_0 E ha hi0 hw hP va_S.rf hl)
-- RoofWar$Law.addLeaf(I)V
theorem dX3_addLeaf_0 : decode cX3_addLeaf 0 = .ok (.aload_n 0, 1) := by decide +kernel
theorem dX3_addLeaf_1 : decode cX3_addLeaf 1 = .ok (.dup, 1) := by decide +kernel
theorem dX3_addLeaf_2 : decode cX3_addLeaf 2 = .ok (.getfield 15, 3) := by decide +kernel
theorem dX3_addLeaf_5 : decode cX3_addLeaf 5 = .ok (.iconst 1, 1) := by decide +kernel
theorem dX3_addLeaf_6 : decode cX3_addLeaf 6 = .ok (.iadd, 1) := by decide +kernel
theorem dX3_addLeaf_7 : decode cX3_addLeaf 7 = .ok (.putfield 15, 3) := by decide +kernel
theorem dX3_addLeaf_10 : decode cX3_addLeaf 10 = .ok (.aload_n 0, 1) := by decide +kernel
theorem dX3_addLeaf_11 : decode cX3_addLeaf 11 = .ok (.iload_n 1, 1) := by decide +kernel
theorem dX3_addLeaf_12 : decode cX3_addLeaf 12 = .ok (.invokevirtual 22, 3) := by decide +kernel
theorem dX3_addLeaf_15 : decode cX3_addLeaf 15 = .ok (.return_, 1) := by decide +kernel
theorem ok_X3_addLeaf : okV yX3_addLeaf cX3_addLeaf 2 none 1 := ⟨mw_762, mw_763, mw_76, mw_764, by decide +kernel, by decide +kernel⟩
abbrev rm_X3_addLeaf : Room := { frames := 1, cells := 0, slots := 0, locals := 21 }
def w_X3_addLeaf (post : St → Prop) (σ : St) (i0 : Nat) (x1 : Int32) : Prop := ∀ s1 : St, s1 = wr σ 17 i0 1 ((σ 17 i0 1) + 1) → (w_X3_addCode (fun s2 => post s2) s1 i0 x1)
theorem B_X3_addLeaf_0 (E : EnvW p s m args meth c D cy regsC ad "RoofWar$Law" cX3_addLeaf 2 none) (ha : Apart regsC ad) {post : St → Prop} {σ : St} {i0 : Nat} {x1 : Int32} (hi0 : i0 < 15) (hw : w_X3_addLeaf post σ i0 x1) {H : Heap} {locs : List Loc} {ls : Array Slot} (hP : va_P D CLS (wC cy ad σ) H) (hS : va_S (AC ad s.heap.size) s.heap H locs) (hl : lv_has ls 2 [(0, .ref (ad 17 i0)), (1, .int x1)]) : W p l e rm_X3_addLeaf s m args below meth c H locs 0 0 (MQ below (QV D cy (cellC cy ad) regsC ad s.heap.size post) args s 0 0 (AC ad s.heap.size)) (F0 m 0 ls []) := by
  obtain ⟨hx, hb, -⟩ := id E
  unfold w_X3_addLeaf at hw
  refine lv_aload_n hx hb dX3_addLeaf_0 rfl (lv_at hl 0 rfl) ?_
  refine lv_dup hx hb dX3_addLeaf_1 rfl ?_
  refine fX3_1 hi0 E hP mw_115 dX3_addLeaf_2 ?_
  refine lv_iconst (v := 1) hx hb dX3_addLeaf_5 (by decide) ?_
  refine lv_iadd hx hb dX3_addLeaf_6 ?_
  refine uX3_1 hi0 E ha mw_115 dX3_addLeaf_7 hP hS (fun s1 es1 H locs hP hS => ?_)
  replace hw := hw s1 es1
  refine lv_aload_n hx hb dX3_addLeaf_10 rfl (lv_at hl 0 rfl) ?_
  refine lv_iload_n hx hb dX3_addLeaf_11 rfl (lv_at hl 1 rfl) ?_
  refine g_cVv (As := [.int x1]) (rest := []) E hl.1 (c_X3_addCode l D cy ad ha hi0 hw _) ok_X3_addCode mw_765 ⟨(Nat.le_of_ble_eq_true rfl), (Nat.le_of_ble_eq_true rfl)⟩ ⟨rfl, rfl⟩ (rC17 hi0) rfl rfl rfl rfl rfl (Nat.le_of_ble_eq_true rfl) ⟨Nat.zero_le _, Nat.zero_le _⟩ hP hS dX3_addLeaf_12 (fun s2 hw H locs hP hS => ?_)
  exact g_vret E hw hP hS dX3_addLeaf_15
theorem c_X3_addLeaf (l : Launch) (D : va_G) (cy : Nat → ClassId) (ad : Nat → Nat → Nat) (ha : Apart regsC ad) {post : St → Prop} {σ : St} {i0 : Nat} {x1 : Int32} (hi0 : i0 < 15) (hw : w_X3_addLeaf post σ i0 x1) (sz : Nat) : MetV l yX3_addLeaf cX3_addLeaf 2 rm_X3_addLeaf [.ref (ad 17 i0), .int x1] D cy (cellC cy ad) regsC ad σ sz post :=
  Met_inV ok_X3_addLeaf.2.2.2.2.2 (Nat.le_of_ble_eq_true rfl) (fun p e s m below meth c ls E hP hl => B_X3_addLeaf_0 E ha hi0 hw hP va_S.rf hl)
-- RoofWar$Law.addOperation(I)V
theorem dX3_addOperation_0 : decode cX3_addOperation 0 = .ok (.aload_n 0, 1) := by decide +kernel
theorem dX3_addOperation_1 : decode cX3_addOperation 1 = .ok (.sipush 10000, 3) := by decide +kernel
theorem dX3_addOperation_4 : decode cX3_addOperation 4 = .ok (.iload_n 1, 1) := by decide +kernel
theorem dX3_addOperation_5 : decode cX3_addOperation 5 = .ok (.iadd, 1) := by decide +kernel
theorem dX3_addOperation_6 : decode cX3_addOperation 6 = .ok (.invokevirtual 22, 3) := by decide +kernel
theorem dX3_addOperation_9 : decode cX3_addOperation 9 = .ok (.return_, 1) := by decide +kernel
theorem ok_X3_addOperation : okV yX3_addOperation cX3_addOperation 2 none 1 := ⟨mw_836, mw_837, mw_76, mw_838, by decide +kernel, by decide +kernel⟩
abbrev rm_X3_addOperation : Room := { frames := 1, cells := 0, slots := 0, locals := 21 }
def w_X3_addOperation (post : St → Prop) (σ : St) (i0 : Nat) (x1 : Int32) : Prop := w_X3_addCode (fun s1 => post s1) σ i0 (10000 + x1)
theorem B_X3_addOperation_0 (E : EnvW p s m args meth c D cy regsC ad "RoofWar$Law" cX3_addOperation 2 none) (ha : Apart regsC ad) {post : St → Prop} {σ : St} {i0 : Nat} {x1 : Int32} (hi0 : i0 < 15) (hw : w_X3_addOperation post σ i0 x1) {H : Heap} {locs : List Loc} {ls : Array Slot} (hP : va_P D CLS (wC cy ad σ) H) (hS : va_S (AC ad s.heap.size) s.heap H locs) (hl : lv_has ls 2 [(0, .ref (ad 17 i0)), (1, .int x1)]) : W p l e rm_X3_addOperation s m args below meth c H locs 0 0 (MQ below (QV D cy (cellC cy ad) regsC ad s.heap.size post) args s 0 0 (AC ad s.heap.size)) (F0 m 0 ls []) := by
  obtain ⟨hx, hb, -⟩ := id E
  unfold w_X3_addOperation at hw
  refine lv_aload_n hx hb dX3_addOperation_0 rfl (lv_at hl 0 rfl) ?_
  refine lv_sipush (v := 10000) hx hb dX3_addOperation_1 (by decide) ?_
  refine lv_iload_n hx hb dX3_addOperation_4 rfl (lv_at hl 1 rfl) ?_
  refine lv_iadd hx hb dX3_addOperation_5 ?_
  refine g_cVv (As := [.int (10000 + x1)]) (rest := []) E hl.1 (c_X3_addCode l D cy ad ha hi0 hw _) ok_X3_addCode mw_765 ⟨(Nat.le_of_ble_eq_true rfl), (Nat.le_of_ble_eq_true rfl)⟩ ⟨rfl, rfl⟩ (rC17 hi0) rfl rfl rfl rfl rfl (Nat.le_of_ble_eq_true rfl) ⟨Nat.zero_le _, Nat.zero_le _⟩ hP hS dX3_addOperation_6 (fun s1 hw H locs hP hS => ?_)
  exact g_vret E hw hP hS dX3_addOperation_9
theorem c_X3_addOperation (l : Launch) (D : va_G) (cy : Nat → ClassId) (ad : Nat → Nat → Nat) (ha : Apart regsC ad) {post : St → Prop} {σ : St} {i0 : Nat} {x1 : Int32} (hi0 : i0 < 15) (hw : w_X3_addOperation post σ i0 x1) (sz : Nat) : MetV l yX3_addOperation cX3_addOperation 2 rm_X3_addOperation [.ref (ad 17 i0), .int x1] D cy (cellC cy ad) regsC ad σ sz post :=
  Met_inV ok_X3_addOperation.2.2.2.2.2 (Nat.le_of_ble_eq_true rfl) (fun p e s m below meth c ls E hP hl => B_X3_addOperation_0 E ha hi0 hw hP va_S.rf hl)
-- RoofWar$Row.renew(II)V
theorem dX6_renew_0 : decode cX6_renew 0 = .ok (.aload_n 0, 1) := by decide +kernel
theorem dX6_renew_1 : decode cX6_renew 1 = .ok (.iload_n 1, 1) := by decide +kernel
theorem dX6_renew_2 : decode cX6_renew 2 = .ok (.putfield 11, 3) := by decide +kernel
theorem dX6_renew_5 : decode cX6_renew 5 = .ok (.aload_n 0, 1) := by decide +kernel
theorem dX6_renew_6 : decode cX6_renew 6 = .ok (.iload_n 2, 1) := by decide +kernel
theorem dX6_renew_7 : decode cX6_renew 7 = .ok (.putfield 19, 3) := by decide +kernel
theorem dX6_renew_10 : decode cX6_renew 10 = .ok (.iconst 0, 1) := by decide +kernel
theorem dX6_renew_11 : decode cX6_renew 11 = .ok (.istore_n 3, 1) := by decide +kernel
theorem dX6_renew_12 : decode cX6_renew 12 = .ok (.iload_n 3, 1) := by decide +kernel
theorem dX6_renew_13 : decode cX6_renew 13 = .ok (.iload_n 2, 1) := by decide +kernel
theorem dX6_renew_14 : decode cX6_renew 14 = .ok (.if_icmp .ge 16, 3) := by decide +kernel
theorem dX6_renew_17 : decode cX6_renew 17 = .ok (.aload_n 0, 1) := by decide +kernel
theorem dX6_renew_18 : decode cX6_renew 18 = .ok (.getfield 15, 3) := by decide +kernel
theorem dX6_renew_21 : decode cX6_renew 21 = .ok (.iload_n 3, 1) := by decide +kernel
theorem dX6_renew_22 : decode cX6_renew 22 = .ok (.iconst 0, 1) := by decide +kernel
theorem dX6_renew_23 : decode cX6_renew 23 = .ok (.iastore, 1) := by decide +kernel
theorem dX6_renew_24 : decode cX6_renew 24 = .ok (.iinc 3 1, 3) := by decide +kernel
theorem dX6_renew_27 : decode cX6_renew 27 = .ok (.goto (-15), 3) := by decide +kernel
theorem dX6_renew_30 : decode cX6_renew 30 = .ok (.return_, 1) := by decide +kernel
theorem ok_X6_renew : okV yX6_renew cX6_renew 4 none 2 := ⟨mw_860, mw_861, mw_81, mw_862, by decide +kernel, by decide +kernel⟩
abbrev rm_X6_renew : Room := { frames := 0, cells := 0, slots := 0, locals := 0 }
def b_X6_renew_12 (K12 : St → Nat → Int32 → Int32 → Prop) (post : St → Prop) (σ : St) (i0 : Nat) (x2 : Int32) (x3 : Int32) : Prop := ((x2 ≤ x3 → (post σ)) ∧ (¬ x2 ≤ x3 → (vp_in x3 24 ∧ (∀ s3 : St, s3 = wr σ 23 i0 x3.toNatClampNeg 0 → (∀ v4 : Int32, v4 = x3 + 1 → (K12 s3 i0 x2 v4))))))
noncomputable def l_X6_renew_12 (post : St → Prop) : Nat → St → Nat → Int32 → Int32 → Prop := fun n => Nat.rec (motive := fun _ => St → Nat → Int32 → Int32 → Prop) (fun _ _ _ _ => False) (fun _ ih => b_X6_renew_12 ih post) n
theorem L_X6_renew_12 (E : EnvW p s m args meth c D cy regsC ad "RoofWar$Row" cX6_renew 4 none) (ha : Apart regsC ad) {post : St → Prop} : ∀ (n : Nat), ∀ (σ : St) (i0 : Nat) (x2 : Int32) (x3 : Int32), i0 < 9 → l_X6_renew_12 post n σ i0 x2 x3 → ∀ (H : Heap) (locs : List Loc) (ls : Array Slot), va_P D CLS (wC cy ad σ) H → va_S (AC ad s.heap.size) s.heap H locs → lv_has ls 4 [(0, .ref (ad 22 i0)), (2, .int x2), (3, .int x3)] → W p l e rm_X6_renew s m args below meth c H locs 0 0 (MQ below (QV D cy (cellC cy ad) regsC ad s.heap.size post) args s 0 0 (AC ad s.heap.size)) (F0 m 12 ls []) := by
  obtain ⟨hx, hb, -⟩ := id E
  intro n
  induction n with
  | zero => intro σ i0 x2 x3 hi0 hw; exact hw.elim
  | succ n hk12 =>
    intro σ i0 x2 x3 hi0 hw H locs ls hP hS hl
    replace hw : b_X6_renew_12 (l_X6_renew_12 post n) post σ i0 x2 x3 := hw
    unfold b_X6_renew_12 at hw
    refine lv_iload_n hx hb dX6_renew_12 rfl (lv_at hl 2 rfl) ?_
    refine lv_iload_n hx hb dX6_renew_13 rfl (lv_at hl 1 rfl) ?_
    refine lv_icmp_ge (tgt := 30) hx hb dX6_renew_14 (by decide) (fun c1 => ?_) (fun c1 => ?_)
    · replace hw := hw.1 c1
      exact g_vret E hw hP hS dX6_renew_30
    · replace hw := hw.2 c1
      refine lv_aload_n hx hb dX6_renew_17 rfl (lv_at hl 0 rfl) ?_
      refine fX6_2 hi0 E hP mw_291 dX6_renew_18 ?_
      refine lv_iload_n hx hb dX6_renew_21 rfl (lv_at hl 2 rfl) ?_
      refine lv_iconst (v := 0) hx hb dX6_renew_22 (by decide) ?_
      obtain ⟨h2, hw⟩ := hw
      refine tC23 hi0 E ha h2 dX6_renew_23 hP hS (fun s3 es3 H locs hP hS => ?_)
      replace hw := hw s3 es3
      obtain ⟨v4, ev4⟩ : ∃ y : Int32, y = x3 + 1 := ⟨_, rfl⟩
      replace hw := hw v4 ev4
      refine lv_iinc (v := v4) (lv' := [(3, .int v4), (0, .ref (ad 22 i0)), (2, .int x2)]) hx hb dX6_renew_24 hl (k := 2) rfl (by rw [ev4]; rfl) (by decide) rfl (fun ls hl => ?_)
      refine lv_goto (tgt := 12) hx hb dX6_renew_27 (by decide) ?_
      exact hk12 s3 i0 x2 v4 hi0 hw _ _ _ hP hS (lv_sub hl [1, 2, 0] rfl)
def w_X6_renew (post : St → Prop) (σ : St) (i0 : Nat) (x1 : Int32) (x2 : Int32) : Prop := ∀ s1 : St, s1 = wr σ 22 i0 0 x1 → (∀ s2 : St, s2 = wr s1 22 i0 1 x2 → (∃ n3 : Nat, l_X6_renew_12 post n3 s2 i0 x2 (0 : Int32)))
theorem B_X6_renew_0 (E : EnvW p s m args meth c D cy regsC ad "RoofWar$Row" cX6_renew 4 none) (ha : Apart regsC ad) {post : St → Prop} {σ : St} {i0 : Nat} {x1 : Int32} {x2 : Int32} (hi0 : i0 < 9) (hw : w_X6_renew post σ i0 x1 x2) {H : Heap} {locs : List Loc} {ls : Array Slot} (hP : va_P D CLS (wC cy ad σ) H) (hS : va_S (AC ad s.heap.size) s.heap H locs) (hl : lv_has ls 4 [(0, .ref (ad 22 i0)), (1, .int x1), (2, .int x2)]) : W p l e rm_X6_renew s m args below meth c H locs 0 0 (MQ below (QV D cy (cellC cy ad) regsC ad s.heap.size post) args s 0 0 (AC ad s.heap.size)) (F0 m 0 ls []) := by
  obtain ⟨hx, hb, -⟩ := id E
  unfold w_X6_renew at hw
  refine lv_aload_n hx hb dX6_renew_0 rfl (lv_at hl 0 rfl) ?_
  refine lv_iload_n hx hb dX6_renew_1 rfl (lv_at hl 1 rfl) ?_
  refine uX6_0 hi0 E ha mw_287 dX6_renew_2 hP hS (fun s1 es1 H locs hP hS => ?_)
  replace hw := hw s1 es1
  refine lv_aload_n hx hb dX6_renew_5 rfl (lv_at hl 0 rfl) ?_
  refine lv_iload_n hx hb dX6_renew_6 rfl (lv_at hl 2 rfl) ?_
  refine uX6_1 hi0 E ha mw_289 dX6_renew_7 hP hS (fun s2 es2 H locs hP hS => ?_)
  replace hw := hw s2 es2
  refine lv_iconst (v := 0) hx hb dX6_renew_10 (by decide) ?_
  refine lv_istore_n (lv' := [(3, .int 0), (0, .ref (ad 22 i0)), (1, .int x1), (2, .int x2)]) hx hb dX6_renew_11 rfl hl (by decide) rfl (fun ls hl => ?_)
  obtain ⟨n3, hw⟩ := hw
  exact L_X6_renew_12 E ha n3 s2 i0 x2 (0 : Int32) hi0 hw _ _ _ hP hS (lv_sub hl [1, 3, 0] rfl)
theorem c_X6_renew (l : Launch) (D : va_G) (cy : Nat → ClassId) (ad : Nat → Nat → Nat) (ha : Apart regsC ad) {post : St → Prop} {σ : St} {i0 : Nat} {x1 : Int32} {x2 : Int32} (hi0 : i0 < 9) (hw : w_X6_renew post σ i0 x1 x2) (sz : Nat) : MetV l yX6_renew cX6_renew 4 rm_X6_renew [.ref (ad 22 i0), .int x1, .int x2] D cy (cellC cy ad) regsC ad σ sz post :=
  Met_inV ok_X6_renew.2.2.2.2.2 (Nat.le_of_ble_eq_true rfl) (fun p e s m below meth c ls E hP hl => B_X6_renew_0 E ha hi0 hw hP va_S.rf hl)
-- RoofWar$Row.becomeLike(LRoofWar$Row;)V
theorem dX6_becomeLike_0 : decode cX6_becomeLike 0 = .ok (.aload_n 0, 1) := by decide +kernel
theorem dX6_becomeLike_1 : decode cX6_becomeLike 1 = .ok (.aload_n 1, 1) := by decide +kernel
theorem dX6_becomeLike_2 : decode cX6_becomeLike 2 = .ok (.getfield 11, 3) := by decide +kernel
theorem dX6_becomeLike_5 : decode cX6_becomeLike 5 = .ok (.putfield 11, 3) := by decide +kernel
theorem dX6_becomeLike_8 : decode cX6_becomeLike 8 = .ok (.aload_n 0, 1) := by decide +kernel
theorem dX6_becomeLike_9 : decode cX6_becomeLike 9 = .ok (.aload_n 1, 1) := by decide +kernel
theorem dX6_becomeLike_10 : decode cX6_becomeLike 10 = .ok (.getfield 19, 3) := by decide +kernel
theorem dX6_becomeLike_13 : decode cX6_becomeLike 13 = .ok (.putfield 19, 3) := by decide +kernel
theorem dX6_becomeLike_16 : decode cX6_becomeLike 16 = .ok (.aload_n 1, 1) := by decide +kernel
theorem dX6_becomeLike_17 : decode cX6_becomeLike 17 = .ok (.getfield 15, 3) := by decide +kernel
theorem dX6_becomeLike_20 : decode cX6_becomeLike 20 = .ok (.iconst 0, 1) := by decide +kernel
theorem dX6_becomeLike_21 : decode cX6_becomeLike 21 = .ok (.aload_n 0, 1) := by decide +kernel
theorem dX6_becomeLike_22 : decode cX6_becomeLike 22 = .ok (.getfield 15, 3) := by decide +kernel
theorem dX6_becomeLike_25 : decode cX6_becomeLike 25 = .ok (.iconst 0, 1) := by decide +kernel
theorem dX6_becomeLike_26 : decode cX6_becomeLike 26 = .ok (.bipush 24, 2) := by decide +kernel
theorem dX6_becomeLike_28 : decode cX6_becomeLike 28 = .ok (.invokestatic 22, 3) := by decide +kernel
theorem dX6_becomeLike_31 : decode cX6_becomeLike 31 = .ok (.return_, 1) := by decide +kernel
theorem ok_X6_becomeLike : okV yX6_becomeLike cX6_becomeLike 2 none 1 := ⟨mw_901, mw_902, mw_81, mw_903, by decide +kernel, by decide +kernel⟩
abbrev rm_X6_becomeLike : Room := { frames := 1, cells := 0, slots := 0, locals := 100 }
def w_X6_becomeLike (post : St → Prop) (σ : St) (i0 : Nat) (i1 : Nat) : Prop := ∀ s1 : St, s1 = wr σ 22 i0 0 (σ 22 i1 0) → (∀ s2 : St, s2 = wr s1 22 i0 1 (s1 22 i1 1) → ((¬ (0 : Int32) < 0 ∧ ¬ (0 : Int32) < 0 ∧ ¬ (24 : Int32) < 0 ∧ (0 : Int32).toNatClampNeg + (24 : Int32).toNatClampNeg ≤ 24 ∧ (0 : Int32).toNatClampNeg + (24 : Int32).toNatClampNeg ≤ 24) ∧ (∀ s4 : St, s4 = wrR s2 23 i0 (va_cpy (s2 23 i1) (s2 23 i0) (0 : Int32).toNatClampNeg (0 : Int32).toNatClampNeg (24 : Int32).toNatClampNeg) → (post s4))))
theorem B_X6_becomeLike_0 (E : EnvW p s m args meth c D cy regsC ad "RoofWar$Row" cX6_becomeLike 2 none) (ha : Apart regsC ad) {post : St → Prop} {σ : St} {i0 : Nat} {i1 : Nat} (hi0 : i0 < 9) (hi1 : i1 < 9) (hw : w_X6_becomeLike post σ i0 i1) {H : Heap} {locs : List Loc} {ls : Array Slot} (hP : va_P D CLS (wC cy ad σ) H) (hS : va_S (AC ad s.heap.size) s.heap H locs) (hl : lv_has ls 2 [(0, .ref (ad 22 i0)), (1, .ref (ad 22 i1))]) : W p l e rm_X6_becomeLike s m args below meth c H locs 0 0 (MQ below (QV D cy (cellC cy ad) regsC ad s.heap.size post) args s 0 0 (AC ad s.heap.size)) (F0 m 0 ls []) := by
  obtain ⟨hx, hb, -⟩ := id E
  unfold w_X6_becomeLike at hw
  refine lv_aload_n hx hb dX6_becomeLike_0 rfl (lv_at hl 0 rfl) ?_
  refine lv_aload_n hx hb dX6_becomeLike_1 rfl (lv_at hl 1 rfl) ?_
  refine fX6_0 hi1 E hP mw_287 dX6_becomeLike_2 ?_
  refine uX6_0 hi0 E ha mw_287 dX6_becomeLike_5 hP hS (fun s1 es1 H locs hP hS => ?_)
  replace hw := hw s1 es1
  refine lv_aload_n hx hb dX6_becomeLike_8 rfl (lv_at hl 0 rfl) ?_
  refine lv_aload_n hx hb dX6_becomeLike_9 rfl (lv_at hl 1 rfl) ?_
  refine fX6_1 hi1 E hP mw_289 dX6_becomeLike_10 ?_
  refine uX6_1 hi0 E ha mw_289 dX6_becomeLike_13 hP hS (fun s2 es2 H locs hP hS => ?_)
  replace hw := hw s2 es2
  refine lv_aload_n hx hb dX6_becomeLike_16 rfl (lv_at hl 1 rfl) ?_
  refine fX6_2 hi1 E hP mw_291 dX6_becomeLike_17 ?_
  refine lv_iconst (v := 0) hx hb dX6_becomeLike_20 (by decide) ?_
  refine lv_aload_n hx hb dX6_becomeLike_21 rfl (lv_at hl 0 rfl) ?_
  refine fX6_2 hi0 E hP mw_291 dX6_becomeLike_22 ?_
  refine lv_iconst (v := 0) hx hb dX6_becomeLike_25 (by decide) ?_
  refine lv_bipush (v := 24) hx hb dX6_becomeLike_26 (by decide) ?_
  obtain ⟨h3, hw⟩ := hw
  refine g_copy E hl.1 ha mw_904 (rC23 hi1) (fun _ => rfl) (rC23 hi0) (fun _ => rfl) mw_623 mw_622 mw_87 h3 ⟨(Nat.le_of_ble_eq_true rfl), by decide⟩ dX6_becomeLike_28 hP hS (fun s4 es4 H locs hP hS => ?_)
  replace hw := hw s4 es4
  exact g_vret E hw hP hS dX6_becomeLike_31
theorem c_X6_becomeLike (l : Launch) (D : va_G) (cy : Nat → ClassId) (ad : Nat → Nat → Nat) (ha : Apart regsC ad) {post : St → Prop} {σ : St} {i0 : Nat} {i1 : Nat} (hi0 : i0 < 9) (hi1 : i1 < 9) (hw : w_X6_becomeLike post σ i0 i1) (sz : Nat) : MetV l yX6_becomeLike cX6_becomeLike 2 rm_X6_becomeLike [.ref (ad 22 i0), .ref (ad 22 i1)] D cy (cellC cy ad) regsC ad σ sz post :=
  Met_inV ok_X6_becomeLike.2.2.2.2.2 (Nat.le_of_ble_eq_true rfl) (fun p e s m below meth c ls E hP hl => B_X6_becomeLike_0 E ha hi0 hi1 hw hP va_S.rf hl)
-- RoofWar$Row.isMissing()Z
theorem dX6_isMissing_0 : decode cX6_isMissing 0 = .ok (.aload_n 0, 1) := by decide +kernel
theorem dX6_isMissing_1 : decode cX6_isMissing 1 = .ok (.getfield 11, 3) := by decide +kernel
theorem dX6_isMissing_4 : decode cX6_isMissing 4 = .ok (.iconst (-1), 1) := by decide +kernel
theorem dX6_isMissing_5 : decode cX6_isMissing 5 = .ok (.if_icmp .ne 7, 3) := by decide +kernel
theorem dX6_isMissing_8 : decode cX6_isMissing 8 = .ok (.iconst 1, 1) := by decide +kernel
theorem dX6_isMissing_9 : decode cX6_isMissing 9 = .ok (.goto 4, 3) := by decide +kernel
theorem dX6_isMissing_12 : decode cX6_isMissing 12 = .ok (.iconst 0, 1) := by decide +kernel
theorem dX6_isMissing_13 : decode cX6_isMissing 13 = .ok (.ireturn, 1) := by decide +kernel
theorem ok_X6_isMissing : okV yX6_isMissing cX6_isMissing 1 (some .boolean) 0 := ⟨mw_645, mw_646, mw_81, mw_647, by decide +kernel, by decide +kernel⟩
abbrev rm_X6_isMissing : Room := { frames := 0, cells := 0, slots := 0, locals := 0 }
def w_X6_isMissing (post : Int32 → St → Prop) (σ : St) (i0 : Nat) : Prop := ((¬ (σ 22 i0 0) = ((-1)) → (post 0 σ)) ∧ ((σ 22 i0 0) = ((-1)) → (post 1 σ)))
theorem B_X6_isMissing_0 (E : EnvW p s m args meth c D cy regsC ad "RoofWar$Row" cX6_isMissing 1 (some .boolean)) (ha : Apart regsC ad) {post : Int32 → St → Prop} {σ : St} {i0 : Nat} (hi0 : i0 < 9) (hw : w_X6_isMissing post σ i0) {H : Heap} {locs : List Loc} {ls : Array Slot} (hP : va_P D CLS (wC cy ad σ) H) (hS : va_S (AC ad s.heap.size) s.heap H locs) (hl : lv_has ls 1 [(0, .ref (ad 22 i0))]) : W p l e rm_X6_isMissing s m args below meth c H locs 0 0 (MQ below (QI D cy (cellC cy ad) regsC ad s.heap.size (fun r u => (r = 0 ∨ r = 1) ∧ post r u)) args s 0 0 (AC ad s.heap.size)) (F0 m 0 ls []) := by
  obtain ⟨hx, hb, -⟩ := id E
  unfold w_X6_isMissing at hw
  refine lv_aload_n hx hb dX6_isMissing_0 rfl (lv_at hl 0 rfl) ?_
  refine fX6_0 hi0 E hP mw_287 dX6_isMissing_1 ?_
  refine lv_iconst (v := -1) hx hb dX6_isMissing_4 (by decide) ?_
  refine lv_icmp_ne (tgt := 12) hx hb dX6_isMissing_5 (by decide) (fun c1 => ?_) (fun c1 => ?_)
  · replace hw := hw.1 c1
    refine lv_iconst (v := 0) hx hb dX6_isMissing_12 (by decide) ?_
    exact g_zret E (Or.inl rfl) hw hP hS dX6_isMissing_13
  · replace hw := hw.2 c1
    refine lv_iconst (v := 1) hx hb dX6_isMissing_8 (by decide) ?_
    refine lv_goto (tgt := 13) hx hb dX6_isMissing_9 (by decide) ?_
    exact g_zret E (Or.inr rfl) hw hP hS dX6_isMissing_13
theorem c_X6_isMissing (l : Launch) (D : va_G) (cy : Nat → ClassId) (ad : Nat → Nat → Nat) (ha : Apart regsC ad) {post : Int32 → St → Prop} {σ : St} {i0 : Nat} (hi0 : i0 < 9) (hw : w_X6_isMissing post σ i0) (sz : Nat) : MetI l yX6_isMissing cX6_isMissing 1 .boolean rm_X6_isMissing [.ref (ad 22 i0)] D cy (cellC cy ad) regsC ad σ sz (fun r u => (r = 0 ∨ r = 1) ∧ post r u) :=
  Met_inI ok_X6_isMissing.2.2.2.2.2 (Nat.le_of_ble_eq_true rfl) (fun p e s m below meth c ls E hP hl => B_X6_isMissing_0 E ha hi0 hw hP va_S.rf hl)
-- RoofWar$Row.hasPlace(I)Z
theorem dX6_hasPlace_0 : decode cX6_hasPlace 0 = .ok (.iload_n 1, 1) := by decide +kernel
theorem dX6_hasPlace_1 : decode cX6_hasPlace 1 = .ok (.ifCond .lt 15, 3) := by decide +kernel
theorem dX6_hasPlace_4 : decode cX6_hasPlace 4 = .ok (.iload_n 1, 1) := by decide +kernel
theorem dX6_hasPlace_5 : decode cX6_hasPlace 5 = .ok (.aload_n 0, 1) := by decide +kernel
theorem dX6_hasPlace_6 : decode cX6_hasPlace 6 = .ok (.getfield 19, 3) := by decide +kernel
theorem dX6_hasPlace_9 : decode cX6_hasPlace 9 = .ok (.if_icmp .ge 7, 3) := by decide +kernel
theorem dX6_hasPlace_12 : decode cX6_hasPlace 12 = .ok (.iconst 1, 1) := by decide +kernel
theorem dX6_hasPlace_13 : decode cX6_hasPlace 13 = .ok (.goto 4, 3) := by decide +kernel
theorem dX6_hasPlace_16 : decode cX6_hasPlace 16 = .ok (.iconst 0, 1) := by decide +kernel
theorem dX6_hasPlace_17 : decode cX6_hasPlace 17 = .ok (.ireturn, 1) := by decide +kernel
theorem ok_X6_hasPlace : okV yX6_hasPlace cX6_hasPlace 2 (some .boolean) 1 := ⟨mw_869, mw_870, mw_81, mw_871, by decide +kernel, by decide +kernel⟩
abbrev rm_X6_hasPlace : Room := { frames := 0, cells := 0, slots := 0, locals := 0 }
def w_X6_hasPlace (post : Int32 → St → Prop) (σ : St) (i0 : Nat) (x1 : Int32) : Prop := ((x1 < 0 → (post 0 σ)) ∧ (¬ x1 < 0 → ((((σ 22 i0 1) ≤ x1 → (post 0 σ)) ∧ (¬ (σ 22 i0 1) ≤ x1 → (post 1 σ))))))
theorem B_X6_hasPlace_0 (E : EnvW p s m args meth c D cy regsC ad "RoofWar$Row" cX6_hasPlace 2 (some .boolean)) (ha : Apart regsC ad) {post : Int32 → St → Prop} {σ : St} {i0 : Nat} {x1 : Int32} (hi0 : i0 < 9) (hw : w_X6_hasPlace post σ i0 x1) {H : Heap} {locs : List Loc} {ls : Array Slot} (hP : va_P D CLS (wC cy ad σ) H) (hS : va_S (AC ad s.heap.size) s.heap H locs) (hl : lv_has ls 2 [(0, .ref (ad 22 i0)), (1, .int x1)]) : W p l e rm_X6_hasPlace s m args below meth c H locs 0 0 (MQ below (QI D cy (cellC cy ad) regsC ad s.heap.size (fun r u => (r = 0 ∨ r = 1) ∧ post r u)) args s 0 0 (AC ad s.heap.size)) (F0 m 0 ls []) := by
  obtain ⟨hx, hb, -⟩ := id E
  unfold w_X6_hasPlace at hw
  refine lv_iload_n hx hb dX6_hasPlace_0 rfl (lv_at hl 1 rfl) ?_
  refine lv_if_lt (tgt := 16) hx hb dX6_hasPlace_1 (by decide) (fun c1 => ?_) (fun c1 => ?_)
  · replace hw := hw.1 c1
    refine lv_iconst (v := 0) hx hb dX6_hasPlace_16 (by decide) ?_
    exact g_zret E (Or.inl rfl) hw hP hS dX6_hasPlace_17
  · replace hw := hw.2 c1
    refine lv_iload_n hx hb dX6_hasPlace_4 rfl (lv_at hl 1 rfl) ?_
    refine lv_aload_n hx hb dX6_hasPlace_5 rfl (lv_at hl 0 rfl) ?_
    refine fX6_1 hi0 E hP mw_289 dX6_hasPlace_6 ?_
    refine lv_icmp_ge (tgt := 16) hx hb dX6_hasPlace_9 (by decide) (fun c2 => ?_) (fun c2 => ?_)
    · replace hw := hw.1 c2
      refine lv_iconst (v := 0) hx hb dX6_hasPlace_16 (by decide) ?_
      exact g_zret E (Or.inl rfl) hw hP hS dX6_hasPlace_17
    · replace hw := hw.2 c2
      refine lv_iconst (v := 1) hx hb dX6_hasPlace_12 (by decide) ?_
      refine lv_goto (tgt := 17) hx hb dX6_hasPlace_13 (by decide) ?_
      exact g_zret E (Or.inr rfl) hw hP hS dX6_hasPlace_17
theorem c_X6_hasPlace (l : Launch) (D : va_G) (cy : Nat → ClassId) (ad : Nat → Nat → Nat) (ha : Apart regsC ad) {post : Int32 → St → Prop} {σ : St} {i0 : Nat} {x1 : Int32} (hi0 : i0 < 9) (hw : w_X6_hasPlace post σ i0 x1) (sz : Nat) : MetI l yX6_hasPlace cX6_hasPlace 2 .boolean rm_X6_hasPlace [.ref (ad 22 i0), .int x1] D cy (cellC cy ad) regsC ad σ sz (fun r u => (r = 0 ∨ r = 1) ∧ post r u) :=
  Met_inI ok_X6_hasPlace.2.2.2.2.2 (Nat.le_of_ble_eq_true rfl) (fun p e s m below meth c ls E hP hl => B_X6_hasPlace_0 E ha hi0 hw hP va_S.rf hl)
-- RoofWar$Row.hasPlaces(II)Z
theorem dX6_hasPlaces_0 : decode cX6_hasPlaces 0 = .ok (.iload_n 1, 1) := by decide +kernel
theorem dX6_hasPlaces_1 : decode cX6_hasPlaces 1 = .ok (.ifCond .lt 29, 3) := by decide +kernel
theorem dX6_hasPlaces_4 : decode cX6_hasPlaces 4 = .ok (.iload_n 2, 1) := by decide +kernel
theorem dX6_hasPlaces_5 : decode cX6_hasPlaces 5 = .ok (.ifCond .lt 25, 3) := by decide +kernel
theorem dX6_hasPlaces_8 : decode cX6_hasPlaces 8 = .ok (.iload_n 1, 1) := by decide +kernel
theorem dX6_hasPlaces_9 : decode cX6_hasPlaces 9 = .ok (.aload_n 0, 1) := by decide +kernel
theorem dX6_hasPlaces_10 : decode cX6_hasPlaces 10 = .ok (.getfield 19, 3) := by decide +kernel
theorem dX6_hasPlaces_13 : decode cX6_hasPlaces 13 = .ok (.if_icmp .gt 17, 3) := by decide +kernel
theorem dX6_hasPlaces_16 : decode cX6_hasPlaces 16 = .ok (.iload_n 2, 1) := by decide +kernel
theorem dX6_hasPlaces_17 : decode cX6_hasPlaces 17 = .ok (.aload_n 0, 1) := by decide +kernel
theorem dX6_hasPlaces_18 : decode cX6_hasPlaces 18 = .ok (.getfield 19, 3) := by decide +kernel
theorem dX6_hasPlaces_21 : decode cX6_hasPlaces 21 = .ok (.iload_n 1, 1) := by decide +kernel
theorem dX6_hasPlaces_22 : decode cX6_hasPlaces 22 = .ok (.isub, 1) := by decide +kernel
theorem dX6_hasPlaces_23 : decode cX6_hasPlaces 23 = .ok (.if_icmp .gt 7, 3) := by decide +kernel
theorem dX6_hasPlaces_26 : decode cX6_hasPlaces 26 = .ok (.iconst 1, 1) := by decide +kernel
theorem dX6_hasPlaces_27 : decode cX6_hasPlaces 27 = .ok (.goto 4, 3) := by decide +kernel
theorem dX6_hasPlaces_30 : decode cX6_hasPlaces 30 = .ok (.iconst 0, 1) := by decide +kernel
theorem dX6_hasPlaces_31 : decode cX6_hasPlaces 31 = .ok (.ireturn, 1) := by decide +kernel
theorem ok_X6_hasPlaces : okV yX6_hasPlaces cX6_hasPlaces 3 (some .boolean) 2 := ⟨mw_889, mw_890, mw_81, mw_891, by decide +kernel, by decide +kernel⟩
abbrev rm_X6_hasPlaces : Room := { frames := 0, cells := 0, slots := 0, locals := 0 }
def w_X6_hasPlaces (post : Int32 → St → Prop) (σ : St) (i0 : Nat) (x1 : Int32) (x2 : Int32) : Prop := ((x1 < 0 → (post 0 σ)) ∧ (¬ x1 < 0 → (((x2 < 0 → (post 0 σ)) ∧ (¬ x2 < 0 → ((((σ 22 i0 1) < x1 → (post 0 σ)) ∧ (¬ (σ 22 i0 1) < x1 → (((((σ 22 i0 1) - x1) < x2 → (post 0 σ)) ∧ (¬ ((σ 22 i0 1) - x1) < x2 → (post 1 σ))))))))))))
theorem B_X6_hasPlaces_0 (E : EnvW p s m args meth c D cy regsC ad "RoofWar$Row" cX6_hasPlaces 3 (some .boolean)) (ha : Apart regsC ad) {post : Int32 → St → Prop} {σ : St} {i0 : Nat} {x1 : Int32} {x2 : Int32} (hi0 : i0 < 9) (hw : w_X6_hasPlaces post σ i0 x1 x2) {H : Heap} {locs : List Loc} {ls : Array Slot} (hP : va_P D CLS (wC cy ad σ) H) (hS : va_S (AC ad s.heap.size) s.heap H locs) (hl : lv_has ls 3 [(0, .ref (ad 22 i0)), (1, .int x1), (2, .int x2)]) : W p l e rm_X6_hasPlaces s m args below meth c H locs 0 0 (MQ below (QI D cy (cellC cy ad) regsC ad s.heap.size (fun r u => (r = 0 ∨ r = 1) ∧ post r u)) args s 0 0 (AC ad s.heap.size)) (F0 m 0 ls []) := by
  obtain ⟨hx, hb, -⟩ := id E
  unfold w_X6_hasPlaces at hw
  refine lv_iload_n hx hb dX6_hasPlaces_0 rfl (lv_at hl 1 rfl) ?_
  refine lv_if_lt (tgt := 30) hx hb dX6_hasPlaces_1 (by decide) (fun c1 => ?_) (fun c1 => ?_)
  · replace hw := hw.1 c1
    refine lv_iconst (v := 0) hx hb dX6_hasPlaces_30 (by decide) ?_
    exact g_zret E (Or.inl rfl) hw hP hS dX6_hasPlaces_31
  · replace hw := hw.2 c1
    refine lv_iload_n hx hb dX6_hasPlaces_4 rfl (lv_at hl 2 rfl) ?_
    refine lv_if_lt (tgt := 30) hx hb dX6_hasPlaces_5 (by decide) (fun c2 => ?_) (fun c2 => ?_)
    · replace hw := hw.1 c2
      refine lv_iconst (v := 0) hx hb dX6_hasPlaces_30 (by decide) ?_
      exact g_zret E (Or.inl rfl) hw hP hS dX6_hasPlaces_31
    · replace hw := hw.2 c2
      refine lv_iload_n hx hb dX6_hasPlaces_8 rfl (lv_at hl 1 rfl) ?_
      refine lv_aload_n hx hb dX6_hasPlaces_9 rfl (lv_at hl 0 rfl) ?_
      refine fX6_1 hi0 E hP mw_289 dX6_hasPlaces_10 ?_
      refine lv_icmp_gt (tgt := 30) hx hb dX6_hasPlaces_13 (by decide) (fun c3 => ?_) (fun c3 => ?_)
      · replace hw := hw.1 c3
        refine lv_iconst (v := 0) hx hb dX6_hasPlaces_30 (by decide) ?_
        exact g_zret E (Or.inl rfl) hw hP hS dX6_hasPlaces_31
      · replace hw := hw.2 c3
        refine lv_iload_n hx hb dX6_hasPlaces_16 rfl (lv_at hl 2 rfl) ?_
        refine lv_aload_n hx hb dX6_hasPlaces_17 rfl (lv_at hl 0 rfl) ?_
        refine fX6_1 hi0 E hP mw_289 dX6_hasPlaces_18 ?_
        refine lv_iload_n hx hb dX6_hasPlaces_21 rfl (lv_at hl 1 rfl) ?_
        refine lv_isub hx hb dX6_hasPlaces_22 ?_
        refine lv_icmp_gt (tgt := 30) hx hb dX6_hasPlaces_23 (by decide) (fun c4 => ?_) (fun c4 => ?_)
        · replace hw := hw.1 c4
          refine lv_iconst (v := 0) hx hb dX6_hasPlaces_30 (by decide) ?_
          exact g_zret E (Or.inl rfl) hw hP hS dX6_hasPlaces_31
        · replace hw := hw.2 c4
          refine lv_iconst (v := 1) hx hb dX6_hasPlaces_26 (by decide) ?_
          refine lv_goto (tgt := 31) hx hb dX6_hasPlaces_27 (by decide) ?_
          exact g_zret E (Or.inr rfl) hw hP hS dX6_hasPlaces_31
theorem c_X6_hasPlaces (l : Launch) (D : va_G) (cy : Nat → ClassId) (ad : Nat → Nat → Nat) (ha : Apart regsC ad) {post : Int32 → St → Prop} {σ : St} {i0 : Nat} {x1 : Int32} {x2 : Int32} (hi0 : i0 < 9) (hw : w_X6_hasPlaces post σ i0 x1 x2) (sz : Nat) : MetI l yX6_hasPlaces cX6_hasPlaces 3 .boolean rm_X6_hasPlaces [.ref (ad 22 i0), .int x1, .int x2] D cy (cellC cy ad) regsC ad σ sz (fun r u => (r = 0 ∨ r = 1) ∧ post r u) :=
  Met_inI ok_X6_hasPlaces.2.2.2.2.2 (Nat.le_of_ble_eq_true rfl) (fun p e s m below meth c ls E hP hl => B_X6_hasPlaces_0 E ha hi0 hw hP va_S.rf hl)
-- RoofWar$Row.isNumber(I)Z
theorem dX6_isNumber_0 : decode cX6_isNumber 0 = .ok (.aload_n 0, 1) := by decide +kernel
theorem dX6_isNumber_1 : decode cX6_isNumber 1 = .ok (.getfield 15, 3) := by decide +kernel
theorem dX6_isNumber_4 : decode cX6_isNumber 4 = .ok (.iload_n 1, 1) := by decide +kernel
theorem dX6_isNumber_5 : decode cX6_isNumber 5 = .ok (.iaload, 1) := by decide +kernel
theorem dX6_isNumber_6 : decode cX6_isNumber 6 = .ok (.ldc 28, 2) := by decide +kernel
theorem dX6_isNumber_8 : decode cX6_isNumber 8 = .ok (.if_icmp .eq 7, 3) := by decide +kernel
theorem dX6_isNumber_11 : decode cX6_isNumber 11 = .ok (.iconst 1, 1) := by decide +kernel
theorem dX6_isNumber_12 : decode cX6_isNumber 12 = .ok (.goto 4, 3) := by decide +kernel
theorem dX6_isNumber_15 : decode cX6_isNumber 15 = .ok (.iconst 0, 1) := by decide +kernel
theorem dX6_isNumber_16 : decode cX6_isNumber 16 = .ok (.ireturn, 1) := by decide +kernel
theorem ok_X6_isNumber : okV yX6_isNumber cX6_isNumber 2 (some .boolean) 1 := ⟨mw_653, mw_654, mw_81, mw_655, by decide +kernel, by decide +kernel⟩
abbrev rm_X6_isNumber : Room := { frames := 0, cells := 0, slots := 0, locals := 0 }
def w_X6_isNumber (post : Int32 → St → Prop) (σ : St) (i0 : Nat) (x1 : Int32) : Prop := vp_in x1 24 ∧ ((((σ 23 i0 x1.toNatClampNeg) = ((-1000000005)) → (post 0 σ)) ∧ (¬ (σ 23 i0 x1.toNatClampNeg) = ((-1000000005)) → (post 1 σ))))
theorem B_X6_isNumber_0 (E : EnvW p s m args meth c D cy regsC ad "RoofWar$Row" cX6_isNumber 2 (some .boolean)) (ha : Apart regsC ad) {post : Int32 → St → Prop} {σ : St} {i0 : Nat} {x1 : Int32} (hi0 : i0 < 9) (hw : w_X6_isNumber post σ i0 x1) {H : Heap} {locs : List Loc} {ls : Array Slot} (hP : va_P D CLS (wC cy ad σ) H) (hS : va_S (AC ad s.heap.size) s.heap H locs) (hl : lv_has ls 2 [(0, .ref (ad 22 i0)), (1, .int x1)]) : W p l e rm_X6_isNumber s m args below meth c H locs 0 0 (MQ below (QI D cy (cellC cy ad) regsC ad s.heap.size (fun r u => (r = 0 ∨ r = 1) ∧ post r u)) args s 0 0 (AC ad s.heap.size)) (F0 m 0 ls []) := by
  obtain ⟨hx, hb, -⟩ := id E
  unfold w_X6_isNumber at hw
  refine lv_aload_n hx hb dX6_isNumber_0 rfl (lv_at hl 0 rfl) ?_
  refine fX6_2 hi0 E hP mw_291 dX6_isNumber_1 ?_
  refine lv_iload_n hx hb dX6_isNumber_4 rfl (lv_at hl 1 rfl) ?_
  obtain ⟨h1, hw⟩ := hw
  refine aC23 hi0 E hP h1 dX6_isNumber_5 ?_
  refine g_ldc (v := -1000000005) E mw_656 dX6_isNumber_6 ?_
  refine lv_icmp_eq (tgt := 15) hx hb dX6_isNumber_8 (by decide) (fun c2 => ?_) (fun c2 => ?_)
  · replace hw := hw.1 c2
    refine lv_iconst (v := 0) hx hb dX6_isNumber_15 (by decide) ?_
    exact g_zret E (Or.inl rfl) hw hP hS dX6_isNumber_16
  · replace hw := hw.2 c2
    refine lv_iconst (v := 1) hx hb dX6_isNumber_11 (by decide) ?_
    refine lv_goto (tgt := 16) hx hb dX6_isNumber_12 (by decide) ?_
    exact g_zret E (Or.inr rfl) hw hP hS dX6_isNumber_16
theorem c_X6_isNumber (l : Launch) (D : va_G) (cy : Nat → ClassId) (ad : Nat → Nat → Nat) (ha : Apart regsC ad) {post : Int32 → St → Prop} {σ : St} {i0 : Nat} {x1 : Int32} (hi0 : i0 < 9) (hw : w_X6_isNumber post σ i0 x1) (sz : Nat) : MetI l yX6_isNumber cX6_isNumber 2 .boolean rm_X6_isNumber [.ref (ad 22 i0), .int x1] D cy (cellC cy ad) regsC ad σ sz (fun r u => (r = 0 ∨ r = 1) ∧ post r u) :=
  Met_inI ok_X6_isNumber.2.2.2.2.2 (Nat.le_of_ble_eq_true rfl) (fun p e s m below meth c ls E hP hl => B_X6_isNumber_0 E ha hi0 hw hP va_S.rf hl)
-- RoofWar$Tape.add(I)V
theorem dX8_add_0 : decode cX8_add 0 = .ok (.bipush 24, 2) := by decide +kernel
theorem dX8_add_2 : decode cX8_add 2 = .ok (.istore_n 2, 1) := by decide +kernel
theorem dX8_add_3 : decode cX8_add 3 = .ok (.iload_n 2, 1) := by decide +kernel
theorem dX8_add_4 : decode cX8_add 4 = .ok (.ifCond .lt 35, 3) := by decide +kernel
theorem dX8_add_7 : decode cX8_add 7 = .ok (.aload_n 0, 1) := by decide +kernel
theorem dX8_add_8 : decode cX8_add 8 = .ok (.getfield 9, 3) := by decide +kernel
theorem dX8_add_11 : decode cX8_add 11 = .ok (.aload_n 0, 1) := by decide +kernel
theorem dX8_add_12 : decode cX8_add 12 = .ok (.getfield 15, 3) := by decide +kernel
theorem dX8_add_15 : decode cX8_add 15 = .ok (.iload_n 1, 1) := by decide +kernel
theorem dX8_add_16 : decode cX8_add 16 = .ok (.iload_n 2, 1) := by decide +kernel
theorem dX8_add_17 : decode cX8_add 17 = .ok (.iushr, 1) := by decide +kernel
theorem dX8_add_18 : decode cX8_add 18 = .ok (.sipush 255, 3) := by decide +kernel
theorem dX8_add_21 : decode cX8_add 21 = .ok (.iand, 1) := by decide +kernel
theorem dX8_add_22 : decode cX8_add 22 = .ok (.iastore, 1) := by decide +kernel
theorem dX8_add_23 : decode cX8_add 23 = .ok (.aload_n 0, 1) := by decide +kernel
theorem dX8_add_24 : decode cX8_add 24 = .ok (.dup, 1) := by decide +kernel
theorem dX8_add_25 : decode cX8_add 25 = .ok (.getfield 15, 3) := by decide +kernel
theorem dX8_add_28 : decode cX8_add 28 = .ok (.iconst 1, 1) := by decide +kernel
theorem dX8_add_29 : decode cX8_add 29 = .ok (.iadd, 1) := by decide +kernel
theorem dX8_add_30 : decode cX8_add 30 = .ok (.putfield 15, 3) := by decide +kernel
theorem dX8_add_33 : decode cX8_add 33 = .ok (.iinc 2 (-8), 3) := by decide +kernel
theorem dX8_add_36 : decode cX8_add 36 = .ok (.goto (-33), 3) := by decide +kernel
theorem dX8_add_39 : decode cX8_add 39 = .ok (.return_, 1) := by decide +kernel
theorem ok_X8_add : okV yX8_add cX8_add 3 none 1 := ⟨mw_672, mw_673, mw_79, mw_674, by decide +kernel, by decide +kernel⟩
abbrev rm_X8_add : Room := { frames := 0, cells := 0, slots := 0, locals := 0 }
def b_X8_add_3 (K3 : St → Int32 → Int32 → Prop) (post : St → Prop) (σ : St) (x1 : Int32) (x2 : Int32) : Prop := ((x2 < 0 → (post σ)) ∧ (¬ x2 < 0 → (vp_in (σ 19 0 0) 96 ∧ (∀ s3 : St, s3 = wr σ 20 0 (σ 19 0 0).toNatClampNeg ((jushr x1 x2) &&& 255) → (∀ s4 : St, s4 = wr s3 19 0 0 ((s3 19 0 0) + 1) → (∀ v5 : Int32, v5 = x2 + (-8) → (K3 s4 x1 v5)))))))
noncomputable def l_X8_add_3 (post : St → Prop) : Nat → St → Int32 → Int32 → Prop := fun n => Nat.rec (motive := fun _ => St → Int32 → Int32 → Prop) (fun _ _ _ => False) (fun _ ih => b_X8_add_3 ih post) n
theorem L_X8_add_3 (E : EnvW p s m args meth c D cy regsC ad "RoofWar$Tape" cX8_add 3 none) (ha : Apart regsC ad) {post : St → Prop} : ∀ (n : Nat), ∀ (σ : St) (x1 : Int32) (x2 : Int32), l_X8_add_3 post n σ x1 x2 → ∀ (H : Heap) (locs : List Loc) (ls : Array Slot), va_P D CLS (wC cy ad σ) H → va_S (AC ad s.heap.size) s.heap H locs → lv_has ls 3 [(0, .ref (ad 19 0)), (1, .int x1), (2, .int x2)] → W p l e rm_X8_add s m args below meth c H locs 0 0 (MQ below (QV D cy (cellC cy ad) regsC ad s.heap.size post) args s 0 0 (AC ad s.heap.size)) (F0 m 3 ls []) := by
  obtain ⟨hx, hb, -⟩ := id E
  intro n
  induction n with
  | zero => intro σ x1 x2 hw; exact hw.elim
  | succ n hk3 =>
    intro σ x1 x2 hw H locs ls hP hS hl
    replace hw : b_X8_add_3 (l_X8_add_3 post n) post σ x1 x2 := hw
    unfold b_X8_add_3 at hw
    refine lv_iload_n hx hb dX8_add_3 rfl (lv_at hl 2 rfl) ?_
    refine lv_if_lt (tgt := 39) hx hb dX8_add_4 (by decide) (fun c1 => ?_) (fun c1 => ?_)
    · replace hw := hw.1 c1
      exact g_vret E hw hP hS dX8_add_39
    · replace hw := hw.2 c1
      refine lv_aload_n hx hb dX8_add_7 rfl (lv_at hl 0 rfl) ?_
      refine fX8_0 E hP mw_244 dX8_add_8 ?_
      refine lv_aload_n hx hb dX8_add_11 rfl (lv_at hl 0 rfl) ?_
      refine fX8_1 E hP mw_246 dX8_add_12 ?_
      refine lv_iload_n hx hb dX8_add_15 rfl (lv_at hl 1 rfl) ?_
      refine lv_iload_n hx hb dX8_add_16 rfl (lv_at hl 2 rfl) ?_
      refine lv_iushr (v := jushr x1 x2) hx hb dX8_add_17 rfl ?_
      refine lv_sipush (v := 255) hx hb dX8_add_18 (by decide) ?_
      refine lv_iand hx hb dX8_add_21 ?_
      obtain ⟨h2, hw⟩ := hw
      refine tC20 E ha h2 dX8_add_22 hP hS (fun s3 es3 H locs hP hS => ?_)
      replace hw := hw s3 es3
      refine lv_aload_n hx hb dX8_add_23 rfl (lv_at hl 0 rfl) ?_
      refine lv_dup hx hb dX8_add_24 rfl ?_
      refine fX8_1 E hP mw_246 dX8_add_25 ?_
      refine lv_iconst (v := 1) hx hb dX8_add_28 (by decide) ?_
      refine lv_iadd hx hb dX8_add_29 ?_
      refine uX8_1 E ha mw_246 dX8_add_30 hP hS (fun s4 es4 H locs hP hS => ?_)
      replace hw := hw s4 es4
      obtain ⟨v5, ev5⟩ : ∃ y : Int32, y = x2 + (-8) := ⟨_, rfl⟩
      replace hw := hw v5 ev5
      refine lv_iinc (v := v5) (lv' := [(2, .int v5), (0, .ref (ad 19 0)), (1, .int x1)]) hx hb dX8_add_33 hl (k := 2) rfl (by rw [ev5]; rfl) (by decide) rfl (fun ls hl => ?_)
      refine lv_goto (tgt := 3) hx hb dX8_add_36 (by decide) ?_
      exact hk3 s4 x1 v5 hw _ _ _ hP hS (lv_sub hl [1, 2, 0] rfl)
def w_X8_add (post : St → Prop) (σ : St) (x1 : Int32) : Prop := ∃ n1 : Nat, l_X8_add_3 post n1 σ x1 (24 : Int32)
theorem B_X8_add_0 (E : EnvW p s m args meth c D cy regsC ad "RoofWar$Tape" cX8_add 3 none) (ha : Apart regsC ad) {post : St → Prop} {σ : St} {x1 : Int32} (hw : w_X8_add post σ x1) {H : Heap} {locs : List Loc} {ls : Array Slot} (hP : va_P D CLS (wC cy ad σ) H) (hS : va_S (AC ad s.heap.size) s.heap H locs) (hl : lv_has ls 3 [(0, .ref (ad 19 0)), (1, .int x1)]) : W p l e rm_X8_add s m args below meth c H locs 0 0 (MQ below (QV D cy (cellC cy ad) regsC ad s.heap.size post) args s 0 0 (AC ad s.heap.size)) (F0 m 0 ls []) := by
  obtain ⟨hx, hb, -⟩ := id E
  unfold w_X8_add at hw
  refine lv_bipush (v := 24) hx hb dX8_add_0 (by decide) ?_
  refine lv_istore_n (lv' := [(2, .int 24), (0, .ref (ad 19 0)), (1, .int x1)]) hx hb dX8_add_2 rfl hl (by decide) rfl (fun ls hl => ?_)
  obtain ⟨n1, hw⟩ := hw
  exact L_X8_add_3 E ha n1 σ x1 (24 : Int32) hw _ _ _ hP hS (lv_sub hl [1, 2, 0] rfl)
theorem c_X8_add (l : Launch) (D : va_G) (cy : Nat → ClassId) (ad : Nat → Nat → Nat) (ha : Apart regsC ad) {post : St → Prop} {σ : St} {x1 : Int32} (hw : w_X8_add post σ x1) (sz : Nat) : MetV l yX8_add cX8_add 3 rm_X8_add [.ref (ad 19 0), .int x1] D cy (cellC cy ad) regsC ad σ sz post :=
  Met_inV ok_X8_add.2.2.2.2.2 (Nat.le_of_ble_eq_true rfl) (fun p e s m below meth c ls E hP hl => B_X8_add_0 E ha hw hP va_S.rf hl)
end WalkK
