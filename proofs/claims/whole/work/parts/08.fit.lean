section WalkF
variable {p : Program} {l : Launch} {e : Env} {s : State} {m : MethodId} {args : Array Value} {below : List Frame} {meth : Method} {c : Code} {D : va_G} {cy : Nat → ClassId} {ad : Nat → Nat → Nat}
-- RoofWar$Fitting.dryWith(LRoofWar$Hill;IIII)I
theorem dX0_dryWith_0 : decode cX0_dryWith 0 = .ok (.aload_n 1, 1) := by decide +kernel
theorem dX0_dryWith_1 : decode cX0_dryWith 1 = .ok (.aload_n 0, 1) := by decide +kernel
theorem dX0_dryWith_2 : decode cX0_dryWith 2 = .ok (.getfield 9, 3) := by decide +kernel
theorem dX0_dryWith_5 : decode cX0_dryWith 5 = .ok (.iload 5, 2) := by decide +kernel
theorem dX0_dryWith_7 : decode cX0_dryWith 7 = .ok (.iaload, 1) := by decide +kernel
theorem dX0_dryWith_8 : decode cX0_dryWith 8 = .ok (.iload_n 2, 1) := by decide +kernel
theorem dX0_dryWith_9 : decode cX0_dryWith 9 = .ok (.invokestatic 46, 3) := by decide +kernel
theorem dX0_dryWith_12 : decode cX0_dryWith 12 = .ok (.iload_n 3, 1) := by decide +kernel
theorem dX0_dryWith_13 : decode cX0_dryWith 13 = .ok (.iadd, 1) := by decide +kernel
theorem dX0_dryWith_14 : decode cX0_dryWith 14 = .ok (.invokevirtual 49, 3) := by decide +kernel
theorem dX0_dryWith_17 : decode cX0_dryWith 17 = .ok (.aload_n 0, 1) := by decide +kernel
theorem dX0_dryWith_18 : decode cX0_dryWith 18 = .ok (.getfield 17, 3) := by decide +kernel
theorem dX0_dryWith_21 : decode cX0_dryWith 21 = .ok (.iload_n 3, 1) := by decide +kernel
theorem dX0_dryWith_22 : decode cX0_dryWith 22 = .ok (.iconst 1, 1) := by decide +kernel
theorem dX0_dryWith_23 : decode cX0_dryWith 23 = .ok (.iadd, 1) := by decide +kernel
theorem dX0_dryWith_24 : decode cX0_dryWith 24 = .ok (.aaload, 1) := by decide +kernel
theorem dX0_dryWith_25 : decode cX0_dryWith 25 = .ok (.iload 4, 2) := by decide +kernel
theorem dX0_dryWith_27 : decode cX0_dryWith 27 = .ok (.iconst 1, 1) := by decide +kernel
theorem dX0_dryWith_28 : decode cX0_dryWith 28 = .ok (.iload 5, 2) := by decide +kernel
theorem dX0_dryWith_30 : decode cX0_dryWith 30 = .ok (.ishl, 1) := by decide +kernel
theorem dX0_dryWith_31 : decode cX0_dryWith 31 = .ok (.ixor, 1) := by decide +kernel
theorem dX0_dryWith_32 : decode cX0_dryWith 32 = .ok (.iaload, 1) := by decide +kernel
theorem dX0_dryWith_33 : decode cX0_dryWith 33 = .ok (.iadd, 1) := by decide +kernel
theorem dX0_dryWith_34 : decode cX0_dryWith 34 = .ok (.ireturn, 1) := by decide +kernel
theorem ok_X0_dryWith : okV yX0_dryWith cX0_dryWith 6 (some .int) 5 := ⟨mw_589, mw_5, mw_78, mw_590, by decide +kernel, by decide +kernel⟩
abbrev rm_X0_dryWith : Room := { frames := 2, cells := 0, slots := 0, locals := 46 }
def w_X0_dryWith (post : Int32 → St → Prop) (σ : St) (i1 : Nat) (x2 : Int32) (x3 : Int32) (x4 : Int32) (x5 : Int32) : Prop := vp_in x5 6 ∧ (w_X9_firstHouse (fun r2 s2 => w_X1_dryWere (fun r3 s3 => vp_in (x3 + 1) 7 ∧ (vp_in (x4 ^^^ (1 <<< (x5 &&& 31))) 64 ∧ (post (r3 + (s3 29 ((x3 + 1).toNatClampNeg) (x4 ^^^ (1 <<< (x5 &&& 31))).toNatClampNeg)) s3))) s2 i1 (σ 26 0 x5.toNatClampNeg) (r2 + x3)) σ x2)
theorem B_X0_dryWith_0 (E : EnvW p s m args meth c D cy regsC ad "RoofWar$Fitting" cX0_dryWith 6 (some .int)) (ha : Apart regsC ad) {post : Int32 → St → Prop} {σ : St} {i1 : Nat} {x2 : Int32} {x3 : Int32} {x4 : Int32} {x5 : Int32} (hi1 : i1 < 3) (hw : w_X0_dryWith post σ i1 x2 x3 x4 x5) {H : Heap} {locs : List Loc} {ls : Array Slot} (hP : va_P D CLS (wC cy ad σ) H) (hS : va_S (AC ad s.heap.size) s.heap H locs) (hl : lv_has ls 6 [(0, .ref (ad 25 0)), (1, .ref (ad 5 i1)), (2, .int x2), (3, .int x3), (4, .int x4), (5, .int x5)]) : W p l e rm_X0_dryWith s m args below meth c H locs 0 0 (MQ below (QI D cy (cellC cy ad) regsC ad s.heap.size post) args s 0 0 (AC ad s.heap.size)) (F0 m 0 ls []) := by
  obtain ⟨hx, hb, -⟩ := id E
  unfold w_X0_dryWith at hw
  refine lv_aload_n hx hb dX0_dryWith_0 rfl (lv_at hl 1 rfl) ?_
  refine lv_aload_n hx hb dX0_dryWith_1 rfl (lv_at hl 0 rfl) ?_
  refine fX0_0 E hP mw_226 dX0_dryWith_2 ?_
  refine lv_iload hx hb dX0_dryWith_5 (lv_at hl 5 rfl) ?_
  obtain ⟨h1, hw⟩ := hw
  refine aC26 E hP h1 dX0_dryWith_7 ?_
  refine lv_iload_n hx hb dX0_dryWith_8 rfl (lv_at hl 2 rfl) ?_
  refine g_cNi (host := "RoofWar") (As := [.int x2]) (rest := [.int (σ 26 0 x5.toNatClampNeg), .ref (ad 5 i1)]) E hl.1 (c_X9_firstHouse l D cy ad ha hw _) ok_X9_firstHouse (List.mem_of_getElem? (i := 13) rfl) ⟨(Nat.le_of_ble_eq_true rfl), (Nat.le_of_ble_eq_true rfl)⟩ ⟨rfl, rfl⟩ rfl rfl (Nat.le_of_ble_eq_true rfl) ⟨Nat.zero_le _, Nat.zero_le _⟩ hP hS dX0_dryWith_9 (fun r2 s2 hw H locs hP hS => ?_)
  refine lv_iload_n hx hb dX0_dryWith_12 rfl (lv_at hl 3 rfl) ?_
  refine lv_iadd hx hb dX0_dryWith_13 ?_
  refine g_cVi (As := [.int (σ 26 0 x5.toNatClampNeg), .int (r2 + x3)]) (rest := []) E hl.1 (c_X1_dryWere l D cy ad ha hi1 hw _) ok_X1_dryWere mw_591 ⟨(Nat.le_of_ble_eq_true rfl), (Nat.le_of_ble_eq_true rfl)⟩ ⟨rfl, rfl⟩ (rC5 hi1) rfl rfl rfl rfl rfl (Nat.le_of_ble_eq_true rfl) ⟨Nat.zero_le _, Nat.zero_le _⟩ hP hS dX0_dryWith_14 (fun r3 s3 hw H locs hP hS => ?_)
  refine lv_aload_n hx hb dX0_dryWith_17 rfl (lv_at hl 0 rfl) ?_
  refine fX0_2 E hP mw_228 dX0_dryWith_18 ?_
  refine lv_iload_n hx hb dX0_dryWith_21 rfl (lv_at hl 3 rfl) ?_
  refine lv_iconst (v := 1) hx hb dX0_dryWith_22 (by decide) ?_
  refine lv_iadd hx hb dX0_dryWith_23 ?_
  obtain ⟨h4, hw⟩ := hw
  refine aC28 E hP h4 dX0_dryWith_24 ?_
  refine lv_iload hx hb dX0_dryWith_25 (lv_at hl 4 rfl) ?_
  refine lv_iconst (v := 1) hx hb dX0_dryWith_27 (by decide) ?_
  refine lv_iload hx hb dX0_dryWith_28 (lv_at hl 5 rfl) ?_
  refine lv_ishl hx hb dX0_dryWith_30 ?_
  refine lv_ixor hx hb dX0_dryWith_31 ?_
  obtain ⟨h5, hw⟩ := hw
  refine aC29 ((vp_lt h4)) E hP h5 dX0_dryWith_32 ?_
  refine lv_iadd hx hb dX0_dryWith_33 ?_
  exact g_iret E hw hP hS dX0_dryWith_34
theorem c_X0_dryWith (l : Launch) (D : va_G) (cy : Nat → ClassId) (ad : Nat → Nat → Nat) (ha : Apart regsC ad) {post : Int32 → St → Prop} {σ : St} {i1 : Nat} {x2 : Int32} {x3 : Int32} {x4 : Int32} {x5 : Int32} (hi1 : i1 < 3) (hw : w_X0_dryWith post σ i1 x2 x3 x4 x5) (sz : Nat) : MetI l yX0_dryWith cX0_dryWith 6 .int rm_X0_dryWith [.ref (ad 25 0), .ref (ad 5 i1), .int x2, .int x3, .int x4, .int x5] D cy (cellC cy ad) regsC ad σ sz post :=
  Met_inI ok_X0_dryWith.2.2.2.2.2 (Nat.le_of_ble_eq_true rfl) (fun p e s m below meth c ls E hP hl => B_X0_dryWith_0 E ha hi1 hw hP va_S.rf hl)
-- RoofWar$Fitting.leastOfBest(LRoofWar$Hill;III)I
theorem dX0_leastOfBest_0 : decode cX0_leastOfBest 0 = .ok (.iconst 0, 1) := by decide +kernel
theorem dX0_leastOfBest_1 : decode cX0_leastOfBest 1 = .ok (.istore 5, 2) := by decide +kernel
theorem dX0_leastOfBest_3 : decode cX0_leastOfBest 3 = .ok (.iload 5, 2) := by decide +kernel
theorem dX0_leastOfBest_5 : decode cX0_leastOfBest 5 = .ok (.aload_n 0, 1) := by decide +kernel
theorem dX0_leastOfBest_6 : decode cX0_leastOfBest 6 = .ok (.getfield 23, 3) := by decide +kernel
theorem dX0_leastOfBest_9 : decode cX0_leastOfBest 9 = .ok (.if_icmp .ge 45, 3) := by decide +kernel
theorem dX0_leastOfBest_12 : decode cX0_leastOfBest 12 = .ok (.iload 4, 2) := by decide +kernel
theorem dX0_leastOfBest_14 : decode cX0_leastOfBest 14 = .ok (.iload 5, 2) := by decide +kernel
theorem dX0_leastOfBest_16 : decode cX0_leastOfBest 16 = .ok (.invokestatic 53, 3) := by decide +kernel
theorem dX0_leastOfBest_19 : decode cX0_leastOfBest 19 = .ok (.ifCond .eq 29, 3) := by decide +kernel
theorem dX0_leastOfBest_22 : decode cX0_leastOfBest 22 = .ok (.aload_n 0, 1) := by decide +kernel
theorem dX0_leastOfBest_23 : decode cX0_leastOfBest 23 = .ok (.aload_n 1, 1) := by decide +kernel
theorem dX0_leastOfBest_24 : decode cX0_leastOfBest 24 = .ok (.iload_n 2, 1) := by decide +kernel
theorem dX0_leastOfBest_25 : decode cX0_leastOfBest 25 = .ok (.iload_n 3, 1) := by decide +kernel
theorem dX0_leastOfBest_26 : decode cX0_leastOfBest 26 = .ok (.iload 4, 2) := by decide +kernel
theorem dX0_leastOfBest_28 : decode cX0_leastOfBest 28 = .ok (.iload 5, 2) := by decide +kernel
theorem dX0_leastOfBest_30 : decode cX0_leastOfBest 30 = .ok (.invokevirtual 57, 3) := by decide +kernel
theorem dX0_leastOfBest_33 : decode cX0_leastOfBest 33 = .ok (.aload_n 0, 1) := by decide +kernel
theorem dX0_leastOfBest_34 : decode cX0_leastOfBest 34 = .ok (.getfield 17, 3) := by decide +kernel
theorem dX0_leastOfBest_37 : decode cX0_leastOfBest 37 = .ok (.iload_n 3, 1) := by decide +kernel
theorem dX0_leastOfBest_38 : decode cX0_leastOfBest 38 = .ok (.aaload, 1) := by decide +kernel
theorem dX0_leastOfBest_39 : decode cX0_leastOfBest 39 = .ok (.iload 4, 2) := by decide +kernel
theorem dX0_leastOfBest_41 : decode cX0_leastOfBest 41 = .ok (.iaload, 1) := by decide +kernel
theorem dX0_leastOfBest_42 : decode cX0_leastOfBest 42 = .ok (.if_icmp .ne 6, 3) := by decide +kernel
theorem dX0_leastOfBest_45 : decode cX0_leastOfBest 45 = .ok (.iload 5, 2) := by decide +kernel
theorem dX0_leastOfBest_47 : decode cX0_leastOfBest 47 = .ok (.ireturn, 1) := by decide +kernel
theorem dX0_leastOfBest_48 : decode cX0_leastOfBest 48 = .ok (.iinc 5 1, 3) := by decide +kernel
theorem dX0_leastOfBest_51 : decode cX0_leastOfBest 51 = .ok (.goto (-48), 3) := by decide +kernel
theorem dX0_leastOfBest_54 : decode cX0_leastOfBest 54 = .ok (.ldc 69, 2) := by decide +kernel
theorem dX0_leastOfBest_56 : decode cX0_leastOfBest 56 = .ok (.ireturn, 1) := by decide +kernel
theorem ok_X0_leastOfBest : okV yX0_leastOfBest cX0_leastOfBest 6 (some .int) 4 := ⟨mw_597, mw_7, mw_78, mw_598, by decide +kernel, by decide +kernel⟩
abbrev rm_X0_leastOfBest : Room := { frames := 3, cells := 0, slots := 0, locals := 71 }
def b_X0_leastOfBest_3 (K3 : St → Nat → Int32 → Int32 → Int32 → Int32 → Prop) (post : Int32 → St → Prop) (σ : St) (i1 : Nat) (x2 : Int32) (x3 : Int32) (x4 : Int32) (x5 : Int32) : Prop := (((σ 25 0 0) ≤ x5 → (post ((-1000000005)) σ)) ∧ (¬ (σ 25 0 0) ≤ x5 → (w_X9_inSet (fun r2 s2 => ((r2 = 0 → (∀ v4 : Int32, v4 = x5 + 1 → (K3 s2 i1 x2 x3 x4 v4))) ∧ (¬ r2 = 0 → (w_X0_dryWith (fun r5 s5 => vp_in x3 7 ∧ (vp_in x4 64 ∧ (((¬ r5 = (s5 29 x3.toNatClampNeg x4.toNatClampNeg) → (∀ v9 : Int32, v9 = x5 + 1 → (K3 s5 i1 x2 x3 x4 v9))) ∧ (r5 = (s5 29 x3.toNatClampNeg x4.toNatClampNeg) → (post x5 s5)))))) s2 i1 x2 x3 x4 x5)))) σ x4 x5)))
noncomputable def l_X0_leastOfBest_3 (post : Int32 → St → Prop) : Nat → St → Nat → Int32 → Int32 → Int32 → Int32 → Prop := fun n => Nat.rec (motive := fun _ => St → Nat → Int32 → Int32 → Int32 → Int32 → Prop) (fun _ _ _ _ _ _ => False) (fun _ ih => b_X0_leastOfBest_3 ih post) n
theorem L_X0_leastOfBest_3 (E : EnvW p s m args meth c D cy regsC ad "RoofWar$Fitting" cX0_leastOfBest 6 (some .int)) (ha : Apart regsC ad) {post : Int32 → St → Prop} : ∀ (n : Nat), ∀ (σ : St) (i1 : Nat) (x2 : Int32) (x3 : Int32) (x4 : Int32) (x5 : Int32), i1 < 3 → l_X0_leastOfBest_3 post n σ i1 x2 x3 x4 x5 → ∀ (H : Heap) (locs : List Loc) (ls : Array Slot), va_P D CLS (wC cy ad σ) H → va_S (AC ad s.heap.size) s.heap H locs → lv_has ls 6 [(0, .ref (ad 25 0)), (1, .ref (ad 5 i1)), (2, .int x2), (3, .int x3), (4, .int x4), (5, .int x5)] → W p l e rm_X0_leastOfBest s m args below meth c H locs 0 0 (MQ below (QI D cy (cellC cy ad) regsC ad s.heap.size post) args s 0 0 (AC ad s.heap.size)) (F0 m 3 ls []) := by
  obtain ⟨hx, hb, -⟩ := id E
  intro n
  induction n with
  | zero => intro σ i1 x2 x3 x4 x5 hi1 hw; exact hw.elim
  | succ n hk3 =>
    intro σ i1 x2 x3 x4 x5 hi1 hw H locs ls hP hS hl
    replace hw : b_X0_leastOfBest_3 (l_X0_leastOfBest_3 post n) post σ i1 x2 x3 x4 x5 := hw
    unfold b_X0_leastOfBest_3 at hw
    refine lv_iload hx hb dX0_leastOfBest_3 (lv_at hl 5 rfl) ?_
    refine lv_aload_n hx hb dX0_leastOfBest_5 rfl (lv_at hl 0 rfl) ?_
    refine fX0_1 E hP mw_227 dX0_leastOfBest_6 ?_
    refine lv_icmp_ge (tgt := 54) hx hb dX0_leastOfBest_9 (by decide) (fun c1 => ?_) (fun c1 => ?_)
    · replace hw := hw.1 c1
      refine g_ldc (v := -1000000005) E mw_599 dX0_leastOfBest_54 ?_
      exact g_iret E hw hP hS dX0_leastOfBest_56
    · replace hw := hw.2 c1
      refine lv_iload hx hb dX0_leastOfBest_12 (lv_at hl 4 rfl) ?_
      refine lv_iload hx hb dX0_leastOfBest_14 (lv_at hl 5 rfl) ?_
      refine g_cNi (host := "RoofWar") (As := [.int x4, .int x5]) (rest := []) E hl.1 (c_X9_inSet l D cy ad ha hw _) ok_X9_inSet (List.mem_of_getElem? (i := 12) rfl) ⟨(Nat.le_of_ble_eq_true rfl), (Nat.le_of_ble_eq_true rfl)⟩ ⟨rfl, rfl⟩ rfl rfl (Nat.le_of_ble_eq_true rfl) ⟨Nat.zero_le _, Nat.zero_le _⟩ hP hS dX0_leastOfBest_16 (fun r2 s2 hw H locs hP hS => ?_)
      obtain ⟨z2, hw⟩ := hw
      refine lv_if_eq (tgt := 48) hx hb dX0_leastOfBest_19 (by decide) (fun c3 => ?_) (fun c3 => ?_)
      · replace hw := hw.1 c3
        obtain ⟨v4, ev4⟩ : ∃ y : Int32, y = x5 + 1 := ⟨_, rfl⟩
        replace hw := hw v4 ev4
        refine lv_iinc (v := v4) (lv' := [(5, .int v4), (0, .ref (ad 25 0)), (1, .ref (ad 5 i1)), (2, .int x2), (3, .int x3), (4, .int x4)]) hx hb dX0_leastOfBest_48 hl (k := 5) rfl (by rw [ev4]; rfl) (by decide) rfl (fun ls hl => ?_)
        refine lv_goto (tgt := 3) hx hb dX0_leastOfBest_51 (by decide) ?_
        exact hk3 s2 i1 x2 x3 x4 v4 hi1 hw _ _ _ hP hS (lv_sub hl [1, 2, 3, 4, 5, 0] rfl)
      · replace hw := hw.2 c3
        refine lv_aload_n hx hb dX0_leastOfBest_22 rfl (lv_at hl 0 rfl) ?_
        refine lv_aload_n hx hb dX0_leastOfBest_23 rfl (lv_at hl 1 rfl) ?_
        refine lv_iload_n hx hb dX0_leastOfBest_24 rfl (lv_at hl 2 rfl) ?_
        refine lv_iload_n hx hb dX0_leastOfBest_25 rfl (lv_at hl 3 rfl) ?_
        refine lv_iload hx hb dX0_leastOfBest_26 (lv_at hl 4 rfl) ?_
        refine lv_iload hx hb dX0_leastOfBest_28 (lv_at hl 5 rfl) ?_
        refine g_cVi (As := [.ref (ad 5 i1), .int x2, .int x3, .int x4, .int x5]) (rest := []) E hl.1 (c_X0_dryWith l D cy ad ha hi1 hw _) ok_X0_dryWith mw_588 ⟨(Nat.le_of_ble_eq_true rfl), (Nat.le_of_ble_eq_true rfl)⟩ ⟨rfl, rfl⟩ rC25 rfl rfl rfl rfl rfl (Nat.le_of_ble_eq_true rfl) ⟨Nat.zero_le _, Nat.zero_le _⟩ hP hS dX0_leastOfBest_30 (fun r5 s5 hw H locs hP hS => ?_)
        refine lv_aload_n hx hb dX0_leastOfBest_33 rfl (lv_at hl 0 rfl) ?_
        refine fX0_2 E hP mw_228 dX0_leastOfBest_34 ?_
        refine lv_iload_n hx hb dX0_leastOfBest_37 rfl (lv_at hl 3 rfl) ?_
        obtain ⟨h6, hw⟩ := hw
        refine aC28 E hP h6 dX0_leastOfBest_38 ?_
        refine lv_iload hx hb dX0_leastOfBest_39 (lv_at hl 4 rfl) ?_
        obtain ⟨h7, hw⟩ := hw
        refine aC29 ((vp_lt h6)) E hP h7 dX0_leastOfBest_41 ?_
        refine lv_icmp_ne (tgt := 48) hx hb dX0_leastOfBest_42 (by decide) (fun c8 => ?_) (fun c8 => ?_)
        · replace hw := hw.1 c8
          obtain ⟨v9, ev9⟩ : ∃ y : Int32, y = x5 + 1 := ⟨_, rfl⟩
          replace hw := hw v9 ev9
          refine lv_iinc (v := v9) (lv' := [(5, .int v9), (0, .ref (ad 25 0)), (1, .ref (ad 5 i1)), (2, .int x2), (3, .int x3), (4, .int x4)]) hx hb dX0_leastOfBest_48 hl (k := 5) rfl (by rw [ev9]; rfl) (by decide) rfl (fun ls hl => ?_)
          refine lv_goto (tgt := 3) hx hb dX0_leastOfBest_51 (by decide) ?_
          exact hk3 s5 i1 x2 x3 x4 v9 hi1 hw _ _ _ hP hS (lv_sub hl [1, 2, 3, 4, 5, 0] rfl)
        · replace hw := hw.2 c8
          refine lv_iload hx hb dX0_leastOfBest_45 (lv_at hl 5 rfl) ?_
          exact g_iret E hw hP hS dX0_leastOfBest_47
def w_X0_leastOfBest (post : Int32 → St → Prop) (σ : St) (i1 : Nat) (x2 : Int32) (x3 : Int32) (x4 : Int32) : Prop := ∃ n1 : Nat, l_X0_leastOfBest_3 post n1 σ i1 x2 x3 x4 (0 : Int32)
theorem B_X0_leastOfBest_0 (E : EnvW p s m args meth c D cy regsC ad "RoofWar$Fitting" cX0_leastOfBest 6 (some .int)) (ha : Apart regsC ad) {post : Int32 → St → Prop} {σ : St} {i1 : Nat} {x2 : Int32} {x3 : Int32} {x4 : Int32} (hi1 : i1 < 3) (hw : w_X0_leastOfBest post σ i1 x2 x3 x4) {H : Heap} {locs : List Loc} {ls : Array Slot} (hP : va_P D CLS (wC cy ad σ) H) (hS : va_S (AC ad s.heap.size) s.heap H locs) (hl : lv_has ls 6 [(0, .ref (ad 25 0)), (1, .ref (ad 5 i1)), (2, .int x2), (3, .int x3), (4, .int x4)]) : W p l e rm_X0_leastOfBest s m args below meth c H locs 0 0 (MQ below (QI D cy (cellC cy ad) regsC ad s.heap.size post) args s 0 0 (AC ad s.heap.size)) (F0 m 0 ls []) := by
  obtain ⟨hx, hb, -⟩ := id E
  unfold w_X0_leastOfBest at hw
  refine lv_iconst (v := 0) hx hb dX0_leastOfBest_0 (by decide) ?_
  refine lv_istore (lv' := [(5, .int 0), (0, .ref (ad 25 0)), (1, .ref (ad 5 i1)), (2, .int x2), (3, .int x3), (4, .int x4)]) hx hb dX0_leastOfBest_1 hl (by decide) rfl (fun ls hl => ?_)
  obtain ⟨n1, hw⟩ := hw
  exact L_X0_leastOfBest_3 E ha n1 σ i1 x2 x3 x4 (0 : Int32) hi1 hw _ _ _ hP hS (lv_sub hl [1, 2, 3, 4, 5, 0] rfl)
theorem c_X0_leastOfBest (l : Launch) (D : va_G) (cy : Nat → ClassId) (ad : Nat → Nat → Nat) (ha : Apart regsC ad) {post : Int32 → St → Prop} {σ : St} {i1 : Nat} {x2 : Int32} {x3 : Int32} {x4 : Int32} (hi1 : i1 < 3) (hw : w_X0_leastOfBest post σ i1 x2 x3 x4) (sz : Nat) : MetI l yX0_leastOfBest cX0_leastOfBest 6 .int rm_X0_leastOfBest [.ref (ad 25 0), .ref (ad 5 i1), .int x2, .int x3, .int x4] D cy (cellC cy ad) regsC ad σ sz post :=
  Met_inI ok_X0_leastOfBest.2.2.2.2.2 (Nat.le_of_ble_eq_true rfl) (fun p e s m below meth c ls E hP hl => B_X0_leastOfBest_0 E ha hi1 hw hP va_S.rf hl)
-- RoofWar$Fitting.choose(LRoofWar$Hill;I)V
theorem dX0_choose_0 : decode cX0_choose 0 = .ok (.iconst 1, 1) := by decide +kernel
theorem dX0_choose_1 : decode cX0_choose 1 = .ok (.aload_n 0, 1) := by decide +kernel
theorem dX0_choose_2 : decode cX0_choose 2 = .ok (.getfield 23, 3) := by decide +kernel
theorem dX0_choose_5 : decode cX0_choose 5 = .ok (.ishl, 1) := by decide +kernel
theorem dX0_choose_6 : decode cX0_choose 6 = .ok (.iconst 1, 1) := by decide +kernel
theorem dX0_choose_7 : decode cX0_choose 7 = .ok (.isub, 1) := by decide +kernel
theorem dX0_choose_8 : decode cX0_choose 8 = .ok (.istore_n 3, 1) := by decide +kernel
theorem dX0_choose_9 : decode cX0_choose 9 = .ok (.iconst 0, 1) := by decide +kernel
theorem dX0_choose_10 : decode cX0_choose 10 = .ok (.istore 4, 2) := by decide +kernel
theorem dX0_choose_12 : decode cX0_choose 12 = .ok (.iload 4, 2) := by decide +kernel
theorem dX0_choose_14 : decode cX0_choose 14 = .ok (.bipush 6, 2) := by decide +kernel
theorem dX0_choose_16 : decode cX0_choose 16 = .ok (.if_icmp .ge 60, 3) := by decide +kernel
theorem dX0_choose_19 : decode cX0_choose 19 = .ok (.aload_n 0, 1) := by decide +kernel
theorem dX0_choose_20 : decode cX0_choose 20 = .ok (.aload_n 1, 1) := by decide +kernel
theorem dX0_choose_21 : decode cX0_choose 21 = .ok (.iload_n 2, 1) := by decide +kernel
theorem dX0_choose_22 : decode cX0_choose 22 = .ok (.iload 4, 2) := by decide +kernel
theorem dX0_choose_24 : decode cX0_choose 24 = .ok (.iload_n 3, 1) := by decide +kernel
theorem dX0_choose_25 : decode cX0_choose 25 = .ok (.invokevirtual 66, 3) := by decide +kernel
theorem dX0_choose_28 : decode cX0_choose 28 = .ok (.istore 5, 2) := by decide +kernel
theorem dX0_choose_30 : decode cX0_choose 30 = .ok (.aload_n 0, 1) := by decide +kernel
theorem dX0_choose_31 : decode cX0_choose 31 = .ok (.getfield 20, 3) := by decide +kernel
theorem dX0_choose_34 : decode cX0_choose 34 = .ok (.iload 4, 2) := by decide +kernel
theorem dX0_choose_36 : decode cX0_choose 36 = .ok (.iload 5, 2) := by decide +kernel
theorem dX0_choose_38 : decode cX0_choose 38 = .ok (.ldc 69, 2) := by decide +kernel
theorem dX0_choose_40 : decode cX0_choose 40 = .ok (.if_icmp .ne 8, 3) := by decide +kernel
theorem dX0_choose_43 : decode cX0_choose 43 = .ok (.ldc 69, 2) := by decide +kernel
theorem dX0_choose_45 : decode cX0_choose 45 = .ok (.goto 10, 3) := by decide +kernel
theorem dX0_choose_48 : decode cX0_choose 48 = .ok (.aload_n 0, 1) := by decide +kernel
theorem dX0_choose_49 : decode cX0_choose 49 = .ok (.getfield 9, 3) := by decide +kernel
theorem dX0_choose_52 : decode cX0_choose 52 = .ok (.iload 5, 2) := by decide +kernel
theorem dX0_choose_54 : decode cX0_choose 54 = .ok (.iaload, 1) := by decide +kernel
theorem dX0_choose_55 : decode cX0_choose 55 = .ok (.iastore, 1) := by decide +kernel
theorem dX0_choose_56 : decode cX0_choose 56 = .ok (.iload 5, 2) := by decide +kernel
theorem dX0_choose_58 : decode cX0_choose 58 = .ok (.ldc 69, 2) := by decide +kernel
theorem dX0_choose_60 : decode cX0_choose 60 = .ok (.if_icmp .eq 10, 3) := by decide +kernel
theorem dX0_choose_63 : decode cX0_choose 63 = .ok (.iload_n 3, 1) := by decide +kernel
theorem dX0_choose_64 : decode cX0_choose 64 = .ok (.iconst 1, 1) := by decide +kernel
theorem dX0_choose_65 : decode cX0_choose 65 = .ok (.iload 5, 2) := by decide +kernel
theorem dX0_choose_67 : decode cX0_choose 67 = .ok (.ishl, 1) := by decide +kernel
theorem dX0_choose_68 : decode cX0_choose 68 = .ok (.ixor, 1) := by decide +kernel
theorem dX0_choose_69 : decode cX0_choose 69 = .ok (.istore_n 3, 1) := by decide +kernel
theorem dX0_choose_70 : decode cX0_choose 70 = .ok (.iinc 4 1, 3) := by decide +kernel
theorem dX0_choose_73 : decode cX0_choose 73 = .ok (.goto (-61), 3) := by decide +kernel
theorem dX0_choose_76 : decode cX0_choose 76 = .ok (.return_, 1) := by decide +kernel
theorem ok_X0_choose : okV yX0_choose cX0_choose 6 none 2 := ⟨mw_594, mw_6, mw_78, mw_595, by decide +kernel, by decide +kernel⟩
abbrev rm_X0_choose : Room := { frames := 4, cells := 0, slots := 0, locals := 96 }
def b_X0_choose_55 (K12 : St → Nat → Int32 → Int32 → Int32 → Prop) (post : St → Prop) (σ : St) (y0 : Int32) (y1 : Int32) (i1 : Nat) (x2 : Int32) (x3 : Int32) (x4 : Int32) (x5 : Int32) : Prop := vp_in y1 6 ∧ (∀ s2 : St, s2 = wr σ 27 0 y1.toNatClampNeg y0 → (((x5 = ((-1000000005)) → (∀ v4 : Int32, v4 = x4 + 1 → (K12 s2 i1 x2 x3 v4))) ∧ (¬ x5 = ((-1000000005)) → (∀ v5 : Int32, v5 = x3 ^^^ (1 <<< (x5 &&& 31)) → (∀ v6 : Int32, v6 = x4 + 1 → (K12 s2 i1 x2 v5 v6)))))))
theorem B_X0_choose_55 (E : EnvW p s m args meth c D cy regsC ad "RoofWar$Fitting" cX0_choose 6 none) (ha : Apart regsC ad) {post : St → Prop} {K12 : St → Nat → Int32 → Int32 → Int32 → Prop} (hk12 : ∀ (σ : St) (i1 : Nat) (x2 : Int32) (x3 : Int32) (x4 : Int32), i1 < 3 → K12 σ i1 x2 x3 x4 → ∀ (H : Heap) (locs : List Loc) (ls : Array Slot), va_P D CLS (wC cy ad σ) H → va_S (AC ad s.heap.size) s.heap H locs → lv_has ls 6 [(0, .ref (ad 25 0)), (1, .ref (ad 5 i1)), (2, .int x2), (3, .int x3), (4, .int x4)] → W p l e rm_X0_choose s m args below meth c H locs 0 0 (MQ below (QV D cy (cellC cy ad) regsC ad s.heap.size post) args s 0 0 (AC ad s.heap.size)) (F0 m 12 ls [])) {σ : St} {y0 : Int32} {y1 : Int32} {i1 : Nat} {x2 : Int32} {x3 : Int32} {x4 : Int32} {x5 : Int32} (hi1 : i1 < 3) (hw : b_X0_choose_55 K12 post σ y0 y1 i1 x2 x3 x4 x5) {H : Heap} {locs : List Loc} {ls : Array Slot} (hP : va_P D CLS (wC cy ad σ) H) (hS : va_S (AC ad s.heap.size) s.heap H locs) (hl : lv_has ls 6 [(0, .ref (ad 25 0)), (1, .ref (ad 5 i1)), (2, .int x2), (3, .int x3), (4, .int x4), (5, .int x5)]) : W p l e rm_X0_choose s m args below meth c H locs 0 0 (MQ below (QV D cy (cellC cy ad) regsC ad s.heap.size post) args s 0 0 (AC ad s.heap.size)) (F0 m 55 ls [.int y0, .int y1, .ref (ad 27 0)]) := by
  obtain ⟨hx, hb, -⟩ := id E
  unfold b_X0_choose_55 at hw
  obtain ⟨h1, hw⟩ := hw
  refine tC27 E ha h1 dX0_choose_55 hP hS (fun s2 es2 H locs hP hS => ?_)
  replace hw := hw s2 es2
  refine lv_iload hx hb dX0_choose_56 (lv_at hl 5 rfl) ?_
  refine g_ldc (v := -1000000005) E mw_599 dX0_choose_58 ?_
  refine lv_icmp_eq (tgt := 70) hx hb dX0_choose_60 (by decide) (fun c3 => ?_) (fun c3 => ?_)
  · replace hw := hw.1 c3
    obtain ⟨v4, ev4⟩ : ∃ y : Int32, y = x4 + 1 := ⟨_, rfl⟩
    replace hw := hw v4 ev4
    refine lv_iinc (v := v4) (lv' := [(4, .int v4), (0, .ref (ad 25 0)), (1, .ref (ad 5 i1)), (2, .int x2), (3, .int x3), (5, .int x5)]) hx hb dX0_choose_70 hl (k := 4) rfl (by rw [ev4]; rfl) (by decide) rfl (fun ls hl => ?_)
    refine lv_goto (tgt := 12) hx hb dX0_choose_73 (by decide) ?_
    exact hk12 s2 i1 x2 x3 v4 hi1 hw _ _ _ hP hS (lv_sub hl [1, 2, 3, 4, 0] rfl)
  · replace hw := hw.2 c3
    refine lv_iload_n hx hb dX0_choose_63 rfl (lv_at hl 3 rfl) ?_
    refine lv_iconst (v := 1) hx hb dX0_choose_64 (by decide) ?_
    refine lv_iload hx hb dX0_choose_65 (lv_at hl 5 rfl) ?_
    refine lv_ishl hx hb dX0_choose_67 ?_
    refine lv_ixor hx hb dX0_choose_68 ?_
    refine lv_topi (fun v5 ev5 => ?_)
    replace hw := hw v5 ev5
    refine lv_istore_n (lv' := [(3, .int v5), (0, .ref (ad 25 0)), (1, .ref (ad 5 i1)), (2, .int x2), (4, .int x4), (5, .int x5)]) hx hb dX0_choose_69 rfl hl (by decide) rfl (fun ls hl => ?_)
    obtain ⟨v6, ev6⟩ : ∃ y : Int32, y = x4 + 1 := ⟨_, rfl⟩
    replace hw := hw v6 ev6
    refine lv_iinc (v := v6) (lv' := [(4, .int v6), (3, .int v5), (0, .ref (ad 25 0)), (1, .ref (ad 5 i1)), (2, .int x2), (5, .int x5)]) hx hb dX0_choose_70 hl (k := 4) rfl (by rw [ev6]; rfl) (by decide) rfl (fun ls hl => ?_)
    refine lv_goto (tgt := 12) hx hb dX0_choose_73 (by decide) ?_
    exact hk12 s2 i1 x2 v5 v6 hi1 hw _ _ _ hP hS (lv_sub hl [2, 3, 4, 1, 0] rfl)
def b_X0_choose_12 (K12 : St → Nat → Int32 → Int32 → Int32 → Prop) (post : St → Prop) (σ : St) (i1 : Nat) (x2 : Int32) (x3 : Int32) (x4 : Int32) : Prop := ((6 ≤ x4 → (post σ)) ∧ (¬ 6 ≤ x4 → (w_X0_leastOfBest (fun r2 s2 => ((¬ r2 = ((-1000000005)) → (vp_in r2 6 ∧ (b_X0_choose_55 K12 post s2 (s2 26 0 r2.toNatClampNeg) x4 i1 x2 x3 x4 r2))) ∧ (r2 = ((-1000000005)) → (b_X0_choose_55 K12 post s2 (-1000000005 : Int32) x4 i1 x2 x3 x4 r2)))) σ i1 x2 x4 x3)))
noncomputable def l_X0_choose_12 (post : St → Prop) : Nat → St → Nat → Int32 → Int32 → Int32 → Prop := fun n => Nat.rec (motive := fun _ => St → Nat → Int32 → Int32 → Int32 → Prop) (fun _ _ _ _ _ => False) (fun _ ih => b_X0_choose_12 ih post) n
theorem L_X0_choose_12 (E : EnvW p s m args meth c D cy regsC ad "RoofWar$Fitting" cX0_choose 6 none) (ha : Apart regsC ad) {post : St → Prop} : ∀ (n : Nat), ∀ (σ : St) (i1 : Nat) (x2 : Int32) (x3 : Int32) (x4 : Int32), i1 < 3 → l_X0_choose_12 post n σ i1 x2 x3 x4 → ∀ (H : Heap) (locs : List Loc) (ls : Array Slot), va_P D CLS (wC cy ad σ) H → va_S (AC ad s.heap.size) s.heap H locs → lv_has ls 6 [(0, .ref (ad 25 0)), (1, .ref (ad 5 i1)), (2, .int x2), (3, .int x3), (4, .int x4)] → W p l e rm_X0_choose s m args below meth c H locs 0 0 (MQ below (QV D cy (cellC cy ad) regsC ad s.heap.size post) args s 0 0 (AC ad s.heap.size)) (F0 m 12 ls []) := by
  obtain ⟨hx, hb, -⟩ := id E
  intro n
  induction n with
  | zero => intro σ i1 x2 x3 x4 hi1 hw; exact hw.elim
  | succ n hk12 =>
    intro σ i1 x2 x3 x4 hi1 hw H locs ls hP hS hl
    replace hw : b_X0_choose_12 (l_X0_choose_12 post n) post σ i1 x2 x3 x4 := hw
    unfold b_X0_choose_12 at hw
    refine lv_iload hx hb dX0_choose_12 (lv_at hl 4 rfl) ?_
    refine lv_bipush (v := 6) hx hb dX0_choose_14 (by decide) ?_
    refine lv_icmp_ge (tgt := 76) hx hb dX0_choose_16 (by decide) (fun c1 => ?_) (fun c1 => ?_)
    · replace hw := hw.1 c1
      exact g_vret E hw hP hS dX0_choose_76
    · replace hw := hw.2 c1
      refine lv_aload_n hx hb dX0_choose_19 rfl (lv_at hl 0 rfl) ?_
      refine lv_aload_n hx hb dX0_choose_20 rfl (lv_at hl 1 rfl) ?_
      refine lv_iload_n hx hb dX0_choose_21 rfl (lv_at hl 2 rfl) ?_
      refine lv_iload hx hb dX0_choose_22 (lv_at hl 4 rfl) ?_
      refine lv_iload_n hx hb dX0_choose_24 rfl (lv_at hl 3 rfl) ?_
      refine g_cVi (As := [.ref (ad 5 i1), .int x2, .int x4, .int x3]) (rest := []) E hl.1 (c_X0_leastOfBest l D cy ad ha hi1 hw _) ok_X0_leastOfBest mw_596 ⟨(Nat.le_of_ble_eq_true rfl), (Nat.le_of_ble_eq_true rfl)⟩ ⟨rfl, rfl⟩ rC25 rfl rfl rfl rfl rfl (Nat.le_of_ble_eq_true rfl) ⟨Nat.zero_le _, Nat.zero_le _⟩ hP hS dX0_choose_25 (fun r2 s2 hw H locs hP hS => ?_)
      refine lv_istore (lv' := [(5, .int r2), (0, .ref (ad 25 0)), (1, .ref (ad 5 i1)), (2, .int x2), (3, .int x3), (4, .int x4)]) hx hb dX0_choose_28 hl (by decide) rfl (fun ls hl => ?_)
      refine lv_aload_n hx hb dX0_choose_30 rfl (lv_at hl 1 rfl) ?_
      refine fX0_3 E hP mw_229 dX0_choose_31 ?_
      refine lv_iload hx hb dX0_choose_34 (lv_at hl 5 rfl) ?_
      refine lv_iload hx hb dX0_choose_36 (lv_at hl 0 rfl) ?_
      refine g_ldc (v := -1000000005) E mw_599 dX0_choose_38 ?_
      refine lv_icmp_ne (tgt := 48) hx hb dX0_choose_40 (by decide) (fun c3 => ?_) (fun c3 => ?_)
      · replace hw := hw.1 c3
        refine lv_aload_n hx hb dX0_choose_48 rfl (lv_at hl 1 rfl) ?_
        refine fX0_0 E hP mw_226 dX0_choose_49 ?_
        refine lv_iload hx hb dX0_choose_52 (lv_at hl 0 rfl) ?_
        obtain ⟨h4, hw⟩ := hw
        refine aC26 E hP h4 dX0_choose_54 ?_
        exact B_X0_choose_55 E ha hk12 hi1 hw hP hS (lv_sub hl [1, 2, 3, 4, 5, 0] rfl)
      · replace hw := hw.2 c3
        refine g_ldc (v := -1000000005) E mw_599 dX0_choose_43 ?_
        refine lv_goto (tgt := 55) hx hb dX0_choose_45 (by decide) ?_
        exact B_X0_choose_55 E ha hk12 hi1 hw hP hS (lv_sub hl [1, 2, 3, 4, 5, 0] rfl)
def w_X0_choose (post : St → Prop) (σ : St) (i1 : Nat) (x2 : Int32) : Prop := ∀ v1 : Int32, v1 = (1 <<< ((σ 25 0 0) &&& 31)) - 1 → (∃ n2 : Nat, l_X0_choose_12 post n2 σ i1 x2 v1 (0 : Int32))
theorem B_X0_choose_0 (E : EnvW p s m args meth c D cy regsC ad "RoofWar$Fitting" cX0_choose 6 none) (ha : Apart regsC ad) {post : St → Prop} {σ : St} {i1 : Nat} {x2 : Int32} (hi1 : i1 < 3) (hw : w_X0_choose post σ i1 x2) {H : Heap} {locs : List Loc} {ls : Array Slot} (hP : va_P D CLS (wC cy ad σ) H) (hS : va_S (AC ad s.heap.size) s.heap H locs) (hl : lv_has ls 6 [(0, .ref (ad 25 0)), (1, .ref (ad 5 i1)), (2, .int x2)]) : W p l e rm_X0_choose s m args below meth c H locs 0 0 (MQ below (QV D cy (cellC cy ad) regsC ad s.heap.size post) args s 0 0 (AC ad s.heap.size)) (F0 m 0 ls []) := by
  obtain ⟨hx, hb, -⟩ := id E
  unfold w_X0_choose at hw
  refine lv_iconst (v := 1) hx hb dX0_choose_0 (by decide) ?_
  refine lv_aload_n hx hb dX0_choose_1 rfl (lv_at hl 0 rfl) ?_
  refine fX0_1 E hP mw_227 dX0_choose_2 ?_
  refine lv_ishl hx hb dX0_choose_5 ?_
  refine lv_iconst (v := 1) hx hb dX0_choose_6 (by decide) ?_
  refine lv_isub hx hb dX0_choose_7 ?_
  refine lv_topi (fun v1 ev1 => ?_)
  replace hw := hw v1 ev1
  refine lv_istore_n (lv' := [(3, .int v1), (0, .ref (ad 25 0)), (1, .ref (ad 5 i1)), (2, .int x2)]) hx hb dX0_choose_8 rfl hl (by decide) rfl (fun ls hl => ?_)
  refine lv_iconst (v := 0) hx hb dX0_choose_9 (by decide) ?_
  refine lv_istore (lv' := [(4, .int 0), (3, .int v1), (0, .ref (ad 25 0)), (1, .ref (ad 5 i1)), (2, .int x2)]) hx hb dX0_choose_10 hl (by decide) rfl (fun ls hl => ?_)
  obtain ⟨n2, hw⟩ := hw
  exact L_X0_choose_12 E ha n2 σ i1 x2 v1 (0 : Int32) hi1 hw _ _ _ hP hS (lv_sub hl [2, 3, 4, 1, 0] rfl)
theorem c_X0_choose (l : Launch) (D : va_G) (cy : Nat → ClassId) (ad : Nat → Nat → Nat) (ha : Apart regsC ad) {post : St → Prop} {σ : St} {i1 : Nat} {x2 : Int32} (hi1 : i1 < 3) (hw : w_X0_choose post σ i1 x2) (sz : Nat) : MetV l yX0_choose cX0_choose 6 rm_X0_choose [.ref (ad 25 0), .ref (ad 5 i1), .int x2] D cy (cellC cy ad) regsC ad σ sz post :=
  Met_inV ok_X0_choose.2.2.2.2.2 (Nat.le_of_ble_eq_true rfl) (fun p e s m below meth c ls E hP hl => B_X0_choose_0 E ha hi1 hw hP va_S.rf hl)
-- RoofWar$Fitting.mostFrom(LRoofWar$Hill;III)I
theorem dX0_mostFrom_0 : decode cX0_mostFrom 0 = .ok (.aload_n 0, 1) := by decide +kernel
theorem dX0_mostFrom_1 : decode cX0_mostFrom 1 = .ok (.getfield 17, 3) := by decide +kernel
theorem dX0_mostFrom_4 : decode cX0_mostFrom 4 = .ok (.iload_n 3, 1) := by decide +kernel
theorem dX0_mostFrom_5 : decode cX0_mostFrom 5 = .ok (.iconst 1, 1) := by decide +kernel
theorem dX0_mostFrom_6 : decode cX0_mostFrom 6 = .ok (.iadd, 1) := by decide +kernel
theorem dX0_mostFrom_7 : decode cX0_mostFrom 7 = .ok (.aaload, 1) := by decide +kernel
theorem dX0_mostFrom_8 : decode cX0_mostFrom 8 = .ok (.iload 4, 2) := by decide +kernel
theorem dX0_mostFrom_10 : decode cX0_mostFrom 10 = .ok (.iaload, 1) := by decide +kernel
theorem dX0_mostFrom_11 : decode cX0_mostFrom 11 = .ok (.istore 5, 2) := by decide +kernel
theorem dX0_mostFrom_13 : decode cX0_mostFrom 13 = .ok (.iconst 0, 1) := by decide +kernel
theorem dX0_mostFrom_14 : decode cX0_mostFrom 14 = .ok (.istore 6, 2) := by decide +kernel
theorem dX0_mostFrom_16 : decode cX0_mostFrom 16 = .ok (.iload 6, 2) := by decide +kernel
theorem dX0_mostFrom_18 : decode cX0_mostFrom 18 = .ok (.aload_n 0, 1) := by decide +kernel
theorem dX0_mostFrom_19 : decode cX0_mostFrom 19 = .ok (.getfield 23, 3) := by decide +kernel
theorem dX0_mostFrom_22 : decode cX0_mostFrom 22 = .ok (.if_icmp .ge 37, 3) := by decide +kernel
theorem dX0_mostFrom_25 : decode cX0_mostFrom 25 = .ok (.iload 4, 2) := by decide +kernel
theorem dX0_mostFrom_27 : decode cX0_mostFrom 27 = .ok (.iload 6, 2) := by decide +kernel
theorem dX0_mostFrom_29 : decode cX0_mostFrom 29 = .ok (.invokestatic 53, 3) := by decide +kernel
theorem dX0_mostFrom_32 : decode cX0_mostFrom 32 = .ok (.ifCond .eq 21, 3) := by decide +kernel
theorem dX0_mostFrom_35 : decode cX0_mostFrom 35 = .ok (.iload 5, 2) := by decide +kernel
theorem dX0_mostFrom_37 : decode cX0_mostFrom 37 = .ok (.aload_n 0, 1) := by decide +kernel
theorem dX0_mostFrom_38 : decode cX0_mostFrom 38 = .ok (.aload_n 1, 1) := by decide +kernel
theorem dX0_mostFrom_39 : decode cX0_mostFrom 39 = .ok (.iload_n 2, 1) := by decide +kernel
theorem dX0_mostFrom_40 : decode cX0_mostFrom 40 = .ok (.iload_n 3, 1) := by decide +kernel
theorem dX0_mostFrom_41 : decode cX0_mostFrom 41 = .ok (.iload 4, 2) := by decide +kernel
theorem dX0_mostFrom_43 : decode cX0_mostFrom 43 = .ok (.iload 6, 2) := by decide +kernel
theorem dX0_mostFrom_45 : decode cX0_mostFrom 45 = .ok (.invokevirtual 57, 3) := by decide +kernel
theorem dX0_mostFrom_48 : decode cX0_mostFrom 48 = .ok (.invokestatic 61, 3) := by decide +kernel
theorem dX0_mostFrom_51 : decode cX0_mostFrom 51 = .ok (.istore 5, 2) := by decide +kernel
theorem dX0_mostFrom_53 : decode cX0_mostFrom 53 = .ok (.iinc 6 1, 3) := by decide +kernel
theorem dX0_mostFrom_56 : decode cX0_mostFrom 56 = .ok (.goto (-40), 3) := by decide +kernel
theorem dX0_mostFrom_59 : decode cX0_mostFrom 59 = .ok (.iload 5, 2) := by decide +kernel
theorem dX0_mostFrom_61 : decode cX0_mostFrom 61 = .ok (.ireturn, 1) := by decide +kernel
theorem ok_X0_mostFrom : okV yX0_mostFrom cX0_mostFrom 7 (some .int) 4 := ⟨mw_586, mw_4, mw_78, mw_587, by decide +kernel, by decide +kernel⟩
abbrev rm_X0_mostFrom : Room := { frames := 3, cells := 0, slots := 0, locals := 71 }
def b_X0_mostFrom_16 (K16 : St → Nat → Int32 → Int32 → Int32 → Int32 → Int32 → Prop) (post : Int32 → St → Prop) (σ : St) (i1 : Nat) (x2 : Int32) (x3 : Int32) (x4 : Int32) (x5 : Int32) (x6 : Int32) : Prop := (((σ 25 0 0) ≤ x6 → (post x5 σ)) ∧ (¬ (σ 25 0 0) ≤ x6 → (w_X9_inSet (fun r2 s2 => ((r2 = 0 → (∀ v4 : Int32, v4 = x6 + 1 → (K16 s2 i1 x2 x3 x4 x5 v4))) ∧ (¬ r2 = 0 → (w_X0_dryWith (fun r5 s5 => ∀ v6 : Int32, v6 = (if x5 < r5 then r5 else x5) → (∀ v7 : Int32, v7 = x6 + 1 → (K16 s5 i1 x2 x3 x4 v6 v7))) s2 i1 x2 x3 x4 x6)))) σ x4 x6)))
noncomputable def l_X0_mostFrom_16 (post : Int32 → St → Prop) : Nat → St → Nat → Int32 → Int32 → Int32 → Int32 → Int32 → Prop := fun n => Nat.rec (motive := fun _ => St → Nat → Int32 → Int32 → Int32 → Int32 → Int32 → Prop) (fun _ _ _ _ _ _ _ => False) (fun _ ih => b_X0_mostFrom_16 ih post) n
theorem L_X0_mostFrom_16 (E : EnvW p s m args meth c D cy regsC ad "RoofWar$Fitting" cX0_mostFrom 7 (some .int)) (ha : Apart regsC ad) {post : Int32 → St → Prop} : ∀ (n : Nat), ∀ (σ : St) (i1 : Nat) (x2 : Int32) (x3 : Int32) (x4 : Int32) (x5 : Int32) (x6 : Int32), i1 < 3 → l_X0_mostFrom_16 post n σ i1 x2 x3 x4 x5 x6 → ∀ (H : Heap) (locs : List Loc) (ls : Array Slot), va_P D CLS (wC cy ad σ) H → va_S (AC ad s.heap.size) s.heap H locs → lv_has ls 7 [(0, .ref (ad 25 0)), (1, .ref (ad 5 i1)), (2, .int x2), (3, .int x3), (4, .int x4), (5, .int x5), (6, .int x6)] → W p l e rm_X0_mostFrom s m args below meth c H locs 0 0 (MQ below (QI D cy (cellC cy ad) regsC ad s.heap.size post) args s 0 0 (AC ad s.heap.size)) (F0 m 16 ls []) := by
  obtain ⟨hx, hb, -⟩ := id E
  intro n
  induction n with
  | zero => intro σ i1 x2 x3 x4 x5 x6 hi1 hw; exact hw.elim
  | succ n hk16 =>
    intro σ i1 x2 x3 x4 x5 x6 hi1 hw H locs ls hP hS hl
    replace hw : b_X0_mostFrom_16 (l_X0_mostFrom_16 post n) post σ i1 x2 x3 x4 x5 x6 := hw
    unfold b_X0_mostFrom_16 at hw
    refine lv_iload hx hb dX0_mostFrom_16 (lv_at hl 6 rfl) ?_
    refine lv_aload_n hx hb dX0_mostFrom_18 rfl (lv_at hl 0 rfl) ?_
    refine fX0_1 E hP mw_227 dX0_mostFrom_19 ?_
    refine lv_icmp_ge (tgt := 59) hx hb dX0_mostFrom_22 (by decide) (fun c1 => ?_) (fun c1 => ?_)
    · replace hw := hw.1 c1
      refine lv_iload hx hb dX0_mostFrom_59 (lv_at hl 5 rfl) ?_
      exact g_iret E hw hP hS dX0_mostFrom_61
    · replace hw := hw.2 c1
      refine lv_iload hx hb dX0_mostFrom_25 (lv_at hl 4 rfl) ?_
      refine lv_iload hx hb dX0_mostFrom_27 (lv_at hl 6 rfl) ?_
      refine g_cNi (host := "RoofWar") (As := [.int x4, .int x6]) (rest := []) E hl.1 (c_X9_inSet l D cy ad ha hw _) ok_X9_inSet (List.mem_of_getElem? (i := 12) rfl) ⟨(Nat.le_of_ble_eq_true rfl), (Nat.le_of_ble_eq_true rfl)⟩ ⟨rfl, rfl⟩ rfl rfl (Nat.le_of_ble_eq_true rfl) ⟨Nat.zero_le _, Nat.zero_le _⟩ hP hS dX0_mostFrom_29 (fun r2 s2 hw H locs hP hS => ?_)
      obtain ⟨z2, hw⟩ := hw
      refine lv_if_eq (tgt := 53) hx hb dX0_mostFrom_32 (by decide) (fun c3 => ?_) (fun c3 => ?_)
      · replace hw := hw.1 c3
        obtain ⟨v4, ev4⟩ : ∃ y : Int32, y = x6 + 1 := ⟨_, rfl⟩
        replace hw := hw v4 ev4
        refine lv_iinc (v := v4) (lv' := [(6, .int v4), (0, .ref (ad 25 0)), (1, .ref (ad 5 i1)), (2, .int x2), (3, .int x3), (4, .int x4), (5, .int x5)]) hx hb dX0_mostFrom_53 hl (k := 6) rfl (by rw [ev4]; rfl) (by decide) rfl (fun ls hl => ?_)
        refine lv_goto (tgt := 16) hx hb dX0_mostFrom_56 (by decide) ?_
        exact hk16 s2 i1 x2 x3 x4 x5 v4 hi1 hw _ _ _ hP hS (lv_sub hl [1, 2, 3, 4, 5, 6, 0] rfl)
      · replace hw := hw.2 c3
        refine lv_iload hx hb dX0_mostFrom_35 (lv_at hl 5 rfl) ?_
        refine lv_aload_n hx hb dX0_mostFrom_37 rfl (lv_at hl 0 rfl) ?_
        refine lv_aload_n hx hb dX0_mostFrom_38 rfl (lv_at hl 1 rfl) ?_
        refine lv_iload_n hx hb dX0_mostFrom_39 rfl (lv_at hl 2 rfl) ?_
        refine lv_iload_n hx hb dX0_mostFrom_40 rfl (lv_at hl 3 rfl) ?_
        refine lv_iload hx hb dX0_mostFrom_41 (lv_at hl 4 rfl) ?_
        refine lv_iload hx hb dX0_mostFrom_43 (lv_at hl 6 rfl) ?_
        refine g_cVi (As := [.ref (ad 5 i1), .int x2, .int x3, .int x4, .int x6]) (rest := [.int x5]) E hl.1 (c_X0_dryWith l D cy ad ha hi1 hw _) ok_X0_dryWith mw_588 ⟨(Nat.le_of_ble_eq_true rfl), (Nat.le_of_ble_eq_true rfl)⟩ ⟨rfl, rfl⟩ rC25 rfl rfl rfl rfl rfl (Nat.le_of_ble_eq_true rfl) ⟨Nat.zero_le _, Nat.zero_le _⟩ hP hS dX0_mostFrom_45 (fun r5 s5 hw H locs hP hS => ?_)
        refine g_max E hl.1 mw_592 mw_538 mw_85 mw_539 ⟨(Nat.le_of_ble_eq_true rfl), (Nat.le_of_ble_eq_true rfl)⟩ ⟨Nat.zero_le _, Nat.zero_le _⟩ dX0_mostFrom_48 ?_
        refine lv_topi (fun v6 ev6 => ?_)
        replace hw := hw v6 ev6
        refine lv_istore (lv' := [(5, .int v6), (0, .ref (ad 25 0)), (1, .ref (ad 5 i1)), (2, .int x2), (3, .int x3), (4, .int x4), (6, .int x6)]) hx hb dX0_mostFrom_51 hl (by decide) rfl (fun ls hl => ?_)
        obtain ⟨v7, ev7⟩ : ∃ y : Int32, y = x6 + 1 := ⟨_, rfl⟩
        replace hw := hw v7 ev7
        refine lv_iinc (v := v7) (lv' := [(6, .int v7), (5, .int v6), (0, .ref (ad 25 0)), (1, .ref (ad 5 i1)), (2, .int x2), (3, .int x3), (4, .int x4)]) hx hb dX0_mostFrom_53 hl (k := 6) rfl (by rw [ev7]; rfl) (by decide) rfl (fun ls hl => ?_)
        refine lv_goto (tgt := 16) hx hb dX0_mostFrom_56 (by decide) ?_
        exact hk16 s5 i1 x2 x3 x4 v6 v7 hi1 hw _ _ _ hP hS (lv_sub hl [2, 3, 4, 5, 6, 1, 0] rfl)
def w_X0_mostFrom (post : Int32 → St → Prop) (σ : St) (i1 : Nat) (x2 : Int32) (x3 : Int32) (x4 : Int32) : Prop := vp_in (x3 + 1) 7 ∧ (vp_in x4 64 ∧ (∀ v3 : Int32, v3 = σ 29 ((x3 + 1).toNatClampNeg) x4.toNatClampNeg → (∃ n4 : Nat, l_X0_mostFrom_16 post n4 σ i1 x2 x3 x4 v3 (0 : Int32))))
theorem B_X0_mostFrom_0 (E : EnvW p s m args meth c D cy regsC ad "RoofWar$Fitting" cX0_mostFrom 7 (some .int)) (ha : Apart regsC ad) {post : Int32 → St → Prop} {σ : St} {i1 : Nat} {x2 : Int32} {x3 : Int32} {x4 : Int32} (hi1 : i1 < 3) (hw : w_X0_mostFrom post σ i1 x2 x3 x4) {H : Heap} {locs : List Loc} {ls : Array Slot} (hP : va_P D CLS (wC cy ad σ) H) (hS : va_S (AC ad s.heap.size) s.heap H locs) (hl : lv_has ls 7 [(0, .ref (ad 25 0)), (1, .ref (ad 5 i1)), (2, .int x2), (3, .int x3), (4, .int x4)]) : W p l e rm_X0_mostFrom s m args below meth c H locs 0 0 (MQ below (QI D cy (cellC cy ad) regsC ad s.heap.size post) args s 0 0 (AC ad s.heap.size)) (F0 m 0 ls []) := by
  obtain ⟨hx, hb, -⟩ := id E
  unfold w_X0_mostFrom at hw
  refine lv_aload_n hx hb dX0_mostFrom_0 rfl (lv_at hl 0 rfl) ?_
  refine fX0_2 E hP mw_228 dX0_mostFrom_1 ?_
  refine lv_iload_n hx hb dX0_mostFrom_4 rfl (lv_at hl 3 rfl) ?_
  refine lv_iconst (v := 1) hx hb dX0_mostFrom_5 (by decide) ?_
  refine lv_iadd hx hb dX0_mostFrom_6 ?_
  obtain ⟨h1, hw⟩ := hw
  refine aC28 E hP h1 dX0_mostFrom_7 ?_
  refine lv_iload hx hb dX0_mostFrom_8 (lv_at hl 4 rfl) ?_
  obtain ⟨h2, hw⟩ := hw
  refine aC29 ((vp_lt h1)) E hP h2 dX0_mostFrom_10 ?_
  refine lv_topi (fun v3 ev3 => ?_)
  replace hw := hw v3 ev3
  refine lv_istore (lv' := [(5, .int v3), (0, .ref (ad 25 0)), (1, .ref (ad 5 i1)), (2, .int x2), (3, .int x3), (4, .int x4)]) hx hb dX0_mostFrom_11 hl (by decide) rfl (fun ls hl => ?_)
  refine lv_iconst (v := 0) hx hb dX0_mostFrom_13 (by decide) ?_
  refine lv_istore (lv' := [(6, .int 0), (5, .int v3), (0, .ref (ad 25 0)), (1, .ref (ad 5 i1)), (2, .int x2), (3, .int x3), (4, .int x4)]) hx hb dX0_mostFrom_14 hl (by decide) rfl (fun ls hl => ?_)
  obtain ⟨n4, hw⟩ := hw
  exact L_X0_mostFrom_16 E ha n4 σ i1 x2 x3 x4 v3 (0 : Int32) hi1 hw _ _ _ hP hS (lv_sub hl [2, 3, 4, 5, 6, 1, 0] rfl)
theorem c_X0_mostFrom (l : Launch) (D : va_G) (cy : Nat → ClassId) (ad : Nat → Nat → Nat) (ha : Apart regsC ad) {post : Int32 → St → Prop} {σ : St} {i1 : Nat} {x2 : Int32} {x3 : Int32} {x4 : Int32} (hi1 : i1 < 3) (hw : w_X0_mostFrom post σ i1 x2 x3 x4) (sz : Nat) : MetI l yX0_mostFrom cX0_mostFrom 7 .int rm_X0_mostFrom [.ref (ad 25 0), .ref (ad 5 i1), .int x2, .int x3, .int x4] D cy (cellC cy ad) regsC ad σ sz post :=
  Met_inI ok_X0_mostFrom.2.2.2.2.2 (Nat.le_of_ble_eq_true rfl) (fun p e s m below meth c ls E hP hl => B_X0_mostFrom_0 E ha hi1 hw hP va_S.rf hl)
-- RoofWar$Fitting.think(LRoofWar$Hill;I)V
theorem dX0_think_0 : decode cX0_think 0 = .ok (.aload_n 0, 1) := by decide +kernel
theorem dX0_think_1 : decode cX0_think 1 = .ok (.iconst 0, 1) := by decide +kernel
theorem dX0_think_2 : decode cX0_think 2 = .ok (.putfield 23, 3) := by decide +kernel
theorem dX0_think_5 : decode cX0_think 5 = .ok (.iconst 0, 1) := by decide +kernel
theorem dX0_think_6 : decode cX0_think 6 = .ok (.istore_n 3, 1) := by decide +kernel
theorem dX0_think_7 : decode cX0_think 7 = .ok (.iload_n 3, 1) := by decide +kernel
theorem dX0_think_8 : decode cX0_think 8 = .ok (.aload_n 1, 1) := by decide +kernel
theorem dX0_think_9 : decode cX0_think 9 = .ok (.getfield 27, 3) := by decide +kernel
theorem dX0_think_12 : decode cX0_think 12 = .ok (.if_icmp .ge 51, 3) := by decide +kernel
theorem dX0_think_15 : decode cX0_think 15 = .ok (.aload_n 0, 1) := by decide +kernel
theorem dX0_think_16 : decode cX0_think 16 = .ok (.getfield 23, 3) := by decide +kernel
theorem dX0_think_19 : decode cX0_think 19 = .ok (.bipush 6, 2) := by decide +kernel
theorem dX0_think_21 : decode cX0_think 21 = .ok (.if_icmp .ge 42, 3) := by decide +kernel
theorem dX0_think_24 : decode cX0_think 24 = .ok (.aload_n 1, 1) := by decide +kernel
theorem dX0_think_25 : decode cX0_think 25 = .ok (.getfield 31, 3) := by decide +kernel
theorem dX0_think_28 : decode cX0_think 28 = .ok (.iload_n 3, 1) := by decide +kernel
theorem dX0_think_29 : decode cX0_think 29 = .ok (.iaload, 1) := by decide +kernel
theorem dX0_think_30 : decode cX0_think 30 = .ok (.invokestatic 34, 3) := by decide +kernel
theorem dX0_think_33 : decode cX0_think 33 = .ok (.iload_n 2, 1) := by decide +kernel
theorem dX0_think_34 : decode cX0_think 34 = .ok (.if_icmp .ne 23, 3) := by decide +kernel
theorem dX0_think_37 : decode cX0_think 37 = .ok (.aload_n 0, 1) := by decide +kernel
theorem dX0_think_38 : decode cX0_think 38 = .ok (.getfield 9, 3) := by decide +kernel
theorem dX0_think_41 : decode cX0_think 41 = .ok (.aload_n 0, 1) := by decide +kernel
theorem dX0_think_42 : decode cX0_think 42 = .ok (.getfield 23, 3) := by decide +kernel
theorem dX0_think_45 : decode cX0_think 45 = .ok (.iload_n 3, 1) := by decide +kernel
theorem dX0_think_46 : decode cX0_think 46 = .ok (.iastore, 1) := by decide +kernel
theorem dX0_think_47 : decode cX0_think 47 = .ok (.aload_n 0, 1) := by decide +kernel
theorem dX0_think_48 : decode cX0_think 48 = .ok (.dup, 1) := by decide +kernel
theorem dX0_think_49 : decode cX0_think 49 = .ok (.getfield 23, 3) := by decide +kernel
theorem dX0_think_52 : decode cX0_think 52 = .ok (.iconst 1, 1) := by decide +kernel
theorem dX0_think_53 : decode cX0_think 53 = .ok (.iadd, 1) := by decide +kernel
theorem dX0_think_54 : decode cX0_think 54 = .ok (.putfield 23, 3) := by decide +kernel
theorem dX0_think_57 : decode cX0_think 57 = .ok (.iinc 3 1, 3) := by decide +kernel
theorem dX0_think_60 : decode cX0_think 60 = .ok (.goto (-53), 3) := by decide +kernel
theorem dX0_think_63 : decode cX0_think 63 = .ok (.iconst 5, 1) := by decide +kernel
theorem dX0_think_64 : decode cX0_think 64 = .ok (.istore_n 3, 1) := by decide +kernel
theorem dX0_think_65 : decode cX0_think 65 = .ok (.iload_n 3, 1) := by decide +kernel
theorem dX0_think_66 : decode cX0_think 66 = .ok (.ifCond .lt 47, 3) := by decide +kernel
theorem dX0_think_69 : decode cX0_think 69 = .ok (.iconst 0, 1) := by decide +kernel
theorem dX0_think_70 : decode cX0_think 70 = .ok (.istore 4, 2) := by decide +kernel
theorem dX0_think_72 : decode cX0_think 72 = .ok (.iload 4, 2) := by decide +kernel
theorem dX0_think_74 : decode cX0_think 74 = .ok (.iconst 1, 1) := by decide +kernel
theorem dX0_think_75 : decode cX0_think 75 = .ok (.aload_n 0, 1) := by decide +kernel
theorem dX0_think_76 : decode cX0_think 76 = .ok (.getfield 23, 3) := by decide +kernel
theorem dX0_think_79 : decode cX0_think 79 = .ok (.ishl, 1) := by decide +kernel
theorem dX0_think_80 : decode cX0_think 80 = .ok (.if_icmp .ge 27, 3) := by decide +kernel
theorem dX0_think_83 : decode cX0_think 83 = .ok (.aload_n 0, 1) := by decide +kernel
theorem dX0_think_84 : decode cX0_think 84 = .ok (.getfield 17, 3) := by decide +kernel
theorem dX0_think_87 : decode cX0_think 87 = .ok (.iload_n 3, 1) := by decide +kernel
theorem dX0_think_88 : decode cX0_think 88 = .ok (.aaload, 1) := by decide +kernel
theorem dX0_think_89 : decode cX0_think 89 = .ok (.iload 4, 2) := by decide +kernel
theorem dX0_think_91 : decode cX0_think 91 = .ok (.aload_n 0, 1) := by decide +kernel
theorem dX0_think_92 : decode cX0_think 92 = .ok (.aload_n 1, 1) := by decide +kernel
theorem dX0_think_93 : decode cX0_think 93 = .ok (.iload_n 2, 1) := by decide +kernel
theorem dX0_think_94 : decode cX0_think 94 = .ok (.iload_n 3, 1) := by decide +kernel
theorem dX0_think_95 : decode cX0_think 95 = .ok (.iload 4, 2) := by decide +kernel
theorem dX0_think_97 : decode cX0_think 97 = .ok (.invokevirtual 38, 3) := by decide +kernel
theorem dX0_think_100 : decode cX0_think 100 = .ok (.iastore, 1) := by decide +kernel
theorem dX0_think_101 : decode cX0_think 101 = .ok (.iinc 4 1, 3) := by decide +kernel
theorem dX0_think_104 : decode cX0_think 104 = .ok (.goto (-32), 3) := by decide +kernel
theorem dX0_think_107 : decode cX0_think 107 = .ok (.iinc 3 (-1), 3) := by decide +kernel
theorem dX0_think_110 : decode cX0_think 110 = .ok (.goto (-45), 3) := by decide +kernel
theorem dX0_think_113 : decode cX0_think 113 = .ok (.aload_n 0, 1) := by decide +kernel
theorem dX0_think_114 : decode cX0_think 114 = .ok (.aload_n 1, 1) := by decide +kernel
theorem dX0_think_115 : decode cX0_think 115 = .ok (.iload_n 2, 1) := by decide +kernel
theorem dX0_think_116 : decode cX0_think 116 = .ok (.invokevirtual 42, 3) := by decide +kernel
theorem dX0_think_119 : decode cX0_think 119 = .ok (.return_, 1) := by decide +kernel
theorem ok_X0_think : okV yX0_think cX0_think 5 none 2 := ⟨mw_582, mw_583, mw_78, mw_584, by decide +kernel, by decide +kernel⟩
abbrev rm_X0_think : Room := { frames := 5, cells := 0, slots := 0, locals := 121 }
def b_X0_think_72 (K65 : St → Nat → Int32 → Int32 → Prop) (K72 : St → Nat → Int32 → Int32 → Int32 → Prop) (post : St → Prop) (σ : St) (i1 : Nat) (x2 : Int32) (x3 : Int32) (x4 : Int32) : Prop := (((1 <<< ((σ 25 0 0) &&& 31)) ≤ x4 → (∀ v2 : Int32, v2 = x3 + (-1) → (K65 σ i1 x2 v2))) ∧ (¬ (1 <<< ((σ 25 0 0) &&& 31)) ≤ x4 → (vp_in x3 7 ∧ (w_X0_mostFrom (fun r4 s4 => vp_in x4 64 ∧ (∀ s6 : St, s6 = wr s4 29 x3.toNatClampNeg x4.toNatClampNeg r4 → (∀ v7 : Int32, v7 = x4 + 1 → (K72 s6 i1 x2 x3 v7)))) σ i1 x2 x3 x4))))
noncomputable def l_X0_think_72 (K65 : St → Nat → Int32 → Int32 → Prop) (post : St → Prop) : Nat → St → Nat → Int32 → Int32 → Int32 → Prop := fun n => Nat.rec (motive := fun _ => St → Nat → Int32 → Int32 → Int32 → Prop) (fun _ _ _ _ _ => False) (fun _ ih => b_X0_think_72 K65 ih post) n
theorem L_X0_think_72 (E : EnvW p s m args meth c D cy regsC ad "RoofWar$Fitting" cX0_think 5 none) (ha : Apart regsC ad) {post : St → Prop} {K65 : St → Nat → Int32 → Int32 → Prop} (hk65 : ∀ (σ : St) (i1 : Nat) (x2 : Int32) (x3 : Int32), i1 < 3 → K65 σ i1 x2 x3 → ∀ (H : Heap) (locs : List Loc) (ls : Array Slot), va_P D CLS (wC cy ad σ) H → va_S (AC ad s.heap.size) s.heap H locs → lv_has ls 5 [(0, .ref (ad 25 0)), (1, .ref (ad 5 i1)), (2, .int x2), (3, .int x3)] → W p l e rm_X0_think s m args below meth c H locs 0 0 (MQ below (QV D cy (cellC cy ad) regsC ad s.heap.size post) args s 0 0 (AC ad s.heap.size)) (F0 m 65 ls [])) : ∀ (n : Nat), ∀ (σ : St) (i1 : Nat) (x2 : Int32) (x3 : Int32) (x4 : Int32), i1 < 3 → l_X0_think_72 K65 post n σ i1 x2 x3 x4 → ∀ (H : Heap) (locs : List Loc) (ls : Array Slot), va_P D CLS (wC cy ad σ) H → va_S (AC ad s.heap.size) s.heap H locs → lv_has ls 5 [(0, .ref (ad 25 0)), (1, .ref (ad 5 i1)), (2, .int x2), (3, .int x3), (4, .int x4)] → W p l e rm_X0_think s m args below meth c H locs 0 0 (MQ below (QV D cy (cellC cy ad) regsC ad s.heap.size post) args s 0 0 (AC ad s.heap.size)) (F0 m 72 ls []) := by
  obtain ⟨hx, hb, -⟩ := id E
  intro n
  induction n with
  | zero => intro σ i1 x2 x3 x4 hi1 hw; exact hw.elim
  | succ n hk72 =>
    intro σ i1 x2 x3 x4 hi1 hw H locs ls hP hS hl
    replace hw : b_X0_think_72 K65 (l_X0_think_72 K65 post n) post σ i1 x2 x3 x4 := hw
    unfold b_X0_think_72 at hw
    refine lv_iload hx hb dX0_think_72 (lv_at hl 4 rfl) ?_
    refine lv_iconst (v := 1) hx hb dX0_think_74 (by decide) ?_
    refine lv_aload_n hx hb dX0_think_75 rfl (lv_at hl 0 rfl) ?_
    refine fX0_1 E hP mw_227 dX0_think_76 ?_
    refine lv_ishl hx hb dX0_think_79 ?_
    refine lv_icmp_ge (tgt := 107) hx hb dX0_think_80 (by decide) (fun c1 => ?_) (fun c1 => ?_)
    · replace hw := hw.1 c1
      obtain ⟨v2, ev2⟩ : ∃ y : Int32, y = x3 + (-1) := ⟨_, rfl⟩
      replace hw := hw v2 ev2
      refine lv_iinc (v := v2) (lv' := [(3, .int v2), (0, .ref (ad 25 0)), (1, .ref (ad 5 i1)), (2, .int x2), (4, .int x4)]) hx hb dX0_think_107 hl (k := 3) rfl (by rw [ev2]; rfl) (by decide) rfl (fun ls hl => ?_)
      refine lv_goto (tgt := 65) hx hb dX0_think_110 (by decide) ?_
      exact hk65 σ i1 x2 v2 hi1 hw _ _ _ hP hS (lv_sub hl [1, 2, 3, 0] rfl)
    · replace hw := hw.2 c1
      refine lv_aload_n hx hb dX0_think_83 rfl (lv_at hl 0 rfl) ?_
      refine fX0_2 E hP mw_228 dX0_think_84 ?_
      refine lv_iload_n hx hb dX0_think_87 rfl (lv_at hl 3 rfl) ?_
      obtain ⟨h3, hw⟩ := hw
      refine aC28 E hP h3 dX0_think_88 ?_
      refine lv_iload hx hb dX0_think_89 (lv_at hl 4 rfl) ?_
      refine lv_aload_n hx hb dX0_think_91 rfl (lv_at hl 0 rfl) ?_
      refine lv_aload_n hx hb dX0_think_92 rfl (lv_at hl 1 rfl) ?_
      refine lv_iload_n hx hb dX0_think_93 rfl (lv_at hl 2 rfl) ?_
      refine lv_iload_n hx hb dX0_think_94 rfl (lv_at hl 3 rfl) ?_
      refine lv_iload hx hb dX0_think_95 (lv_at hl 4 rfl) ?_
      refine g_cVi (As := [.ref (ad 5 i1), .int x2, .int x3, .int x4]) (rest := [.int x4, .ref (ad 29 x3.toNatClampNeg)]) E hl.1 (c_X0_mostFrom l D cy ad ha hi1 hw _) ok_X0_mostFrom mw_585 ⟨(Nat.le_of_ble_eq_true rfl), (Nat.le_of_ble_eq_true rfl)⟩ ⟨rfl, rfl⟩ rC25 rfl rfl rfl rfl rfl (Nat.le_of_ble_eq_true rfl) ⟨Nat.zero_le _, Nat.zero_le _⟩ hP hS dX0_think_97 (fun r4 s4 hw H locs hP hS => ?_)
      obtain ⟨h5, hw⟩ := hw
      refine tC29 ((vp_lt h3)) E ha h5 dX0_think_100 hP hS (fun s6 es6 H locs hP hS => ?_)
      replace hw := hw s6 es6
      obtain ⟨v7, ev7⟩ : ∃ y : Int32, y = x4 + 1 := ⟨_, rfl⟩
      replace hw := hw v7 ev7
      refine lv_iinc (v := v7) (lv' := [(4, .int v7), (0, .ref (ad 25 0)), (1, .ref (ad 5 i1)), (2, .int x2), (3, .int x3)]) hx hb dX0_think_101 hl (k := 4) rfl (by rw [ev7]; rfl) (by decide) rfl (fun ls hl => ?_)
      refine lv_goto (tgt := 72) hx hb dX0_think_104 (by decide) ?_
      exact hk72 s6 i1 x2 x3 v7 hi1 hw _ _ _ hP hS (lv_sub hl [1, 2, 3, 4, 0] rfl)
def b_X0_think_65 (K65 : St → Nat → Int32 → Int32 → Prop) (post : St → Prop) (σ : St) (i1 : Nat) (x2 : Int32) (x3 : Int32) : Prop := ((x3 < 0 → (w_X0_choose (fun s2 => post s2) σ i1 x2)) ∧ (¬ x3 < 0 → (∃ n3 : Nat, l_X0_think_72 K65 post n3 σ i1 x2 x3 (0 : Int32))))
noncomputable def l_X0_think_65 (post : St → Prop) : Nat → St → Nat → Int32 → Int32 → Prop := fun n => Nat.rec (motive := fun _ => St → Nat → Int32 → Int32 → Prop) (fun _ _ _ _ => False) (fun _ ih => b_X0_think_65 ih post) n
theorem L_X0_think_65 (E : EnvW p s m args meth c D cy regsC ad "RoofWar$Fitting" cX0_think 5 none) (ha : Apart regsC ad) {post : St → Prop} : ∀ (n : Nat), ∀ (σ : St) (i1 : Nat) (x2 : Int32) (x3 : Int32), i1 < 3 → l_X0_think_65 post n σ i1 x2 x3 → ∀ (H : Heap) (locs : List Loc) (ls : Array Slot), va_P D CLS (wC cy ad σ) H → va_S (AC ad s.heap.size) s.heap H locs → lv_has ls 5 [(0, .ref (ad 25 0)), (1, .ref (ad 5 i1)), (2, .int x2), (3, .int x3)] → W p l e rm_X0_think s m args below meth c H locs 0 0 (MQ below (QV D cy (cellC cy ad) regsC ad s.heap.size post) args s 0 0 (AC ad s.heap.size)) (F0 m 65 ls []) := by
  obtain ⟨hx, hb, -⟩ := id E
  intro n
  induction n with
  | zero => intro σ i1 x2 x3 hi1 hw; exact hw.elim
  | succ n hk65 =>
    intro σ i1 x2 x3 hi1 hw H locs ls hP hS hl
    replace hw : b_X0_think_65 (l_X0_think_65 post n) post σ i1 x2 x3 := hw
    unfold b_X0_think_65 at hw
    refine lv_iload_n hx hb dX0_think_65 rfl (lv_at hl 3 rfl) ?_
    refine lv_if_lt (tgt := 113) hx hb dX0_think_66 (by decide) (fun c1 => ?_) (fun c1 => ?_)
    · replace hw := hw.1 c1
      refine lv_aload_n hx hb dX0_think_113 rfl (lv_at hl 0 rfl) ?_
      refine lv_aload_n hx hb dX0_think_114 rfl (lv_at hl 1 rfl) ?_
      refine lv_iload_n hx hb dX0_think_115 rfl (lv_at hl 2 rfl) ?_
      refine g_cVv (As := [.ref (ad 5 i1), .int x2]) (rest := []) E hl.1 (c_X0_choose l D cy ad ha hi1 hw _) ok_X0_choose mw_593 ⟨(Nat.le_of_ble_eq_true rfl), (Nat.le_of_ble_eq_true rfl)⟩ ⟨rfl, rfl⟩ rC25 rfl rfl rfl rfl rfl (Nat.le_of_ble_eq_true rfl) ⟨Nat.zero_le _, Nat.zero_le _⟩ hP hS dX0_think_116 (fun s2 hw H locs hP hS => ?_)
      exact g_vret E hw hP hS dX0_think_119
    · replace hw := hw.2 c1
      refine lv_iconst (v := 0) hx hb dX0_think_69 (by decide) ?_
      refine lv_istore (lv' := [(4, .int 0), (0, .ref (ad 25 0)), (1, .ref (ad 5 i1)), (2, .int x2), (3, .int x3)]) hx hb dX0_think_70 hl (by decide) rfl (fun ls hl => ?_)
      obtain ⟨n3, hw⟩ := hw
      exact L_X0_think_72 E ha hk65 n3 σ i1 x2 x3 (0 : Int32) hi1 hw _ _ _ hP hS (lv_sub hl [1, 2, 3, 4, 0] rfl)
def b_X0_think_7 (K7 : St → Nat → Int32 → Int32 → Prop) (post : St → Prop) (σ : St) (i1 : Nat) (x2 : Int32) (x3 : Int32) : Prop := (((σ 5 i1 0) ≤ x3 → (∃ n2 : Nat, l_X0_think_65 post n2 σ i1 x2 (5 : Int32))) ∧ (¬ (σ 5 i1 0) ≤ x3 → (((6 ≤ (σ 25 0 0) → (∃ n4 : Nat, l_X0_think_65 post n4 σ i1 x2 (5 : Int32))) ∧ (¬ 6 ≤ (σ 25 0 0) → (vp_in x3 12 ∧ (w_X9_townOf (fun r6 s6 => ((¬ r6 = x2 → (∀ v8 : Int32, v8 = x3 + 1 → (K7 s6 i1 x2 v8))) ∧ (r6 = x2 → (vp_in (s6 25 0 0) 6 ∧ (∀ s10 : St, s10 = wr s6 26 0 (s6 25 0 0).toNatClampNeg x3 → (∀ s11 : St, s11 = wr s10 25 0 0 ((s10 25 0 0) + 1) → (∀ v12 : Int32, v12 = x3 + 1 → (K7 s11 i1 x2 v12)))))))) σ (σ 9 i1 x3.toNatClampNeg))))))))
noncomputable def l_X0_think_7 (post : St → Prop) : Nat → St → Nat → Int32 → Int32 → Prop := fun n => Nat.rec (motive := fun _ => St → Nat → Int32 → Int32 → Prop) (fun _ _ _ _ => False) (fun _ ih => b_X0_think_7 ih post) n
theorem L_X0_think_7 (E : EnvW p s m args meth c D cy regsC ad "RoofWar$Fitting" cX0_think 5 none) (ha : Apart regsC ad) {post : St → Prop} : ∀ (n : Nat), ∀ (σ : St) (i1 : Nat) (x2 : Int32) (x3 : Int32), i1 < 3 → l_X0_think_7 post n σ i1 x2 x3 → ∀ (H : Heap) (locs : List Loc) (ls : Array Slot), va_P D CLS (wC cy ad σ) H → va_S (AC ad s.heap.size) s.heap H locs → lv_has ls 5 [(0, .ref (ad 25 0)), (1, .ref (ad 5 i1)), (2, .int x2), (3, .int x3)] → W p l e rm_X0_think s m args below meth c H locs 0 0 (MQ below (QV D cy (cellC cy ad) regsC ad s.heap.size post) args s 0 0 (AC ad s.heap.size)) (F0 m 7 ls []) := by
  obtain ⟨hx, hb, -⟩ := id E
  intro n
  induction n with
  | zero => intro σ i1 x2 x3 hi1 hw; exact hw.elim
  | succ n hk7 =>
    intro σ i1 x2 x3 hi1 hw H locs ls hP hS hl
    replace hw : b_X0_think_7 (l_X0_think_7 post n) post σ i1 x2 x3 := hw
    unfold b_X0_think_7 at hw
    refine lv_iload_n hx hb dX0_think_7 rfl (lv_at hl 3 rfl) ?_
    refine lv_aload_n hx hb dX0_think_8 rfl (lv_at hl 1 rfl) ?_
    refine fX1_9 hi1 E hP mw_166 dX0_think_9 ?_
    refine lv_icmp_ge (tgt := 63) hx hb dX0_think_12 (by decide) (fun c1 => ?_) (fun c1 => ?_)
    · replace hw := hw.1 c1
      refine lv_iconst (v := 5) hx hb dX0_think_63 (by decide) ?_
      refine lv_istore_n (lv' := [(3, .int 5), (0, .ref (ad 25 0)), (1, .ref (ad 5 i1)), (2, .int x2)]) hx hb dX0_think_64 rfl hl (by decide) rfl (fun ls hl => ?_)
      obtain ⟨n2, hw⟩ := hw
      exact L_X0_think_65 E ha n2 σ i1 x2 (5 : Int32) hi1 hw _ _ _ hP hS (lv_sub hl [1, 2, 3, 0] rfl)
    · replace hw := hw.2 c1
      refine lv_aload_n hx hb dX0_think_15 rfl (lv_at hl 0 rfl) ?_
      refine fX0_1 E hP mw_227 dX0_think_16 ?_
      refine lv_bipush (v := 6) hx hb dX0_think_19 (by decide) ?_
      refine lv_icmp_ge (tgt := 63) hx hb dX0_think_21 (by decide) (fun c3 => ?_) (fun c3 => ?_)
      · replace hw := hw.1 c3
        refine lv_iconst (v := 5) hx hb dX0_think_63 (by decide) ?_
        refine lv_istore_n (lv' := [(3, .int 5), (0, .ref (ad 25 0)), (1, .ref (ad 5 i1)), (2, .int x2)]) hx hb dX0_think_64 rfl hl (by decide) rfl (fun ls hl => ?_)
        obtain ⟨n4, hw⟩ := hw
        exact L_X0_think_65 E ha n4 σ i1 x2 (5 : Int32) hi1 hw _ _ _ hP hS (lv_sub hl [1, 2, 3, 0] rfl)
      · replace hw := hw.2 c3
        refine lv_aload_n hx hb dX0_think_24 rfl (lv_at hl 1 rfl) ?_
        refine fX1_4 hi1 E hP mw_156 dX0_think_25 ?_
        refine lv_iload_n hx hb dX0_think_28 rfl (lv_at hl 3 rfl) ?_
        obtain ⟨h5, hw⟩ := hw
        refine aC9 hi1 E hP h5 dX0_think_29 ?_
        refine g_cNi (host := "RoofWar") (As := [.int (σ 9 i1 x3.toNatClampNeg)]) (rest := []) E hl.1 (c_X9_townOf l D cy ad ha hw _) ok_X9_townOf (List.mem_of_getElem? (i := 11) rfl) ⟨(Nat.le_of_ble_eq_true rfl), (Nat.le_of_ble_eq_true rfl)⟩ ⟨rfl, rfl⟩ rfl rfl (Nat.le_of_ble_eq_true rfl) ⟨Nat.zero_le _, Nat.zero_le _⟩ hP hS dX0_think_30 (fun r6 s6 hw H locs hP hS => ?_)
        refine lv_iload_n hx hb dX0_think_33 rfl (lv_at hl 2 rfl) ?_
        refine lv_icmp_ne (tgt := 57) hx hb dX0_think_34 (by decide) (fun c7 => ?_) (fun c7 => ?_)
        · replace hw := hw.1 c7
          obtain ⟨v8, ev8⟩ : ∃ y : Int32, y = x3 + 1 := ⟨_, rfl⟩
          replace hw := hw v8 ev8
          refine lv_iinc (v := v8) (lv' := [(3, .int v8), (0, .ref (ad 25 0)), (1, .ref (ad 5 i1)), (2, .int x2)]) hx hb dX0_think_57 hl (k := 3) rfl (by rw [ev8]; rfl) (by decide) rfl (fun ls hl => ?_)
          refine lv_goto (tgt := 7) hx hb dX0_think_60 (by decide) ?_
          exact hk7 s6 i1 x2 v8 hi1 hw _ _ _ hP hS (lv_sub hl [1, 2, 3, 0] rfl)
        · replace hw := hw.2 c7
          refine lv_aload_n hx hb dX0_think_37 rfl (lv_at hl 0 rfl) ?_
          refine fX0_0 E hP mw_226 dX0_think_38 ?_
          refine lv_aload_n hx hb dX0_think_41 rfl (lv_at hl 0 rfl) ?_
          refine fX0_1 E hP mw_227 dX0_think_42 ?_
          refine lv_iload_n hx hb dX0_think_45 rfl (lv_at hl 3 rfl) ?_
          obtain ⟨h9, hw⟩ := hw
          refine tC26 E ha h9 dX0_think_46 hP hS (fun s10 es10 H locs hP hS => ?_)
          replace hw := hw s10 es10
          refine lv_aload_n hx hb dX0_think_47 rfl (lv_at hl 0 rfl) ?_
          refine lv_dup hx hb dX0_think_48 rfl ?_
          refine fX0_1 E hP mw_227 dX0_think_49 ?_
          refine lv_iconst (v := 1) hx hb dX0_think_52 (by decide) ?_
          refine lv_iadd hx hb dX0_think_53 ?_
          refine uX0_1 E ha mw_227 dX0_think_54 hP hS (fun s11 es11 H locs hP hS => ?_)
          replace hw := hw s11 es11
          obtain ⟨v12, ev12⟩ : ∃ y : Int32, y = x3 + 1 := ⟨_, rfl⟩
          replace hw := hw v12 ev12
          refine lv_iinc (v := v12) (lv' := [(3, .int v12), (0, .ref (ad 25 0)), (1, .ref (ad 5 i1)), (2, .int x2)]) hx hb dX0_think_57 hl (k := 3) rfl (by rw [ev12]; rfl) (by decide) rfl (fun ls hl => ?_)
          refine lv_goto (tgt := 7) hx hb dX0_think_60 (by decide) ?_
          exact hk7 s11 i1 x2 v12 hi1 hw _ _ _ hP hS (lv_sub hl [1, 2, 3, 0] rfl)
def w_X0_think (post : St → Prop) (σ : St) (i1 : Nat) (x2 : Int32) : Prop := ∀ s1 : St, s1 = wr σ 25 0 0 0 → (∃ n2 : Nat, l_X0_think_7 post n2 s1 i1 x2 (0 : Int32))
theorem B_X0_think_0 (E : EnvW p s m args meth c D cy regsC ad "RoofWar$Fitting" cX0_think 5 none) (ha : Apart regsC ad) {post : St → Prop} {σ : St} {i1 : Nat} {x2 : Int32} (hi1 : i1 < 3) (hw : w_X0_think post σ i1 x2) {H : Heap} {locs : List Loc} {ls : Array Slot} (hP : va_P D CLS (wC cy ad σ) H) (hS : va_S (AC ad s.heap.size) s.heap H locs) (hl : lv_has ls 5 [(0, .ref (ad 25 0)), (1, .ref (ad 5 i1)), (2, .int x2)]) : W p l e rm_X0_think s m args below meth c H locs 0 0 (MQ below (QV D cy (cellC cy ad) regsC ad s.heap.size post) args s 0 0 (AC ad s.heap.size)) (F0 m 0 ls []) := by
  obtain ⟨hx, hb, -⟩ := id E
  unfold w_X0_think at hw
  refine lv_aload_n hx hb dX0_think_0 rfl (lv_at hl 0 rfl) ?_
  refine lv_iconst (v := 0) hx hb dX0_think_1 (by decide) ?_
  refine uX0_1 E ha mw_227 dX0_think_2 hP hS (fun s1 es1 H locs hP hS => ?_)
  replace hw := hw s1 es1
  refine lv_iconst (v := 0) hx hb dX0_think_5 (by decide) ?_
  refine lv_istore_n (lv' := [(3, .int 0), (0, .ref (ad 25 0)), (1, .ref (ad 5 i1)), (2, .int x2)]) hx hb dX0_think_6 rfl hl (by decide) rfl (fun ls hl => ?_)
  obtain ⟨n2, hw⟩ := hw
  exact L_X0_think_7 E ha n2 s1 i1 x2 (0 : Int32) hi1 hw _ _ _ hP hS (lv_sub hl [1, 2, 3, 0] rfl)
theorem c_X0_think (l : Launch) (D : va_G) (cy : Nat → ClassId) (ad : Nat → Nat → Nat) (ha : Apart regsC ad) {post : St → Prop} {σ : St} {i1 : Nat} {x2 : Int32} (hi1 : i1 < 3) (hw : w_X0_think post σ i1 x2) (sz : Nat) : MetV l yX0_think cX0_think 5 rm_X0_think [.ref (ad 25 0), .ref (ad 5 i1), .int x2] D cy (cellC cy ad) regsC ad σ sz post :=
  Met_inV ok_X0_think.2.2.2.2.2 (Nat.le_of_ble_eq_true rfl) (fun p e s m below meth c ls E hP hl => B_X0_think_0 E ha hi1 hw hP va_S.rf hl)
-- RoofWar$Fitting.dry()I
theorem dX0_dry_0 : decode cX0_dry 0 = .ok (.aload_n 0, 1) := by decide +kernel
theorem dX0_dry_1 : decode cX0_dry 1 = .ok (.getfield 17, 3) := by decide +kernel
theorem dX0_dry_4 : decode cX0_dry 4 = .ok (.iconst 0, 1) := by decide +kernel
theorem dX0_dry_5 : decode cX0_dry 5 = .ok (.aaload, 1) := by decide +kernel
theorem dX0_dry_6 : decode cX0_dry 6 = .ok (.iconst 1, 1) := by decide +kernel
theorem dX0_dry_7 : decode cX0_dry 7 = .ok (.aload_n 0, 1) := by decide +kernel
theorem dX0_dry_8 : decode cX0_dry 8 = .ok (.getfield 23, 3) := by decide +kernel
theorem dX0_dry_11 : decode cX0_dry 11 = .ok (.ishl, 1) := by decide +kernel
theorem dX0_dry_12 : decode cX0_dry 12 = .ok (.iconst 1, 1) := by decide +kernel
theorem dX0_dry_13 : decode cX0_dry 13 = .ok (.isub, 1) := by decide +kernel
theorem dX0_dry_14 : decode cX0_dry 14 = .ok (.iaload, 1) := by decide +kernel
theorem dX0_dry_15 : decode cX0_dry 15 = .ok (.ireturn, 1) := by decide +kernel
theorem ok_X0_dry : okV yX0_dry cX0_dry 1 (some .int) 0 := ⟨mw_601, mw_602, mw_78, mw_603, by decide +kernel, by decide +kernel⟩
abbrev rm_X0_dry : Room := { frames := 0, cells := 0, slots := 0, locals := 0 }
def w_X0_dry (post : Int32 → St → Prop) (σ : St) : Prop := vp_in (0 : Int32) 7 ∧ (vp_in ((1 <<< ((σ 25 0 0) &&& 31)) - 1) 64 ∧ (post (σ 29 ((0 : Int32).toNatClampNeg) ((1 <<< ((σ 25 0 0) &&& 31)) - 1).toNatClampNeg) σ))
theorem B_X0_dry_0 (E : EnvW p s m args meth c D cy regsC ad "RoofWar$Fitting" cX0_dry 1 (some .int)) (ha : Apart regsC ad) {post : Int32 → St → Prop} {σ : St} (hw : w_X0_dry post σ) {H : Heap} {locs : List Loc} {ls : Array Slot} (hP : va_P D CLS (wC cy ad σ) H) (hS : va_S (AC ad s.heap.size) s.heap H locs) (hl : lv_has ls 1 [(0, .ref (ad 25 0))]) : W p l e rm_X0_dry s m args below meth c H locs 0 0 (MQ below (QI D cy (cellC cy ad) regsC ad s.heap.size post) args s 0 0 (AC ad s.heap.size)) (F0 m 0 ls []) := by
  obtain ⟨hx, hb, -⟩ := id E
  unfold w_X0_dry at hw
  refine lv_aload_n hx hb dX0_dry_0 rfl (lv_at hl 0 rfl) ?_
  refine fX0_2 E hP mw_228 dX0_dry_1 ?_
  refine lv_iconst (v := 0) hx hb dX0_dry_4 (by decide) ?_
  obtain ⟨h1, hw⟩ := hw
  refine aC28 E hP h1 dX0_dry_5 ?_
  refine lv_iconst (v := 1) hx hb dX0_dry_6 (by decide) ?_
  refine lv_aload_n hx hb dX0_dry_7 rfl (lv_at hl 0 rfl) ?_
  refine fX0_1 E hP mw_227 dX0_dry_8 ?_
  refine lv_ishl hx hb dX0_dry_11 ?_
  refine lv_iconst (v := 1) hx hb dX0_dry_12 (by decide) ?_
  refine lv_isub hx hb dX0_dry_13 ?_
  obtain ⟨h2, hw⟩ := hw
  refine aC29 ((vp_lt h1)) E hP h2 dX0_dry_14 ?_
  exact g_iret E hw hP hS dX0_dry_15
theorem c_X0_dry (l : Launch) (D : va_G) (cy : Nat → ClassId) (ad : Nat → Nat → Nat) (ha : Apart regsC ad) {post : Int32 → St → Prop} {σ : St} (hw : w_X0_dry post σ) (sz : Nat) : MetI l yX0_dry cX0_dry 1 .int rm_X0_dry [.ref (ad 25 0)] D cy (cellC cy ad) regsC ad σ sz post :=
  Met_inI ok_X0_dry.2.2.2.2.2 (Nat.le_of_ble_eq_true rfl) (fun p e s m below meth c ls E hP hl => B_X0_dry_0 E ha hw hP va_S.rf hl)
-- RoofWar$Fitting.roofFor(I)I
theorem dX0_roofFor_0 : decode cX0_roofFor 0 = .ok (.aload_n 0, 1) := by decide +kernel
theorem dX0_roofFor_1 : decode cX0_roofFor 1 = .ok (.getfield 20, 3) := by decide +kernel
theorem dX0_roofFor_4 : decode cX0_roofFor 4 = .ok (.iload_n 1, 1) := by decide +kernel
theorem dX0_roofFor_5 : decode cX0_roofFor 5 = .ok (.iaload, 1) := by decide +kernel
theorem dX0_roofFor_6 : decode cX0_roofFor 6 = .ok (.ireturn, 1) := by decide +kernel
theorem ok_X0_roofFor : okV yX0_roofFor cX0_roofFor 2 (some .int) 1 := ⟨mw_605, mw_606, mw_78, mw_607, by decide +kernel, by decide +kernel⟩
abbrev rm_X0_roofFor : Room := { frames := 0, cells := 0, slots := 0, locals := 0 }
def w_X0_roofFor (post : Int32 → St → Prop) (σ : St) (x1 : Int32) : Prop := vp_in x1 6 ∧ (post (σ 27 0 x1.toNatClampNeg) σ)
theorem B_X0_roofFor_0 (E : EnvW p s m args meth c D cy regsC ad "RoofWar$Fitting" cX0_roofFor 2 (some .int)) (ha : Apart regsC ad) {post : Int32 → St → Prop} {σ : St} {x1 : Int32} (hw : w_X0_roofFor post σ x1) {H : Heap} {locs : List Loc} {ls : Array Slot} (hP : va_P D CLS (wC cy ad σ) H) (hS : va_S (AC ad s.heap.size) s.heap H locs) (hl : lv_has ls 2 [(0, .ref (ad 25 0)), (1, .int x1)]) : W p l e rm_X0_roofFor s m args below meth c H locs 0 0 (MQ below (QI D cy (cellC cy ad) regsC ad s.heap.size post) args s 0 0 (AC ad s.heap.size)) (F0 m 0 ls []) := by
  obtain ⟨hx, hb, -⟩ := id E
  unfold w_X0_roofFor at hw
  refine lv_aload_n hx hb dX0_roofFor_0 rfl (lv_at hl 0 rfl) ?_
  refine fX0_3 E hP mw_229 dX0_roofFor_1 ?_
  refine lv_iload_n hx hb dX0_roofFor_4 rfl (lv_at hl 1 rfl) ?_
  obtain ⟨h1, hw⟩ := hw
  refine aC27 E hP h1 dX0_roofFor_5 ?_
  exact g_iret E hw hP hS dX0_roofFor_6
theorem c_X0_roofFor (l : Launch) (D : va_G) (cy : Nat → ClassId) (ad : Nat → Nat → Nat) (ha : Apart regsC ad) {post : Int32 → St → Prop} {σ : St} {x1 : Int32} (hw : w_X0_roofFor post σ x1) (sz : Nat) : MetI l yX0_roofFor cX0_roofFor 2 .int rm_X0_roofFor [.ref (ad 25 0), .int x1] D cy (cellC cy ad) regsC ad σ sz post :=
  Met_inI ok_X0_roofFor.2.2.2.2.2 (Nat.le_of_ble_eq_true rfl) (fun p e s m below meth c ls E hP hl => B_X0_roofFor_0 E ha hw hP va_S.rf hl)
end WalkF
