section WalkM3
variable {p : Program} {l : Launch} {e : Env} {s : State} {m : MethodId} {args : Array Value} {below : List Frame} {meth : Method} {c : Code} {D : va_G} {cy : Nat → ClassId} {ad : Nat → Nat → Nat}
abbrev rmG_lf (n : Nat) : Room := { frames := 40 + n, cells := 0, slots := 0, locals := 2000 + 60 * n }
theorem ok_X10_laysFrom : okV yX10_laysFrom cX10_laysFrom 7 none 4 := ⟨mw_1241, mw_51, mw_83, mw_1242, by decide +kernel, by decide +kernel⟩
-- RoofWarModel.laysFrom(IIII)V
theorem dX10_laysFrom_0 : decode cX10_laysFrom 0 = .ok (.iload_n 2, 1) := by decide +kernel
theorem dX10_laysFrom_1 : decode cX10_laysFrom 1 = .ok (.bipush 6, 2) := by decide +kernel
theorem dX10_laysFrom_3 : decode cX10_laysFrom 3 = .ok (.if_icmp .ne 49, 3) := by decide +kernel
theorem dX10_laysFrom_6 : decode cX10_laysFrom 6 = .ok (.iload 4, 2) := by decide +kernel
theorem dX10_laysFrom_8 : decode cX10_laysFrom 8 = .ok (.aload_n 0, 1) := by decide +kernel
theorem dX10_laysFrom_9 : decode cX10_laysFrom 9 = .ok (.getfield 209, 3) := by decide +kernel
theorem dX10_laysFrom_12 : decode cX10_laysFrom 12 = .ok (.if_icmp .le 39, 3) := by decide +kernel
theorem dX10_laysFrom_15 : decode cX10_laysFrom 15 = .ok (.aload_n 0, 1) := by decide +kernel
theorem dX10_laysFrom_16 : decode cX10_laysFrom 16 = .ok (.iload 4, 2) := by decide +kernel
theorem dX10_laysFrom_18 : decode cX10_laysFrom 18 = .ok (.putfield 209, 3) := by decide +kernel
theorem dX10_laysFrom_21 : decode cX10_laysFrom 21 = .ok (.iconst 0, 1) := by decide +kernel
theorem dX10_laysFrom_22 : decode cX10_laysFrom 22 = .ok (.istore 5, 2) := by decide +kernel
theorem dX10_laysFrom_24 : decode cX10_laysFrom 24 = .ok (.iload 5, 2) := by decide +kernel
theorem dX10_laysFrom_26 : decode cX10_laysFrom 26 = .ok (.bipush 6, 2) := by decide +kernel
theorem dX10_laysFrom_28 : decode cX10_laysFrom 28 = .ok (.if_icmp .ge 23, 3) := by decide +kernel
theorem dX10_laysFrom_31 : decode cX10_laysFrom 31 = .ok (.aload_n 0, 1) := by decide +kernel
theorem dX10_laysFrom_32 : decode cX10_laysFrom 32 = .ok (.getfield 46, 3) := by decide +kernel
theorem dX10_laysFrom_35 : decode cX10_laysFrom 35 = .ok (.iload 5, 2) := by decide +kernel
theorem dX10_laysFrom_37 : decode cX10_laysFrom 37 = .ok (.aload_n 0, 1) := by decide +kernel
theorem dX10_laysFrom_38 : decode cX10_laysFrom 38 = .ok (.getfield 43, 3) := by decide +kernel
theorem dX10_laysFrom_41 : decode cX10_laysFrom 41 = .ok (.iload 5, 2) := by decide +kernel
theorem dX10_laysFrom_43 : decode cX10_laysFrom 43 = .ok (.iaload, 1) := by decide +kernel
theorem dX10_laysFrom_44 : decode cX10_laysFrom 44 = .ok (.iastore, 1) := by decide +kernel
theorem dX10_laysFrom_45 : decode cX10_laysFrom 45 = .ok (.iinc 5 1, 3) := by decide +kernel
theorem dX10_laysFrom_48 : decode cX10_laysFrom 48 = .ok (.goto (-24), 3) := by decide +kernel
theorem dX10_laysFrom_51 : decode cX10_laysFrom 51 = .ok (.return_, 1) := by decide +kernel
theorem dX10_laysFrom_52 : decode cX10_laysFrom 52 = .ok (.aload_n 0, 1) := by decide +kernel
theorem dX10_laysFrom_53 : decode cX10_laysFrom 53 = .ok (.getfield 7, 3) := by decide +kernel
theorem dX10_laysFrom_56 : decode cX10_laysFrom 56 = .ok (.bipush 58, 2) := by decide +kernel
theorem dX10_laysFrom_58 : decode cX10_laysFrom 58 = .ok (.bipush 6, 2) := by decide +kernel
theorem dX10_laysFrom_60 : decode cX10_laysFrom 60 = .ok (.iload_n 1, 1) := by decide +kernel
theorem dX10_laysFrom_61 : decode cX10_laysFrom 61 = .ok (.imul, 1) := by decide +kernel
theorem dX10_laysFrom_62 : decode cX10_laysFrom 62 = .ok (.iadd, 1) := by decide +kernel
theorem dX10_laysFrom_63 : decode cX10_laysFrom 63 = .ok (.iload_n 2, 1) := by decide +kernel
theorem dX10_laysFrom_64 : decode cX10_laysFrom 64 = .ok (.iadd, 1) := by decide +kernel
theorem dX10_laysFrom_65 : decode cX10_laysFrom 65 = .ok (.iaload, 1) := by decide +kernel
theorem dX10_laysFrom_66 : decode cX10_laysFrom 66 = .ok (.istore 5, 2) := by decide +kernel
theorem dX10_laysFrom_68 : decode cX10_laysFrom 68 = .ok (.iconst 0, 1) := by decide +kernel
theorem dX10_laysFrom_69 : decode cX10_laysFrom 69 = .ok (.istore 6, 2) := by decide +kernel
theorem dX10_laysFrom_71 : decode cX10_laysFrom 71 = .ok (.iload 6, 2) := by decide +kernel
theorem dX10_laysFrom_73 : decode cX10_laysFrom 73 = .ok (.aload_n 0, 1) := by decide +kernel
theorem dX10_laysFrom_74 : decode cX10_laysFrom 74 = .ok (.getfield 7, 3) := by decide +kernel
theorem dX10_laysFrom_77 : decode cX10_laysFrom 77 = .ok (.iconst 0, 1) := by decide +kernel
theorem dX10_laysFrom_78 : decode cX10_laysFrom 78 = .ok (.iaload, 1) := by decide +kernel
theorem dX10_laysFrom_79 : decode cX10_laysFrom 79 = .ok (.if_icmp .ge 58, 3) := by decide +kernel
theorem dX10_laysFrom_82 : decode cX10_laysFrom 82 = .ok (.iload_n 3, 1) := by decide +kernel
theorem dX10_laysFrom_83 : decode cX10_laysFrom 83 = .ok (.iload 6, 2) := by decide +kernel
theorem dX10_laysFrom_85 : decode cX10_laysFrom 85 = .ok (.ishr, 1) := by decide +kernel
theorem dX10_laysFrom_86 : decode cX10_laysFrom 86 = .ok (.iconst 1, 1) := by decide +kernel
theorem dX10_laysFrom_87 : decode cX10_laysFrom 87 = .ok (.iand, 1) := by decide +kernel
theorem dX10_laysFrom_88 : decode cX10_laysFrom 88 = .ok (.iconst 1, 1) := by decide +kernel
theorem dX10_laysFrom_89 : decode cX10_laysFrom 89 = .ok (.if_icmp .ne 42, 3) := by decide +kernel
theorem dX10_laysFrom_92 : decode cX10_laysFrom 92 = .ok (.aload_n 0, 1) := by decide +kernel
theorem dX10_laysFrom_93 : decode cX10_laysFrom 93 = .ok (.getfield 43, 3) := by decide +kernel
theorem dX10_laysFrom_96 : decode cX10_laysFrom 96 = .ok (.iload_n 2, 1) := by decide +kernel
theorem dX10_laysFrom_97 : decode cX10_laysFrom 97 = .ok (.iload 6, 2) := by decide +kernel
theorem dX10_laysFrom_99 : decode cX10_laysFrom 99 = .ok (.iastore, 1) := by decide +kernel
theorem dX10_laysFrom_100 : decode cX10_laysFrom 100 = .ok (.aload_n 0, 1) := by decide +kernel
theorem dX10_laysFrom_101 : decode cX10_laysFrom 101 = .ok (.iload_n 1, 1) := by decide +kernel
theorem dX10_laysFrom_102 : decode cX10_laysFrom 102 = .ok (.iload_n 2, 1) := by decide +kernel
theorem dX10_laysFrom_103 : decode cX10_laysFrom 103 = .ok (.iconst 1, 1) := by decide +kernel
theorem dX10_laysFrom_104 : decode cX10_laysFrom 104 = .ok (.iadd, 1) := by decide +kernel
theorem dX10_laysFrom_105 : decode cX10_laysFrom 105 = .ok (.iload_n 3, 1) := by decide +kernel
theorem dX10_laysFrom_106 : decode cX10_laysFrom 106 = .ok (.iconst 1, 1) := by decide +kernel
theorem dX10_laysFrom_107 : decode cX10_laysFrom 107 = .ok (.iload 6, 2) := by decide +kernel
theorem dX10_laysFrom_109 : decode cX10_laysFrom 109 = .ok (.ishl, 1) := by decide +kernel
theorem dX10_laysFrom_110 : decode cX10_laysFrom 110 = .ok (.iconst (-1), 1) := by decide +kernel
theorem dX10_laysFrom_111 : decode cX10_laysFrom 111 = .ok (.ixor, 1) := by decide +kernel
theorem dX10_laysFrom_112 : decode cX10_laysFrom 112 = .ok (.iand, 1) := by decide +kernel
theorem dX10_laysFrom_113 : decode cX10_laysFrom 113 = .ok (.iload 4, 2) := by decide +kernel
theorem dX10_laysFrom_115 : decode cX10_laysFrom 115 = .ok (.aload_n 0, 1) := by decide +kernel
theorem dX10_laysFrom_116 : decode cX10_laysFrom 116 = .ok (.iload 5, 2) := by decide +kernel
theorem dX10_laysFrom_118 : decode cX10_laysFrom 118 = .ok (.aload_n 0, 1) := by decide +kernel
theorem dX10_laysFrom_119 : decode cX10_laysFrom 119 = .ok (.iload 6, 2) := by decide +kernel
theorem dX10_laysFrom_121 : decode cX10_laysFrom 121 = .ok (.invokevirtual 115, 3) := by decide +kernel
theorem dX10_laysFrom_124 : decode cX10_laysFrom 124 = .ok (.invokevirtual 134, 3) := by decide +kernel
theorem dX10_laysFrom_127 : decode cX10_laysFrom 127 = .ok (.iadd, 1) := by decide +kernel
theorem dX10_laysFrom_128 : decode cX10_laysFrom 128 = .ok (.invokevirtual 213, 3) := by decide +kernel
theorem dX10_laysFrom_131 : decode cX10_laysFrom 131 = .ok (.iinc 6 1, 3) := by decide +kernel
theorem dX10_laysFrom_134 : decode cX10_laysFrom 134 = .ok (.goto (-63), 3) := by decide +kernel
theorem dX10_laysFrom_137 : decode cX10_laysFrom 137 = .ok (.aload_n 0, 1) := by decide +kernel
theorem dX10_laysFrom_138 : decode cX10_laysFrom 138 = .ok (.getfield 43, 3) := by decide +kernel
theorem dX10_laysFrom_141 : decode cX10_laysFrom 141 = .ok (.iload_n 2, 1) := by decide +kernel
theorem dX10_laysFrom_142 : decode cX10_laysFrom 142 = .ok (.iconst (-1), 1) := by decide +kernel
theorem dX10_laysFrom_143 : decode cX10_laysFrom 143 = .ok (.iastore, 1) := by decide +kernel
theorem dX10_laysFrom_144 : decode cX10_laysFrom 144 = .ok (.aload_n 0, 1) := by decide +kernel
theorem dX10_laysFrom_145 : decode cX10_laysFrom 145 = .ok (.iload_n 1, 1) := by decide +kernel
theorem dX10_laysFrom_146 : decode cX10_laysFrom 146 = .ok (.iload_n 2, 1) := by decide +kernel
theorem dX10_laysFrom_147 : decode cX10_laysFrom 147 = .ok (.iconst 1, 1) := by decide +kernel
theorem dX10_laysFrom_148 : decode cX10_laysFrom 148 = .ok (.iadd, 1) := by decide +kernel
theorem dX10_laysFrom_149 : decode cX10_laysFrom 149 = .ok (.iload_n 3, 1) := by decide +kernel
theorem dX10_laysFrom_150 : decode cX10_laysFrom 150 = .ok (.iload 4, 2) := by decide +kernel
theorem dX10_laysFrom_152 : decode cX10_laysFrom 152 = .ok (.invokevirtual 213, 3) := by decide +kernel
theorem dX10_laysFrom_155 : decode cX10_laysFrom 155 = .ok (.return_, 1) := by decide +kernel
def b_X10_laysFrom_24 (R0 : (St → Prop) → St → Int32 → Int32 → Int32 → Int32 → Prop) (K24 : St → Int32 → Prop) (post : St → Prop) (σ : St) (x5 : Int32) : Prop := ((6 ≤ x5 → (post σ)) ∧ (¬ 6 ≤ x5 → (vp_in x5 6 ∧ (vp_in x5 6 ∧ (∀ s4 : St, s4 = wr σ 13 0 x5.toNatClampNeg (σ 12 0 x5.toNatClampNeg) → (∀ v5 : Int32, v5 = x5 + 1 → (K24 s4 v5)))))))
noncomputable def l_X10_laysFrom_24 (R0 : (St → Prop) → St → Int32 → Int32 → Int32 → Int32 → Prop) (post : St → Prop) : Nat → St → Int32 → Prop := fun n => Nat.rec (motive := fun _ => St → Int32 → Prop) (fun _ _ => False) (fun _ ih => b_X10_laysFrom_24 R0 ih post) n
theorem L_X10_laysFrom_24 (E : EnvW p s m args meth c D cy regsM ad "RoofWarModel" cX10_laysFrom 7 none) (ha : Apart regsM ad) {post : St → Prop} {gn : Nat} {R0 : (St → Prop) → St → Int32 → Int32 → Int32 → Int32 → Prop} (hR0 : ∀ (post : St → Prop) (σ : St) (x1 : Int32) (x2 : Int32) (x3 : Int32) (x4 : Int32), R0 post σ x1 x2 x3 x4 → ∀ sz : Nat, MetV l yX10_laysFrom cX10_laysFrom 7 (rmG_lf gn) [.ref (ad 0 0), .int x1, .int x2, .int x3, .int x4] D cy (cellM cy ad) regsM ad σ sz post) : ∀ (n : Nat), ∀ (σ : St) (x5 : Int32), l_X10_laysFrom_24 R0 post n σ x5 → ∀ (H : Heap) (locs : List Loc) (ls : Array Slot), va_P D CLS (wM cy ad σ) H → va_S (AM ad s.heap.size) s.heap H locs → lv_has ls 7 [(0, .ref (ad 0 0)), (5, .int x5)] → W p l e (rmG_lf (gn + 1)) s m args below meth c H locs 0 0 (MQ below (QV D cy (cellM cy ad) regsM ad s.heap.size post) args s 0 0 (AM ad s.heap.size)) (F0 m 24 ls []) := by
  obtain ⟨hx, hb, -⟩ := id E
  intro n
  induction n with
  | zero => intro σ x5 hw; exact hw.elim
  | succ n hk24 =>
    intro σ x5 hw H locs ls hP hS hl
    replace hw : b_X10_laysFrom_24 R0 (l_X10_laysFrom_24 R0 post n) post σ x5 := hw
    unfold b_X10_laysFrom_24 at hw
    refine lv_iload hx hb dX10_laysFrom_24 (lv_at hl 1 rfl) ?_
    refine lv_bipush (v := 6) hx hb dX10_laysFrom_26 (by decide) ?_
    refine lv_icmp_ge (tgt := 51) hx hb dX10_laysFrom_28 (by decide) (fun c1 => ?_) (fun c1 => ?_)
    · replace hw := hw.1 c1
      exact g_vret E hw hP hS dX10_laysFrom_51
    · replace hw := hw.2 c1
      refine lv_aload_n hx hb dX10_laysFrom_31 rfl (lv_at hl 0 rfl) ?_
      refine fX10_13 E hP mw_959 dX10_laysFrom_32 ?_
      refine lv_iload hx hb dX10_laysFrom_35 (lv_at hl 1 rfl) ?_
      refine lv_aload_n hx hb dX10_laysFrom_37 rfl (lv_at hl 0 rfl) ?_
      refine fX10_12 E hP mw_958 dX10_laysFrom_38 ?_
      refine lv_iload hx hb dX10_laysFrom_41 (lv_at hl 1 rfl) ?_
      obtain ⟨h2, hw⟩ := hw
      refine aM12 E hP h2 dX10_laysFrom_43 ?_
      obtain ⟨h3, hw⟩ := hw
      refine tM13 E ha h3 dX10_laysFrom_44 hP hS (fun s4 es4 H locs hP hS => ?_)
      replace hw := hw s4 es4
      obtain ⟨v5, ev5⟩ : ∃ y : Int32, y = x5 + 1 := ⟨_, rfl⟩
      replace hw := hw v5 ev5
      refine lv_iinc (v := v5) (lv' := [(5, .int v5), (0, .ref (ad 0 0))]) hx hb dX10_laysFrom_45 hl (k := 1) rfl (by rw [ev5]; rfl) (by decide) rfl (fun ls hl => ?_)
      refine lv_goto (tgt := 24) hx hb dX10_laysFrom_48 (by decide) ?_
      exact hk24 s4 v5 hw _ _ _ hP hS (lv_sub hl [1, 0] rfl)
def b_X10_laysFrom_71 (R0 : (St → Prop) → St → Int32 → Int32 → Int32 → Int32 → Prop) (K71 : St → Int32 → Int32 → Int32 → Int32 → Int32 → Int32 → Prop) (post : St → Prop) (σ : St) (x1 : Int32) (x2 : Int32) (x3 : Int32) (x4 : Int32) (x5 : Int32) (x6 : Int32) : Prop := vp_in (0 : Int32) 3082 ∧ ((((σ 1 0 (0 : Int32).toNatClampNeg) ≤ x6 → (vp_in x2 6 ∧ (∀ s4 : St, s4 = wr σ 12 0 x2.toNatClampNeg ((-1)) → (R0 (fun s5 => post s5) s4 x1 (x2 + 1) x3 x4)))) ∧ (¬ (σ 1 0 (0 : Int32).toNatClampNeg) ≤ x6 → (((¬ ((x3 >>> (x6 &&& 31)) &&& 1) = 1 → (∀ v7 : Int32, v7 = x6 + 1 → (K71 σ x1 x2 x3 x4 x5 v7))) ∧ (((x3 >>> (x6 &&& 31)) &&& 1) = 1 → (vp_in x2 6 ∧ (∀ s9 : St, s9 = wr σ 12 0 x2.toNatClampNeg x6 → (w_X10_covers (fun r10 s10 => w_X10_least (fun r11 s11 => R0 (fun s12 => ∀ v13 : Int32, v13 = x6 + 1 → (K71 s12 x1 x2 x3 x4 x5 v13)) s11 x1 (x2 + 1) (x3 &&& ((1 <<< (x6 &&& 31)) ^^^ ((-1)))) (x4 + r11)) s10 x5 r10) s9 x6)))))))))
noncomputable def l_X10_laysFrom_71 (R0 : (St → Prop) → St → Int32 → Int32 → Int32 → Int32 → Prop) (post : St → Prop) : Nat → St → Int32 → Int32 → Int32 → Int32 → Int32 → Int32 → Prop := fun n => Nat.rec (motive := fun _ => St → Int32 → Int32 → Int32 → Int32 → Int32 → Int32 → Prop) (fun _ _ _ _ _ _ _ => False) (fun _ ih => b_X10_laysFrom_71 R0 ih post) n
theorem L_X10_laysFrom_71 (E : EnvW p s m args meth c D cy regsM ad "RoofWarModel" cX10_laysFrom 7 none) (ha : Apart regsM ad) {post : St → Prop} {gn : Nat} {R0 : (St → Prop) → St → Int32 → Int32 → Int32 → Int32 → Prop} (hR0 : ∀ (post : St → Prop) (σ : St) (x1 : Int32) (x2 : Int32) (x3 : Int32) (x4 : Int32), R0 post σ x1 x2 x3 x4 → ∀ sz : Nat, MetV l yX10_laysFrom cX10_laysFrom 7 (rmG_lf gn) [.ref (ad 0 0), .int x1, .int x2, .int x3, .int x4] D cy (cellM cy ad) regsM ad σ sz post) : ∀ (n : Nat), ∀ (σ : St) (x1 : Int32) (x2 : Int32) (x3 : Int32) (x4 : Int32) (x5 : Int32) (x6 : Int32), l_X10_laysFrom_71 R0 post n σ x1 x2 x3 x4 x5 x6 → ∀ (H : Heap) (locs : List Loc) (ls : Array Slot), va_P D CLS (wM cy ad σ) H → va_S (AM ad s.heap.size) s.heap H locs → lv_has ls 7 [(0, .ref (ad 0 0)), (1, .int x1), (2, .int x2), (3, .int x3), (4, .int x4), (5, .int x5), (6, .int x6)] → W p l e (rmG_lf (gn + 1)) s m args below meth c H locs 0 0 (MQ below (QV D cy (cellM cy ad) regsM ad s.heap.size post) args s 0 0 (AM ad s.heap.size)) (F0 m 71 ls []) := by
  obtain ⟨hx, hb, -⟩ := id E
  intro n
  induction n with
  | zero => intro σ x1 x2 x3 x4 x5 x6 hw; exact hw.elim
  | succ n hk71 =>
    intro σ x1 x2 x3 x4 x5 x6 hw H locs ls hP hS hl
    replace hw : b_X10_laysFrom_71 R0 (l_X10_laysFrom_71 R0 post n) post σ x1 x2 x3 x4 x5 x6 := hw
    unfold b_X10_laysFrom_71 at hw
    refine lv_iload hx hb dX10_laysFrom_71 (lv_at hl 6 rfl) ?_
    refine lv_aload_n hx hb dX10_laysFrom_73 rfl (lv_at hl 0 rfl) ?_
    refine fX10_0 E hP mw_946 dX10_laysFrom_74 ?_
    refine lv_iconst (v := 0) hx hb dX10_laysFrom_77 (by decide) ?_
    obtain ⟨h1, hw⟩ := hw
    refine aM1 E hP h1 dX10_laysFrom_78 ?_
    refine lv_icmp_ge (tgt := 137) hx hb dX10_laysFrom_79 (by decide) (fun c2 => ?_) (fun c2 => ?_)
    · replace hw := hw.1 c2
      refine lv_aload_n hx hb dX10_laysFrom_137 rfl (lv_at hl 0 rfl) ?_
      refine fX10_12 E hP mw_958 dX10_laysFrom_138 ?_
      refine lv_iload_n hx hb dX10_laysFrom_141 rfl (lv_at hl 2 rfl) ?_
      refine lv_iconst (v := -1) hx hb dX10_laysFrom_142 (by decide) ?_
      obtain ⟨h3, hw⟩ := hw
      refine tM12 E ha h3 dX10_laysFrom_143 hP hS (fun s4 es4 H locs hP hS => ?_)
      replace hw := hw s4 es4
      refine lv_aload_n hx hb dX10_laysFrom_144 rfl (lv_at hl 0 rfl) ?_
      refine lv_iload_n hx hb dX10_laysFrom_145 rfl (lv_at hl 1 rfl) ?_
      refine lv_iload_n hx hb dX10_laysFrom_146 rfl (lv_at hl 2 rfl) ?_
      refine lv_iconst (v := 1) hx hb dX10_laysFrom_147 (by decide) ?_
      refine lv_iadd hx hb dX10_laysFrom_148 ?_
      refine lv_iload_n hx hb dX10_laysFrom_149 rfl (lv_at hl 3 rfl) ?_
      refine lv_iload hx hb dX10_laysFrom_150 (lv_at hl 4 rfl) ?_
      refine g_cVv (As := [.int x1, .int (x2 + 1), .int x3, .int x4]) (rest := []) E hl.1 (hR0 _ _ _ _ _ _ hw _) ok_X10_laysFrom mw_1240 ⟨(by show 40 + gn + 1 ≤ 40 + (gn + 1); omega), (by show 8 + (7 + 11) + (2000 + 60 * gn) ≤ 2000 + 60 * (gn + 1); omega)⟩ ⟨rfl, rfl⟩ rM0 rfl rfl rfl rfl rfl (Nat.le_of_ble_eq_true rfl) ⟨Nat.zero_le _, Nat.zero_le _⟩ hP hS dX10_laysFrom_152 (fun s5 hw H locs hP hS => ?_)
      exact g_vret E hw hP hS dX10_laysFrom_155
    · replace hw := hw.2 c2
      refine lv_iload_n hx hb dX10_laysFrom_82 rfl (lv_at hl 3 rfl) ?_
      refine lv_iload hx hb dX10_laysFrom_83 (lv_at hl 6 rfl) ?_
      refine lv_ishr hx hb dX10_laysFrom_85 ?_
      refine lv_iconst (v := 1) hx hb dX10_laysFrom_86 (by decide) ?_
      refine lv_iand hx hb dX10_laysFrom_87 ?_
      refine lv_iconst (v := 1) hx hb dX10_laysFrom_88 (by decide) ?_
      refine lv_icmp_ne (tgt := 131) hx hb dX10_laysFrom_89 (by decide) (fun c6 => ?_) (fun c6 => ?_)
      · replace hw := hw.1 c6
        obtain ⟨v7, ev7⟩ : ∃ y : Int32, y = x6 + 1 := ⟨_, rfl⟩
        replace hw := hw v7 ev7
        refine lv_iinc (v := v7) (lv' := [(6, .int v7), (0, .ref (ad 0 0)), (1, .int x1), (2, .int x2), (3, .int x3), (4, .int x4), (5, .int x5)]) hx hb dX10_laysFrom_131 hl (k := 6) rfl (by rw [ev7]; rfl) (by decide) rfl (fun ls hl => ?_)
        refine lv_goto (tgt := 71) hx hb dX10_laysFrom_134 (by decide) ?_
        exact hk71 σ x1 x2 x3 x4 x5 v7 hw _ _ _ hP hS (lv_sub hl [1, 2, 3, 4, 5, 6, 0] rfl)
      · replace hw := hw.2 c6
        refine lv_aload_n hx hb dX10_laysFrom_92 rfl (lv_at hl 0 rfl) ?_
        refine fX10_12 E hP mw_958 dX10_laysFrom_93 ?_
        refine lv_iload_n hx hb dX10_laysFrom_96 rfl (lv_at hl 2 rfl) ?_
        refine lv_iload hx hb dX10_laysFrom_97 (lv_at hl 6 rfl) ?_
        obtain ⟨h8, hw⟩ := hw
        refine tM12 E ha h8 dX10_laysFrom_99 hP hS (fun s9 es9 H locs hP hS => ?_)
        replace hw := hw s9 es9
        refine lv_aload_n hx hb dX10_laysFrom_100 rfl (lv_at hl 0 rfl) ?_
        refine lv_iload_n hx hb dX10_laysFrom_101 rfl (lv_at hl 1 rfl) ?_
        refine lv_iload_n hx hb dX10_laysFrom_102 rfl (lv_at hl 2 rfl) ?_
        refine lv_iconst (v := 1) hx hb dX10_laysFrom_103 (by decide) ?_
        refine lv_iadd hx hb dX10_laysFrom_104 ?_
        refine lv_iload_n hx hb dX10_laysFrom_105 rfl (lv_at hl 3 rfl) ?_
        refine lv_iconst (v := 1) hx hb dX10_laysFrom_106 (by decide) ?_
        refine lv_iload hx hb dX10_laysFrom_107 (lv_at hl 6 rfl) ?_
        refine lv_ishl hx hb dX10_laysFrom_109 ?_
        refine lv_iconst (v := -1) hx hb dX10_laysFrom_110 (by decide) ?_
        refine lv_ixor hx hb dX10_laysFrom_111 ?_
        refine lv_iand hx hb dX10_laysFrom_112 ?_
        refine lv_iload hx hb dX10_laysFrom_113 (lv_at hl 4 rfl) ?_
        refine lv_aload_n hx hb dX10_laysFrom_115 rfl (lv_at hl 0 rfl) ?_
        refine lv_iload hx hb dX10_laysFrom_116 (lv_at hl 5 rfl) ?_
        refine lv_aload_n hx hb dX10_laysFrom_118 rfl (lv_at hl 0 rfl) ?_
        refine lv_iload hx hb dX10_laysFrom_119 (lv_at hl 6 rfl) ?_
        refine g_cVi (As := [.int x6]) (rest := [.int x5, .ref (ad 0 0), .int x4, .int (x3 &&& ((1 <<< (x6 &&& 31)) ^^^ ((-1)))), .int (x2 + 1), .int x1, .ref (ad 0 0)]) E hl.1 (c_X10_covers l D cy ad ha hw _) ok_X10_covers mw_1089 ⟨(by show 1 + 1 ≤ 40 + (gn + 1); omega), (by show 8 + (3 + 11) + 22 ≤ 2000 + 60 * (gn + 1); omega)⟩ ⟨rfl, rfl⟩ rM0 rfl rfl rfl rfl rfl (Nat.le_of_ble_eq_true rfl) ⟨Nat.zero_le _, Nat.zero_le _⟩ hP hS dX10_laysFrom_121 (fun r10 s10 hw H locs hP hS => ?_)
        refine g_cVi (As := [.int x5, .int r10]) (rest := [.int x4, .int (x3 &&& ((1 <<< (x6 &&& 31)) ^^^ ((-1)))), .int (x2 + 1), .int x1, .ref (ad 0 0)]) E hl.1 (c_X10_least l D cy ad ha hw _) ok_X10_least mw_1134 ⟨(by show 0 + 1 ≤ 40 + (gn + 1); omega), (by show 8 + (3 + 11) + 0 ≤ 2000 + 60 * (gn + 1); omega)⟩ ⟨rfl, rfl⟩ rM0 rfl rfl rfl rfl rfl (Nat.le_of_ble_eq_true rfl) ⟨Nat.zero_le _, Nat.zero_le _⟩ hP hS dX10_laysFrom_124 (fun r11 s11 hw H locs hP hS => ?_)
        refine lv_iadd hx hb dX10_laysFrom_127 ?_
        refine g_cVv (As := [.int x1, .int (x2 + 1), .int (x3 &&& ((1 <<< (x6 &&& 31)) ^^^ ((-1)))), .int (x4 + r11)]) (rest := []) E hl.1 (hR0 _ _ _ _ _ _ hw _) ok_X10_laysFrom mw_1240 ⟨(by show 40 + gn + 1 ≤ 40 + (gn + 1); omega), (by show 8 + (7 + 11) + (2000 + 60 * gn) ≤ 2000 + 60 * (gn + 1); omega)⟩ ⟨rfl, rfl⟩ rM0 rfl rfl rfl rfl rfl (Nat.le_of_ble_eq_true rfl) ⟨Nat.zero_le _, Nat.zero_le _⟩ hP hS dX10_laysFrom_128 (fun s12 hw H locs hP hS => ?_)
        obtain ⟨v13, ev13⟩ : ∃ y : Int32, y = x6 + 1 := ⟨_, rfl⟩
        replace hw := hw v13 ev13
        refine lv_iinc (v := v13) (lv' := [(6, .int v13), (0, .ref (ad 0 0)), (1, .int x1), (2, .int x2), (3, .int x3), (4, .int x4), (5, .int x5)]) hx hb dX10_laysFrom_131 hl (k := 6) rfl (by rw [ev13]; rfl) (by decide) rfl (fun ls hl => ?_)
        refine lv_goto (tgt := 71) hx hb dX10_laysFrom_134 (by decide) ?_
        exact hk71 s12 x1 x2 x3 x4 x5 v13 hw _ _ _ hP hS (lv_sub hl [1, 2, 3, 4, 5, 6, 0] rfl)
def wb_X10_laysFrom (R0 : (St → Prop) → St → Int32 → Int32 → Int32 → Int32 → Prop) (post : St → Prop) (σ : St) (x1 : Int32) (x2 : Int32) (x3 : Int32) (x4 : Int32) : Prop := ((¬ x2 = 6 → (vp_in ((58 + (6 * x1)) + x2) 3082 ∧ (∀ v3 : Int32, v3 = σ 1 0 ((58 + (6 * x1)) + x2).toNatClampNeg → (∃ n4 : Nat, l_X10_laysFrom_71 R0 post n4 σ x1 x2 x3 x4 v3 (0 : Int32))))) ∧ (x2 = 6 → (((x4 ≤ (σ 0 0 1) → (post σ)) ∧ (¬ x4 ≤ (σ 0 0 1) → (∀ s6 : St, s6 = wr σ 0 0 1 x4 → (∃ n7 : Nat, l_X10_laysFrom_24 R0 post n7 s6 (0 : Int32))))))))
theorem B_X10_laysFrom_0 (E : EnvW p s m args meth c D cy regsM ad "RoofWarModel" cX10_laysFrom 7 none) (ha : Apart regsM ad) {post : St → Prop} {gn : Nat} {R0 : (St → Prop) → St → Int32 → Int32 → Int32 → Int32 → Prop} (hR0 : ∀ (post : St → Prop) (σ : St) (x1 : Int32) (x2 : Int32) (x3 : Int32) (x4 : Int32), R0 post σ x1 x2 x3 x4 → ∀ sz : Nat, MetV l yX10_laysFrom cX10_laysFrom 7 (rmG_lf gn) [.ref (ad 0 0), .int x1, .int x2, .int x3, .int x4] D cy (cellM cy ad) regsM ad σ sz post) {σ : St} {x1 : Int32} {x2 : Int32} {x3 : Int32} {x4 : Int32} (hw : wb_X10_laysFrom R0 post σ x1 x2 x3 x4) {H : Heap} {locs : List Loc} {ls : Array Slot} (hP : va_P D CLS (wM cy ad σ) H) (hS : va_S (AM ad s.heap.size) s.heap H locs) (hl : lv_has ls 7 [(0, .ref (ad 0 0)), (1, .int x1), (2, .int x2), (3, .int x3), (4, .int x4)]) : W p l e (rmG_lf (gn + 1)) s m args below meth c H locs 0 0 (MQ below (QV D cy (cellM cy ad) regsM ad s.heap.size post) args s 0 0 (AM ad s.heap.size)) (F0 m 0 ls []) := by
  obtain ⟨hx, hb, -⟩ := id E
  unfold wb_X10_laysFrom at hw
  refine lv_iload_n hx hb dX10_laysFrom_0 rfl (lv_at hl 2 rfl) ?_
  refine lv_bipush (v := 6) hx hb dX10_laysFrom_1 (by decide) ?_
  refine lv_icmp_ne (tgt := 52) hx hb dX10_laysFrom_3 (by decide) (fun c1 => ?_) (fun c1 => ?_)
  · replace hw := hw.1 c1
    refine lv_aload_n hx hb dX10_laysFrom_52 rfl (lv_at hl 0 rfl) ?_
    refine fX10_0 E hP mw_946 dX10_laysFrom_53 ?_
    refine lv_bipush (v := 58) hx hb dX10_laysFrom_56 (by decide) ?_
    refine lv_bipush (v := 6) hx hb dX10_laysFrom_58 (by decide) ?_
    refine lv_iload_n hx hb dX10_laysFrom_60 rfl (lv_at hl 1 rfl) ?_
    refine lv_imul hx hb dX10_laysFrom_61 ?_
    refine lv_iadd hx hb dX10_laysFrom_62 ?_
    refine lv_iload_n hx hb dX10_laysFrom_63 rfl (lv_at hl 2 rfl) ?_
    refine lv_iadd hx hb dX10_laysFrom_64 ?_
    obtain ⟨h2, hw⟩ := hw
    refine aM1 E hP h2 dX10_laysFrom_65 ?_
    refine lv_topi (fun v3 ev3 => ?_)
    replace hw := hw v3 ev3
    refine lv_istore (lv' := [(5, .int v3), (0, .ref (ad 0 0)), (1, .int x1), (2, .int x2), (3, .int x3), (4, .int x4)]) hx hb dX10_laysFrom_66 hl (by decide) rfl (fun ls hl => ?_)
    refine lv_iconst (v := 0) hx hb dX10_laysFrom_68 (by decide) ?_
    refine lv_istore (lv' := [(6, .int 0), (5, .int v3), (0, .ref (ad 0 0)), (1, .int x1), (2, .int x2), (3, .int x3), (4, .int x4)]) hx hb dX10_laysFrom_69 hl (by decide) rfl (fun ls hl => ?_)
    obtain ⟨n4, hw⟩ := hw
    exact L_X10_laysFrom_71 E ha hR0 n4 σ x1 x2 x3 x4 v3 (0 : Int32) hw _ _ _ hP hS (lv_sub hl [2, 3, 4, 5, 6, 1, 0] rfl)
  · replace hw := hw.2 c1
    refine lv_iload hx hb dX10_laysFrom_6 (lv_at hl 4 rfl) ?_
    refine lv_aload_n hx hb dX10_laysFrom_8 rfl (lv_at hl 0 rfl) ?_
    refine fX10_14 E hP mw_960 dX10_laysFrom_9 ?_
    refine lv_icmp_le (tgt := 51) hx hb dX10_laysFrom_12 (by decide) (fun c5 => ?_) (fun c5 => ?_)
    · replace hw := hw.1 c5
      exact g_vret E hw hP hS dX10_laysFrom_51
    · replace hw := hw.2 c5
      refine lv_aload_n hx hb dX10_laysFrom_15 rfl (lv_at hl 0 rfl) ?_
      refine lv_iload hx hb dX10_laysFrom_16 (lv_at hl 4 rfl) ?_
      refine uX10_14 E ha mw_960 dX10_laysFrom_18 hP hS (fun s6 es6 H locs hP hS => ?_)
      replace hw := hw s6 es6
      refine lv_iconst (v := 0) hx hb dX10_laysFrom_21 (by decide) ?_
      refine lv_istore (lv' := [(5, .int 0), (0, .ref (ad 0 0)), (1, .int x1), (2, .int x2), (3, .int x3), (4, .int x4)]) hx hb dX10_laysFrom_22 hl (by decide) rfl (fun ls hl => ?_)
      obtain ⟨n7, hw⟩ := hw
      exact L_X10_laysFrom_24 E ha hR0 n7 s6 (0 : Int32) hw _ _ _ hP hS (lv_sub hl [1, 0] rfl)
noncomputable def G_lf : Nat → ((St → Prop) → St → Int32 → Int32 → Int32 → Int32 → Prop) := fun n => Nat.rec (motive := fun _ => ((St → Prop) → St → Int32 → Int32 → Int32 → Int32 → Prop)) ((fun _ _ _ _ _ _ => False)) (fun _ ih => (wb_X10_laysFrom ih)) n
theorem GM_lf (l : Launch) (D : va_G) (cy : Nat → ClassId) (ad : Nat → Nat → Nat) (ha : Apart regsM ad) : ∀ n : Nat, (∀ (post : St → Prop) (σ : St) (x1 : Int32) (x2 : Int32) (x3 : Int32) (x4 : Int32), (G_lf n) post σ x1 x2 x3 x4 → ∀ sz : Nat, MetV l yX10_laysFrom cX10_laysFrom 7 (rmG_lf n) [.ref (ad 0 0), .int x1, .int x2, .int x3, .int x4] D cy (cellM cy ad) regsM ad σ sz post) := by
  intro n
  induction n with
  | zero => exact (fun _ _ _ _ _ _ hw => False.elim hw)
  | succ n ih =>
    have ih0 := ih
    exact (fun post σ x1 x2 x3 x4 hw sz => Met_inV ok_X10_laysFrom.2.2.2.2.2 (Nat.le_of_ble_eq_true rfl) (fun p e s m below meth c ls E hP hl => B_X10_laysFrom_0 E ha ih0 hw hP va_S.rf hl))
def w_X10_laysFrom (post : St → Prop) (σ : St) (x1 : Int32) (x2 : Int32) (x3 : Int32) (x4 : Int32) : Prop := (G_lf 8) post σ x1 x2 x3 x4
abbrev rm_X10_laysFrom : Room := rmG_lf 8
theorem c_X10_laysFrom (l : Launch) (D : va_G) (cy : Nat → ClassId) (ad : Nat → Nat → Nat) (ha : Apart regsM ad) {post : St → Prop} {σ : St} {x1 : Int32} {x2 : Int32} {x3 : Int32} {x4 : Int32} (hw : w_X10_laysFrom post σ x1 x2 x3 x4) (sz : Nat) : MetV l yX10_laysFrom cX10_laysFrom 7 rm_X10_laysFrom [.ref (ad 0 0), .int x1, .int x2, .int x3, .int x4] D cy (cellM cy ad) regsM ad σ sz post := (GM_lf l D cy ad ha 8) post σ x1 x2 x3 x4 hw sz
-- RoofWarModel.fits(II)I
theorem dX10_fits_0 : decode cX10_fits 0 = .ok (.iload_n 1, 1) := by decide +kernel
theorem dX10_fits_1 : decode cX10_fits 1 = .ok (.invokestatic 206, 3) := by decide +kernel
theorem dX10_fits_4 : decode cX10_fits 4 = .ok (.ifCond .eq 17, 3) := by decide +kernel
theorem dX10_fits_7 : decode cX10_fits 7 = .ok (.iload_n 2, 1) := by decide +kernel
theorem dX10_fits_8 : decode cX10_fits 8 = .ok (.i2l, 1) := by decide +kernel
theorem dX10_fits_9 : decode cX10_fits 9 = .ok (.ldc2_w 216, 3) := by decide +kernel
theorem dX10_fits_12 : decode cX10_fits 12 = .ok (.ldc2_w 86, 3) := by decide +kernel
theorem dX10_fits_15 : decode cX10_fits 15 = .ok (.invokestatic 71, 3) := by decide +kernel
theorem dX10_fits_18 : decode cX10_fits 18 = .ok (.ifCond .ne 6, 3) := by decide +kernel
theorem dX10_fits_21 : decode cX10_fits 21 = .ok (.ldc 96, 2) := by decide +kernel
theorem dX10_fits_23 : decode cX10_fits 23 = .ok (.ireturn, 1) := by decide +kernel
theorem dX10_fits_24 : decode cX10_fits 24 = .ok (.iconst 0, 1) := by decide +kernel
theorem dX10_fits_25 : decode cX10_fits 25 = .ok (.istore_n 3, 1) := by decide +kernel
theorem dX10_fits_26 : decode cX10_fits 26 = .ok (.iconst 0, 1) := by decide +kernel
theorem dX10_fits_27 : decode cX10_fits 27 = .ok (.istore 4, 2) := by decide +kernel
theorem dX10_fits_29 : decode cX10_fits 29 = .ok (.iload 4, 2) := by decide +kernel
theorem dX10_fits_31 : decode cX10_fits 31 = .ok (.aload_n 0, 1) := by decide +kernel
theorem dX10_fits_32 : decode cX10_fits 32 = .ok (.getfield 7, 3) := by decide +kernel
theorem dX10_fits_35 : decode cX10_fits 35 = .ok (.iconst 0, 1) := by decide +kernel
theorem dX10_fits_36 : decode cX10_fits 36 = .ok (.iaload, 1) := by decide +kernel
theorem dX10_fits_37 : decode cX10_fits 37 = .ok (.if_icmp .ge 30, 3) := by decide +kernel
theorem dX10_fits_40 : decode cX10_fits 40 = .ok (.iload_n 3, 1) := by decide +kernel
theorem dX10_fits_41 : decode cX10_fits 41 = .ok (.aload_n 0, 1) := by decide +kernel
theorem dX10_fits_42 : decode cX10_fits 42 = .ok (.iload 4, 2) := by decide +kernel
theorem dX10_fits_44 : decode cX10_fits 44 = .ok (.invokevirtual 153, 3) := by decide +kernel
theorem dX10_fits_47 : decode cX10_fits 47 = .ok (.iload_n 1, 1) := by decide +kernel
theorem dX10_fits_48 : decode cX10_fits 48 = .ok (.if_icmp .ne 10, 3) := by decide +kernel
theorem dX10_fits_51 : decode cX10_fits 51 = .ok (.iconst 1, 1) := by decide +kernel
theorem dX10_fits_52 : decode cX10_fits 52 = .ok (.iload 4, 2) := by decide +kernel
theorem dX10_fits_54 : decode cX10_fits 54 = .ok (.ishl, 1) := by decide +kernel
theorem dX10_fits_55 : decode cX10_fits 55 = .ok (.goto 4, 3) := by decide +kernel
theorem dX10_fits_58 : decode cX10_fits 58 = .ok (.iconst 0, 1) := by decide +kernel
theorem dX10_fits_59 : decode cX10_fits 59 = .ok (.ior, 1) := by decide +kernel
theorem dX10_fits_60 : decode cX10_fits 60 = .ok (.istore_n 3, 1) := by decide +kernel
theorem dX10_fits_61 : decode cX10_fits 61 = .ok (.iinc 4 1, 3) := by decide +kernel
theorem dX10_fits_64 : decode cX10_fits 64 = .ok (.goto (-35), 3) := by decide +kernel
theorem dX10_fits_67 : decode cX10_fits 67 = .ok (.aload_n 0, 1) := by decide +kernel
theorem dX10_fits_68 : decode cX10_fits 68 = .ok (.iconst (-1), 1) := by decide +kernel
theorem dX10_fits_69 : decode cX10_fits 69 = .ok (.putfield 209, 3) := by decide +kernel
theorem dX10_fits_72 : decode cX10_fits 72 = .ok (.aload_n 0, 1) := by decide +kernel
theorem dX10_fits_73 : decode cX10_fits 73 = .ok (.iload_n 1, 1) := by decide +kernel
theorem dX10_fits_74 : decode cX10_fits 74 = .ok (.iconst 0, 1) := by decide +kernel
theorem dX10_fits_75 : decode cX10_fits 75 = .ok (.iload_n 3, 1) := by decide +kernel
theorem dX10_fits_76 : decode cX10_fits 76 = .ok (.iconst 0, 1) := by decide +kernel
theorem dX10_fits_77 : decode cX10_fits 77 = .ok (.invokevirtual 213, 3) := by decide +kernel
theorem dX10_fits_80 : decode cX10_fits 80 = .ok (.iload_n 2, 1) := by decide +kernel
theorem dX10_fits_81 : decode cX10_fits 81 = .ok (.ifCond .ge 10, 3) := by decide +kernel
theorem dX10_fits_84 : decode cX10_fits 84 = .ok (.aload_n 0, 1) := by decide +kernel
theorem dX10_fits_85 : decode cX10_fits 85 = .ok (.getfield 209, 3) := by decide +kernel
theorem dX10_fits_88 : decode cX10_fits 88 = .ok (.goto 12, 3) := by decide +kernel
theorem dX10_fits_91 : decode cX10_fits 91 = .ok (.aload_n 0, 1) := by decide +kernel
theorem dX10_fits_92 : decode cX10_fits 92 = .ok (.getfield 46, 3) := by decide +kernel
theorem dX10_fits_95 : decode cX10_fits 95 = .ok (.iload_n 2, 1) := by decide +kernel
theorem dX10_fits_96 : decode cX10_fits 96 = .ok (.iaload, 1) := by decide +kernel
theorem dX10_fits_97 : decode cX10_fits 97 = .ok (.invokestatic 142, 3) := by decide +kernel
theorem dX10_fits_100 : decode cX10_fits 100 = .ok (.ireturn, 1) := by decide +kernel
theorem ok_X10_fits : okV yX10_fits cX10_fits 5 (some .int) 2 := ⟨mw_1236, mw_1237, mw_83, mw_1238, by decide +kernel, by decide +kernel⟩
abbrev rm_X10_fits : Room := { frames := 49, cells := 0, slots := 0, locals := 2506 }
def b_X10_fits_29 (K29 : St → Int32 → Int32 → Int32 → Int32 → Prop) (post : Int32 → St → Prop) (σ : St) (x1 : Int32) (x2 : Int32) (x3 : Int32) (x4 : Int32) : Prop := vp_in (0 : Int32) 3082 ∧ ((((σ 1 0 (0 : Int32).toNatClampNeg) ≤ x4 → (∀ s3 : St, s3 = wr σ 0 0 1 ((-1)) → (w_X10_laysFrom (fun s4 => ((0 ≤ x2 → (vp_in x2 6 ∧ (w_X10_orNone (fun r7 s7 => post r7 s7) s4 (s4 13 0 x2.toNatClampNeg)))) ∧ (¬ 0 ≤ x2 → (post (s4 0 0 1) s4)))) s3 x1 (0 : Int32) x3 (0 : Int32)))) ∧ (¬ (σ 1 0 (0 : Int32).toNatClampNeg) ≤ x4 → (w_X10_townOf (fun r8 s8 => ((¬ r8 = x1 → (∀ v10 : Int32, v10 = x3 ||| 0 → (∀ v11 : Int32, v11 = x4 + 1 → (K29 s8 x1 x2 v10 v11)))) ∧ (r8 = x1 → (∀ v12 : Int32, v12 = x3 ||| (1 <<< (x4 &&& 31)) → (∀ v13 : Int32, v13 = x4 + 1 → (K29 s8 x1 x2 v12 v13)))))) σ x4))))
noncomputable def l_X10_fits_29 (post : Int32 → St → Prop) : Nat → St → Int32 → Int32 → Int32 → Int32 → Prop := fun n => Nat.rec (motive := fun _ => St → Int32 → Int32 → Int32 → Int32 → Prop) (fun _ _ _ _ _ => False) (fun _ ih => b_X10_fits_29 ih post) n
theorem L_X10_fits_29 (E : EnvW p s m args meth c D cy regsM ad "RoofWarModel" cX10_fits 5 (some .int)) (ha : Apart regsM ad) {post : Int32 → St → Prop} : ∀ (n : Nat), ∀ (σ : St) (x1 : Int32) (x2 : Int32) (x3 : Int32) (x4 : Int32), l_X10_fits_29 post n σ x1 x2 x3 x4 → ∀ (H : Heap) (locs : List Loc) (ls : Array Slot), va_P D CLS (wM cy ad σ) H → va_S (AM ad s.heap.size) s.heap H locs → lv_has ls 5 [(0, .ref (ad 0 0)), (1, .int x1), (2, .int x2), (3, .int x3), (4, .int x4)] → W p l e rm_X10_fits s m args below meth c H locs 0 0 (MQ below (QI D cy (cellM cy ad) regsM ad s.heap.size post) args s 0 0 (AM ad s.heap.size)) (F0 m 29 ls []) := by
  obtain ⟨hx, hb, -⟩ := id E
  intro n
  induction n with
  | zero => intro σ x1 x2 x3 x4 hw; exact hw.elim
  | succ n hk29 =>
    intro σ x1 x2 x3 x4 hw H locs ls hP hS hl
    replace hw : b_X10_fits_29 (l_X10_fits_29 post n) post σ x1 x2 x3 x4 := hw
    unfold b_X10_fits_29 at hw
    refine lv_iload hx hb dX10_fits_29 (lv_at hl 4 rfl) ?_
    refine lv_aload_n hx hb dX10_fits_31 rfl (lv_at hl 0 rfl) ?_
    refine fX10_0 E hP mw_946 dX10_fits_32 ?_
    refine lv_iconst (v := 0) hx hb dX10_fits_35 (by decide) ?_
    obtain ⟨h1, hw⟩ := hw
    refine aM1 E hP h1 dX10_fits_36 ?_
    refine lv_icmp_ge (tgt := 67) hx hb dX10_fits_37 (by decide) (fun c2 => ?_) (fun c2 => ?_)
    · replace hw := hw.1 c2
      refine lv_aload_n hx hb dX10_fits_67 rfl (lv_at hl 0 rfl) ?_
      refine lv_iconst (v := -1) hx hb dX10_fits_68 (by decide) ?_
      refine uX10_14 E ha mw_960 dX10_fits_69 hP hS (fun s3 es3 H locs hP hS => ?_)
      replace hw := hw s3 es3
      refine lv_aload_n hx hb dX10_fits_72 rfl (lv_at hl 0 rfl) ?_
      refine lv_iload_n hx hb dX10_fits_73 rfl (lv_at hl 1 rfl) ?_
      refine lv_iconst (v := 0) hx hb dX10_fits_74 (by decide) ?_
      refine lv_iload_n hx hb dX10_fits_75 rfl (lv_at hl 3 rfl) ?_
      refine lv_iconst (v := 0) hx hb dX10_fits_76 (by decide) ?_
      refine g_cVv (As := [.int x1, .int 0, .int x3, .int 0]) (rest := []) E hl.1 (c_X10_laysFrom l D cy ad ha hw _) ok_X10_laysFrom mw_1240 ⟨(Nat.le_of_ble_eq_true rfl), (Nat.le_of_ble_eq_true rfl)⟩ ⟨rfl, rfl⟩ rM0 rfl rfl rfl rfl rfl (Nat.le_of_ble_eq_true rfl) ⟨Nat.zero_le _, Nat.zero_le _⟩ hP hS dX10_fits_77 (fun s4 hw H locs hP hS => ?_)
      refine lv_iload_n hx hb dX10_fits_80 rfl (lv_at hl 2 rfl) ?_
      refine lv_if_ge (tgt := 91) hx hb dX10_fits_81 (by decide) (fun c5 => ?_) (fun c5 => ?_)
      · replace hw := hw.1 c5
        refine lv_aload_n hx hb dX10_fits_91 rfl (lv_at hl 0 rfl) ?_
        refine fX10_13 E hP mw_959 dX10_fits_92 ?_
        refine lv_iload_n hx hb dX10_fits_95 rfl (lv_at hl 2 rfl) ?_
        obtain ⟨h6, hw⟩ := hw
        refine aM13 E hP h6 dX10_fits_96 ?_
        refine g_cSi (As := [.int (s4 13 0 x2.toNatClampNeg)]) (rest := []) E hl.1 (c_X10_orNone l D cy ad ha hw _) ok_X10_orNone mw_1127 ⟨(Nat.le_of_ble_eq_true rfl), (Nat.le_of_ble_eq_true rfl)⟩ ⟨rfl, rfl⟩ rfl rfl (Nat.le_of_ble_eq_true rfl) ⟨Nat.zero_le _, Nat.zero_le _⟩ hP hS dX10_fits_97 (fun r7 s7 hw H locs hP hS => ?_)
        exact g_iret E hw hP hS dX10_fits_100
      · replace hw := hw.2 c5
        refine lv_aload_n hx hb dX10_fits_84 rfl (lv_at hl 0 rfl) ?_
        refine fX10_14 E hP mw_960 dX10_fits_85 ?_
        refine lv_goto (tgt := 100) hx hb dX10_fits_88 (by decide) ?_
        exact g_iret E hw hP hS dX10_fits_100
    · replace hw := hw.2 c2
      refine lv_iload_n hx hb dX10_fits_40 rfl (lv_at hl 3 rfl) ?_
      refine lv_aload_n hx hb dX10_fits_41 rfl (lv_at hl 0 rfl) ?_
      refine lv_iload hx hb dX10_fits_42 (lv_at hl 4 rfl) ?_
      refine g_cVi (As := [.int x4]) (rest := [.int x3]) E hl.1 (c_X10_townOf l D cy ad ha hw _) ok_X10_townOf mw_1178 ⟨(Nat.le_of_ble_eq_true rfl), (Nat.le_of_ble_eq_true rfl)⟩ ⟨rfl, rfl⟩ rM0 rfl rfl rfl rfl rfl (Nat.le_of_ble_eq_true rfl) ⟨Nat.zero_le _, Nat.zero_le _⟩ hP hS dX10_fits_44 (fun r8 s8 hw H locs hP hS => ?_)
      refine lv_iload_n hx hb dX10_fits_47 rfl (lv_at hl 1 rfl) ?_
      refine lv_icmp_ne (tgt := 58) hx hb dX10_fits_48 (by decide) (fun c9 => ?_) (fun c9 => ?_)
      · replace hw := hw.1 c9
        refine lv_iconst (v := 0) hx hb dX10_fits_58 (by decide) ?_
        refine lv_ior hx hb dX10_fits_59 ?_
        refine lv_topi (fun v10 ev10 => ?_)
        replace hw := hw v10 ev10
        refine lv_istore_n (lv' := [(3, .int v10), (0, .ref (ad 0 0)), (1, .int x1), (2, .int x2), (4, .int x4)]) hx hb dX10_fits_60 rfl hl (by decide) rfl (fun ls hl => ?_)
        obtain ⟨v11, ev11⟩ : ∃ y : Int32, y = x4 + 1 := ⟨_, rfl⟩
        replace hw := hw v11 ev11
        refine lv_iinc (v := v11) (lv' := [(4, .int v11), (3, .int v10), (0, .ref (ad 0 0)), (1, .int x1), (2, .int x2)]) hx hb dX10_fits_61 hl (k := 4) rfl (by rw [ev11]; rfl) (by decide) rfl (fun ls hl => ?_)
        refine lv_goto (tgt := 29) hx hb dX10_fits_64 (by decide) ?_
        exact hk29 s8 x1 x2 v10 v11 hw _ _ _ hP hS (lv_sub hl [2, 3, 4, 1, 0] rfl)
      · replace hw := hw.2 c9
        refine lv_iconst (v := 1) hx hb dX10_fits_51 (by decide) ?_
        refine lv_iload hx hb dX10_fits_52 (lv_at hl 4 rfl) ?_
        refine lv_ishl hx hb dX10_fits_54 ?_
        refine lv_goto (tgt := 59) hx hb dX10_fits_55 (by decide) ?_
        refine lv_ior hx hb dX10_fits_59 ?_
        refine lv_topi (fun v12 ev12 => ?_)
        replace hw := hw v12 ev12
        refine lv_istore_n (lv' := [(3, .int v12), (0, .ref (ad 0 0)), (1, .int x1), (2, .int x2), (4, .int x4)]) hx hb dX10_fits_60 rfl hl (by decide) rfl (fun ls hl => ?_)
        obtain ⟨v13, ev13⟩ : ∃ y : Int32, y = x4 + 1 := ⟨_, rfl⟩
        replace hw := hw v13 ev13
        refine lv_iinc (v := v13) (lv' := [(4, .int v13), (3, .int v12), (0, .ref (ad 0 0)), (1, .int x1), (2, .int x2)]) hx hb dX10_fits_61 hl (k := 4) rfl (by rw [ev13]; rfl) (by decide) rfl (fun ls hl => ?_)
        refine lv_goto (tgt := 29) hx hb dX10_fits_64 (by decide) ?_
        exact hk29 s8 x1 x2 v12 v13 hw _ _ _ hP hS (lv_sub hl [2, 3, 4, 1, 0] rfl)
def w_X10_fits (post : Int32 → St → Prop) (σ : St) (x1 : Int32) (x2 : Int32) : Prop := w_X10_isTown (fun r1 s1 => ((r1 = 0 → (post ((-1000000001)) s1)) ∧ (¬ r1 = 0 → (w_X10_isIn (fun r3 s3 => ((¬ r3 = 0 → (∃ n5 : Nat, l_X10_fits_29 post n5 s3 x1 x2 (0 : Int32) (0 : Int32))) ∧ (r3 = 0 → (post ((-1000000001)) s3)))) s1 x2.toInt64 ((-1 : Int64)) ((5 : Int64)))))) σ x1
theorem B_X10_fits_0 (E : EnvW p s m args meth c D cy regsM ad "RoofWarModel" cX10_fits 5 (some .int)) (ha : Apart regsM ad) {post : Int32 → St → Prop} {σ : St} {x1 : Int32} {x2 : Int32} (hw : w_X10_fits post σ x1 x2) {H : Heap} {locs : List Loc} {ls : Array Slot} (hP : va_P D CLS (wM cy ad σ) H) (hS : va_S (AM ad s.heap.size) s.heap H locs) (hl : lv_has ls 5 [(0, .ref (ad 0 0)), (1, .int x1), (2, .int x2)]) : W p l e rm_X10_fits s m args below meth c H locs 0 0 (MQ below (QI D cy (cellM cy ad) regsM ad s.heap.size post) args s 0 0 (AM ad s.heap.size)) (F0 m 0 ls []) := by
  obtain ⟨hx, hb, -⟩ := id E
  unfold w_X10_fits at hw
  refine lv_iload_n hx hb dX10_fits_0 rfl (lv_at hl 1 rfl) ?_
  refine g_cSi (As := [.int x1]) (rest := []) E hl.1 (c_X10_isTown l D cy ad ha hw _) ok_X10_isTown mw_1228 ⟨(Nat.le_of_ble_eq_true rfl), (Nat.le_of_ble_eq_true rfl)⟩ ⟨rfl, rfl⟩ rfl rfl (Nat.le_of_ble_eq_true rfl) ⟨Nat.zero_le _, Nat.zero_le _⟩ hP hS dX10_fits_1 (fun r1 s1 hw H locs hP hS => ?_)
  obtain ⟨z1, hw⟩ := hw
  refine lv_if_eq (tgt := 21) hx hb dX10_fits_4 (by decide) (fun c2 => ?_) (fun c2 => ?_)
  · replace hw := hw.1 c2
    refine g_ldc (v := -1000000001) E mw_1063 dX10_fits_21 ?_
    exact g_iret E hw hP hS dX10_fits_23
  · replace hw := hw.2 c2
    refine lv_iload_n hx hb dX10_fits_7 rfl (lv_at hl 2 rfl) ?_
    refine lv_i2l (v := x2.toInt64) hx hb dX10_fits_8 rfl ?_
    refine g_ldc2 (v := -1) E mw_1239 dX10_fits_9 ?_
    refine g_ldc2 (v := 5) E mw_1053 dX10_fits_12 ?_
    refine g_cSi (As := [.long x2.toInt64, .long ((-1 : Int64)), .long ((5 : Int64))]) (rest := []) E hl.1 (c_X10_isIn l D cy ad ha hw _) ok_X10_isIn mw_1054 ⟨(Nat.le_of_ble_eq_true rfl), (Nat.le_of_ble_eq_true rfl)⟩ ⟨rfl, rfl⟩ rfl rfl (Nat.le_of_ble_eq_true rfl) ⟨Nat.zero_le _, Nat.zero_le _⟩ hP hS dX10_fits_15 (fun r3 s3 hw H locs hP hS => ?_)
    obtain ⟨z3, hw⟩ := hw
    refine lv_if_ne (tgt := 24) hx hb dX10_fits_18 (by decide) (fun c4 => ?_) (fun c4 => ?_)
    · replace hw := hw.1 c4
      refine lv_iconst (v := 0) hx hb dX10_fits_24 (by decide) ?_
      refine lv_istore_n (lv' := [(3, .int 0), (0, .ref (ad 0 0)), (1, .int x1), (2, .int x2)]) hx hb dX10_fits_25 rfl hl (by decide) rfl (fun ls hl => ?_)
      refine lv_iconst (v := 0) hx hb dX10_fits_26 (by decide) ?_
      refine lv_istore (lv' := [(4, .int 0), (3, .int 0), (0, .ref (ad 0 0)), (1, .int x1), (2, .int x2)]) hx hb dX10_fits_27 hl (by decide) rfl (fun ls hl => ?_)
      obtain ⟨n5, hw⟩ := hw
      exact L_X10_fits_29 E ha n5 s3 x1 x2 (0 : Int32) (0 : Int32) hw _ _ _ hP hS (lv_sub hl [2, 3, 4, 1, 0] rfl)
    · replace hw := hw.2 c4
      refine g_ldc (v := -1000000001) E mw_1063 dX10_fits_21 ?_
      exact g_iret E hw hP hS dX10_fits_23
theorem c_X10_fits (l : Launch) (D : va_G) (cy : Nat → ClassId) (ad : Nat → Nat → Nat) (ha : Apart regsM ad) {post : Int32 → St → Prop} {σ : St} {x1 : Int32} {x2 : Int32} (hw : w_X10_fits post σ x1 x2) (sz : Nat) : MetI l yX10_fits cX10_fits 5 .int rm_X10_fits [.ref (ad 0 0), .int x1, .int x2] D cy (cellM cy ad) regsM ad σ sz post :=
  Met_inI ok_X10_fits.2.2.2.2.2 (Nat.le_of_ble_eq_true rfl) (fun p e s m below meth c ls E hP hl => B_X10_fits_0 E ha hw hP va_S.rf hl)
abbrev rmG_ex (n : Nat) : Room := { frames := 40 + n, cells := 0, slots := 0, locals := 2000 + 60 * n }
theorem ok_X10_either : okV yX10_either cX10_either 2 (some .boolean) 1 := ⟨mw_1322, mw_62, mw_83, mw_1323, by decide +kernel, by decide +kernel⟩
theorem ok_X10_both : okV yX10_both cX10_both 2 (some .boolean) 1 := ⟨mw_1325, mw_63, mw_83, mw_1326, by decide +kernel, by decide +kernel⟩
theorem ok_X10_test : okV yX10_test cX10_test 3 (some .boolean) 1 := ⟨mw_1328, mw_64, mw_83, mw_1329, by decide +kernel, by decide +kernel⟩
theorem ok_X10_sum : okV yX10_sum cX10_sum 3 (some .boolean) 1 := ⟨mw_1331, mw_65, mw_83, mw_1332, by decide +kernel, by decide +kernel⟩
theorem ok_X10_term : okV yX10_term cX10_term 3 (some .boolean) 1 := ⟨mw_1334, mw_66, mw_83, mw_1335, by decide +kernel, by decide +kernel⟩
theorem ok_X10_part0 : okV yX10_part0 cX10_part0 2 (some .boolean) 1 := ⟨mw_1337, mw_67, mw_83, mw_1338, by decide +kernel, by decide +kernel⟩
-- RoofWarModel.either(I)Z
theorem dX10_either_0 : decode cX10_either 0 = .ok (.aload_n 0, 1) := by decide +kernel
theorem dX10_either_1 : decode cX10_either 1 = .ok (.iload_n 1, 1) := by decide +kernel
theorem dX10_either_2 : decode cX10_either 2 = .ok (.invokevirtual 279, 3) := by decide +kernel
theorem dX10_either_5 : decode cX10_either 5 = .ok (.ifCond .ne 5, 3) := by decide +kernel
theorem dX10_either_8 : decode cX10_either 8 = .ok (.iconst 0, 1) := by decide +kernel
theorem dX10_either_9 : decode cX10_either 9 = .ok (.ireturn, 1) := by decide +kernel
theorem dX10_either_10 : decode cX10_either 10 = .ok (.aload_n 0, 1) := by decide +kernel
theorem dX10_either_11 : decode cX10_either 11 = .ok (.bipush 124, 2) := by decide +kernel
theorem dX10_either_13 : decode cX10_either 13 = .ok (.invokevirtual 282, 3) := by decide +kernel
theorem dX10_either_16 : decode cX10_either 16 = .ok (.ifCond .eq 27, 3) := by decide +kernel
theorem dX10_either_19 : decode cX10_either 19 = .ok (.aload_n 0, 1) := by decide +kernel
theorem dX10_either_20 : decode cX10_either 20 = .ok (.invokevirtual 285, 3) := by decide +kernel
theorem dX10_either_23 : decode cX10_either 23 = .ok (.aload_n 0, 1) := by decide +kernel
theorem dX10_either_24 : decode cX10_either 24 = .ok (.iload_n 1, 1) := by decide +kernel
theorem dX10_either_25 : decode cX10_either 25 = .ok (.invokevirtual 279, 3) := by decide +kernel
theorem dX10_either_28 : decode cX10_either 28 = .ok (.ifCond .ne 5, 3) := by decide +kernel
theorem dX10_either_31 : decode cX10_either 31 = .ok (.iconst 0, 1) := by decide +kernel
theorem dX10_either_32 : decode cX10_either 32 = .ok (.ireturn, 1) := by decide +kernel
theorem dX10_either_33 : decode cX10_either 33 = .ok (.aload_n 0, 1) := by decide +kernel
theorem dX10_either_34 : decode cX10_either 34 = .ok (.iconst 2, 1) := by decide +kernel
theorem dX10_either_35 : decode cX10_either 35 = .ok (.bipush 124, 2) := by decide +kernel
theorem dX10_either_37 : decode cX10_either 37 = .ok (.invokevirtual 288, 3) := by decide +kernel
theorem dX10_either_40 : decode cX10_either 40 = .ok (.goto (-30), 3) := by decide +kernel
theorem dX10_either_43 : decode cX10_either 43 = .ok (.iconst 1, 1) := by decide +kernel
theorem dX10_either_44 : decode cX10_either 44 = .ok (.ireturn, 1) := by decide +kernel
def b_X10_either_10 (R0 : (Int32 → St → Prop) → St → Int32 → Prop) (R1 : (Int32 → St → Prop) → St → Int32 → Prop) (R2 : (Int32 → St → Prop) → St → Int32 → Prop) (R3 : (Int32 → St → Prop) → St → Int32 → Prop) (R4 : (Int32 → St → Prop) → St → Int32 → Prop) (R5 : (Int32 → St → Prop) → St → Int32 → Prop) (K10 : St → Int32 → Prop) (post : Int32 → St → Prop) (σ : St) (x1 : Int32) : Prop := w_X10_isSign (fun r1 s1 => ((r1 = 0 → (post 1 s1)) ∧ (¬ r1 = 0 → (w_X10_nextToken (fun s3 => R1 (fun r4 s4 => ((¬ r4 = 0 → (w_X10_step (fun s6 => K10 s6 x1) s4 (2 : Int32) (124 : Int32))) ∧ (r4 = 0 → (post 0 s4)))) s3 x1) s1)))) σ (124 : Int32)
noncomputable def l_X10_either_10 (R0 : (Int32 → St → Prop) → St → Int32 → Prop) (R1 : (Int32 → St → Prop) → St → Int32 → Prop) (R2 : (Int32 → St → Prop) → St → Int32 → Prop) (R3 : (Int32 → St → Prop) → St → Int32 → Prop) (R4 : (Int32 → St → Prop) → St → Int32 → Prop) (R5 : (Int32 → St → Prop) → St → Int32 → Prop) (post : Int32 → St → Prop) : Nat → St → Int32 → Prop := fun n => Nat.rec (motive := fun _ => St → Int32 → Prop) (fun _ _ => False) (fun _ ih => b_X10_either_10 R0 R1 R2 R3 R4 R5 ih post) n
theorem L_X10_either_10 (E : EnvW p s m args meth c D cy regsM ad "RoofWarModel" cX10_either 2 (some .boolean)) (ha : Apart regsM ad) {post : Int32 → St → Prop} {gn : Nat} {R0 : (Int32 → St → Prop) → St → Int32 → Prop} {R1 : (Int32 → St → Prop) → St → Int32 → Prop} {R2 : (Int32 → St → Prop) → St → Int32 → Prop} {R3 : (Int32 → St → Prop) → St → Int32 → Prop} {R4 : (Int32 → St → Prop) → St → Int32 → Prop} {R5 : (Int32 → St → Prop) → St → Int32 → Prop} (hR0 : ∀ (post : Int32 → St → Prop) (σ : St) (x1 : Int32), R0 post σ x1 → ∀ sz : Nat, MetI l yX10_either cX10_either 2 .boolean (rmG_ex gn) [.ref (ad 0 0), .int x1] D cy (cellM cy ad) regsM ad σ sz (fun r u => (r = 0 ∨ r = 1) ∧ post r u)) (hR1 : ∀ (post : Int32 → St → Prop) (σ : St) (x1 : Int32), R1 post σ x1 → ∀ sz : Nat, MetI l yX10_both cX10_both 2 .boolean (rmG_ex gn) [.ref (ad 0 0), .int x1] D cy (cellM cy ad) regsM ad σ sz (fun r u => (r = 0 ∨ r = 1) ∧ post r u)) (hR2 : ∀ (post : Int32 → St → Prop) (σ : St) (x1 : Int32), R2 post σ x1 → ∀ sz : Nat, MetI l yX10_test cX10_test 3 .boolean (rmG_ex gn) [.ref (ad 0 0), .int x1] D cy (cellM cy ad) regsM ad σ sz (fun r u => (r = 0 ∨ r = 1) ∧ post r u)) (hR3 : ∀ (post : Int32 → St → Prop) (σ : St) (x1 : Int32), R3 post σ x1 → ∀ sz : Nat, MetI l yX10_sum cX10_sum 3 .boolean (rmG_ex gn) [.ref (ad 0 0), .int x1] D cy (cellM cy ad) regsM ad σ sz (fun r u => (r = 0 ∨ r = 1) ∧ post r u)) (hR4 : ∀ (post : Int32 → St → Prop) (σ : St) (x1 : Int32), R4 post σ x1 → ∀ sz : Nat, MetI l yX10_term cX10_term 3 .boolean (rmG_ex gn) [.ref (ad 0 0), .int x1] D cy (cellM cy ad) regsM ad σ sz (fun r u => (r = 0 ∨ r = 1) ∧ post r u)) (hR5 : ∀ (post : Int32 → St → Prop) (σ : St) (x1 : Int32), R5 post σ x1 → ∀ sz : Nat, MetI l yX10_part0 cX10_part0 2 .boolean (rmG_ex gn) [.ref (ad 0 0), .int x1] D cy (cellM cy ad) regsM ad σ sz (fun r u => (r = 0 ∨ r = 1) ∧ post r u)) : ∀ (n : Nat), ∀ (σ : St) (x1 : Int32), l_X10_either_10 R0 R1 R2 R3 R4 R5 post n σ x1 → ∀ (H : Heap) (locs : List Loc) (ls : Array Slot), va_P D CLS (wM cy ad σ) H → va_S (AM ad s.heap.size) s.heap H locs → lv_has ls 2 [(0, .ref (ad 0 0)), (1, .int x1)] → W p l e (rmG_ex (gn + 1)) s m args below meth c H locs 0 0 (MQ below (QI D cy (cellM cy ad) regsM ad s.heap.size (fun r u => (r = 0 ∨ r = 1) ∧ post r u)) args s 0 0 (AM ad s.heap.size)) (F0 m 10 ls []) := by
  obtain ⟨hx, hb, -⟩ := id E
  intro n
  induction n with
  | zero => intro σ x1 hw; exact hw.elim
  | succ n hk10 =>
    intro σ x1 hw H locs ls hP hS hl
    replace hw : b_X10_either_10 R0 R1 R2 R3 R4 R5 (l_X10_either_10 R0 R1 R2 R3 R4 R5 post n) post σ x1 := hw
    unfold b_X10_either_10 at hw
    refine lv_aload_n hx hb dX10_either_10 rfl (lv_at hl 0 rfl) ?_
    refine lv_bipush (v := 124) hx hb dX10_either_11 (by decide) ?_
    refine g_cVi (As := [.int 124]) (rest := []) E hl.1 (c_X10_isSign l D cy ad ha hw _) ok_X10_isSign mw_1345 ⟨(by show 0 + 1 ≤ 40 + (gn + 1); omega), (by show 8 + (2 + 11) + 0 ≤ 2000 + 60 * (gn + 1); omega)⟩ ⟨rfl, rfl⟩ rM0 rfl rfl rfl rfl rfl (Nat.le_of_ble_eq_true rfl) ⟨Nat.zero_le _, Nat.zero_le _⟩ hP hS dX10_either_13 (fun r1 s1 hw H locs hP hS => ?_)
    obtain ⟨z1, hw⟩ := hw
    refine lv_if_eq (tgt := 43) hx hb dX10_either_16 (by decide) (fun c2 => ?_) (fun c2 => ?_)
    · replace hw := hw.1 c2
      refine lv_iconst (v := 1) hx hb dX10_either_43 (by decide) ?_
      exact g_zret E (Or.inr rfl) hw hP hS dX10_either_44
    · replace hw := hw.2 c2
      refine lv_aload_n hx hb dX10_either_19 rfl (lv_at hl 0 rfl) ?_
      refine g_cVv (As := []) (rest := []) E hl.1 (c_X10_nextToken l D cy ad ha hw _) ok_X10_nextToken mw_1299 ⟨(by show 2 + 1 ≤ 40 + (gn + 1); omega), (by show 8 + (3 + 11) + 46 ≤ 2000 + 60 * (gn + 1); omega)⟩ ⟨rfl, rfl⟩ rM0 rfl rfl rfl rfl rfl (Nat.le_of_ble_eq_true rfl) ⟨Nat.zero_le _, Nat.zero_le _⟩ hP hS dX10_either_20 (fun s3 hw H locs hP hS => ?_)
      refine lv_aload_n hx hb dX10_either_23 rfl (lv_at hl 0 rfl) ?_
      refine lv_iload_n hx hb dX10_either_24 rfl (lv_at hl 1 rfl) ?_
      refine g_cVi (As := [.int x1]) (rest := []) E hl.1 (hR1 _ _ _ hw _) ok_X10_both mw_1324 ⟨(by show 40 + gn + 1 ≤ 40 + (gn + 1); omega), (by show 8 + (2 + 11) + (2000 + 60 * gn) ≤ 2000 + 60 * (gn + 1); omega)⟩ ⟨rfl, rfl⟩ rM0 rfl rfl rfl rfl rfl (Nat.le_of_ble_eq_true rfl) ⟨Nat.zero_le _, Nat.zero_le _⟩ hP hS dX10_either_25 (fun r4 s4 hw H locs hP hS => ?_)
      obtain ⟨z4, hw⟩ := hw
      refine lv_if_ne (tgt := 33) hx hb dX10_either_28 (by decide) (fun c5 => ?_) (fun c5 => ?_)
      · replace hw := hw.1 c5
        refine lv_aload_n hx hb dX10_either_33 rfl (lv_at hl 0 rfl) ?_
        refine lv_iconst (v := 2) hx hb dX10_either_34 (by decide) ?_
        refine lv_bipush (v := 124) hx hb dX10_either_35 (by decide) ?_
        refine g_cVv (As := [.int 2, .int 124]) (rest := []) E hl.1 (c_X10_step l D cy ad ha hw _) ok_X10_step mw_1339 ⟨(by show 0 + 1 ≤ 40 + (gn + 1); omega), (by show 8 + (3 + 11) + 0 ≤ 2000 + 60 * (gn + 1); omega)⟩ ⟨rfl, rfl⟩ rM0 rfl rfl rfl rfl rfl (Nat.le_of_ble_eq_true rfl) ⟨Nat.zero_le _, Nat.zero_le _⟩ hP hS dX10_either_37 (fun s6 hw H locs hP hS => ?_)
        refine lv_goto (tgt := 10) hx hb dX10_either_40 (by decide) ?_
        exact hk10 s6 x1 hw _ _ _ hP hS (lv_sub hl [0, 1] rfl)
      · replace hw := hw.2 c5
        refine lv_iconst (v := 0) hx hb dX10_either_31 (by decide) ?_
        exact g_zret E (Or.inl rfl) hw hP hS dX10_either_32
def wb_X10_either (R0 : (Int32 → St → Prop) → St → Int32 → Prop) (R1 : (Int32 → St → Prop) → St → Int32 → Prop) (R2 : (Int32 → St → Prop) → St → Int32 → Prop) (R3 : (Int32 → St → Prop) → St → Int32 → Prop) (R4 : (Int32 → St → Prop) → St → Int32 → Prop) (R5 : (Int32 → St → Prop) → St → Int32 → Prop) (post : Int32 → St → Prop) (σ : St) (x1 : Int32) : Prop := R1 (fun r1 s1 => ((¬ r1 = 0 → (∃ n3 : Nat, l_X10_either_10 R0 R1 R2 R3 R4 R5 post n3 s1 x1)) ∧ (r1 = 0 → (post 0 s1)))) σ x1
theorem B_X10_either_0 (E : EnvW p s m args meth c D cy regsM ad "RoofWarModel" cX10_either 2 (some .boolean)) (ha : Apart regsM ad) {post : Int32 → St → Prop} {gn : Nat} {R0 : (Int32 → St → Prop) → St → Int32 → Prop} {R1 : (Int32 → St → Prop) → St → Int32 → Prop} {R2 : (Int32 → St → Prop) → St → Int32 → Prop} {R3 : (Int32 → St → Prop) → St → Int32 → Prop} {R4 : (Int32 → St → Prop) → St → Int32 → Prop} {R5 : (Int32 → St → Prop) → St → Int32 → Prop} (hR0 : ∀ (post : Int32 → St → Prop) (σ : St) (x1 : Int32), R0 post σ x1 → ∀ sz : Nat, MetI l yX10_either cX10_either 2 .boolean (rmG_ex gn) [.ref (ad 0 0), .int x1] D cy (cellM cy ad) regsM ad σ sz (fun r u => (r = 0 ∨ r = 1) ∧ post r u)) (hR1 : ∀ (post : Int32 → St → Prop) (σ : St) (x1 : Int32), R1 post σ x1 → ∀ sz : Nat, MetI l yX10_both cX10_both 2 .boolean (rmG_ex gn) [.ref (ad 0 0), .int x1] D cy (cellM cy ad) regsM ad σ sz (fun r u => (r = 0 ∨ r = 1) ∧ post r u)) (hR2 : ∀ (post : Int32 → St → Prop) (σ : St) (x1 : Int32), R2 post σ x1 → ∀ sz : Nat, MetI l yX10_test cX10_test 3 .boolean (rmG_ex gn) [.ref (ad 0 0), .int x1] D cy (cellM cy ad) regsM ad σ sz (fun r u => (r = 0 ∨ r = 1) ∧ post r u)) (hR3 : ∀ (post : Int32 → St → Prop) (σ : St) (x1 : Int32), R3 post σ x1 → ∀ sz : Nat, MetI l yX10_sum cX10_sum 3 .boolean (rmG_ex gn) [.ref (ad 0 0), .int x1] D cy (cellM cy ad) regsM ad σ sz (fun r u => (r = 0 ∨ r = 1) ∧ post r u)) (hR4 : ∀ (post : Int32 → St → Prop) (σ : St) (x1 : Int32), R4 post σ x1 → ∀ sz : Nat, MetI l yX10_term cX10_term 3 .boolean (rmG_ex gn) [.ref (ad 0 0), .int x1] D cy (cellM cy ad) regsM ad σ sz (fun r u => (r = 0 ∨ r = 1) ∧ post r u)) (hR5 : ∀ (post : Int32 → St → Prop) (σ : St) (x1 : Int32), R5 post σ x1 → ∀ sz : Nat, MetI l yX10_part0 cX10_part0 2 .boolean (rmG_ex gn) [.ref (ad 0 0), .int x1] D cy (cellM cy ad) regsM ad σ sz (fun r u => (r = 0 ∨ r = 1) ∧ post r u)) {σ : St} {x1 : Int32} (hw : wb_X10_either R0 R1 R2 R3 R4 R5 post σ x1) {H : Heap} {locs : List Loc} {ls : Array Slot} (hP : va_P D CLS (wM cy ad σ) H) (hS : va_S (AM ad s.heap.size) s.heap H locs) (hl : lv_has ls 2 [(0, .ref (ad 0 0)), (1, .int x1)]) : W p l e (rmG_ex (gn + 1)) s m args below meth c H locs 0 0 (MQ below (QI D cy (cellM cy ad) regsM ad s.heap.size (fun r u => (r = 0 ∨ r = 1) ∧ post r u)) args s 0 0 (AM ad s.heap.size)) (F0 m 0 ls []) := by
  obtain ⟨hx, hb, -⟩ := id E
  unfold wb_X10_either at hw
  refine lv_aload_n hx hb dX10_either_0 rfl (lv_at hl 0 rfl) ?_
  refine lv_iload_n hx hb dX10_either_1 rfl (lv_at hl 1 rfl) ?_
  refine g_cVi (As := [.int x1]) (rest := []) E hl.1 (hR1 _ _ _ hw _) ok_X10_both mw_1324 ⟨(by show 40 + gn + 1 ≤ 40 + (gn + 1); omega), (by show 8 + (2 + 11) + (2000 + 60 * gn) ≤ 2000 + 60 * (gn + 1); omega)⟩ ⟨rfl, rfl⟩ rM0 rfl rfl rfl rfl rfl (Nat.le_of_ble_eq_true rfl) ⟨Nat.zero_le _, Nat.zero_le _⟩ hP hS dX10_either_2 (fun r1 s1 hw H locs hP hS => ?_)
  obtain ⟨z1, hw⟩ := hw
  refine lv_if_ne (tgt := 10) hx hb dX10_either_5 (by decide) (fun c2 => ?_) (fun c2 => ?_)
  · replace hw := hw.1 c2
    obtain ⟨n3, hw⟩ := hw
    exact L_X10_either_10 E ha hR0 hR1 hR2 hR3 hR4 hR5 n3 s1 x1 hw _ _ _ hP hS (lv_sub hl [0, 1] rfl)
  · replace hw := hw.2 c2
    refine lv_iconst (v := 0) hx hb dX10_either_8 (by decide) ?_
    exact g_zret E (Or.inl rfl) hw hP hS dX10_either_9
-- RoofWarModel.both(I)Z
theorem dX10_both_0 : decode cX10_both 0 = .ok (.aload_n 0, 1) := by decide +kernel
theorem dX10_both_1 : decode cX10_both 1 = .ok (.iload_n 1, 1) := by decide +kernel
theorem dX10_both_2 : decode cX10_both 2 = .ok (.invokevirtual 291, 3) := by decide +kernel
theorem dX10_both_5 : decode cX10_both 5 = .ok (.ifCond .ne 5, 3) := by decide +kernel
theorem dX10_both_8 : decode cX10_both 8 = .ok (.iconst 0, 1) := by decide +kernel
theorem dX10_both_9 : decode cX10_both 9 = .ok (.ireturn, 1) := by decide +kernel
theorem dX10_both_10 : decode cX10_both 10 = .ok (.aload_n 0, 1) := by decide +kernel
theorem dX10_both_11 : decode cX10_both 11 = .ok (.bipush 38, 2) := by decide +kernel
theorem dX10_both_13 : decode cX10_both 13 = .ok (.invokevirtual 282, 3) := by decide +kernel
theorem dX10_both_16 : decode cX10_both 16 = .ok (.ifCond .eq 27, 3) := by decide +kernel
theorem dX10_both_19 : decode cX10_both 19 = .ok (.aload_n 0, 1) := by decide +kernel
theorem dX10_both_20 : decode cX10_both 20 = .ok (.invokevirtual 285, 3) := by decide +kernel
theorem dX10_both_23 : decode cX10_both 23 = .ok (.aload_n 0, 1) := by decide +kernel
theorem dX10_both_24 : decode cX10_both 24 = .ok (.iload_n 1, 1) := by decide +kernel
theorem dX10_both_25 : decode cX10_both 25 = .ok (.invokevirtual 291, 3) := by decide +kernel
theorem dX10_both_28 : decode cX10_both 28 = .ok (.ifCond .ne 5, 3) := by decide +kernel
theorem dX10_both_31 : decode cX10_both 31 = .ok (.iconst 0, 1) := by decide +kernel
theorem dX10_both_32 : decode cX10_both 32 = .ok (.ireturn, 1) := by decide +kernel
theorem dX10_both_33 : decode cX10_both 33 = .ok (.aload_n 0, 1) := by decide +kernel
theorem dX10_both_34 : decode cX10_both 34 = .ok (.iconst 2, 1) := by decide +kernel
theorem dX10_both_35 : decode cX10_both 35 = .ok (.bipush 38, 2) := by decide +kernel
theorem dX10_both_37 : decode cX10_both 37 = .ok (.invokevirtual 288, 3) := by decide +kernel
theorem dX10_both_40 : decode cX10_both 40 = .ok (.goto (-30), 3) := by decide +kernel
theorem dX10_both_43 : decode cX10_both 43 = .ok (.iconst 1, 1) := by decide +kernel
theorem dX10_both_44 : decode cX10_both 44 = .ok (.ireturn, 1) := by decide +kernel
def b_X10_both_10 (R0 : (Int32 → St → Prop) → St → Int32 → Prop) (R1 : (Int32 → St → Prop) → St → Int32 → Prop) (R2 : (Int32 → St → Prop) → St → Int32 → Prop) (R3 : (Int32 → St → Prop) → St → Int32 → Prop) (R4 : (Int32 → St → Prop) → St → Int32 → Prop) (R5 : (Int32 → St → Prop) → St → Int32 → Prop) (K10 : St → Int32 → Prop) (post : Int32 → St → Prop) (σ : St) (x1 : Int32) : Prop := w_X10_isSign (fun r1 s1 => ((r1 = 0 → (post 1 s1)) ∧ (¬ r1 = 0 → (w_X10_nextToken (fun s3 => R2 (fun r4 s4 => ((¬ r4 = 0 → (w_X10_step (fun s6 => K10 s6 x1) s4 (2 : Int32) (38 : Int32))) ∧ (r4 = 0 → (post 0 s4)))) s3 x1) s1)))) σ (38 : Int32)
noncomputable def l_X10_both_10 (R0 : (Int32 → St → Prop) → St → Int32 → Prop) (R1 : (Int32 → St → Prop) → St → Int32 → Prop) (R2 : (Int32 → St → Prop) → St → Int32 → Prop) (R3 : (Int32 → St → Prop) → St → Int32 → Prop) (R4 : (Int32 → St → Prop) → St → Int32 → Prop) (R5 : (Int32 → St → Prop) → St → Int32 → Prop) (post : Int32 → St → Prop) : Nat → St → Int32 → Prop := fun n => Nat.rec (motive := fun _ => St → Int32 → Prop) (fun _ _ => False) (fun _ ih => b_X10_both_10 R0 R1 R2 R3 R4 R5 ih post) n
theorem L_X10_both_10 (E : EnvW p s m args meth c D cy regsM ad "RoofWarModel" cX10_both 2 (some .boolean)) (ha : Apart regsM ad) {post : Int32 → St → Prop} {gn : Nat} {R0 : (Int32 → St → Prop) → St → Int32 → Prop} {R1 : (Int32 → St → Prop) → St → Int32 → Prop} {R2 : (Int32 → St → Prop) → St → Int32 → Prop} {R3 : (Int32 → St → Prop) → St → Int32 → Prop} {R4 : (Int32 → St → Prop) → St → Int32 → Prop} {R5 : (Int32 → St → Prop) → St → Int32 → Prop} (hR0 : ∀ (post : Int32 → St → Prop) (σ : St) (x1 : Int32), R0 post σ x1 → ∀ sz : Nat, MetI l yX10_either cX10_either 2 .boolean (rmG_ex gn) [.ref (ad 0 0), .int x1] D cy (cellM cy ad) regsM ad σ sz (fun r u => (r = 0 ∨ r = 1) ∧ post r u)) (hR1 : ∀ (post : Int32 → St → Prop) (σ : St) (x1 : Int32), R1 post σ x1 → ∀ sz : Nat, MetI l yX10_both cX10_both 2 .boolean (rmG_ex gn) [.ref (ad 0 0), .int x1] D cy (cellM cy ad) regsM ad σ sz (fun r u => (r = 0 ∨ r = 1) ∧ post r u)) (hR2 : ∀ (post : Int32 → St → Prop) (σ : St) (x1 : Int32), R2 post σ x1 → ∀ sz : Nat, MetI l yX10_test cX10_test 3 .boolean (rmG_ex gn) [.ref (ad 0 0), .int x1] D cy (cellM cy ad) regsM ad σ sz (fun r u => (r = 0 ∨ r = 1) ∧ post r u)) (hR3 : ∀ (post : Int32 → St → Prop) (σ : St) (x1 : Int32), R3 post σ x1 → ∀ sz : Nat, MetI l yX10_sum cX10_sum 3 .boolean (rmG_ex gn) [.ref (ad 0 0), .int x1] D cy (cellM cy ad) regsM ad σ sz (fun r u => (r = 0 ∨ r = 1) ∧ post r u)) (hR4 : ∀ (post : Int32 → St → Prop) (σ : St) (x1 : Int32), R4 post σ x1 → ∀ sz : Nat, MetI l yX10_term cX10_term 3 .boolean (rmG_ex gn) [.ref (ad 0 0), .int x1] D cy (cellM cy ad) regsM ad σ sz (fun r u => (r = 0 ∨ r = 1) ∧ post r u)) (hR5 : ∀ (post : Int32 → St → Prop) (σ : St) (x1 : Int32), R5 post σ x1 → ∀ sz : Nat, MetI l yX10_part0 cX10_part0 2 .boolean (rmG_ex gn) [.ref (ad 0 0), .int x1] D cy (cellM cy ad) regsM ad σ sz (fun r u => (r = 0 ∨ r = 1) ∧ post r u)) : ∀ (n : Nat), ∀ (σ : St) (x1 : Int32), l_X10_both_10 R0 R1 R2 R3 R4 R5 post n σ x1 → ∀ (H : Heap) (locs : List Loc) (ls : Array Slot), va_P D CLS (wM cy ad σ) H → va_S (AM ad s.heap.size) s.heap H locs → lv_has ls 2 [(0, .ref (ad 0 0)), (1, .int x1)] → W p l e (rmG_ex (gn + 1)) s m args below meth c H locs 0 0 (MQ below (QI D cy (cellM cy ad) regsM ad s.heap.size (fun r u => (r = 0 ∨ r = 1) ∧ post r u)) args s 0 0 (AM ad s.heap.size)) (F0 m 10 ls []) := by
  obtain ⟨hx, hb, -⟩ := id E
  intro n
  induction n with
  | zero => intro σ x1 hw; exact hw.elim
  | succ n hk10 =>
    intro σ x1 hw H locs ls hP hS hl
    replace hw : b_X10_both_10 R0 R1 R2 R3 R4 R5 (l_X10_both_10 R0 R1 R2 R3 R4 R5 post n) post σ x1 := hw
    unfold b_X10_both_10 at hw
    refine lv_aload_n hx hb dX10_both_10 rfl (lv_at hl 0 rfl) ?_
    refine lv_bipush (v := 38) hx hb dX10_both_11 (by decide) ?_
    refine g_cVi (As := [.int 38]) (rest := []) E hl.1 (c_X10_isSign l D cy ad ha hw _) ok_X10_isSign mw_1345 ⟨(by show 0 + 1 ≤ 40 + (gn + 1); omega), (by show 8 + (2 + 11) + 0 ≤ 2000 + 60 * (gn + 1); omega)⟩ ⟨rfl, rfl⟩ rM0 rfl rfl rfl rfl rfl (Nat.le_of_ble_eq_true rfl) ⟨Nat.zero_le _, Nat.zero_le _⟩ hP hS dX10_both_13 (fun r1 s1 hw H locs hP hS => ?_)
    obtain ⟨z1, hw⟩ := hw
    refine lv_if_eq (tgt := 43) hx hb dX10_both_16 (by decide) (fun c2 => ?_) (fun c2 => ?_)
    · replace hw := hw.1 c2
      refine lv_iconst (v := 1) hx hb dX10_both_43 (by decide) ?_
      exact g_zret E (Or.inr rfl) hw hP hS dX10_both_44
    · replace hw := hw.2 c2
      refine lv_aload_n hx hb dX10_both_19 rfl (lv_at hl 0 rfl) ?_
      refine g_cVv (As := []) (rest := []) E hl.1 (c_X10_nextToken l D cy ad ha hw _) ok_X10_nextToken mw_1299 ⟨(by show 2 + 1 ≤ 40 + (gn + 1); omega), (by show 8 + (3 + 11) + 46 ≤ 2000 + 60 * (gn + 1); omega)⟩ ⟨rfl, rfl⟩ rM0 rfl rfl rfl rfl rfl (Nat.le_of_ble_eq_true rfl) ⟨Nat.zero_le _, Nat.zero_le _⟩ hP hS dX10_both_20 (fun s3 hw H locs hP hS => ?_)
      refine lv_aload_n hx hb dX10_both_23 rfl (lv_at hl 0 rfl) ?_
      refine lv_iload_n hx hb dX10_both_24 rfl (lv_at hl 1 rfl) ?_
      refine g_cVi (As := [.int x1]) (rest := []) E hl.1 (hR2 _ _ _ hw _) ok_X10_test mw_1327 ⟨(by show 40 + gn + 1 ≤ 40 + (gn + 1); omega), (by show 8 + (3 + 11) + (2000 + 60 * gn) ≤ 2000 + 60 * (gn + 1); omega)⟩ ⟨rfl, rfl⟩ rM0 rfl rfl rfl rfl rfl (Nat.le_of_ble_eq_true rfl) ⟨Nat.zero_le _, Nat.zero_le _⟩ hP hS dX10_both_25 (fun r4 s4 hw H locs hP hS => ?_)
      obtain ⟨z4, hw⟩ := hw
      refine lv_if_ne (tgt := 33) hx hb dX10_both_28 (by decide) (fun c5 => ?_) (fun c5 => ?_)
      · replace hw := hw.1 c5
        refine lv_aload_n hx hb dX10_both_33 rfl (lv_at hl 0 rfl) ?_
        refine lv_iconst (v := 2) hx hb dX10_both_34 (by decide) ?_
        refine lv_bipush (v := 38) hx hb dX10_both_35 (by decide) ?_
        refine g_cVv (As := [.int 2, .int 38]) (rest := []) E hl.1 (c_X10_step l D cy ad ha hw _) ok_X10_step mw_1339 ⟨(by show 0 + 1 ≤ 40 + (gn + 1); omega), (by show 8 + (3 + 11) + 0 ≤ 2000 + 60 * (gn + 1); omega)⟩ ⟨rfl, rfl⟩ rM0 rfl rfl rfl rfl rfl (Nat.le_of_ble_eq_true rfl) ⟨Nat.zero_le _, Nat.zero_le _⟩ hP hS dX10_both_37 (fun s6 hw H locs hP hS => ?_)
        refine lv_goto (tgt := 10) hx hb dX10_both_40 (by decide) ?_
        exact hk10 s6 x1 hw _ _ _ hP hS (lv_sub hl [0, 1] rfl)
      · replace hw := hw.2 c5
        refine lv_iconst (v := 0) hx hb dX10_both_31 (by decide) ?_
        exact g_zret E (Or.inl rfl) hw hP hS dX10_both_32
def wb_X10_both (R0 : (Int32 → St → Prop) → St → Int32 → Prop) (R1 : (Int32 → St → Prop) → St → Int32 → Prop) (R2 : (Int32 → St → Prop) → St → Int32 → Prop) (R3 : (Int32 → St → Prop) → St → Int32 → Prop) (R4 : (Int32 → St → Prop) → St → Int32 → Prop) (R5 : (Int32 → St → Prop) → St → Int32 → Prop) (post : Int32 → St → Prop) (σ : St) (x1 : Int32) : Prop := R2 (fun r1 s1 => ((¬ r1 = 0 → (∃ n3 : Nat, l_X10_both_10 R0 R1 R2 R3 R4 R5 post n3 s1 x1)) ∧ (r1 = 0 → (post 0 s1)))) σ x1
theorem B_X10_both_0 (E : EnvW p s m args meth c D cy regsM ad "RoofWarModel" cX10_both 2 (some .boolean)) (ha : Apart regsM ad) {post : Int32 → St → Prop} {gn : Nat} {R0 : (Int32 → St → Prop) → St → Int32 → Prop} {R1 : (Int32 → St → Prop) → St → Int32 → Prop} {R2 : (Int32 → St → Prop) → St → Int32 → Prop} {R3 : (Int32 → St → Prop) → St → Int32 → Prop} {R4 : (Int32 → St → Prop) → St → Int32 → Prop} {R5 : (Int32 → St → Prop) → St → Int32 → Prop} (hR0 : ∀ (post : Int32 → St → Prop) (σ : St) (x1 : Int32), R0 post σ x1 → ∀ sz : Nat, MetI l yX10_either cX10_either 2 .boolean (rmG_ex gn) [.ref (ad 0 0), .int x1] D cy (cellM cy ad) regsM ad σ sz (fun r u => (r = 0 ∨ r = 1) ∧ post r u)) (hR1 : ∀ (post : Int32 → St → Prop) (σ : St) (x1 : Int32), R1 post σ x1 → ∀ sz : Nat, MetI l yX10_both cX10_both 2 .boolean (rmG_ex gn) [.ref (ad 0 0), .int x1] D cy (cellM cy ad) regsM ad σ sz (fun r u => (r = 0 ∨ r = 1) ∧ post r u)) (hR2 : ∀ (post : Int32 → St → Prop) (σ : St) (x1 : Int32), R2 post σ x1 → ∀ sz : Nat, MetI l yX10_test cX10_test 3 .boolean (rmG_ex gn) [.ref (ad 0 0), .int x1] D cy (cellM cy ad) regsM ad σ sz (fun r u => (r = 0 ∨ r = 1) ∧ post r u)) (hR3 : ∀ (post : Int32 → St → Prop) (σ : St) (x1 : Int32), R3 post σ x1 → ∀ sz : Nat, MetI l yX10_sum cX10_sum 3 .boolean (rmG_ex gn) [.ref (ad 0 0), .int x1] D cy (cellM cy ad) regsM ad σ sz (fun r u => (r = 0 ∨ r = 1) ∧ post r u)) (hR4 : ∀ (post : Int32 → St → Prop) (σ : St) (x1 : Int32), R4 post σ x1 → ∀ sz : Nat, MetI l yX10_term cX10_term 3 .boolean (rmG_ex gn) [.ref (ad 0 0), .int x1] D cy (cellM cy ad) regsM ad σ sz (fun r u => (r = 0 ∨ r = 1) ∧ post r u)) (hR5 : ∀ (post : Int32 → St → Prop) (σ : St) (x1 : Int32), R5 post σ x1 → ∀ sz : Nat, MetI l yX10_part0 cX10_part0 2 .boolean (rmG_ex gn) [.ref (ad 0 0), .int x1] D cy (cellM cy ad) regsM ad σ sz (fun r u => (r = 0 ∨ r = 1) ∧ post r u)) {σ : St} {x1 : Int32} (hw : wb_X10_both R0 R1 R2 R3 R4 R5 post σ x1) {H : Heap} {locs : List Loc} {ls : Array Slot} (hP : va_P D CLS (wM cy ad σ) H) (hS : va_S (AM ad s.heap.size) s.heap H locs) (hl : lv_has ls 2 [(0, .ref (ad 0 0)), (1, .int x1)]) : W p l e (rmG_ex (gn + 1)) s m args below meth c H locs 0 0 (MQ below (QI D cy (cellM cy ad) regsM ad s.heap.size (fun r u => (r = 0 ∨ r = 1) ∧ post r u)) args s 0 0 (AM ad s.heap.size)) (F0 m 0 ls []) := by
  obtain ⟨hx, hb, -⟩ := id E
  unfold wb_X10_both at hw
  refine lv_aload_n hx hb dX10_both_0 rfl (lv_at hl 0 rfl) ?_
  refine lv_iload_n hx hb dX10_both_1 rfl (lv_at hl 1 rfl) ?_
  refine g_cVi (As := [.int x1]) (rest := []) E hl.1 (hR2 _ _ _ hw _) ok_X10_test mw_1327 ⟨(by show 40 + gn + 1 ≤ 40 + (gn + 1); omega), (by show 8 + (3 + 11) + (2000 + 60 * gn) ≤ 2000 + 60 * (gn + 1); omega)⟩ ⟨rfl, rfl⟩ rM0 rfl rfl rfl rfl rfl (Nat.le_of_ble_eq_true rfl) ⟨Nat.zero_le _, Nat.zero_le _⟩ hP hS dX10_both_2 (fun r1 s1 hw H locs hP hS => ?_)
  obtain ⟨z1, hw⟩ := hw
  refine lv_if_ne (tgt := 10) hx hb dX10_both_5 (by decide) (fun c2 => ?_) (fun c2 => ?_)
  · replace hw := hw.1 c2
    obtain ⟨n3, hw⟩ := hw
    exact L_X10_both_10 E ha hR0 hR1 hR2 hR3 hR4 hR5 n3 s1 x1 hw _ _ _ hP hS (lv_sub hl [0, 1] rfl)
  · replace hw := hw.2 c2
    refine lv_iconst (v := 0) hx hb dX10_both_8 (by decide) ?_
    exact g_zret E (Or.inl rfl) hw hP hS dX10_both_9
-- RoofWarModel.test(I)Z
theorem dX10_test_0 : decode cX10_test 0 = .ok (.aload_n 0, 1) := by decide +kernel
theorem dX10_test_1 : decode cX10_test 1 = .ok (.iload_n 1, 1) := by decide +kernel
theorem dX10_test_2 : decode cX10_test 2 = .ok (.invokevirtual 294, 3) := by decide +kernel
theorem dX10_test_5 : decode cX10_test 5 = .ok (.ifCond .ne 5, 3) := by decide +kernel
theorem dX10_test_8 : decode cX10_test 8 = .ok (.iconst 0, 1) := by decide +kernel
theorem dX10_test_9 : decode cX10_test 9 = .ok (.ireturn, 1) := by decide +kernel
theorem dX10_test_10 : decode cX10_test 10 = .ok (.aload_n 0, 1) := by decide +kernel
theorem dX10_test_11 : decode cX10_test 11 = .ok (.bipush 60, 2) := by decide +kernel
theorem dX10_test_13 : decode cX10_test 13 = .ok (.invokevirtual 282, 3) := by decide +kernel
theorem dX10_test_16 : decode cX10_test 16 = .ok (.ifCond .ne 21, 3) := by decide +kernel
theorem dX10_test_19 : decode cX10_test 19 = .ok (.aload_n 0, 1) := by decide +kernel
theorem dX10_test_20 : decode cX10_test 20 = .ok (.bipush 61, 2) := by decide +kernel
theorem dX10_test_22 : decode cX10_test 22 = .ok (.invokevirtual 282, 3) := by decide +kernel
theorem dX10_test_25 : decode cX10_test 25 = .ok (.ifCond .ne 12, 3) := by decide +kernel
theorem dX10_test_28 : decode cX10_test 28 = .ok (.aload_n 0, 1) := by decide +kernel
theorem dX10_test_29 : decode cX10_test 29 = .ok (.bipush 62, 2) := by decide +kernel
theorem dX10_test_31 : decode cX10_test 31 = .ok (.invokevirtual 282, 3) := by decide +kernel
theorem dX10_test_34 : decode cX10_test 34 = .ok (.ifCond .eq 28, 3) := by decide +kernel
theorem dX10_test_37 : decode cX10_test 37 = .ok (.aload_n 0, 1) := by decide +kernel
theorem dX10_test_38 : decode cX10_test 38 = .ok (.getfield 256, 3) := by decide +kernel
theorem dX10_test_41 : decode cX10_test 41 = .ok (.istore_n 2, 1) := by decide +kernel
theorem dX10_test_42 : decode cX10_test 42 = .ok (.aload_n 0, 1) := by decide +kernel
theorem dX10_test_43 : decode cX10_test 43 = .ok (.invokevirtual 285, 3) := by decide +kernel
theorem dX10_test_46 : decode cX10_test 46 = .ok (.aload_n 0, 1) := by decide +kernel
theorem dX10_test_47 : decode cX10_test 47 = .ok (.iload_n 1, 1) := by decide +kernel
theorem dX10_test_48 : decode cX10_test 48 = .ok (.invokevirtual 294, 3) := by decide +kernel
theorem dX10_test_51 : decode cX10_test 51 = .ok (.ifCond .ne 5, 3) := by decide +kernel
theorem dX10_test_54 : decode cX10_test 54 = .ok (.iconst 0, 1) := by decide +kernel
theorem dX10_test_55 : decode cX10_test 55 = .ok (.ireturn, 1) := by decide +kernel
theorem dX10_test_56 : decode cX10_test 56 = .ok (.aload_n 0, 1) := by decide +kernel
theorem dX10_test_57 : decode cX10_test 57 = .ok (.iconst 2, 1) := by decide +kernel
theorem dX10_test_58 : decode cX10_test 58 = .ok (.iload_n 2, 1) := by decide +kernel
theorem dX10_test_59 : decode cX10_test 59 = .ok (.invokevirtual 288, 3) := by decide +kernel
theorem dX10_test_62 : decode cX10_test 62 = .ok (.iconst 1, 1) := by decide +kernel
theorem dX10_test_63 : decode cX10_test 63 = .ok (.ireturn, 1) := by decide +kernel
def b_X10_test_37 (R0 : (Int32 → St → Prop) → St → Int32 → Prop) (R1 : (Int32 → St → Prop) → St → Int32 → Prop) (R2 : (Int32 → St → Prop) → St → Int32 → Prop) (R3 : (Int32 → St → Prop) → St → Int32 → Prop) (R4 : (Int32 → St → Prop) → St → Int32 → Prop) (R5 : (Int32 → St → Prop) → St → Int32 → Prop) (post : Int32 → St → Prop) (σ : St) (x1 : Int32) : Prop := ∀ v1 : Int32, v1 = σ 0 0 7 → (w_X10_nextToken (fun s2 => R3 (fun r3 s3 => ((¬ r3 = 0 → (w_X10_step (fun s5 => post 1 s5) s3 (2 : Int32) v1)) ∧ (r3 = 0 → (post 0 s3)))) s2 x1) σ)
theorem B_X10_test_37 (E : EnvW p s m args meth c D cy regsM ad "RoofWarModel" cX10_test 3 (some .boolean)) (ha : Apart regsM ad) {post : Int32 → St → Prop} {gn : Nat} {R0 : (Int32 → St → Prop) → St → Int32 → Prop} {R1 : (Int32 → St → Prop) → St → Int32 → Prop} {R2 : (Int32 → St → Prop) → St → Int32 → Prop} {R3 : (Int32 → St → Prop) → St → Int32 → Prop} {R4 : (Int32 → St → Prop) → St → Int32 → Prop} {R5 : (Int32 → St → Prop) → St → Int32 → Prop} (hR0 : ∀ (post : Int32 → St → Prop) (σ : St) (x1 : Int32), R0 post σ x1 → ∀ sz : Nat, MetI l yX10_either cX10_either 2 .boolean (rmG_ex gn) [.ref (ad 0 0), .int x1] D cy (cellM cy ad) regsM ad σ sz (fun r u => (r = 0 ∨ r = 1) ∧ post r u)) (hR1 : ∀ (post : Int32 → St → Prop) (σ : St) (x1 : Int32), R1 post σ x1 → ∀ sz : Nat, MetI l yX10_both cX10_both 2 .boolean (rmG_ex gn) [.ref (ad 0 0), .int x1] D cy (cellM cy ad) regsM ad σ sz (fun r u => (r = 0 ∨ r = 1) ∧ post r u)) (hR2 : ∀ (post : Int32 → St → Prop) (σ : St) (x1 : Int32), R2 post σ x1 → ∀ sz : Nat, MetI l yX10_test cX10_test 3 .boolean (rmG_ex gn) [.ref (ad 0 0), .int x1] D cy (cellM cy ad) regsM ad σ sz (fun r u => (r = 0 ∨ r = 1) ∧ post r u)) (hR3 : ∀ (post : Int32 → St → Prop) (σ : St) (x1 : Int32), R3 post σ x1 → ∀ sz : Nat, MetI l yX10_sum cX10_sum 3 .boolean (rmG_ex gn) [.ref (ad 0 0), .int x1] D cy (cellM cy ad) regsM ad σ sz (fun r u => (r = 0 ∨ r = 1) ∧ post r u)) (hR4 : ∀ (post : Int32 → St → Prop) (σ : St) (x1 : Int32), R4 post σ x1 → ∀ sz : Nat, MetI l yX10_term cX10_term 3 .boolean (rmG_ex gn) [.ref (ad 0 0), .int x1] D cy (cellM cy ad) regsM ad σ sz (fun r u => (r = 0 ∨ r = 1) ∧ post r u)) (hR5 : ∀ (post : Int32 → St → Prop) (σ : St) (x1 : Int32), R5 post σ x1 → ∀ sz : Nat, MetI l yX10_part0 cX10_part0 2 .boolean (rmG_ex gn) [.ref (ad 0 0), .int x1] D cy (cellM cy ad) regsM ad σ sz (fun r u => (r = 0 ∨ r = 1) ∧ post r u)) {σ : St} {x1 : Int32} (hw : b_X10_test_37 R0 R1 R2 R3 R4 R5 post σ x1) {H : Heap} {locs : List Loc} {ls : Array Slot} (hP : va_P D CLS (wM cy ad σ) H) (hS : va_S (AM ad s.heap.size) s.heap H locs) (hl : lv_has ls 3 [(0, .ref (ad 0 0)), (1, .int x1)]) : W p l e (rmG_ex (gn + 1)) s m args below meth c H locs 0 0 (MQ below (QI D cy (cellM cy ad) regsM ad s.heap.size (fun r u => (r = 0 ∨ r = 1) ∧ post r u)) args s 0 0 (AM ad s.heap.size)) (F0 m 37 ls []) := by
  obtain ⟨hx, hb, -⟩ := id E
  unfold b_X10_test_37 at hw
  refine lv_aload_n hx hb dX10_test_37 rfl (lv_at hl 0 rfl) ?_
  refine fX10_22 E hP mw_968 dX10_test_38 ?_
  refine lv_topi (fun v1 ev1 => ?_)
  replace hw := hw v1 ev1
  refine lv_istore_n (lv' := [(2, .int v1), (0, .ref (ad 0 0)), (1, .int x1)]) hx hb dX10_test_41 rfl hl (by decide) rfl (fun ls hl => ?_)
  refine lv_aload_n hx hb dX10_test_42 rfl (lv_at hl 1 rfl) ?_
  refine g_cVv (As := []) (rest := []) E hl.1 (c_X10_nextToken l D cy ad ha hw _) ok_X10_nextToken mw_1299 ⟨(by show 2 + 1 ≤ 40 + (gn + 1); omega), (by show 8 + (3 + 11) + 46 ≤ 2000 + 60 * (gn + 1); omega)⟩ ⟨rfl, rfl⟩ rM0 rfl rfl rfl rfl rfl (Nat.le_of_ble_eq_true rfl) ⟨Nat.zero_le _, Nat.zero_le _⟩ hP hS dX10_test_43 (fun s2 hw H locs hP hS => ?_)
  refine lv_aload_n hx hb dX10_test_46 rfl (lv_at hl 1 rfl) ?_
  refine lv_iload_n hx hb dX10_test_47 rfl (lv_at hl 2 rfl) ?_
  refine g_cVi (As := [.int x1]) (rest := []) E hl.1 (hR3 _ _ _ hw _) ok_X10_sum mw_1330 ⟨(by show 40 + gn + 1 ≤ 40 + (gn + 1); omega), (by show 8 + (3 + 11) + (2000 + 60 * gn) ≤ 2000 + 60 * (gn + 1); omega)⟩ ⟨rfl, rfl⟩ rM0 rfl rfl rfl rfl rfl (Nat.le_of_ble_eq_true rfl) ⟨Nat.zero_le _, Nat.zero_le _⟩ hP hS dX10_test_48 (fun r3 s3 hw H locs hP hS => ?_)
  obtain ⟨z3, hw⟩ := hw
  refine lv_if_ne (tgt := 56) hx hb dX10_test_51 (by decide) (fun c4 => ?_) (fun c4 => ?_)
  · replace hw := hw.1 c4
    refine lv_aload_n hx hb dX10_test_56 rfl (lv_at hl 1 rfl) ?_
    refine lv_iconst (v := 2) hx hb dX10_test_57 (by decide) ?_
    refine lv_iload_n hx hb dX10_test_58 rfl (lv_at hl 0 rfl) ?_
    refine g_cVv (As := [.int 2, .int v1]) (rest := []) E hl.1 (c_X10_step l D cy ad ha hw _) ok_X10_step mw_1339 ⟨(by show 0 + 1 ≤ 40 + (gn + 1); omega), (by show 8 + (3 + 11) + 0 ≤ 2000 + 60 * (gn + 1); omega)⟩ ⟨rfl, rfl⟩ rM0 rfl rfl rfl rfl rfl (Nat.le_of_ble_eq_true rfl) ⟨Nat.zero_le _, Nat.zero_le _⟩ hP hS dX10_test_59 (fun s5 hw H locs hP hS => ?_)
    refine lv_iconst (v := 1) hx hb dX10_test_62 (by decide) ?_
    exact g_zret E (Or.inr rfl) hw hP hS dX10_test_63
  · replace hw := hw.2 c4
    refine lv_iconst (v := 0) hx hb dX10_test_54 (by decide) ?_
    exact g_zret E (Or.inl rfl) hw hP hS dX10_test_55
def wb_X10_test (R0 : (Int32 → St → Prop) → St → Int32 → Prop) (R1 : (Int32 → St → Prop) → St → Int32 → Prop) (R2 : (Int32 → St → Prop) → St → Int32 → Prop) (R3 : (Int32 → St → Prop) → St → Int32 → Prop) (R4 : (Int32 → St → Prop) → St → Int32 → Prop) (R5 : (Int32 → St → Prop) → St → Int32 → Prop) (post : Int32 → St → Prop) (σ : St) (x1 : Int32) : Prop := R3 (fun r1 s1 => ((¬ r1 = 0 → (w_X10_isSign (fun r3 s3 => ((¬ r3 = 0 → (b_X10_test_37 R0 R1 R2 R3 R4 R5 post s3 x1)) ∧ (r3 = 0 → (w_X10_isSign (fun r5 s5 => ((¬ r5 = 0 → (b_X10_test_37 R0 R1 R2 R3 R4 R5 post s5 x1)) ∧ (r5 = 0 → (w_X10_isSign (fun r7 s7 => ((r7 = 0 → (post 1 s7)) ∧ (¬ r7 = 0 → (b_X10_test_37 R0 R1 R2 R3 R4 R5 post s7 x1)))) s5 (62 : Int32))))) s3 (61 : Int32))))) s1 (60 : Int32))) ∧ (r1 = 0 → (post 0 s1)))) σ x1
theorem B_X10_test_0 (E : EnvW p s m args meth c D cy regsM ad "RoofWarModel" cX10_test 3 (some .boolean)) (ha : Apart regsM ad) {post : Int32 → St → Prop} {gn : Nat} {R0 : (Int32 → St → Prop) → St → Int32 → Prop} {R1 : (Int32 → St → Prop) → St → Int32 → Prop} {R2 : (Int32 → St → Prop) → St → Int32 → Prop} {R3 : (Int32 → St → Prop) → St → Int32 → Prop} {R4 : (Int32 → St → Prop) → St → Int32 → Prop} {R5 : (Int32 → St → Prop) → St → Int32 → Prop} (hR0 : ∀ (post : Int32 → St → Prop) (σ : St) (x1 : Int32), R0 post σ x1 → ∀ sz : Nat, MetI l yX10_either cX10_either 2 .boolean (rmG_ex gn) [.ref (ad 0 0), .int x1] D cy (cellM cy ad) regsM ad σ sz (fun r u => (r = 0 ∨ r = 1) ∧ post r u)) (hR1 : ∀ (post : Int32 → St → Prop) (σ : St) (x1 : Int32), R1 post σ x1 → ∀ sz : Nat, MetI l yX10_both cX10_both 2 .boolean (rmG_ex gn) [.ref (ad 0 0), .int x1] D cy (cellM cy ad) regsM ad σ sz (fun r u => (r = 0 ∨ r = 1) ∧ post r u)) (hR2 : ∀ (post : Int32 → St → Prop) (σ : St) (x1 : Int32), R2 post σ x1 → ∀ sz : Nat, MetI l yX10_test cX10_test 3 .boolean (rmG_ex gn) [.ref (ad 0 0), .int x1] D cy (cellM cy ad) regsM ad σ sz (fun r u => (r = 0 ∨ r = 1) ∧ post r u)) (hR3 : ∀ (post : Int32 → St → Prop) (σ : St) (x1 : Int32), R3 post σ x1 → ∀ sz : Nat, MetI l yX10_sum cX10_sum 3 .boolean (rmG_ex gn) [.ref (ad 0 0), .int x1] D cy (cellM cy ad) regsM ad σ sz (fun r u => (r = 0 ∨ r = 1) ∧ post r u)) (hR4 : ∀ (post : Int32 → St → Prop) (σ : St) (x1 : Int32), R4 post σ x1 → ∀ sz : Nat, MetI l yX10_term cX10_term 3 .boolean (rmG_ex gn) [.ref (ad 0 0), .int x1] D cy (cellM cy ad) regsM ad σ sz (fun r u => (r = 0 ∨ r = 1) ∧ post r u)) (hR5 : ∀ (post : Int32 → St → Prop) (σ : St) (x1 : Int32), R5 post σ x1 → ∀ sz : Nat, MetI l yX10_part0 cX10_part0 2 .boolean (rmG_ex gn) [.ref (ad 0 0), .int x1] D cy (cellM cy ad) regsM ad σ sz (fun r u => (r = 0 ∨ r = 1) ∧ post r u)) {σ : St} {x1 : Int32} (hw : wb_X10_test R0 R1 R2 R3 R4 R5 post σ x1) {H : Heap} {locs : List Loc} {ls : Array Slot} (hP : va_P D CLS (wM cy ad σ) H) (hS : va_S (AM ad s.heap.size) s.heap H locs) (hl : lv_has ls 3 [(0, .ref (ad 0 0)), (1, .int x1)]) : W p l e (rmG_ex (gn + 1)) s m args below meth c H locs 0 0 (MQ below (QI D cy (cellM cy ad) regsM ad s.heap.size (fun r u => (r = 0 ∨ r = 1) ∧ post r u)) args s 0 0 (AM ad s.heap.size)) (F0 m 0 ls []) := by
  obtain ⟨hx, hb, -⟩ := id E
  unfold wb_X10_test at hw
  refine lv_aload_n hx hb dX10_test_0 rfl (lv_at hl 0 rfl) ?_
  refine lv_iload_n hx hb dX10_test_1 rfl (lv_at hl 1 rfl) ?_
  refine g_cVi (As := [.int x1]) (rest := []) E hl.1 (hR3 _ _ _ hw _) ok_X10_sum mw_1330 ⟨(by show 40 + gn + 1 ≤ 40 + (gn + 1); omega), (by show 8 + (3 + 11) + (2000 + 60 * gn) ≤ 2000 + 60 * (gn + 1); omega)⟩ ⟨rfl, rfl⟩ rM0 rfl rfl rfl rfl rfl (Nat.le_of_ble_eq_true rfl) ⟨Nat.zero_le _, Nat.zero_le _⟩ hP hS dX10_test_2 (fun r1 s1 hw H locs hP hS => ?_)
  obtain ⟨z1, hw⟩ := hw
  refine lv_if_ne (tgt := 10) hx hb dX10_test_5 (by decide) (fun c2 => ?_) (fun c2 => ?_)
  · replace hw := hw.1 c2
    refine lv_aload_n hx hb dX10_test_10 rfl (lv_at hl 0 rfl) ?_
    refine lv_bipush (v := 60) hx hb dX10_test_11 (by decide) ?_
    refine g_cVi (As := [.int 60]) (rest := []) E hl.1 (c_X10_isSign l D cy ad ha hw _) ok_X10_isSign mw_1345 ⟨(by show 0 + 1 ≤ 40 + (gn + 1); omega), (by show 8 + (2 + 11) + 0 ≤ 2000 + 60 * (gn + 1); omega)⟩ ⟨rfl, rfl⟩ rM0 rfl rfl rfl rfl rfl (Nat.le_of_ble_eq_true rfl) ⟨Nat.zero_le _, Nat.zero_le _⟩ hP hS dX10_test_13 (fun r3 s3 hw H locs hP hS => ?_)
    obtain ⟨z3, hw⟩ := hw
    refine lv_if_ne (tgt := 37) hx hb dX10_test_16 (by decide) (fun c4 => ?_) (fun c4 => ?_)
    · replace hw := hw.1 c4
      exact B_X10_test_37 E ha hR0 hR1 hR2 hR3 hR4 hR5 hw hP hS (lv_sub hl [0, 1] rfl)
    · replace hw := hw.2 c4
      refine lv_aload_n hx hb dX10_test_19 rfl (lv_at hl 0 rfl) ?_
      refine lv_bipush (v := 61) hx hb dX10_test_20 (by decide) ?_
      refine g_cVi (As := [.int 61]) (rest := []) E hl.1 (c_X10_isSign l D cy ad ha hw _) ok_X10_isSign mw_1345 ⟨(by show 0 + 1 ≤ 40 + (gn + 1); omega), (by show 8 + (2 + 11) + 0 ≤ 2000 + 60 * (gn + 1); omega)⟩ ⟨rfl, rfl⟩ rM0 rfl rfl rfl rfl rfl (Nat.le_of_ble_eq_true rfl) ⟨Nat.zero_le _, Nat.zero_le _⟩ hP hS dX10_test_22 (fun r5 s5 hw H locs hP hS => ?_)
      obtain ⟨z5, hw⟩ := hw
      refine lv_if_ne (tgt := 37) hx hb dX10_test_25 (by decide) (fun c6 => ?_) (fun c6 => ?_)
      · replace hw := hw.1 c6
        exact B_X10_test_37 E ha hR0 hR1 hR2 hR3 hR4 hR5 hw hP hS (lv_sub hl [0, 1] rfl)
      · replace hw := hw.2 c6
        refine lv_aload_n hx hb dX10_test_28 rfl (lv_at hl 0 rfl) ?_
        refine lv_bipush (v := 62) hx hb dX10_test_29 (by decide) ?_
        refine g_cVi (As := [.int 62]) (rest := []) E hl.1 (c_X10_isSign l D cy ad ha hw _) ok_X10_isSign mw_1345 ⟨(by show 0 + 1 ≤ 40 + (gn + 1); omega), (by show 8 + (2 + 11) + 0 ≤ 2000 + 60 * (gn + 1); omega)⟩ ⟨rfl, rfl⟩ rM0 rfl rfl rfl rfl rfl (Nat.le_of_ble_eq_true rfl) ⟨Nat.zero_le _, Nat.zero_le _⟩ hP hS dX10_test_31 (fun r7 s7 hw H locs hP hS => ?_)
        obtain ⟨z7, hw⟩ := hw
        refine lv_if_eq (tgt := 62) hx hb dX10_test_34 (by decide) (fun c8 => ?_) (fun c8 => ?_)
        · replace hw := hw.1 c8
          refine lv_iconst (v := 1) hx hb dX10_test_62 (by decide) ?_
          exact g_zret E (Or.inr rfl) hw hP hS dX10_test_63
        · replace hw := hw.2 c8
          exact B_X10_test_37 E ha hR0 hR1 hR2 hR3 hR4 hR5 hw hP hS (lv_sub hl [0, 1] rfl)
  · replace hw := hw.2 c2
    refine lv_iconst (v := 0) hx hb dX10_test_8 (by decide) ?_
    exact g_zret E (Or.inl rfl) hw hP hS dX10_test_9
-- RoofWarModel.sum(I)Z
theorem dX10_sum_0 : decode cX10_sum 0 = .ok (.aload_n 0, 1) := by decide +kernel
theorem dX10_sum_1 : decode cX10_sum 1 = .ok (.iload_n 1, 1) := by decide +kernel
theorem dX10_sum_2 : decode cX10_sum 2 = .ok (.invokevirtual 297, 3) := by decide +kernel
theorem dX10_sum_5 : decode cX10_sum 5 = .ok (.ifCond .ne 5, 3) := by decide +kernel
theorem dX10_sum_8 : decode cX10_sum 8 = .ok (.iconst 0, 1) := by decide +kernel
theorem dX10_sum_9 : decode cX10_sum 9 = .ok (.ireturn, 1) := by decide +kernel
theorem dX10_sum_10 : decode cX10_sum 10 = .ok (.aload_n 0, 1) := by decide +kernel
theorem dX10_sum_11 : decode cX10_sum 11 = .ok (.bipush 43, 2) := by decide +kernel
theorem dX10_sum_13 : decode cX10_sum 13 = .ok (.invokevirtual 282, 3) := by decide +kernel
theorem dX10_sum_16 : decode cX10_sum 16 = .ok (.ifCond .ne 12, 3) := by decide +kernel
theorem dX10_sum_19 : decode cX10_sum 19 = .ok (.aload_n 0, 1) := by decide +kernel
theorem dX10_sum_20 : decode cX10_sum 20 = .ok (.bipush 45, 2) := by decide +kernel
theorem dX10_sum_22 : decode cX10_sum 22 = .ok (.invokevirtual 282, 3) := by decide +kernel
theorem dX10_sum_25 : decode cX10_sum 25 = .ok (.ifCond .eq 31, 3) := by decide +kernel
theorem dX10_sum_28 : decode cX10_sum 28 = .ok (.aload_n 0, 1) := by decide +kernel
theorem dX10_sum_29 : decode cX10_sum 29 = .ok (.getfield 256, 3) := by decide +kernel
theorem dX10_sum_32 : decode cX10_sum 32 = .ok (.istore_n 2, 1) := by decide +kernel
theorem dX10_sum_33 : decode cX10_sum 33 = .ok (.aload_n 0, 1) := by decide +kernel
theorem dX10_sum_34 : decode cX10_sum 34 = .ok (.invokevirtual 285, 3) := by decide +kernel
theorem dX10_sum_37 : decode cX10_sum 37 = .ok (.aload_n 0, 1) := by decide +kernel
theorem dX10_sum_38 : decode cX10_sum 38 = .ok (.iload_n 1, 1) := by decide +kernel
theorem dX10_sum_39 : decode cX10_sum 39 = .ok (.invokevirtual 297, 3) := by decide +kernel
theorem dX10_sum_42 : decode cX10_sum 42 = .ok (.ifCond .ne 5, 3) := by decide +kernel
theorem dX10_sum_45 : decode cX10_sum 45 = .ok (.iconst 0, 1) := by decide +kernel
theorem dX10_sum_46 : decode cX10_sum 46 = .ok (.ireturn, 1) := by decide +kernel
theorem dX10_sum_47 : decode cX10_sum 47 = .ok (.aload_n 0, 1) := by decide +kernel
theorem dX10_sum_48 : decode cX10_sum 48 = .ok (.iconst 2, 1) := by decide +kernel
theorem dX10_sum_49 : decode cX10_sum 49 = .ok (.iload_n 2, 1) := by decide +kernel
theorem dX10_sum_50 : decode cX10_sum 50 = .ok (.invokevirtual 288, 3) := by decide +kernel
theorem dX10_sum_53 : decode cX10_sum 53 = .ok (.goto (-43), 3) := by decide +kernel
theorem dX10_sum_56 : decode cX10_sum 56 = .ok (.iconst 1, 1) := by decide +kernel
theorem dX10_sum_57 : decode cX10_sum 57 = .ok (.ireturn, 1) := by decide +kernel
def b_X10_sum_28 (R0 : (Int32 → St → Prop) → St → Int32 → Prop) (R1 : (Int32 → St → Prop) → St → Int32 → Prop) (R2 : (Int32 → St → Prop) → St → Int32 → Prop) (R3 : (Int32 → St → Prop) → St → Int32 → Prop) (R4 : (Int32 → St → Prop) → St → Int32 → Prop) (R5 : (Int32 → St → Prop) → St → Int32 → Prop) (K10 : St → Int32 → Prop) (post : Int32 → St → Prop) (σ : St) (x1 : Int32) : Prop := ∀ v1 : Int32, v1 = σ 0 0 7 → (w_X10_nextToken (fun s2 => R4 (fun r3 s3 => ((¬ r3 = 0 → (w_X10_step (fun s5 => K10 s5 x1) s3 (2 : Int32) v1)) ∧ (r3 = 0 → (post 0 s3)))) s2 x1) σ)
theorem B_X10_sum_28 (E : EnvW p s m args meth c D cy regsM ad "RoofWarModel" cX10_sum 3 (some .boolean)) (ha : Apart regsM ad) {post : Int32 → St → Prop} {gn : Nat} {R0 : (Int32 → St → Prop) → St → Int32 → Prop} {R1 : (Int32 → St → Prop) → St → Int32 → Prop} {R2 : (Int32 → St → Prop) → St → Int32 → Prop} {R3 : (Int32 → St → Prop) → St → Int32 → Prop} {R4 : (Int32 → St → Prop) → St → Int32 → Prop} {R5 : (Int32 → St → Prop) → St → Int32 → Prop} (hR0 : ∀ (post : Int32 → St → Prop) (σ : St) (x1 : Int32), R0 post σ x1 → ∀ sz : Nat, MetI l yX10_either cX10_either 2 .boolean (rmG_ex gn) [.ref (ad 0 0), .int x1] D cy (cellM cy ad) regsM ad σ sz (fun r u => (r = 0 ∨ r = 1) ∧ post r u)) (hR1 : ∀ (post : Int32 → St → Prop) (σ : St) (x1 : Int32), R1 post σ x1 → ∀ sz : Nat, MetI l yX10_both cX10_both 2 .boolean (rmG_ex gn) [.ref (ad 0 0), .int x1] D cy (cellM cy ad) regsM ad σ sz (fun r u => (r = 0 ∨ r = 1) ∧ post r u)) (hR2 : ∀ (post : Int32 → St → Prop) (σ : St) (x1 : Int32), R2 post σ x1 → ∀ sz : Nat, MetI l yX10_test cX10_test 3 .boolean (rmG_ex gn) [.ref (ad 0 0), .int x1] D cy (cellM cy ad) regsM ad σ sz (fun r u => (r = 0 ∨ r = 1) ∧ post r u)) (hR3 : ∀ (post : Int32 → St → Prop) (σ : St) (x1 : Int32), R3 post σ x1 → ∀ sz : Nat, MetI l yX10_sum cX10_sum 3 .boolean (rmG_ex gn) [.ref (ad 0 0), .int x1] D cy (cellM cy ad) regsM ad σ sz (fun r u => (r = 0 ∨ r = 1) ∧ post r u)) (hR4 : ∀ (post : Int32 → St → Prop) (σ : St) (x1 : Int32), R4 post σ x1 → ∀ sz : Nat, MetI l yX10_term cX10_term 3 .boolean (rmG_ex gn) [.ref (ad 0 0), .int x1] D cy (cellM cy ad) regsM ad σ sz (fun r u => (r = 0 ∨ r = 1) ∧ post r u)) (hR5 : ∀ (post : Int32 → St → Prop) (σ : St) (x1 : Int32), R5 post σ x1 → ∀ sz : Nat, MetI l yX10_part0 cX10_part0 2 .boolean (rmG_ex gn) [.ref (ad 0 0), .int x1] D cy (cellM cy ad) regsM ad σ sz (fun r u => (r = 0 ∨ r = 1) ∧ post r u)) {K10 : St → Int32 → Prop} (hk10 : ∀ (σ : St) (x1 : Int32), K10 σ x1 → ∀ (H : Heap) (locs : List Loc) (ls : Array Slot), va_P D CLS (wM cy ad σ) H → va_S (AM ad s.heap.size) s.heap H locs → lv_has ls 3 [(0, .ref (ad 0 0)), (1, .int x1)] → W p l e (rmG_ex (gn + 1)) s m args below meth c H locs 0 0 (MQ below (QI D cy (cellM cy ad) regsM ad s.heap.size (fun r u => (r = 0 ∨ r = 1) ∧ post r u)) args s 0 0 (AM ad s.heap.size)) (F0 m 10 ls [])) {σ : St} {x1 : Int32} (hw : b_X10_sum_28 R0 R1 R2 R3 R4 R5 K10 post σ x1) {H : Heap} {locs : List Loc} {ls : Array Slot} (hP : va_P D CLS (wM cy ad σ) H) (hS : va_S (AM ad s.heap.size) s.heap H locs) (hl : lv_has ls 3 [(0, .ref (ad 0 0)), (1, .int x1)]) : W p l e (rmG_ex (gn + 1)) s m args below meth c H locs 0 0 (MQ below (QI D cy (cellM cy ad) regsM ad s.heap.size (fun r u => (r = 0 ∨ r = 1) ∧ post r u)) args s 0 0 (AM ad s.heap.size)) (F0 m 28 ls []) := by
  obtain ⟨hx, hb, -⟩ := id E
  unfold b_X10_sum_28 at hw
  refine lv_aload_n hx hb dX10_sum_28 rfl (lv_at hl 0 rfl) ?_
  refine fX10_22 E hP mw_968 dX10_sum_29 ?_
  refine lv_topi (fun v1 ev1 => ?_)
  replace hw := hw v1 ev1
  refine lv_istore_n (lv' := [(2, .int v1), (0, .ref (ad 0 0)), (1, .int x1)]) hx hb dX10_sum_32 rfl hl (by decide) rfl (fun ls hl => ?_)
  refine lv_aload_n hx hb dX10_sum_33 rfl (lv_at hl 1 rfl) ?_
  refine g_cVv (As := []) (rest := []) E hl.1 (c_X10_nextToken l D cy ad ha hw _) ok_X10_nextToken mw_1299 ⟨(by show 2 + 1 ≤ 40 + (gn + 1); omega), (by show 8 + (3 + 11) + 46 ≤ 2000 + 60 * (gn + 1); omega)⟩ ⟨rfl, rfl⟩ rM0 rfl rfl rfl rfl rfl (Nat.le_of_ble_eq_true rfl) ⟨Nat.zero_le _, Nat.zero_le _⟩ hP hS dX10_sum_34 (fun s2 hw H locs hP hS => ?_)
  refine lv_aload_n hx hb dX10_sum_37 rfl (lv_at hl 1 rfl) ?_
  refine lv_iload_n hx hb dX10_sum_38 rfl (lv_at hl 2 rfl) ?_
  refine g_cVi (As := [.int x1]) (rest := []) E hl.1 (hR4 _ _ _ hw _) ok_X10_term mw_1333 ⟨(by show 40 + gn + 1 ≤ 40 + (gn + 1); omega), (by show 8 + (3 + 11) + (2000 + 60 * gn) ≤ 2000 + 60 * (gn + 1); omega)⟩ ⟨rfl, rfl⟩ rM0 rfl rfl rfl rfl rfl (Nat.le_of_ble_eq_true rfl) ⟨Nat.zero_le _, Nat.zero_le _⟩ hP hS dX10_sum_39 (fun r3 s3 hw H locs hP hS => ?_)
  obtain ⟨z3, hw⟩ := hw
  refine lv_if_ne (tgt := 47) hx hb dX10_sum_42 (by decide) (fun c4 => ?_) (fun c4 => ?_)
  · replace hw := hw.1 c4
    refine lv_aload_n hx hb dX10_sum_47 rfl (lv_at hl 1 rfl) ?_
    refine lv_iconst (v := 2) hx hb dX10_sum_48 (by decide) ?_
    refine lv_iload_n hx hb dX10_sum_49 rfl (lv_at hl 0 rfl) ?_
    refine g_cVv (As := [.int 2, .int v1]) (rest := []) E hl.1 (c_X10_step l D cy ad ha hw _) ok_X10_step mw_1339 ⟨(by show 0 + 1 ≤ 40 + (gn + 1); omega), (by show 8 + (3 + 11) + 0 ≤ 2000 + 60 * (gn + 1); omega)⟩ ⟨rfl, rfl⟩ rM0 rfl rfl rfl rfl rfl (Nat.le_of_ble_eq_true rfl) ⟨Nat.zero_le _, Nat.zero_le _⟩ hP hS dX10_sum_50 (fun s5 hw H locs hP hS => ?_)
    refine lv_goto (tgt := 10) hx hb dX10_sum_53 (by decide) ?_
    exact hk10 s5 x1 hw _ _ _ hP hS (lv_sub hl [1, 2] rfl)
  · replace hw := hw.2 c4
    refine lv_iconst (v := 0) hx hb dX10_sum_45 (by decide) ?_
    exact g_zret E (Or.inl rfl) hw hP hS dX10_sum_46
def b_X10_sum_10 (R0 : (Int32 → St → Prop) → St → Int32 → Prop) (R1 : (Int32 → St → Prop) → St → Int32 → Prop) (R2 : (Int32 → St → Prop) → St → Int32 → Prop) (R3 : (Int32 → St → Prop) → St → Int32 → Prop) (R4 : (Int32 → St → Prop) → St → Int32 → Prop) (R5 : (Int32 → St → Prop) → St → Int32 → Prop) (K10 : St → Int32 → Prop) (post : Int32 → St → Prop) (σ : St) (x1 : Int32) : Prop := w_X10_isSign (fun r1 s1 => ((¬ r1 = 0 → (b_X10_sum_28 R0 R1 R2 R3 R4 R5 K10 post s1 x1)) ∧ (r1 = 0 → (w_X10_isSign (fun r3 s3 => ((r3 = 0 → (post 1 s3)) ∧ (¬ r3 = 0 → (b_X10_sum_28 R0 R1 R2 R3 R4 R5 K10 post s3 x1)))) s1 (45 : Int32))))) σ (43 : Int32)
noncomputable def l_X10_sum_10 (R0 : (Int32 → St → Prop) → St → Int32 → Prop) (R1 : (Int32 → St → Prop) → St → Int32 → Prop) (R2 : (Int32 → St → Prop) → St → Int32 → Prop) (R3 : (Int32 → St → Prop) → St → Int32 → Prop) (R4 : (Int32 → St → Prop) → St → Int32 → Prop) (R5 : (Int32 → St → Prop) → St → Int32 → Prop) (post : Int32 → St → Prop) : Nat → St → Int32 → Prop := fun n => Nat.rec (motive := fun _ => St → Int32 → Prop) (fun _ _ => False) (fun _ ih => b_X10_sum_10 R0 R1 R2 R3 R4 R5 ih post) n
theorem L_X10_sum_10 (E : EnvW p s m args meth c D cy regsM ad "RoofWarModel" cX10_sum 3 (some .boolean)) (ha : Apart regsM ad) {post : Int32 → St → Prop} {gn : Nat} {R0 : (Int32 → St → Prop) → St → Int32 → Prop} {R1 : (Int32 → St → Prop) → St → Int32 → Prop} {R2 : (Int32 → St → Prop) → St → Int32 → Prop} {R3 : (Int32 → St → Prop) → St → Int32 → Prop} {R4 : (Int32 → St → Prop) → St → Int32 → Prop} {R5 : (Int32 → St → Prop) → St → Int32 → Prop} (hR0 : ∀ (post : Int32 → St → Prop) (σ : St) (x1 : Int32), R0 post σ x1 → ∀ sz : Nat, MetI l yX10_either cX10_either 2 .boolean (rmG_ex gn) [.ref (ad 0 0), .int x1] D cy (cellM cy ad) regsM ad σ sz (fun r u => (r = 0 ∨ r = 1) ∧ post r u)) (hR1 : ∀ (post : Int32 → St → Prop) (σ : St) (x1 : Int32), R1 post σ x1 → ∀ sz : Nat, MetI l yX10_both cX10_both 2 .boolean (rmG_ex gn) [.ref (ad 0 0), .int x1] D cy (cellM cy ad) regsM ad σ sz (fun r u => (r = 0 ∨ r = 1) ∧ post r u)) (hR2 : ∀ (post : Int32 → St → Prop) (σ : St) (x1 : Int32), R2 post σ x1 → ∀ sz : Nat, MetI l yX10_test cX10_test 3 .boolean (rmG_ex gn) [.ref (ad 0 0), .int x1] D cy (cellM cy ad) regsM ad σ sz (fun r u => (r = 0 ∨ r = 1) ∧ post r u)) (hR3 : ∀ (post : Int32 → St → Prop) (σ : St) (x1 : Int32), R3 post σ x1 → ∀ sz : Nat, MetI l yX10_sum cX10_sum 3 .boolean (rmG_ex gn) [.ref (ad 0 0), .int x1] D cy (cellM cy ad) regsM ad σ sz (fun r u => (r = 0 ∨ r = 1) ∧ post r u)) (hR4 : ∀ (post : Int32 → St → Prop) (σ : St) (x1 : Int32), R4 post σ x1 → ∀ sz : Nat, MetI l yX10_term cX10_term 3 .boolean (rmG_ex gn) [.ref (ad 0 0), .int x1] D cy (cellM cy ad) regsM ad σ sz (fun r u => (r = 0 ∨ r = 1) ∧ post r u)) (hR5 : ∀ (post : Int32 → St → Prop) (σ : St) (x1 : Int32), R5 post σ x1 → ∀ sz : Nat, MetI l yX10_part0 cX10_part0 2 .boolean (rmG_ex gn) [.ref (ad 0 0), .int x1] D cy (cellM cy ad) regsM ad σ sz (fun r u => (r = 0 ∨ r = 1) ∧ post r u)) : ∀ (n : Nat), ∀ (σ : St) (x1 : Int32), l_X10_sum_10 R0 R1 R2 R3 R4 R5 post n σ x1 → ∀ (H : Heap) (locs : List Loc) (ls : Array Slot), va_P D CLS (wM cy ad σ) H → va_S (AM ad s.heap.size) s.heap H locs → lv_has ls 3 [(0, .ref (ad 0 0)), (1, .int x1)] → W p l e (rmG_ex (gn + 1)) s m args below meth c H locs 0 0 (MQ below (QI D cy (cellM cy ad) regsM ad s.heap.size (fun r u => (r = 0 ∨ r = 1) ∧ post r u)) args s 0 0 (AM ad s.heap.size)) (F0 m 10 ls []) := by
  obtain ⟨hx, hb, -⟩ := id E
  intro n
  induction n with
  | zero => intro σ x1 hw; exact hw.elim
  | succ n hk10 =>
    intro σ x1 hw H locs ls hP hS hl
    replace hw : b_X10_sum_10 R0 R1 R2 R3 R4 R5 (l_X10_sum_10 R0 R1 R2 R3 R4 R5 post n) post σ x1 := hw
    unfold b_X10_sum_10 at hw
    refine lv_aload_n hx hb dX10_sum_10 rfl (lv_at hl 0 rfl) ?_
    refine lv_bipush (v := 43) hx hb dX10_sum_11 (by decide) ?_
    refine g_cVi (As := [.int 43]) (rest := []) E hl.1 (c_X10_isSign l D cy ad ha hw _) ok_X10_isSign mw_1345 ⟨(by show 0 + 1 ≤ 40 + (gn + 1); omega), (by show 8 + (2 + 11) + 0 ≤ 2000 + 60 * (gn + 1); omega)⟩ ⟨rfl, rfl⟩ rM0 rfl rfl rfl rfl rfl (Nat.le_of_ble_eq_true rfl) ⟨Nat.zero_le _, Nat.zero_le _⟩ hP hS dX10_sum_13 (fun r1 s1 hw H locs hP hS => ?_)
    obtain ⟨z1, hw⟩ := hw
    refine lv_if_ne (tgt := 28) hx hb dX10_sum_16 (by decide) (fun c2 => ?_) (fun c2 => ?_)
    · replace hw := hw.1 c2
      exact B_X10_sum_28 E ha hR0 hR1 hR2 hR3 hR4 hR5 hk10 hw hP hS (lv_sub hl [0, 1] rfl)
    · replace hw := hw.2 c2
      refine lv_aload_n hx hb dX10_sum_19 rfl (lv_at hl 0 rfl) ?_
      refine lv_bipush (v := 45) hx hb dX10_sum_20 (by decide) ?_
      refine g_cVi (As := [.int 45]) (rest := []) E hl.1 (c_X10_isSign l D cy ad ha hw _) ok_X10_isSign mw_1345 ⟨(by show 0 + 1 ≤ 40 + (gn + 1); omega), (by show 8 + (2 + 11) + 0 ≤ 2000 + 60 * (gn + 1); omega)⟩ ⟨rfl, rfl⟩ rM0 rfl rfl rfl rfl rfl (Nat.le_of_ble_eq_true rfl) ⟨Nat.zero_le _, Nat.zero_le _⟩ hP hS dX10_sum_22 (fun r3 s3 hw H locs hP hS => ?_)
      obtain ⟨z3, hw⟩ := hw
      refine lv_if_eq (tgt := 56) hx hb dX10_sum_25 (by decide) (fun c4 => ?_) (fun c4 => ?_)
      · replace hw := hw.1 c4
        refine lv_iconst (v := 1) hx hb dX10_sum_56 (by decide) ?_
        exact g_zret E (Or.inr rfl) hw hP hS dX10_sum_57
      · replace hw := hw.2 c4
        exact B_X10_sum_28 E ha hR0 hR1 hR2 hR3 hR4 hR5 hk10 hw hP hS (lv_sub hl [0, 1] rfl)
def wb_X10_sum (R0 : (Int32 → St → Prop) → St → Int32 → Prop) (R1 : (Int32 → St → Prop) → St → Int32 → Prop) (R2 : (Int32 → St → Prop) → St → Int32 → Prop) (R3 : (Int32 → St → Prop) → St → Int32 → Prop) (R4 : (Int32 → St → Prop) → St → Int32 → Prop) (R5 : (Int32 → St → Prop) → St → Int32 → Prop) (post : Int32 → St → Prop) (σ : St) (x1 : Int32) : Prop := R4 (fun r1 s1 => ((¬ r1 = 0 → (∃ n3 : Nat, l_X10_sum_10 R0 R1 R2 R3 R4 R5 post n3 s1 x1)) ∧ (r1 = 0 → (post 0 s1)))) σ x1
theorem B_X10_sum_0 (E : EnvW p s m args meth c D cy regsM ad "RoofWarModel" cX10_sum 3 (some .boolean)) (ha : Apart regsM ad) {post : Int32 → St → Prop} {gn : Nat} {R0 : (Int32 → St → Prop) → St → Int32 → Prop} {R1 : (Int32 → St → Prop) → St → Int32 → Prop} {R2 : (Int32 → St → Prop) → St → Int32 → Prop} {R3 : (Int32 → St → Prop) → St → Int32 → Prop} {R4 : (Int32 → St → Prop) → St → Int32 → Prop} {R5 : (Int32 → St → Prop) → St → Int32 → Prop} (hR0 : ∀ (post : Int32 → St → Prop) (σ : St) (x1 : Int32), R0 post σ x1 → ∀ sz : Nat, MetI l yX10_either cX10_either 2 .boolean (rmG_ex gn) [.ref (ad 0 0), .int x1] D cy (cellM cy ad) regsM ad σ sz (fun r u => (r = 0 ∨ r = 1) ∧ post r u)) (hR1 : ∀ (post : Int32 → St → Prop) (σ : St) (x1 : Int32), R1 post σ x1 → ∀ sz : Nat, MetI l yX10_both cX10_both 2 .boolean (rmG_ex gn) [.ref (ad 0 0), .int x1] D cy (cellM cy ad) regsM ad σ sz (fun r u => (r = 0 ∨ r = 1) ∧ post r u)) (hR2 : ∀ (post : Int32 → St → Prop) (σ : St) (x1 : Int32), R2 post σ x1 → ∀ sz : Nat, MetI l yX10_test cX10_test 3 .boolean (rmG_ex gn) [.ref (ad 0 0), .int x1] D cy (cellM cy ad) regsM ad σ sz (fun r u => (r = 0 ∨ r = 1) ∧ post r u)) (hR3 : ∀ (post : Int32 → St → Prop) (σ : St) (x1 : Int32), R3 post σ x1 → ∀ sz : Nat, MetI l yX10_sum cX10_sum 3 .boolean (rmG_ex gn) [.ref (ad 0 0), .int x1] D cy (cellM cy ad) regsM ad σ sz (fun r u => (r = 0 ∨ r = 1) ∧ post r u)) (hR4 : ∀ (post : Int32 → St → Prop) (σ : St) (x1 : Int32), R4 post σ x1 → ∀ sz : Nat, MetI l yX10_term cX10_term 3 .boolean (rmG_ex gn) [.ref (ad 0 0), .int x1] D cy (cellM cy ad) regsM ad σ sz (fun r u => (r = 0 ∨ r = 1) ∧ post r u)) (hR5 : ∀ (post : Int32 → St → Prop) (σ : St) (x1 : Int32), R5 post σ x1 → ∀ sz : Nat, MetI l yX10_part0 cX10_part0 2 .boolean (rmG_ex gn) [.ref (ad 0 0), .int x1] D cy (cellM cy ad) regsM ad σ sz (fun r u => (r = 0 ∨ r = 1) ∧ post r u)) {σ : St} {x1 : Int32} (hw : wb_X10_sum R0 R1 R2 R3 R4 R5 post σ x1) {H : Heap} {locs : List Loc} {ls : Array Slot} (hP : va_P D CLS (wM cy ad σ) H) (hS : va_S (AM ad s.heap.size) s.heap H locs) (hl : lv_has ls 3 [(0, .ref (ad 0 0)), (1, .int x1)]) : W p l e (rmG_ex (gn + 1)) s m args below meth c H locs 0 0 (MQ below (QI D cy (cellM cy ad) regsM ad s.heap.size (fun r u => (r = 0 ∨ r = 1) ∧ post r u)) args s 0 0 (AM ad s.heap.size)) (F0 m 0 ls []) := by
  obtain ⟨hx, hb, -⟩ := id E
  unfold wb_X10_sum at hw
  refine lv_aload_n hx hb dX10_sum_0 rfl (lv_at hl 0 rfl) ?_
  refine lv_iload_n hx hb dX10_sum_1 rfl (lv_at hl 1 rfl) ?_
  refine g_cVi (As := [.int x1]) (rest := []) E hl.1 (hR4 _ _ _ hw _) ok_X10_term mw_1333 ⟨(by show 40 + gn + 1 ≤ 40 + (gn + 1); omega), (by show 8 + (3 + 11) + (2000 + 60 * gn) ≤ 2000 + 60 * (gn + 1); omega)⟩ ⟨rfl, rfl⟩ rM0 rfl rfl rfl rfl rfl (Nat.le_of_ble_eq_true rfl) ⟨Nat.zero_le _, Nat.zero_le _⟩ hP hS dX10_sum_2 (fun r1 s1 hw H locs hP hS => ?_)
  obtain ⟨z1, hw⟩ := hw
  refine lv_if_ne (tgt := 10) hx hb dX10_sum_5 (by decide) (fun c2 => ?_) (fun c2 => ?_)
  · replace hw := hw.1 c2
    obtain ⟨n3, hw⟩ := hw
    exact L_X10_sum_10 E ha hR0 hR1 hR2 hR3 hR4 hR5 n3 s1 x1 hw _ _ _ hP hS (lv_sub hl [0, 1] rfl)
  · replace hw := hw.2 c2
    refine lv_iconst (v := 0) hx hb dX10_sum_8 (by decide) ?_
    exact g_zret E (Or.inl rfl) hw hP hS dX10_sum_9
-- RoofWarModel.term(I)Z
theorem dX10_term_0 : decode cX10_term 0 = .ok (.aload_n 0, 1) := by decide +kernel
theorem dX10_term_1 : decode cX10_term 1 = .ok (.iload_n 1, 1) := by decide +kernel
theorem dX10_term_2 : decode cX10_term 2 = .ok (.invokevirtual 300, 3) := by decide +kernel
theorem dX10_term_5 : decode cX10_term 5 = .ok (.ifCond .ne 5, 3) := by decide +kernel
theorem dX10_term_8 : decode cX10_term 8 = .ok (.iconst 0, 1) := by decide +kernel
theorem dX10_term_9 : decode cX10_term 9 = .ok (.ireturn, 1) := by decide +kernel
theorem dX10_term_10 : decode cX10_term 10 = .ok (.aload_n 0, 1) := by decide +kernel
theorem dX10_term_11 : decode cX10_term 11 = .ok (.bipush 42, 2) := by decide +kernel
theorem dX10_term_13 : decode cX10_term 13 = .ok (.invokevirtual 282, 3) := by decide +kernel
theorem dX10_term_16 : decode cX10_term 16 = .ok (.ifCond .ne 12, 3) := by decide +kernel
theorem dX10_term_19 : decode cX10_term 19 = .ok (.aload_n 0, 1) := by decide +kernel
theorem dX10_term_20 : decode cX10_term 20 = .ok (.bipush 47, 2) := by decide +kernel
theorem dX10_term_22 : decode cX10_term 22 = .ok (.invokevirtual 282, 3) := by decide +kernel
theorem dX10_term_25 : decode cX10_term 25 = .ok (.ifCond .eq 31, 3) := by decide +kernel
theorem dX10_term_28 : decode cX10_term 28 = .ok (.aload_n 0, 1) := by decide +kernel
theorem dX10_term_29 : decode cX10_term 29 = .ok (.getfield 256, 3) := by decide +kernel
theorem dX10_term_32 : decode cX10_term 32 = .ok (.istore_n 2, 1) := by decide +kernel
theorem dX10_term_33 : decode cX10_term 33 = .ok (.aload_n 0, 1) := by decide +kernel
theorem dX10_term_34 : decode cX10_term 34 = .ok (.invokevirtual 285, 3) := by decide +kernel
theorem dX10_term_37 : decode cX10_term 37 = .ok (.aload_n 0, 1) := by decide +kernel
theorem dX10_term_38 : decode cX10_term 38 = .ok (.iload_n 1, 1) := by decide +kernel
theorem dX10_term_39 : decode cX10_term 39 = .ok (.invokevirtual 300, 3) := by decide +kernel
theorem dX10_term_42 : decode cX10_term 42 = .ok (.ifCond .ne 5, 3) := by decide +kernel
theorem dX10_term_45 : decode cX10_term 45 = .ok (.iconst 0, 1) := by decide +kernel
theorem dX10_term_46 : decode cX10_term 46 = .ok (.ireturn, 1) := by decide +kernel
theorem dX10_term_47 : decode cX10_term 47 = .ok (.aload_n 0, 1) := by decide +kernel
theorem dX10_term_48 : decode cX10_term 48 = .ok (.iconst 2, 1) := by decide +kernel
theorem dX10_term_49 : decode cX10_term 49 = .ok (.iload_n 2, 1) := by decide +kernel
theorem dX10_term_50 : decode cX10_term 50 = .ok (.invokevirtual 288, 3) := by decide +kernel
theorem dX10_term_53 : decode cX10_term 53 = .ok (.goto (-43), 3) := by decide +kernel
theorem dX10_term_56 : decode cX10_term 56 = .ok (.iconst 1, 1) := by decide +kernel
theorem dX10_term_57 : decode cX10_term 57 = .ok (.ireturn, 1) := by decide +kernel
def b_X10_term_28 (R0 : (Int32 → St → Prop) → St → Int32 → Prop) (R1 : (Int32 → St → Prop) → St → Int32 → Prop) (R2 : (Int32 → St → Prop) → St → Int32 → Prop) (R3 : (Int32 → St → Prop) → St → Int32 → Prop) (R4 : (Int32 → St → Prop) → St → Int32 → Prop) (R5 : (Int32 → St → Prop) → St → Int32 → Prop) (K10 : St → Int32 → Prop) (post : Int32 → St → Prop) (σ : St) (x1 : Int32) : Prop := ∀ v1 : Int32, v1 = σ 0 0 7 → (w_X10_nextToken (fun s2 => R5 (fun r3 s3 => ((¬ r3 = 0 → (w_X10_step (fun s5 => K10 s5 x1) s3 (2 : Int32) v1)) ∧ (r3 = 0 → (post 0 s3)))) s2 x1) σ)
theorem B_X10_term_28 (E : EnvW p s m args meth c D cy regsM ad "RoofWarModel" cX10_term 3 (some .boolean)) (ha : Apart regsM ad) {post : Int32 → St → Prop} {gn : Nat} {R0 : (Int32 → St → Prop) → St → Int32 → Prop} {R1 : (Int32 → St → Prop) → St → Int32 → Prop} {R2 : (Int32 → St → Prop) → St → Int32 → Prop} {R3 : (Int32 → St → Prop) → St → Int32 → Prop} {R4 : (Int32 → St → Prop) → St → Int32 → Prop} {R5 : (Int32 → St → Prop) → St → Int32 → Prop} (hR0 : ∀ (post : Int32 → St → Prop) (σ : St) (x1 : Int32), R0 post σ x1 → ∀ sz : Nat, MetI l yX10_either cX10_either 2 .boolean (rmG_ex gn) [.ref (ad 0 0), .int x1] D cy (cellM cy ad) regsM ad σ sz (fun r u => (r = 0 ∨ r = 1) ∧ post r u)) (hR1 : ∀ (post : Int32 → St → Prop) (σ : St) (x1 : Int32), R1 post σ x1 → ∀ sz : Nat, MetI l yX10_both cX10_both 2 .boolean (rmG_ex gn) [.ref (ad 0 0), .int x1] D cy (cellM cy ad) regsM ad σ sz (fun r u => (r = 0 ∨ r = 1) ∧ post r u)) (hR2 : ∀ (post : Int32 → St → Prop) (σ : St) (x1 : Int32), R2 post σ x1 → ∀ sz : Nat, MetI l yX10_test cX10_test 3 .boolean (rmG_ex gn) [.ref (ad 0 0), .int x1] D cy (cellM cy ad) regsM ad σ sz (fun r u => (r = 0 ∨ r = 1) ∧ post r u)) (hR3 : ∀ (post : Int32 → St → Prop) (σ : St) (x1 : Int32), R3 post σ x1 → ∀ sz : Nat, MetI l yX10_sum cX10_sum 3 .boolean (rmG_ex gn) [.ref (ad 0 0), .int x1] D cy (cellM cy ad) regsM ad σ sz (fun r u => (r = 0 ∨ r = 1) ∧ post r u)) (hR4 : ∀ (post : Int32 → St → Prop) (σ : St) (x1 : Int32), R4 post σ x1 → ∀ sz : Nat, MetI l yX10_term cX10_term 3 .boolean (rmG_ex gn) [.ref (ad 0 0), .int x1] D cy (cellM cy ad) regsM ad σ sz (fun r u => (r = 0 ∨ r = 1) ∧ post r u)) (hR5 : ∀ (post : Int32 → St → Prop) (σ : St) (x1 : Int32), R5 post σ x1 → ∀ sz : Nat, MetI l yX10_part0 cX10_part0 2 .boolean (rmG_ex gn) [.ref (ad 0 0), .int x1] D cy (cellM cy ad) regsM ad σ sz (fun r u => (r = 0 ∨ r = 1) ∧ post r u)) {K10 : St → Int32 → Prop} (hk10 : ∀ (σ : St) (x1 : Int32), K10 σ x1 → ∀ (H : Heap) (locs : List Loc) (ls : Array Slot), va_P D CLS (wM cy ad σ) H → va_S (AM ad s.heap.size) s.heap H locs → lv_has ls 3 [(0, .ref (ad 0 0)), (1, .int x1)] → W p l e (rmG_ex (gn + 1)) s m args below meth c H locs 0 0 (MQ below (QI D cy (cellM cy ad) regsM ad s.heap.size (fun r u => (r = 0 ∨ r = 1) ∧ post r u)) args s 0 0 (AM ad s.heap.size)) (F0 m 10 ls [])) {σ : St} {x1 : Int32} (hw : b_X10_term_28 R0 R1 R2 R3 R4 R5 K10 post σ x1) {H : Heap} {locs : List Loc} {ls : Array Slot} (hP : va_P D CLS (wM cy ad σ) H) (hS : va_S (AM ad s.heap.size) s.heap H locs) (hl : lv_has ls 3 [(0, .ref (ad 0 0)), (1, .int x1)]) : W p l e (rmG_ex (gn + 1)) s m args below meth c H locs 0 0 (MQ below (QI D cy (cellM cy ad) regsM ad s.heap.size (fun r u => (r = 0 ∨ r = 1) ∧ post r u)) args s 0 0 (AM ad s.heap.size)) (F0 m 28 ls []) := by
  obtain ⟨hx, hb, -⟩ := id E
  unfold b_X10_term_28 at hw
  refine lv_aload_n hx hb dX10_term_28 rfl (lv_at hl 0 rfl) ?_
  refine fX10_22 E hP mw_968 dX10_term_29 ?_
  refine lv_topi (fun v1 ev1 => ?_)
  replace hw := hw v1 ev1
  refine lv_istore_n (lv' := [(2, .int v1), (0, .ref (ad 0 0)), (1, .int x1)]) hx hb dX10_term_32 rfl hl (by decide) rfl (fun ls hl => ?_)
  refine lv_aload_n hx hb dX10_term_33 rfl (lv_at hl 1 rfl) ?_
  refine g_cVv (As := []) (rest := []) E hl.1 (c_X10_nextToken l D cy ad ha hw _) ok_X10_nextToken mw_1299 ⟨(by show 2 + 1 ≤ 40 + (gn + 1); omega), (by show 8 + (3 + 11) + 46 ≤ 2000 + 60 * (gn + 1); omega)⟩ ⟨rfl, rfl⟩ rM0 rfl rfl rfl rfl rfl (Nat.le_of_ble_eq_true rfl) ⟨Nat.zero_le _, Nat.zero_le _⟩ hP hS dX10_term_34 (fun s2 hw H locs hP hS => ?_)
  refine lv_aload_n hx hb dX10_term_37 rfl (lv_at hl 1 rfl) ?_
  refine lv_iload_n hx hb dX10_term_38 rfl (lv_at hl 2 rfl) ?_
  refine g_cVi (As := [.int x1]) (rest := []) E hl.1 (hR5 _ _ _ hw _) ok_X10_part0 mw_1336 ⟨(by show 40 + gn + 1 ≤ 40 + (gn + 1); omega), (by show 8 + (2 + 11) + (2000 + 60 * gn) ≤ 2000 + 60 * (gn + 1); omega)⟩ ⟨rfl, rfl⟩ rM0 rfl rfl rfl rfl rfl (Nat.le_of_ble_eq_true rfl) ⟨Nat.zero_le _, Nat.zero_le _⟩ hP hS dX10_term_39 (fun r3 s3 hw H locs hP hS => ?_)
  obtain ⟨z3, hw⟩ := hw
  refine lv_if_ne (tgt := 47) hx hb dX10_term_42 (by decide) (fun c4 => ?_) (fun c4 => ?_)
  · replace hw := hw.1 c4
    refine lv_aload_n hx hb dX10_term_47 rfl (lv_at hl 1 rfl) ?_
    refine lv_iconst (v := 2) hx hb dX10_term_48 (by decide) ?_
    refine lv_iload_n hx hb dX10_term_49 rfl (lv_at hl 0 rfl) ?_
    refine g_cVv (As := [.int 2, .int v1]) (rest := []) E hl.1 (c_X10_step l D cy ad ha hw _) ok_X10_step mw_1339 ⟨(by show 0 + 1 ≤ 40 + (gn + 1); omega), (by show 8 + (3 + 11) + 0 ≤ 2000 + 60 * (gn + 1); omega)⟩ ⟨rfl, rfl⟩ rM0 rfl rfl rfl rfl rfl (Nat.le_of_ble_eq_true rfl) ⟨Nat.zero_le _, Nat.zero_le _⟩ hP hS dX10_term_50 (fun s5 hw H locs hP hS => ?_)
    refine lv_goto (tgt := 10) hx hb dX10_term_53 (by decide) ?_
    exact hk10 s5 x1 hw _ _ _ hP hS (lv_sub hl [1, 2] rfl)
  · replace hw := hw.2 c4
    refine lv_iconst (v := 0) hx hb dX10_term_45 (by decide) ?_
    exact g_zret E (Or.inl rfl) hw hP hS dX10_term_46
def b_X10_term_10 (R0 : (Int32 → St → Prop) → St → Int32 → Prop) (R1 : (Int32 → St → Prop) → St → Int32 → Prop) (R2 : (Int32 → St → Prop) → St → Int32 → Prop) (R3 : (Int32 → St → Prop) → St → Int32 → Prop) (R4 : (Int32 → St → Prop) → St → Int32 → Prop) (R5 : (Int32 → St → Prop) → St → Int32 → Prop) (K10 : St → Int32 → Prop) (post : Int32 → St → Prop) (σ : St) (x1 : Int32) : Prop := w_X10_isSign (fun r1 s1 => ((¬ r1 = 0 → (b_X10_term_28 R0 R1 R2 R3 R4 R5 K10 post s1 x1)) ∧ (r1 = 0 → (w_X10_isSign (fun r3 s3 => ((r3 = 0 → (post 1 s3)) ∧ (¬ r3 = 0 → (b_X10_term_28 R0 R1 R2 R3 R4 R5 K10 post s3 x1)))) s1 (47 : Int32))))) σ (42 : Int32)
noncomputable def l_X10_term_10 (R0 : (Int32 → St → Prop) → St → Int32 → Prop) (R1 : (Int32 → St → Prop) → St → Int32 → Prop) (R2 : (Int32 → St → Prop) → St → Int32 → Prop) (R3 : (Int32 → St → Prop) → St → Int32 → Prop) (R4 : (Int32 → St → Prop) → St → Int32 → Prop) (R5 : (Int32 → St → Prop) → St → Int32 → Prop) (post : Int32 → St → Prop) : Nat → St → Int32 → Prop := fun n => Nat.rec (motive := fun _ => St → Int32 → Prop) (fun _ _ => False) (fun _ ih => b_X10_term_10 R0 R1 R2 R3 R4 R5 ih post) n
theorem L_X10_term_10 (E : EnvW p s m args meth c D cy regsM ad "RoofWarModel" cX10_term 3 (some .boolean)) (ha : Apart regsM ad) {post : Int32 → St → Prop} {gn : Nat} {R0 : (Int32 → St → Prop) → St → Int32 → Prop} {R1 : (Int32 → St → Prop) → St → Int32 → Prop} {R2 : (Int32 → St → Prop) → St → Int32 → Prop} {R3 : (Int32 → St → Prop) → St → Int32 → Prop} {R4 : (Int32 → St → Prop) → St → Int32 → Prop} {R5 : (Int32 → St → Prop) → St → Int32 → Prop} (hR0 : ∀ (post : Int32 → St → Prop) (σ : St) (x1 : Int32), R0 post σ x1 → ∀ sz : Nat, MetI l yX10_either cX10_either 2 .boolean (rmG_ex gn) [.ref (ad 0 0), .int x1] D cy (cellM cy ad) regsM ad σ sz (fun r u => (r = 0 ∨ r = 1) ∧ post r u)) (hR1 : ∀ (post : Int32 → St → Prop) (σ : St) (x1 : Int32), R1 post σ x1 → ∀ sz : Nat, MetI l yX10_both cX10_both 2 .boolean (rmG_ex gn) [.ref (ad 0 0), .int x1] D cy (cellM cy ad) regsM ad σ sz (fun r u => (r = 0 ∨ r = 1) ∧ post r u)) (hR2 : ∀ (post : Int32 → St → Prop) (σ : St) (x1 : Int32), R2 post σ x1 → ∀ sz : Nat, MetI l yX10_test cX10_test 3 .boolean (rmG_ex gn) [.ref (ad 0 0), .int x1] D cy (cellM cy ad) regsM ad σ sz (fun r u => (r = 0 ∨ r = 1) ∧ post r u)) (hR3 : ∀ (post : Int32 → St → Prop) (σ : St) (x1 : Int32), R3 post σ x1 → ∀ sz : Nat, MetI l yX10_sum cX10_sum 3 .boolean (rmG_ex gn) [.ref (ad 0 0), .int x1] D cy (cellM cy ad) regsM ad σ sz (fun r u => (r = 0 ∨ r = 1) ∧ post r u)) (hR4 : ∀ (post : Int32 → St → Prop) (σ : St) (x1 : Int32), R4 post σ x1 → ∀ sz : Nat, MetI l yX10_term cX10_term 3 .boolean (rmG_ex gn) [.ref (ad 0 0), .int x1] D cy (cellM cy ad) regsM ad σ sz (fun r u => (r = 0 ∨ r = 1) ∧ post r u)) (hR5 : ∀ (post : Int32 → St → Prop) (σ : St) (x1 : Int32), R5 post σ x1 → ∀ sz : Nat, MetI l yX10_part0 cX10_part0 2 .boolean (rmG_ex gn) [.ref (ad 0 0), .int x1] D cy (cellM cy ad) regsM ad σ sz (fun r u => (r = 0 ∨ r = 1) ∧ post r u)) : ∀ (n : Nat), ∀ (σ : St) (x1 : Int32), l_X10_term_10 R0 R1 R2 R3 R4 R5 post n σ x1 → ∀ (H : Heap) (locs : List Loc) (ls : Array Slot), va_P D CLS (wM cy ad σ) H → va_S (AM ad s.heap.size) s.heap H locs → lv_has ls 3 [(0, .ref (ad 0 0)), (1, .int x1)] → W p l e (rmG_ex (gn + 1)) s m args below meth c H locs 0 0 (MQ below (QI D cy (cellM cy ad) regsM ad s.heap.size (fun r u => (r = 0 ∨ r = 1) ∧ post r u)) args s 0 0 (AM ad s.heap.size)) (F0 m 10 ls []) := by
  obtain ⟨hx, hb, -⟩ := id E
  intro n
  induction n with
  | zero => intro σ x1 hw; exact hw.elim
  | succ n hk10 =>
    intro σ x1 hw H locs ls hP hS hl
    replace hw : b_X10_term_10 R0 R1 R2 R3 R4 R5 (l_X10_term_10 R0 R1 R2 R3 R4 R5 post n) post σ x1 := hw
    unfold b_X10_term_10 at hw
    refine lv_aload_n hx hb dX10_term_10 rfl (lv_at hl 0 rfl) ?_
    refine lv_bipush (v := 42) hx hb dX10_term_11 (by decide) ?_
    refine g_cVi (As := [.int 42]) (rest := []) E hl.1 (c_X10_isSign l D cy ad ha hw _) ok_X10_isSign mw_1345 ⟨(by show 0 + 1 ≤ 40 + (gn + 1); omega), (by show 8 + (2 + 11) + 0 ≤ 2000 + 60 * (gn + 1); omega)⟩ ⟨rfl, rfl⟩ rM0 rfl rfl rfl rfl rfl (Nat.le_of_ble_eq_true rfl) ⟨Nat.zero_le _, Nat.zero_le _⟩ hP hS dX10_term_13 (fun r1 s1 hw H locs hP hS => ?_)
    obtain ⟨z1, hw⟩ := hw
    refine lv_if_ne (tgt := 28) hx hb dX10_term_16 (by decide) (fun c2 => ?_) (fun c2 => ?_)
    · replace hw := hw.1 c2
      exact B_X10_term_28 E ha hR0 hR1 hR2 hR3 hR4 hR5 hk10 hw hP hS (lv_sub hl [0, 1] rfl)
    · replace hw := hw.2 c2
      refine lv_aload_n hx hb dX10_term_19 rfl (lv_at hl 0 rfl) ?_
      refine lv_bipush (v := 47) hx hb dX10_term_20 (by decide) ?_
      refine g_cVi (As := [.int 47]) (rest := []) E hl.1 (c_X10_isSign l D cy ad ha hw _) ok_X10_isSign mw_1345 ⟨(by show 0 + 1 ≤ 40 + (gn + 1); omega), (by show 8 + (2 + 11) + 0 ≤ 2000 + 60 * (gn + 1); omega)⟩ ⟨rfl, rfl⟩ rM0 rfl rfl rfl rfl rfl (Nat.le_of_ble_eq_true rfl) ⟨Nat.zero_le _, Nat.zero_le _⟩ hP hS dX10_term_22 (fun r3 s3 hw H locs hP hS => ?_)
      obtain ⟨z3, hw⟩ := hw
      refine lv_if_eq (tgt := 56) hx hb dX10_term_25 (by decide) (fun c4 => ?_) (fun c4 => ?_)
      · replace hw := hw.1 c4
        refine lv_iconst (v := 1) hx hb dX10_term_56 (by decide) ?_
        exact g_zret E (Or.inr rfl) hw hP hS dX10_term_57
      · replace hw := hw.2 c4
        exact B_X10_term_28 E ha hR0 hR1 hR2 hR3 hR4 hR5 hk10 hw hP hS (lv_sub hl [0, 1] rfl)
def wb_X10_term (R0 : (Int32 → St → Prop) → St → Int32 → Prop) (R1 : (Int32 → St → Prop) → St → Int32 → Prop) (R2 : (Int32 → St → Prop) → St → Int32 → Prop) (R3 : (Int32 → St → Prop) → St → Int32 → Prop) (R4 : (Int32 → St → Prop) → St → Int32 → Prop) (R5 : (Int32 → St → Prop) → St → Int32 → Prop) (post : Int32 → St → Prop) (σ : St) (x1 : Int32) : Prop := R5 (fun r1 s1 => ((¬ r1 = 0 → (∃ n3 : Nat, l_X10_term_10 R0 R1 R2 R3 R4 R5 post n3 s1 x1)) ∧ (r1 = 0 → (post 0 s1)))) σ x1
theorem B_X10_term_0 (E : EnvW p s m args meth c D cy regsM ad "RoofWarModel" cX10_term 3 (some .boolean)) (ha : Apart regsM ad) {post : Int32 → St → Prop} {gn : Nat} {R0 : (Int32 → St → Prop) → St → Int32 → Prop} {R1 : (Int32 → St → Prop) → St → Int32 → Prop} {R2 : (Int32 → St → Prop) → St → Int32 → Prop} {R3 : (Int32 → St → Prop) → St → Int32 → Prop} {R4 : (Int32 → St → Prop) → St → Int32 → Prop} {R5 : (Int32 → St → Prop) → St → Int32 → Prop} (hR0 : ∀ (post : Int32 → St → Prop) (σ : St) (x1 : Int32), R0 post σ x1 → ∀ sz : Nat, MetI l yX10_either cX10_either 2 .boolean (rmG_ex gn) [.ref (ad 0 0), .int x1] D cy (cellM cy ad) regsM ad σ sz (fun r u => (r = 0 ∨ r = 1) ∧ post r u)) (hR1 : ∀ (post : Int32 → St → Prop) (σ : St) (x1 : Int32), R1 post σ x1 → ∀ sz : Nat, MetI l yX10_both cX10_both 2 .boolean (rmG_ex gn) [.ref (ad 0 0), .int x1] D cy (cellM cy ad) regsM ad σ sz (fun r u => (r = 0 ∨ r = 1) ∧ post r u)) (hR2 : ∀ (post : Int32 → St → Prop) (σ : St) (x1 : Int32), R2 post σ x1 → ∀ sz : Nat, MetI l yX10_test cX10_test 3 .boolean (rmG_ex gn) [.ref (ad 0 0), .int x1] D cy (cellM cy ad) regsM ad σ sz (fun r u => (r = 0 ∨ r = 1) ∧ post r u)) (hR3 : ∀ (post : Int32 → St → Prop) (σ : St) (x1 : Int32), R3 post σ x1 → ∀ sz : Nat, MetI l yX10_sum cX10_sum 3 .boolean (rmG_ex gn) [.ref (ad 0 0), .int x1] D cy (cellM cy ad) regsM ad σ sz (fun r u => (r = 0 ∨ r = 1) ∧ post r u)) (hR4 : ∀ (post : Int32 → St → Prop) (σ : St) (x1 : Int32), R4 post σ x1 → ∀ sz : Nat, MetI l yX10_term cX10_term 3 .boolean (rmG_ex gn) [.ref (ad 0 0), .int x1] D cy (cellM cy ad) regsM ad σ sz (fun r u => (r = 0 ∨ r = 1) ∧ post r u)) (hR5 : ∀ (post : Int32 → St → Prop) (σ : St) (x1 : Int32), R5 post σ x1 → ∀ sz : Nat, MetI l yX10_part0 cX10_part0 2 .boolean (rmG_ex gn) [.ref (ad 0 0), .int x1] D cy (cellM cy ad) regsM ad σ sz (fun r u => (r = 0 ∨ r = 1) ∧ post r u)) {σ : St} {x1 : Int32} (hw : wb_X10_term R0 R1 R2 R3 R4 R5 post σ x1) {H : Heap} {locs : List Loc} {ls : Array Slot} (hP : va_P D CLS (wM cy ad σ) H) (hS : va_S (AM ad s.heap.size) s.heap H locs) (hl : lv_has ls 3 [(0, .ref (ad 0 0)), (1, .int x1)]) : W p l e (rmG_ex (gn + 1)) s m args below meth c H locs 0 0 (MQ below (QI D cy (cellM cy ad) regsM ad s.heap.size (fun r u => (r = 0 ∨ r = 1) ∧ post r u)) args s 0 0 (AM ad s.heap.size)) (F0 m 0 ls []) := by
  obtain ⟨hx, hb, -⟩ := id E
  unfold wb_X10_term at hw
  refine lv_aload_n hx hb dX10_term_0 rfl (lv_at hl 0 rfl) ?_
  refine lv_iload_n hx hb dX10_term_1 rfl (lv_at hl 1 rfl) ?_
  refine g_cVi (As := [.int x1]) (rest := []) E hl.1 (hR5 _ _ _ hw _) ok_X10_part0 mw_1336 ⟨(by show 40 + gn + 1 ≤ 40 + (gn + 1); omega), (by show 8 + (2 + 11) + (2000 + 60 * gn) ≤ 2000 + 60 * (gn + 1); omega)⟩ ⟨rfl, rfl⟩ rM0 rfl rfl rfl rfl rfl (Nat.le_of_ble_eq_true rfl) ⟨Nat.zero_le _, Nat.zero_le _⟩ hP hS dX10_term_2 (fun r1 s1 hw H locs hP hS => ?_)
  obtain ⟨z1, hw⟩ := hw
  refine lv_if_ne (tgt := 10) hx hb dX10_term_5 (by decide) (fun c2 => ?_) (fun c2 => ?_)
  · replace hw := hw.1 c2
    obtain ⟨n3, hw⟩ := hw
    exact L_X10_term_10 E ha hR0 hR1 hR2 hR3 hR4 hR5 n3 s1 x1 hw _ _ _ hP hS (lv_sub hl [0, 1] rfl)
  · replace hw := hw.2 c2
    refine lv_iconst (v := 0) hx hb dX10_term_8 (by decide) ?_
    exact g_zret E (Or.inl rfl) hw hP hS dX10_term_9
-- RoofWarModel.part0(I)Z
theorem dX10_part0_0 : decode cX10_part0 0 = .ok (.aload_n 0, 1) := by decide +kernel
theorem dX10_part0_1 : decode cX10_part0 1 = .ok (.getfield 247, 3) := by decide +kernel
theorem dX10_part0_4 : decode cX10_part0 4 = .ok (.iconst 2, 1) := by decide +kernel
theorem dX10_part0_5 : decode cX10_part0 5 = .ok (.if_icmp .ne 28, 3) := by decide +kernel
theorem dX10_part0_8 : decode cX10_part0 8 = .ok (.aload_n 0, 1) := by decide +kernel
theorem dX10_part0_9 : decode cX10_part0 9 = .ok (.iconst 0, 1) := by decide +kernel
theorem dX10_part0_10 : decode cX10_part0 10 = .ok (.aload_n 0, 1) := by decide +kernel
theorem dX10_part0_11 : decode cX10_part0 11 = .ok (.getfield 262, 3) := by decide +kernel
theorem dX10_part0_14 : decode cX10_part0 14 = .ok (.invokevirtual 288, 3) := by decide +kernel
theorem dX10_part0_17 : decode cX10_part0 17 = .ok (.aload_n 0, 1) := by decide +kernel
theorem dX10_part0_18 : decode cX10_part0 18 = .ok (.dup, 1) := by decide +kernel
theorem dX10_part0_19 : decode cX10_part0 19 = .ok (.getfield 303, 3) := by decide +kernel
theorem dX10_part0_22 : decode cX10_part0 22 = .ok (.iconst 1, 1) := by decide +kernel
theorem dX10_part0_23 : decode cX10_part0 23 = .ok (.iadd, 1) := by decide +kernel
theorem dX10_part0_24 : decode cX10_part0 24 = .ok (.putfield 303, 3) := by decide +kernel
theorem dX10_part0_27 : decode cX10_part0 27 = .ok (.aload_n 0, 1) := by decide +kernel
theorem dX10_part0_28 : decode cX10_part0 28 = .ok (.invokevirtual 285, 3) := by decide +kernel
theorem dX10_part0_31 : decode cX10_part0 31 = .ok (.iconst 1, 1) := by decide +kernel
theorem dX10_part0_32 : decode cX10_part0 32 = .ok (.ireturn, 1) := by decide +kernel
theorem dX10_part0_33 : decode cX10_part0 33 = .ok (.aload_n 0, 1) := by decide +kernel
theorem dX10_part0_34 : decode cX10_part0 34 = .ok (.getfield 247, 3) := by decide +kernel
theorem dX10_part0_37 : decode cX10_part0 37 = .ok (.iconst 1, 1) := by decide +kernel
theorem dX10_part0_38 : decode cX10_part0 38 = .ok (.if_icmp .ne 46, 3) := by decide +kernel
theorem dX10_part0_41 : decode cX10_part0 41 = .ok (.aload_n 0, 1) := by decide +kernel
theorem dX10_part0_42 : decode cX10_part0 42 = .ok (.getfield 256, 3) := by decide +kernel
theorem dX10_part0_45 : decode cX10_part0 45 = .ok (.ifCond .eq 39, 3) := by decide +kernel
theorem dX10_part0_48 : decode cX10_part0 48 = .ok (.iload_n 1, 1) := by decide +kernel
theorem dX10_part0_49 : decode cX10_part0 49 = .ok (.aload_n 0, 1) := by decide +kernel
theorem dX10_part0_50 : decode cX10_part0 50 = .ok (.getfield 256, 3) := by decide +kernel
theorem dX10_part0_53 : decode cX10_part0 53 = .ok (.invokestatic 306, 3) := by decide +kernel
theorem dX10_part0_56 : decode cX10_part0 56 = .ok (.ifCond .eq 28, 3) := by decide +kernel
theorem dX10_part0_59 : decode cX10_part0 59 = .ok (.aload_n 0, 1) := by decide +kernel
theorem dX10_part0_60 : decode cX10_part0 60 = .ok (.iconst 1, 1) := by decide +kernel
theorem dX10_part0_61 : decode cX10_part0 61 = .ok (.aload_n 0, 1) := by decide +kernel
theorem dX10_part0_62 : decode cX10_part0 62 = .ok (.getfield 256, 3) := by decide +kernel
theorem dX10_part0_65 : decode cX10_part0 65 = .ok (.invokevirtual 288, 3) := by decide +kernel
theorem dX10_part0_68 : decode cX10_part0 68 = .ok (.aload_n 0, 1) := by decide +kernel
theorem dX10_part0_69 : decode cX10_part0 69 = .ok (.dup, 1) := by decide +kernel
theorem dX10_part0_70 : decode cX10_part0 70 = .ok (.getfield 303, 3) := by decide +kernel
theorem dX10_part0_73 : decode cX10_part0 73 = .ok (.iconst 1, 1) := by decide +kernel
theorem dX10_part0_74 : decode cX10_part0 74 = .ok (.iadd, 1) := by decide +kernel
theorem dX10_part0_75 : decode cX10_part0 75 = .ok (.putfield 303, 3) := by decide +kernel
theorem dX10_part0_78 : decode cX10_part0 78 = .ok (.aload_n 0, 1) := by decide +kernel
theorem dX10_part0_79 : decode cX10_part0 79 = .ok (.invokevirtual 285, 3) := by decide +kernel
theorem dX10_part0_82 : decode cX10_part0 82 = .ok (.iconst 1, 1) := by decide +kernel
theorem dX10_part0_83 : decode cX10_part0 83 = .ok (.ireturn, 1) := by decide +kernel
theorem dX10_part0_84 : decode cX10_part0 84 = .ok (.aload_n 0, 1) := by decide +kernel
theorem dX10_part0_85 : decode cX10_part0 85 = .ok (.bipush 33, 2) := by decide +kernel
theorem dX10_part0_87 : decode cX10_part0 87 = .ok (.invokevirtual 282, 3) := by decide +kernel
theorem dX10_part0_90 : decode cX10_part0 90 = .ok (.ifCond .eq 55, 3) := by decide +kernel
theorem dX10_part0_93 : decode cX10_part0 93 = .ok (.aload_n 0, 1) := by decide +kernel
theorem dX10_part0_94 : decode cX10_part0 94 = .ok (.getfield 309, 3) := by decide +kernel
theorem dX10_part0_97 : decode cX10_part0 97 = .ok (.bipush 8, 2) := by decide +kernel
theorem dX10_part0_99 : decode cX10_part0 99 = .ok (.if_icmp .ge 46, 3) := by decide +kernel
theorem dX10_part0_102 : decode cX10_part0 102 = .ok (.aload_n 0, 1) := by decide +kernel
theorem dX10_part0_103 : decode cX10_part0 103 = .ok (.dup, 1) := by decide +kernel
theorem dX10_part0_104 : decode cX10_part0 104 = .ok (.getfield 309, 3) := by decide +kernel
theorem dX10_part0_107 : decode cX10_part0 107 = .ok (.iconst 1, 1) := by decide +kernel
theorem dX10_part0_108 : decode cX10_part0 108 = .ok (.iadd, 1) := by decide +kernel
theorem dX10_part0_109 : decode cX10_part0 109 = .ok (.putfield 309, 3) := by decide +kernel
theorem dX10_part0_112 : decode cX10_part0 112 = .ok (.aload_n 0, 1) := by decide +kernel
theorem dX10_part0_113 : decode cX10_part0 113 = .ok (.invokevirtual 285, 3) := by decide +kernel
theorem dX10_part0_116 : decode cX10_part0 116 = .ok (.aload_n 0, 1) := by decide +kernel
theorem dX10_part0_117 : decode cX10_part0 117 = .ok (.iload_n 1, 1) := by decide +kernel
theorem dX10_part0_118 : decode cX10_part0 118 = .ok (.invokevirtual 300, 3) := by decide +kernel
theorem dX10_part0_121 : decode cX10_part0 121 = .ok (.ifCond .ne 5, 3) := by decide +kernel
theorem dX10_part0_124 : decode cX10_part0 124 = .ok (.iconst 0, 1) := by decide +kernel
theorem dX10_part0_125 : decode cX10_part0 125 = .ok (.ireturn, 1) := by decide +kernel
theorem dX10_part0_126 : decode cX10_part0 126 = .ok (.aload_n 0, 1) := by decide +kernel
theorem dX10_part0_127 : decode cX10_part0 127 = .ok (.dup, 1) := by decide +kernel
theorem dX10_part0_128 : decode cX10_part0 128 = .ok (.getfield 309, 3) := by decide +kernel
theorem dX10_part0_131 : decode cX10_part0 131 = .ok (.iconst 1, 1) := by decide +kernel
theorem dX10_part0_132 : decode cX10_part0 132 = .ok (.isub, 1) := by decide +kernel
theorem dX10_part0_133 : decode cX10_part0 133 = .ok (.putfield 309, 3) := by decide +kernel
theorem dX10_part0_136 : decode cX10_part0 136 = .ok (.aload_n 0, 1) := by decide +kernel
theorem dX10_part0_137 : decode cX10_part0 137 = .ok (.iconst 2, 1) := by decide +kernel
theorem dX10_part0_138 : decode cX10_part0 138 = .ok (.bipush 33, 2) := by decide +kernel
theorem dX10_part0_140 : decode cX10_part0 140 = .ok (.invokevirtual 288, 3) := by decide +kernel
theorem dX10_part0_143 : decode cX10_part0 143 = .ok (.iconst 1, 1) := by decide +kernel
theorem dX10_part0_144 : decode cX10_part0 144 = .ok (.ireturn, 1) := by decide +kernel
theorem dX10_part0_145 : decode cX10_part0 145 = .ok (.aload_n 0, 1) := by decide +kernel
theorem dX10_part0_146 : decode cX10_part0 146 = .ok (.bipush 40, 2) := by decide +kernel
theorem dX10_part0_148 : decode cX10_part0 148 = .ok (.invokevirtual 282, 3) := by decide +kernel
theorem dX10_part0_151 : decode cX10_part0 151 = .ok (.ifCond .eq 12, 3) := by decide +kernel
theorem dX10_part0_154 : decode cX10_part0 154 = .ok (.aload_n 0, 1) := by decide +kernel
theorem dX10_part0_155 : decode cX10_part0 155 = .ok (.getfield 312, 3) := by decide +kernel
theorem dX10_part0_158 : decode cX10_part0 158 = .ok (.bipush 8, 2) := by decide +kernel
theorem dX10_part0_160 : decode cX10_part0 160 = .ok (.if_icmp .ne 5, 3) := by decide +kernel
theorem dX10_part0_163 : decode cX10_part0 163 = .ok (.iconst 0, 1) := by decide +kernel
theorem dX10_part0_164 : decode cX10_part0 164 = .ok (.ireturn, 1) := by decide +kernel
theorem dX10_part0_165 : decode cX10_part0 165 = .ok (.aload_n 0, 1) := by decide +kernel
theorem dX10_part0_166 : decode cX10_part0 166 = .ok (.dup, 1) := by decide +kernel
theorem dX10_part0_167 : decode cX10_part0 167 = .ok (.getfield 312, 3) := by decide +kernel
theorem dX10_part0_170 : decode cX10_part0 170 = .ok (.iconst 1, 1) := by decide +kernel
theorem dX10_part0_171 : decode cX10_part0 171 = .ok (.iadd, 1) := by decide +kernel
theorem dX10_part0_172 : decode cX10_part0 172 = .ok (.putfield 312, 3) := by decide +kernel
theorem dX10_part0_175 : decode cX10_part0 175 = .ok (.aload_n 0, 1) := by decide +kernel
theorem dX10_part0_176 : decode cX10_part0 176 = .ok (.invokevirtual 285, 3) := by decide +kernel
theorem dX10_part0_179 : decode cX10_part0 179 = .ok (.aload_n 0, 1) := by decide +kernel
theorem dX10_part0_180 : decode cX10_part0 180 = .ok (.iload_n 1, 1) := by decide +kernel
theorem dX10_part0_181 : decode cX10_part0 181 = .ok (.invokevirtual 315, 3) := by decide +kernel
theorem dX10_part0_184 : decode cX10_part0 184 = .ok (.ifCond .eq 12, 3) := by decide +kernel
theorem dX10_part0_187 : decode cX10_part0 187 = .ok (.aload_n 0, 1) := by decide +kernel
theorem dX10_part0_188 : decode cX10_part0 188 = .ok (.bipush 41, 2) := by decide +kernel
theorem dX10_part0_190 : decode cX10_part0 190 = .ok (.invokevirtual 282, 3) := by decide +kernel
theorem dX10_part0_193 : decode cX10_part0 193 = .ok (.ifCond .ne 5, 3) := by decide +kernel
theorem dX10_part0_196 : decode cX10_part0 196 = .ok (.iconst 0, 1) := by decide +kernel
theorem dX10_part0_197 : decode cX10_part0 197 = .ok (.ireturn, 1) := by decide +kernel
theorem dX10_part0_198 : decode cX10_part0 198 = .ok (.aload_n 0, 1) := by decide +kernel
theorem dX10_part0_199 : decode cX10_part0 199 = .ok (.dup, 1) := by decide +kernel
theorem dX10_part0_200 : decode cX10_part0 200 = .ok (.getfield 312, 3) := by decide +kernel
theorem dX10_part0_203 : decode cX10_part0 203 = .ok (.iconst 1, 1) := by decide +kernel
theorem dX10_part0_204 : decode cX10_part0 204 = .ok (.isub, 1) := by decide +kernel
theorem dX10_part0_205 : decode cX10_part0 205 = .ok (.putfield 312, 3) := by decide +kernel
theorem dX10_part0_208 : decode cX10_part0 208 = .ok (.aload_n 0, 1) := by decide +kernel
theorem dX10_part0_209 : decode cX10_part0 209 = .ok (.invokevirtual 285, 3) := by decide +kernel
theorem dX10_part0_212 : decode cX10_part0 212 = .ok (.iconst 1, 1) := by decide +kernel
theorem dX10_part0_213 : decode cX10_part0 213 = .ok (.ireturn, 1) := by decide +kernel
def b_X10_part0_145 (R0 : (Int32 → St → Prop) → St → Int32 → Prop) (R1 : (Int32 → St → Prop) → St → Int32 → Prop) (R2 : (Int32 → St → Prop) → St → Int32 → Prop) (R3 : (Int32 → St → Prop) → St → Int32 → Prop) (R4 : (Int32 → St → Prop) → St → Int32 → Prop) (R5 : (Int32 → St → Prop) → St → Int32 → Prop) (post : Int32 → St → Prop) (σ : St) (x1 : Int32) : Prop := w_X10_isSign (fun r1 s1 => ((r1 = 0 → (post 0 s1)) ∧ (¬ r1 = 0 → (((¬ (s1 0 0 8) = 8 → (∀ s4 : St, s4 = wr s1 0 0 8 ((s1 0 0 8) + 1) → (w_X10_nextToken (fun s5 => R0 (fun r6 s6 => ((r6 = 0 → (post 0 s6)) ∧ (¬ r6 = 0 → (w_X10_isSign (fun r8 s8 => ((¬ r8 = 0 → (∀ s10 : St, s10 = wr s8 0 0 8 ((s8 0 0 8) - 1) → (w_X10_nextToken (fun s11 => post 1 s11) s10))) ∧ (r8 = 0 → (post 0 s8)))) s6 (41 : Int32))))) s5 x1) s4))) ∧ ((s1 0 0 8) = 8 → (post 0 s1))))))) σ (40 : Int32)
theorem B_X10_part0_145 (E : EnvW p s m args meth c D cy regsM ad "RoofWarModel" cX10_part0 2 (some .boolean)) (ha : Apart regsM ad) {post : Int32 → St → Prop} {gn : Nat} {R0 : (Int32 → St → Prop) → St → Int32 → Prop} {R1 : (Int32 → St → Prop) → St → Int32 → Prop} {R2 : (Int32 → St → Prop) → St → Int32 → Prop} {R3 : (Int32 → St → Prop) → St → Int32 → Prop} {R4 : (Int32 → St → Prop) → St → Int32 → Prop} {R5 : (Int32 → St → Prop) → St → Int32 → Prop} (hR0 : ∀ (post : Int32 → St → Prop) (σ : St) (x1 : Int32), R0 post σ x1 → ∀ sz : Nat, MetI l yX10_either cX10_either 2 .boolean (rmG_ex gn) [.ref (ad 0 0), .int x1] D cy (cellM cy ad) regsM ad σ sz (fun r u => (r = 0 ∨ r = 1) ∧ post r u)) (hR1 : ∀ (post : Int32 → St → Prop) (σ : St) (x1 : Int32), R1 post σ x1 → ∀ sz : Nat, MetI l yX10_both cX10_both 2 .boolean (rmG_ex gn) [.ref (ad 0 0), .int x1] D cy (cellM cy ad) regsM ad σ sz (fun r u => (r = 0 ∨ r = 1) ∧ post r u)) (hR2 : ∀ (post : Int32 → St → Prop) (σ : St) (x1 : Int32), R2 post σ x1 → ∀ sz : Nat, MetI l yX10_test cX10_test 3 .boolean (rmG_ex gn) [.ref (ad 0 0), .int x1] D cy (cellM cy ad) regsM ad σ sz (fun r u => (r = 0 ∨ r = 1) ∧ post r u)) (hR3 : ∀ (post : Int32 → St → Prop) (σ : St) (x1 : Int32), R3 post σ x1 → ∀ sz : Nat, MetI l yX10_sum cX10_sum 3 .boolean (rmG_ex gn) [.ref (ad 0 0), .int x1] D cy (cellM cy ad) regsM ad σ sz (fun r u => (r = 0 ∨ r = 1) ∧ post r u)) (hR4 : ∀ (post : Int32 → St → Prop) (σ : St) (x1 : Int32), R4 post σ x1 → ∀ sz : Nat, MetI l yX10_term cX10_term 3 .boolean (rmG_ex gn) [.ref (ad 0 0), .int x1] D cy (cellM cy ad) regsM ad σ sz (fun r u => (r = 0 ∨ r = 1) ∧ post r u)) (hR5 : ∀ (post : Int32 → St → Prop) (σ : St) (x1 : Int32), R5 post σ x1 → ∀ sz : Nat, MetI l yX10_part0 cX10_part0 2 .boolean (rmG_ex gn) [.ref (ad 0 0), .int x1] D cy (cellM cy ad) regsM ad σ sz (fun r u => (r = 0 ∨ r = 1) ∧ post r u)) {σ : St} {x1 : Int32} (hw : b_X10_part0_145 R0 R1 R2 R3 R4 R5 post σ x1) {H : Heap} {locs : List Loc} {ls : Array Slot} (hP : va_P D CLS (wM cy ad σ) H) (hS : va_S (AM ad s.heap.size) s.heap H locs) (hl : lv_has ls 2 [(0, .ref (ad 0 0)), (1, .int x1)]) : W p l e (rmG_ex (gn + 1)) s m args below meth c H locs 0 0 (MQ below (QI D cy (cellM cy ad) regsM ad s.heap.size (fun r u => (r = 0 ∨ r = 1) ∧ post r u)) args s 0 0 (AM ad s.heap.size)) (F0 m 145 ls []) := by
  obtain ⟨hx, hb, -⟩ := id E
  unfold b_X10_part0_145 at hw
  refine lv_aload_n hx hb dX10_part0_145 rfl (lv_at hl 0 rfl) ?_
  refine lv_bipush (v := 40) hx hb dX10_part0_146 (by decide) ?_
  refine g_cVi (As := [.int 40]) (rest := []) E hl.1 (c_X10_isSign l D cy ad ha hw _) ok_X10_isSign mw_1345 ⟨(by show 0 + 1 ≤ 40 + (gn + 1); omega), (by show 8 + (2 + 11) + 0 ≤ 2000 + 60 * (gn + 1); omega)⟩ ⟨rfl, rfl⟩ rM0 rfl rfl rfl rfl rfl (Nat.le_of_ble_eq_true rfl) ⟨Nat.zero_le _, Nat.zero_le _⟩ hP hS dX10_part0_148 (fun r1 s1 hw H locs hP hS => ?_)
  obtain ⟨z1, hw⟩ := hw
  refine lv_if_eq (tgt := 163) hx hb dX10_part0_151 (by decide) (fun c2 => ?_) (fun c2 => ?_)
  · replace hw := hw.1 c2
    refine lv_iconst (v := 0) hx hb dX10_part0_163 (by decide) ?_
    exact g_zret E (Or.inl rfl) hw hP hS dX10_part0_164
  · replace hw := hw.2 c2
    refine lv_aload_n hx hb dX10_part0_154 rfl (lv_at hl 0 rfl) ?_
    refine fX10_23 E hP mw_969 dX10_part0_155 ?_
    refine lv_bipush (v := 8) hx hb dX10_part0_158 (by decide) ?_
    refine lv_icmp_ne (tgt := 165) hx hb dX10_part0_160 (by decide) (fun c3 => ?_) (fun c3 => ?_)
    · replace hw := hw.1 c3
      refine lv_aload_n hx hb dX10_part0_165 rfl (lv_at hl 0 rfl) ?_
      refine lv_dup hx hb dX10_part0_166 rfl ?_
      refine fX10_23 E hP mw_969 dX10_part0_167 ?_
      refine lv_iconst (v := 1) hx hb dX10_part0_170 (by decide) ?_
      refine lv_iadd hx hb dX10_part0_171 ?_
      refine uX10_23 E ha mw_969 dX10_part0_172 hP hS (fun s4 es4 H locs hP hS => ?_)
      replace hw := hw s4 es4
      refine lv_aload_n hx hb dX10_part0_175 rfl (lv_at hl 0 rfl) ?_
      refine g_cVv (As := []) (rest := []) E hl.1 (c_X10_nextToken l D cy ad ha hw _) ok_X10_nextToken mw_1299 ⟨(by show 2 + 1 ≤ 40 + (gn + 1); omega), (by show 8 + (3 + 11) + 46 ≤ 2000 + 60 * (gn + 1); omega)⟩ ⟨rfl, rfl⟩ rM0 rfl rfl rfl rfl rfl (Nat.le_of_ble_eq_true rfl) ⟨Nat.zero_le _, Nat.zero_le _⟩ hP hS dX10_part0_176 (fun s5 hw H locs hP hS => ?_)
      refine lv_aload_n hx hb dX10_part0_179 rfl (lv_at hl 0 rfl) ?_
      refine lv_iload_n hx hb dX10_part0_180 rfl (lv_at hl 1 rfl) ?_
      refine g_cVi (As := [.int x1]) (rest := []) E hl.1 (hR0 _ _ _ hw _) ok_X10_either mw_1321 ⟨(by show 40 + gn + 1 ≤ 40 + (gn + 1); omega), (by show 8 + (2 + 11) + (2000 + 60 * gn) ≤ 2000 + 60 * (gn + 1); omega)⟩ ⟨rfl, rfl⟩ rM0 rfl rfl rfl rfl rfl (Nat.le_of_ble_eq_true rfl) ⟨Nat.zero_le _, Nat.zero_le _⟩ hP hS dX10_part0_181 (fun r6 s6 hw H locs hP hS => ?_)
      obtain ⟨z6, hw⟩ := hw
      refine lv_if_eq (tgt := 196) hx hb dX10_part0_184 (by decide) (fun c7 => ?_) (fun c7 => ?_)
      · replace hw := hw.1 c7
        refine lv_iconst (v := 0) hx hb dX10_part0_196 (by decide) ?_
        exact g_zret E (Or.inl rfl) hw hP hS dX10_part0_197
      · replace hw := hw.2 c7
        refine lv_aload_n hx hb dX10_part0_187 rfl (lv_at hl 0 rfl) ?_
        refine lv_bipush (v := 41) hx hb dX10_part0_188 (by decide) ?_
        refine g_cVi (As := [.int 41]) (rest := []) E hl.1 (c_X10_isSign l D cy ad ha hw _) ok_X10_isSign mw_1345 ⟨(by show 0 + 1 ≤ 40 + (gn + 1); omega), (by show 8 + (2 + 11) + 0 ≤ 2000 + 60 * (gn + 1); omega)⟩ ⟨rfl, rfl⟩ rM0 rfl rfl rfl rfl rfl (Nat.le_of_ble_eq_true rfl) ⟨Nat.zero_le _, Nat.zero_le _⟩ hP hS dX10_part0_190 (fun r8 s8 hw H locs hP hS => ?_)
        obtain ⟨z8, hw⟩ := hw
        refine lv_if_ne (tgt := 198) hx hb dX10_part0_193 (by decide) (fun c9 => ?_) (fun c9 => ?_)
        · replace hw := hw.1 c9
          refine lv_aload_n hx hb dX10_part0_198 rfl (lv_at hl 0 rfl) ?_
          refine lv_dup hx hb dX10_part0_199 rfl ?_
          refine fX10_23 E hP mw_969 dX10_part0_200 ?_
          refine lv_iconst (v := 1) hx hb dX10_part0_203 (by decide) ?_
          refine lv_isub hx hb dX10_part0_204 ?_
          refine uX10_23 E ha mw_969 dX10_part0_205 hP hS (fun s10 es10 H locs hP hS => ?_)
          replace hw := hw s10 es10
          refine lv_aload_n hx hb dX10_part0_208 rfl (lv_at hl 0 rfl) ?_
          refine g_cVv (As := []) (rest := []) E hl.1 (c_X10_nextToken l D cy ad ha hw _) ok_X10_nextToken mw_1299 ⟨(by show 2 + 1 ≤ 40 + (gn + 1); omega), (by show 8 + (3 + 11) + 46 ≤ 2000 + 60 * (gn + 1); omega)⟩ ⟨rfl, rfl⟩ rM0 rfl rfl rfl rfl rfl (Nat.le_of_ble_eq_true rfl) ⟨Nat.zero_le _, Nat.zero_le _⟩ hP hS dX10_part0_209 (fun s11 hw H locs hP hS => ?_)
          refine lv_iconst (v := 1) hx hb dX10_part0_212 (by decide) ?_
          exact g_zret E (Or.inr rfl) hw hP hS dX10_part0_213
        · replace hw := hw.2 c9
          refine lv_iconst (v := 0) hx hb dX10_part0_196 (by decide) ?_
          exact g_zret E (Or.inl rfl) hw hP hS dX10_part0_197
    · replace hw := hw.2 c3
      refine lv_iconst (v := 0) hx hb dX10_part0_163 (by decide) ?_
      exact g_zret E (Or.inl rfl) hw hP hS dX10_part0_164
def b_X10_part0_84 (R0 : (Int32 → St → Prop) → St → Int32 → Prop) (R1 : (Int32 → St → Prop) → St → Int32 → Prop) (R2 : (Int32 → St → Prop) → St → Int32 → Prop) (R3 : (Int32 → St → Prop) → St → Int32 → Prop) (R4 : (Int32 → St → Prop) → St → Int32 → Prop) (R5 : (Int32 → St → Prop) → St → Int32 → Prop) (post : Int32 → St → Prop) (σ : St) (x1 : Int32) : Prop := w_X10_isSign (fun r1 s1 => ((r1 = 0 → (b_X10_part0_145 R0 R1 R2 R3 R4 R5 post s1 x1)) ∧ (¬ r1 = 0 → (((8 ≤ (s1 0 0 9) → (b_X10_part0_145 R0 R1 R2 R3 R4 R5 post s1 x1)) ∧ (¬ 8 ≤ (s1 0 0 9) → (∀ s4 : St, s4 = wr s1 0 0 9 ((s1 0 0 9) + 1) → (w_X10_nextToken (fun s5 => R5 (fun r6 s6 => ((¬ r6 = 0 → (∀ s8 : St, s8 = wr s6 0 0 9 ((s6 0 0 9) - 1) → (w_X10_step (fun s9 => post 1 s9) s8 (2 : Int32) (33 : Int32)))) ∧ (r6 = 0 → (post 0 s6)))) s5 x1) s4)))))))) σ (33 : Int32)
theorem B_X10_part0_84 (E : EnvW p s m args meth c D cy regsM ad "RoofWarModel" cX10_part0 2 (some .boolean)) (ha : Apart regsM ad) {post : Int32 → St → Prop} {gn : Nat} {R0 : (Int32 → St → Prop) → St → Int32 → Prop} {R1 : (Int32 → St → Prop) → St → Int32 → Prop} {R2 : (Int32 → St → Prop) → St → Int32 → Prop} {R3 : (Int32 → St → Prop) → St → Int32 → Prop} {R4 : (Int32 → St → Prop) → St → Int32 → Prop} {R5 : (Int32 → St → Prop) → St → Int32 → Prop} (hR0 : ∀ (post : Int32 → St → Prop) (σ : St) (x1 : Int32), R0 post σ x1 → ∀ sz : Nat, MetI l yX10_either cX10_either 2 .boolean (rmG_ex gn) [.ref (ad 0 0), .int x1] D cy (cellM cy ad) regsM ad σ sz (fun r u => (r = 0 ∨ r = 1) ∧ post r u)) (hR1 : ∀ (post : Int32 → St → Prop) (σ : St) (x1 : Int32), R1 post σ x1 → ∀ sz : Nat, MetI l yX10_both cX10_both 2 .boolean (rmG_ex gn) [.ref (ad 0 0), .int x1] D cy (cellM cy ad) regsM ad σ sz (fun r u => (r = 0 ∨ r = 1) ∧ post r u)) (hR2 : ∀ (post : Int32 → St → Prop) (σ : St) (x1 : Int32), R2 post σ x1 → ∀ sz : Nat, MetI l yX10_test cX10_test 3 .boolean (rmG_ex gn) [.ref (ad 0 0), .int x1] D cy (cellM cy ad) regsM ad σ sz (fun r u => (r = 0 ∨ r = 1) ∧ post r u)) (hR3 : ∀ (post : Int32 → St → Prop) (σ : St) (x1 : Int32), R3 post σ x1 → ∀ sz : Nat, MetI l yX10_sum cX10_sum 3 .boolean (rmG_ex gn) [.ref (ad 0 0), .int x1] D cy (cellM cy ad) regsM ad σ sz (fun r u => (r = 0 ∨ r = 1) ∧ post r u)) (hR4 : ∀ (post : Int32 → St → Prop) (σ : St) (x1 : Int32), R4 post σ x1 → ∀ sz : Nat, MetI l yX10_term cX10_term 3 .boolean (rmG_ex gn) [.ref (ad 0 0), .int x1] D cy (cellM cy ad) regsM ad σ sz (fun r u => (r = 0 ∨ r = 1) ∧ post r u)) (hR5 : ∀ (post : Int32 → St → Prop) (σ : St) (x1 : Int32), R5 post σ x1 → ∀ sz : Nat, MetI l yX10_part0 cX10_part0 2 .boolean (rmG_ex gn) [.ref (ad 0 0), .int x1] D cy (cellM cy ad) regsM ad σ sz (fun r u => (r = 0 ∨ r = 1) ∧ post r u)) {σ : St} {x1 : Int32} (hw : b_X10_part0_84 R0 R1 R2 R3 R4 R5 post σ x1) {H : Heap} {locs : List Loc} {ls : Array Slot} (hP : va_P D CLS (wM cy ad σ) H) (hS : va_S (AM ad s.heap.size) s.heap H locs) (hl : lv_has ls 2 [(0, .ref (ad 0 0)), (1, .int x1)]) : W p l e (rmG_ex (gn + 1)) s m args below meth c H locs 0 0 (MQ below (QI D cy (cellM cy ad) regsM ad s.heap.size (fun r u => (r = 0 ∨ r = 1) ∧ post r u)) args s 0 0 (AM ad s.heap.size)) (F0 m 84 ls []) := by
  obtain ⟨hx, hb, -⟩ := id E
  unfold b_X10_part0_84 at hw
  refine lv_aload_n hx hb dX10_part0_84 rfl (lv_at hl 0 rfl) ?_
  refine lv_bipush (v := 33) hx hb dX10_part0_85 (by decide) ?_
  refine g_cVi (As := [.int 33]) (rest := []) E hl.1 (c_X10_isSign l D cy ad ha hw _) ok_X10_isSign mw_1345 ⟨(by show 0 + 1 ≤ 40 + (gn + 1); omega), (by show 8 + (2 + 11) + 0 ≤ 2000 + 60 * (gn + 1); omega)⟩ ⟨rfl, rfl⟩ rM0 rfl rfl rfl rfl rfl (Nat.le_of_ble_eq_true rfl) ⟨Nat.zero_le _, Nat.zero_le _⟩ hP hS dX10_part0_87 (fun r1 s1 hw H locs hP hS => ?_)
  obtain ⟨z1, hw⟩ := hw
  refine lv_if_eq (tgt := 145) hx hb dX10_part0_90 (by decide) (fun c2 => ?_) (fun c2 => ?_)
  · replace hw := hw.1 c2
    exact B_X10_part0_145 E ha hR0 hR1 hR2 hR3 hR4 hR5 hw hP hS (lv_sub hl [0, 1] rfl)
  · replace hw := hw.2 c2
    refine lv_aload_n hx hb dX10_part0_93 rfl (lv_at hl 0 rfl) ?_
    refine fX10_24 E hP mw_970 dX10_part0_94 ?_
    refine lv_bipush (v := 8) hx hb dX10_part0_97 (by decide) ?_
    refine lv_icmp_ge (tgt := 145) hx hb dX10_part0_99 (by decide) (fun c3 => ?_) (fun c3 => ?_)
    · replace hw := hw.1 c3
      exact B_X10_part0_145 E ha hR0 hR1 hR2 hR3 hR4 hR5 hw hP hS (lv_sub hl [0, 1] rfl)
    · replace hw := hw.2 c3
      refine lv_aload_n hx hb dX10_part0_102 rfl (lv_at hl 0 rfl) ?_
      refine lv_dup hx hb dX10_part0_103 rfl ?_
      refine fX10_24 E hP mw_970 dX10_part0_104 ?_
      refine lv_iconst (v := 1) hx hb dX10_part0_107 (by decide) ?_
      refine lv_iadd hx hb dX10_part0_108 ?_
      refine uX10_24 E ha mw_970 dX10_part0_109 hP hS (fun s4 es4 H locs hP hS => ?_)
      replace hw := hw s4 es4
      refine lv_aload_n hx hb dX10_part0_112 rfl (lv_at hl 0 rfl) ?_
      refine g_cVv (As := []) (rest := []) E hl.1 (c_X10_nextToken l D cy ad ha hw _) ok_X10_nextToken mw_1299 ⟨(by show 2 + 1 ≤ 40 + (gn + 1); omega), (by show 8 + (3 + 11) + 46 ≤ 2000 + 60 * (gn + 1); omega)⟩ ⟨rfl, rfl⟩ rM0 rfl rfl rfl rfl rfl (Nat.le_of_ble_eq_true rfl) ⟨Nat.zero_le _, Nat.zero_le _⟩ hP hS dX10_part0_113 (fun s5 hw H locs hP hS => ?_)
      refine lv_aload_n hx hb dX10_part0_116 rfl (lv_at hl 0 rfl) ?_
      refine lv_iload_n hx hb dX10_part0_117 rfl (lv_at hl 1 rfl) ?_
      refine g_cVi (As := [.int x1]) (rest := []) E hl.1 (hR5 _ _ _ hw _) ok_X10_part0 mw_1336 ⟨(by show 40 + gn + 1 ≤ 40 + (gn + 1); omega), (by show 8 + (2 + 11) + (2000 + 60 * gn) ≤ 2000 + 60 * (gn + 1); omega)⟩ ⟨rfl, rfl⟩ rM0 rfl rfl rfl rfl rfl (Nat.le_of_ble_eq_true rfl) ⟨Nat.zero_le _, Nat.zero_le _⟩ hP hS dX10_part0_118 (fun r6 s6 hw H locs hP hS => ?_)
      obtain ⟨z6, hw⟩ := hw
      refine lv_if_ne (tgt := 126) hx hb dX10_part0_121 (by decide) (fun c7 => ?_) (fun c7 => ?_)
      · replace hw := hw.1 c7
        refine lv_aload_n hx hb dX10_part0_126 rfl (lv_at hl 0 rfl) ?_
        refine lv_dup hx hb dX10_part0_127 rfl ?_
        refine fX10_24 E hP mw_970 dX10_part0_128 ?_
        refine lv_iconst (v := 1) hx hb dX10_part0_131 (by decide) ?_
        refine lv_isub hx hb dX10_part0_132 ?_
        refine uX10_24 E ha mw_970 dX10_part0_133 hP hS (fun s8 es8 H locs hP hS => ?_)
        replace hw := hw s8 es8
        refine lv_aload_n hx hb dX10_part0_136 rfl (lv_at hl 0 rfl) ?_
        refine lv_iconst (v := 2) hx hb dX10_part0_137 (by decide) ?_
        refine lv_bipush (v := 33) hx hb dX10_part0_138 (by decide) ?_
        refine g_cVv (As := [.int 2, .int 33]) (rest := []) E hl.1 (c_X10_step l D cy ad ha hw _) ok_X10_step mw_1339 ⟨(by show 0 + 1 ≤ 40 + (gn + 1); omega), (by show 8 + (3 + 11) + 0 ≤ 2000 + 60 * (gn + 1); omega)⟩ ⟨rfl, rfl⟩ rM0 rfl rfl rfl rfl rfl (Nat.le_of_ble_eq_true rfl) ⟨Nat.zero_le _, Nat.zero_le _⟩ hP hS dX10_part0_140 (fun s9 hw H locs hP hS => ?_)
        refine lv_iconst (v := 1) hx hb dX10_part0_143 (by decide) ?_
        exact g_zret E (Or.inr rfl) hw hP hS dX10_part0_144
      · replace hw := hw.2 c7
        refine lv_iconst (v := 0) hx hb dX10_part0_124 (by decide) ?_
        exact g_zret E (Or.inl rfl) hw hP hS dX10_part0_125
def wb_X10_part0 (R0 : (Int32 → St → Prop) → St → Int32 → Prop) (R1 : (Int32 → St → Prop) → St → Int32 → Prop) (R2 : (Int32 → St → Prop) → St → Int32 → Prop) (R3 : (Int32 → St → Prop) → St → Int32 → Prop) (R4 : (Int32 → St → Prop) → St → Int32 → Prop) (R5 : (Int32 → St → Prop) → St → Int32 → Prop) (post : Int32 → St → Prop) (σ : St) (x1 : Int32) : Prop := ((¬ (σ 0 0 5) = 2 → (((¬ (σ 0 0 5) = 1 → (b_X10_part0_84 R0 R1 R2 R3 R4 R5 post σ x1)) ∧ ((σ 0 0 5) = 1 → ((((σ 0 0 7) = 0 → (b_X10_part0_84 R0 R1 R2 R3 R4 R5 post σ x1)) ∧ (¬ (σ 0 0 7) = 0 → (w_X10_isName (fun r4 s4 => ((r4 = 0 → (b_X10_part0_84 R0 R1 R2 R3 R4 R5 post s4 x1)) ∧ (¬ r4 = 0 → (w_X10_step (fun s6 => ∀ s7 : St, s7 = wr s6 0 0 12 ((s6 0 0 12) + 1) → (w_X10_nextToken (fun s8 => post 1 s8) s7)) s4 (1 : Int32) (s4 0 0 7))))) σ x1 (σ 0 0 7))))))))) ∧ ((σ 0 0 5) = 2 → (w_X10_step (fun s9 => ∀ s10 : St, s10 = wr s9 0 0 12 ((s9 0 0 12) + 1) → (w_X10_nextToken (fun s11 => post 1 s11) s10)) σ (0 : Int32) (σ 0 0 6))))
theorem B_X10_part0_0 (E : EnvW p s m args meth c D cy regsM ad "RoofWarModel" cX10_part0 2 (some .boolean)) (ha : Apart regsM ad) {post : Int32 → St → Prop} {gn : Nat} {R0 : (Int32 → St → Prop) → St → Int32 → Prop} {R1 : (Int32 → St → Prop) → St → Int32 → Prop} {R2 : (Int32 → St → Prop) → St → Int32 → Prop} {R3 : (Int32 → St → Prop) → St → Int32 → Prop} {R4 : (Int32 → St → Prop) → St → Int32 → Prop} {R5 : (Int32 → St → Prop) → St → Int32 → Prop} (hR0 : ∀ (post : Int32 → St → Prop) (σ : St) (x1 : Int32), R0 post σ x1 → ∀ sz : Nat, MetI l yX10_either cX10_either 2 .boolean (rmG_ex gn) [.ref (ad 0 0), .int x1] D cy (cellM cy ad) regsM ad σ sz (fun r u => (r = 0 ∨ r = 1) ∧ post r u)) (hR1 : ∀ (post : Int32 → St → Prop) (σ : St) (x1 : Int32), R1 post σ x1 → ∀ sz : Nat, MetI l yX10_both cX10_both 2 .boolean (rmG_ex gn) [.ref (ad 0 0), .int x1] D cy (cellM cy ad) regsM ad σ sz (fun r u => (r = 0 ∨ r = 1) ∧ post r u)) (hR2 : ∀ (post : Int32 → St → Prop) (σ : St) (x1 : Int32), R2 post σ x1 → ∀ sz : Nat, MetI l yX10_test cX10_test 3 .boolean (rmG_ex gn) [.ref (ad 0 0), .int x1] D cy (cellM cy ad) regsM ad σ sz (fun r u => (r = 0 ∨ r = 1) ∧ post r u)) (hR3 : ∀ (post : Int32 → St → Prop) (σ : St) (x1 : Int32), R3 post σ x1 → ∀ sz : Nat, MetI l yX10_sum cX10_sum 3 .boolean (rmG_ex gn) [.ref (ad 0 0), .int x1] D cy (cellM cy ad) regsM ad σ sz (fun r u => (r = 0 ∨ r = 1) ∧ post r u)) (hR4 : ∀ (post : Int32 → St → Prop) (σ : St) (x1 : Int32), R4 post σ x1 → ∀ sz : Nat, MetI l yX10_term cX10_term 3 .boolean (rmG_ex gn) [.ref (ad 0 0), .int x1] D cy (cellM cy ad) regsM ad σ sz (fun r u => (r = 0 ∨ r = 1) ∧ post r u)) (hR5 : ∀ (post : Int32 → St → Prop) (σ : St) (x1 : Int32), R5 post σ x1 → ∀ sz : Nat, MetI l yX10_part0 cX10_part0 2 .boolean (rmG_ex gn) [.ref (ad 0 0), .int x1] D cy (cellM cy ad) regsM ad σ sz (fun r u => (r = 0 ∨ r = 1) ∧ post r u)) {σ : St} {x1 : Int32} (hw : wb_X10_part0 R0 R1 R2 R3 R4 R5 post σ x1) {H : Heap} {locs : List Loc} {ls : Array Slot} (hP : va_P D CLS (wM cy ad σ) H) (hS : va_S (AM ad s.heap.size) s.heap H locs) (hl : lv_has ls 2 [(0, .ref (ad 0 0)), (1, .int x1)]) : W p l e (rmG_ex (gn + 1)) s m args below meth c H locs 0 0 (MQ below (QI D cy (cellM cy ad) regsM ad s.heap.size (fun r u => (r = 0 ∨ r = 1) ∧ post r u)) args s 0 0 (AM ad s.heap.size)) (F0 m 0 ls []) := by
  obtain ⟨hx, hb, -⟩ := id E
  unfold wb_X10_part0 at hw
  refine lv_aload_n hx hb dX10_part0_0 rfl (lv_at hl 0 rfl) ?_
  refine fX10_20 E hP mw_966 dX10_part0_1 ?_
  refine lv_iconst (v := 2) hx hb dX10_part0_4 (by decide) ?_
  refine lv_icmp_ne (tgt := 33) hx hb dX10_part0_5 (by decide) (fun c1 => ?_) (fun c1 => ?_)
  · replace hw := hw.1 c1
    refine lv_aload_n hx hb dX10_part0_33 rfl (lv_at hl 0 rfl) ?_
    refine fX10_20 E hP mw_966 dX10_part0_34 ?_
    refine lv_iconst (v := 1) hx hb dX10_part0_37 (by decide) ?_
    refine lv_icmp_ne (tgt := 84) hx hb dX10_part0_38 (by decide) (fun c2 => ?_) (fun c2 => ?_)
    · replace hw := hw.1 c2
      exact B_X10_part0_84 E ha hR0 hR1 hR2 hR3 hR4 hR5 hw hP hS (lv_sub hl [0, 1] rfl)
    · replace hw := hw.2 c2
      refine lv_aload_n hx hb dX10_part0_41 rfl (lv_at hl 0 rfl) ?_
      refine fX10_22 E hP mw_968 dX10_part0_42 ?_
      refine lv_if_eq (tgt := 84) hx hb dX10_part0_45 (by decide) (fun c3 => ?_) (fun c3 => ?_)
      · replace hw := hw.1 c3
        exact B_X10_part0_84 E ha hR0 hR1 hR2 hR3 hR4 hR5 hw hP hS (lv_sub hl [0, 1] rfl)
      · replace hw := hw.2 c3
        refine lv_iload_n hx hb dX10_part0_48 rfl (lv_at hl 1 rfl) ?_
        refine lv_aload_n hx hb dX10_part0_49 rfl (lv_at hl 0 rfl) ?_
        refine fX10_22 E hP mw_968 dX10_part0_50 ?_
        refine g_cSi (As := [.int x1, .int (σ 0 0 7)]) (rest := []) E hl.1 (c_X10_isName l D cy ad ha hw _) ok_X10_isName mw_1342 ⟨(by show 0 + 1 ≤ 40 + (gn + 1); omega), (by show 8 + (2 + 11) + 0 ≤ 2000 + 60 * (gn + 1); omega)⟩ ⟨rfl, rfl⟩ rfl rfl (Nat.le_of_ble_eq_true rfl) ⟨Nat.zero_le _, Nat.zero_le _⟩ hP hS dX10_part0_53 (fun r4 s4 hw H locs hP hS => ?_)
        obtain ⟨z4, hw⟩ := hw
        refine lv_if_eq (tgt := 84) hx hb dX10_part0_56 (by decide) (fun c5 => ?_) (fun c5 => ?_)
        · replace hw := hw.1 c5
          exact B_X10_part0_84 E ha hR0 hR1 hR2 hR3 hR4 hR5 hw hP hS (lv_sub hl [0, 1] rfl)
        · replace hw := hw.2 c5
          refine lv_aload_n hx hb dX10_part0_59 rfl (lv_at hl 0 rfl) ?_
          refine lv_iconst (v := 1) hx hb dX10_part0_60 (by decide) ?_
          refine lv_aload_n hx hb dX10_part0_61 rfl (lv_at hl 0 rfl) ?_
          refine fX10_22 E hP mw_968 dX10_part0_62 ?_
          refine g_cVv (As := [.int 1, .int (s4 0 0 7)]) (rest := []) E hl.1 (c_X10_step l D cy ad ha hw _) ok_X10_step mw_1339 ⟨(by show 0 + 1 ≤ 40 + (gn + 1); omega), (by show 8 + (3 + 11) + 0 ≤ 2000 + 60 * (gn + 1); omega)⟩ ⟨rfl, rfl⟩ rM0 rfl rfl rfl rfl rfl (Nat.le_of_ble_eq_true rfl) ⟨Nat.zero_le _, Nat.zero_le _⟩ hP hS dX10_part0_65 (fun s6 hw H locs hP hS => ?_)
          refine lv_aload_n hx hb dX10_part0_68 rfl (lv_at hl 0 rfl) ?_
          refine lv_dup hx hb dX10_part0_69 rfl ?_
          refine fX10_27 E hP mw_973 dX10_part0_70 ?_
          refine lv_iconst (v := 1) hx hb dX10_part0_73 (by decide) ?_
          refine lv_iadd hx hb dX10_part0_74 ?_
          refine uX10_27 E ha mw_973 dX10_part0_75 hP hS (fun s7 es7 H locs hP hS => ?_)
          replace hw := hw s7 es7
          refine lv_aload_n hx hb dX10_part0_78 rfl (lv_at hl 0 rfl) ?_
          refine g_cVv (As := []) (rest := []) E hl.1 (c_X10_nextToken l D cy ad ha hw _) ok_X10_nextToken mw_1299 ⟨(by show 2 + 1 ≤ 40 + (gn + 1); omega), (by show 8 + (3 + 11) + 46 ≤ 2000 + 60 * (gn + 1); omega)⟩ ⟨rfl, rfl⟩ rM0 rfl rfl rfl rfl rfl (Nat.le_of_ble_eq_true rfl) ⟨Nat.zero_le _, Nat.zero_le _⟩ hP hS dX10_part0_79 (fun s8 hw H locs hP hS => ?_)
          refine lv_iconst (v := 1) hx hb dX10_part0_82 (by decide) ?_
          exact g_zret E (Or.inr rfl) hw hP hS dX10_part0_83
  · replace hw := hw.2 c1
    refine lv_aload_n hx hb dX10_part0_8 rfl (lv_at hl 0 rfl) ?_
    refine lv_iconst (v := 0) hx hb dX10_part0_9 (by decide) ?_
    refine lv_aload_n hx hb dX10_part0_10 rfl (lv_at hl 0 rfl) ?_
    refine fX10_21 E hP mw_967 dX10_part0_11 ?_
    refine g_cVv (As := [.int 0, .int (σ 0 0 6)]) (rest := []) E hl.1 (c_X10_step l D cy ad ha hw _) ok_X10_step mw_1339 ⟨(by show 0 + 1 ≤ 40 + (gn + 1); omega), (by show 8 + (3 + 11) + 0 ≤ 2000 + 60 * (gn + 1); omega)⟩ ⟨rfl, rfl⟩ rM0 rfl rfl rfl rfl rfl (Nat.le_of_ble_eq_true rfl) ⟨Nat.zero_le _, Nat.zero_le _⟩ hP hS dX10_part0_14 (fun s9 hw H locs hP hS => ?_)
    refine lv_aload_n hx hb dX10_part0_17 rfl (lv_at hl 0 rfl) ?_
    refine lv_dup hx hb dX10_part0_18 rfl ?_
    refine fX10_27 E hP mw_973 dX10_part0_19 ?_
    refine lv_iconst (v := 1) hx hb dX10_part0_22 (by decide) ?_
    refine lv_iadd hx hb dX10_part0_23 ?_
    refine uX10_27 E ha mw_973 dX10_part0_24 hP hS (fun s10 es10 H locs hP hS => ?_)
    replace hw := hw s10 es10
    refine lv_aload_n hx hb dX10_part0_27 rfl (lv_at hl 0 rfl) ?_
    refine g_cVv (As := []) (rest := []) E hl.1 (c_X10_nextToken l D cy ad ha hw _) ok_X10_nextToken mw_1299 ⟨(by show 2 + 1 ≤ 40 + (gn + 1); omega), (by show 8 + (3 + 11) + 46 ≤ 2000 + 60 * (gn + 1); omega)⟩ ⟨rfl, rfl⟩ rM0 rfl rfl rfl rfl rfl (Nat.le_of_ble_eq_true rfl) ⟨Nat.zero_le _, Nat.zero_le _⟩ hP hS dX10_part0_28 (fun s11 hw H locs hP hS => ?_)
    refine lv_iconst (v := 1) hx hb dX10_part0_31 (by decide) ?_
    exact g_zret E (Or.inr rfl) hw hP hS dX10_part0_32
noncomputable def G_ex : Nat → ((Int32 → St → Prop) → St → Int32 → Prop) × ((Int32 → St → Prop) → St → Int32 → Prop) × ((Int32 → St → Prop) → St → Int32 → Prop) × ((Int32 → St → Prop) → St → Int32 → Prop) × ((Int32 → St → Prop) → St → Int32 → Prop) × ((Int32 → St → Prop) → St → Int32 → Prop) := fun n => Nat.rec (motive := fun _ => ((Int32 → St → Prop) → St → Int32 → Prop) × ((Int32 → St → Prop) → St → Int32 → Prop) × ((Int32 → St → Prop) → St → Int32 → Prop) × ((Int32 → St → Prop) → St → Int32 → Prop) × ((Int32 → St → Prop) → St → Int32 → Prop) × ((Int32 → St → Prop) → St → Int32 → Prop)) ((fun _ _ _ => False), (fun _ _ _ => False), (fun _ _ _ => False), (fun _ _ _ => False), (fun _ _ _ => False), (fun _ _ _ => False)) (fun _ ih => (wb_X10_either (ih.1) (ih.2.1) (ih.2.2.1) (ih.2.2.2.1) (ih.2.2.2.2.1) (ih.2.2.2.2.2), wb_X10_both (ih.1) (ih.2.1) (ih.2.2.1) (ih.2.2.2.1) (ih.2.2.2.2.1) (ih.2.2.2.2.2), wb_X10_test (ih.1) (ih.2.1) (ih.2.2.1) (ih.2.2.2.1) (ih.2.2.2.2.1) (ih.2.2.2.2.2), wb_X10_sum (ih.1) (ih.2.1) (ih.2.2.1) (ih.2.2.2.1) (ih.2.2.2.2.1) (ih.2.2.2.2.2), wb_X10_term (ih.1) (ih.2.1) (ih.2.2.1) (ih.2.2.2.1) (ih.2.2.2.2.1) (ih.2.2.2.2.2), wb_X10_part0 (ih.1) (ih.2.1) (ih.2.2.1) (ih.2.2.2.1) (ih.2.2.2.2.1) (ih.2.2.2.2.2))) n
theorem GM_ex (l : Launch) (D : va_G) (cy : Nat → ClassId) (ad : Nat → Nat → Nat) (ha : Apart regsM ad) : ∀ n : Nat, (∀ (post : Int32 → St → Prop) (σ : St) (x1 : Int32), (G_ex n).1 post σ x1 → ∀ sz : Nat, MetI l yX10_either cX10_either 2 .boolean (rmG_ex n) [.ref (ad 0 0), .int x1] D cy (cellM cy ad) regsM ad σ sz (fun r u => (r = 0 ∨ r = 1) ∧ post r u)) ∧ (∀ (post : Int32 → St → Prop) (σ : St) (x1 : Int32), (G_ex n).2.1 post σ x1 → ∀ sz : Nat, MetI l yX10_both cX10_both 2 .boolean (rmG_ex n) [.ref (ad 0 0), .int x1] D cy (cellM cy ad) regsM ad σ sz (fun r u => (r = 0 ∨ r = 1) ∧ post r u)) ∧ (∀ (post : Int32 → St → Prop) (σ : St) (x1 : Int32), (G_ex n).2.2.1 post σ x1 → ∀ sz : Nat, MetI l yX10_test cX10_test 3 .boolean (rmG_ex n) [.ref (ad 0 0), .int x1] D cy (cellM cy ad) regsM ad σ sz (fun r u => (r = 0 ∨ r = 1) ∧ post r u)) ∧ (∀ (post : Int32 → St → Prop) (σ : St) (x1 : Int32), (G_ex n).2.2.2.1 post σ x1 → ∀ sz : Nat, MetI l yX10_sum cX10_sum 3 .boolean (rmG_ex n) [.ref (ad 0 0), .int x1] D cy (cellM cy ad) regsM ad σ sz (fun r u => (r = 0 ∨ r = 1) ∧ post r u)) ∧ (∀ (post : Int32 → St → Prop) (σ : St) (x1 : Int32), (G_ex n).2.2.2.2.1 post σ x1 → ∀ sz : Nat, MetI l yX10_term cX10_term 3 .boolean (rmG_ex n) [.ref (ad 0 0), .int x1] D cy (cellM cy ad) regsM ad σ sz (fun r u => (r = 0 ∨ r = 1) ∧ post r u)) ∧ (∀ (post : Int32 → St → Prop) (σ : St) (x1 : Int32), (G_ex n).2.2.2.2.2 post σ x1 → ∀ sz : Nat, MetI l yX10_part0 cX10_part0 2 .boolean (rmG_ex n) [.ref (ad 0 0), .int x1] D cy (cellM cy ad) regsM ad σ sz (fun r u => (r = 0 ∨ r = 1) ∧ post r u)) := by
  intro n
  induction n with
  | zero => exact ⟨(fun _ _ _ hw => False.elim hw), (fun _ _ _ hw => False.elim hw), (fun _ _ _ hw => False.elim hw), (fun _ _ _ hw => False.elim hw), (fun _ _ _ hw => False.elim hw), (fun _ _ _ hw => False.elim hw)⟩
  | succ n ih =>
    obtain ⟨ih0, ih1, ih2, ih3, ih4, ih5⟩ := ih
    exact ⟨(fun post σ x1 hw sz => Met_inI ok_X10_either.2.2.2.2.2 (Nat.le_of_ble_eq_true rfl) (fun p e s m below meth c ls E hP hl => B_X10_either_0 E ha ih0 ih1 ih2 ih3 ih4 ih5 hw hP va_S.rf hl)), (fun post σ x1 hw sz => Met_inI ok_X10_both.2.2.2.2.2 (Nat.le_of_ble_eq_true rfl) (fun p e s m below meth c ls E hP hl => B_X10_both_0 E ha ih0 ih1 ih2 ih3 ih4 ih5 hw hP va_S.rf hl)), (fun post σ x1 hw sz => Met_inI ok_X10_test.2.2.2.2.2 (Nat.le_of_ble_eq_true rfl) (fun p e s m below meth c ls E hP hl => B_X10_test_0 E ha ih0 ih1 ih2 ih3 ih4 ih5 hw hP va_S.rf hl)), (fun post σ x1 hw sz => Met_inI ok_X10_sum.2.2.2.2.2 (Nat.le_of_ble_eq_true rfl) (fun p e s m below meth c ls E hP hl => B_X10_sum_0 E ha ih0 ih1 ih2 ih3 ih4 ih5 hw hP va_S.rf hl)), (fun post σ x1 hw sz => Met_inI ok_X10_term.2.2.2.2.2 (Nat.le_of_ble_eq_true rfl) (fun p e s m below meth c ls E hP hl => B_X10_term_0 E ha ih0 ih1 ih2 ih3 ih4 ih5 hw hP va_S.rf hl)), (fun post σ x1 hw sz => Met_inI ok_X10_part0.2.2.2.2.2 (Nat.le_of_ble_eq_true rfl) (fun p e s m below meth c ls E hP hl => B_X10_part0_0 E ha ih0 ih1 ih2 ih3 ih4 ih5 hw hP va_S.rf hl))⟩
def w_X10_either (post : Int32 → St → Prop) (σ : St) (x1 : Int32) : Prop := (G_ex 120).1 post σ x1
abbrev rm_X10_either : Room := rmG_ex 120
theorem c_X10_either (l : Launch) (D : va_G) (cy : Nat → ClassId) (ad : Nat → Nat → Nat) (ha : Apart regsM ad) {post : Int32 → St → Prop} {σ : St} {x1 : Int32} (hw : w_X10_either post σ x1) (sz : Nat) : MetI l yX10_either cX10_either 2 .boolean rm_X10_either [.ref (ad 0 0), .int x1] D cy (cellM cy ad) regsM ad σ sz (fun r u => (r = 0 ∨ r = 1) ∧ post r u) := (GM_ex l D cy ad ha 120).1 post σ x1 hw sz
def w_X10_both (post : Int32 → St → Prop) (σ : St) (x1 : Int32) : Prop := (G_ex 120).2.1 post σ x1
abbrev rm_X10_both : Room := rmG_ex 120
theorem c_X10_both (l : Launch) (D : va_G) (cy : Nat → ClassId) (ad : Nat → Nat → Nat) (ha : Apart regsM ad) {post : Int32 → St → Prop} {σ : St} {x1 : Int32} (hw : w_X10_both post σ x1) (sz : Nat) : MetI l yX10_both cX10_both 2 .boolean rm_X10_both [.ref (ad 0 0), .int x1] D cy (cellM cy ad) regsM ad σ sz (fun r u => (r = 0 ∨ r = 1) ∧ post r u) := (GM_ex l D cy ad ha 120).2.1 post σ x1 hw sz
def w_X10_test (post : Int32 → St → Prop) (σ : St) (x1 : Int32) : Prop := (G_ex 120).2.2.1 post σ x1
abbrev rm_X10_test : Room := rmG_ex 120
theorem c_X10_test (l : Launch) (D : va_G) (cy : Nat → ClassId) (ad : Nat → Nat → Nat) (ha : Apart regsM ad) {post : Int32 → St → Prop} {σ : St} {x1 : Int32} (hw : w_X10_test post σ x1) (sz : Nat) : MetI l yX10_test cX10_test 3 .boolean rm_X10_test [.ref (ad 0 0), .int x1] D cy (cellM cy ad) regsM ad σ sz (fun r u => (r = 0 ∨ r = 1) ∧ post r u) := (GM_ex l D cy ad ha 120).2.2.1 post σ x1 hw sz
def w_X10_sum (post : Int32 → St → Prop) (σ : St) (x1 : Int32) : Prop := (G_ex 120).2.2.2.1 post σ x1
abbrev rm_X10_sum : Room := rmG_ex 120
theorem c_X10_sum (l : Launch) (D : va_G) (cy : Nat → ClassId) (ad : Nat → Nat → Nat) (ha : Apart regsM ad) {post : Int32 → St → Prop} {σ : St} {x1 : Int32} (hw : w_X10_sum post σ x1) (sz : Nat) : MetI l yX10_sum cX10_sum 3 .boolean rm_X10_sum [.ref (ad 0 0), .int x1] D cy (cellM cy ad) regsM ad σ sz (fun r u => (r = 0 ∨ r = 1) ∧ post r u) := (GM_ex l D cy ad ha 120).2.2.2.1 post σ x1 hw sz
def w_X10_term (post : Int32 → St → Prop) (σ : St) (x1 : Int32) : Prop := (G_ex 120).2.2.2.2.1 post σ x1
abbrev rm_X10_term : Room := rmG_ex 120
theorem c_X10_term (l : Launch) (D : va_G) (cy : Nat → ClassId) (ad : Nat → Nat → Nat) (ha : Apart regsM ad) {post : Int32 → St → Prop} {σ : St} {x1 : Int32} (hw : w_X10_term post σ x1) (sz : Nat) : MetI l yX10_term cX10_term 3 .boolean rm_X10_term [.ref (ad 0 0), .int x1] D cy (cellM cy ad) regsM ad σ sz (fun r u => (r = 0 ∨ r = 1) ∧ post r u) := (GM_ex l D cy ad ha 120).2.2.2.2.1 post σ x1 hw sz
def w_X10_part0 (post : Int32 → St → Prop) (σ : St) (x1 : Int32) : Prop := (G_ex 120).2.2.2.2.2 post σ x1
abbrev rm_X10_part0 : Room := rmG_ex 120
theorem c_X10_part0 (l : Launch) (D : va_G) (cy : Nat → ClassId) (ad : Nat → Nat → Nat) (ha : Apart regsM ad) {post : Int32 → St → Prop} {σ : St} {x1 : Int32} (hw : w_X10_part0 post σ x1) (sz : Nat) : MetI l yX10_part0 cX10_part0 2 .boolean rm_X10_part0 [.ref (ad 0 0), .int x1] D cy (cellM cy ad) regsM ad σ sz (fun r u => (r = 0 ∨ r = 1) ∧ post r u) := (GM_ex l D cy ad ha 120).2.2.2.2.2 post σ x1 hw sz
-- RoofWarModel.parse()I
theorem dX10_parse_0 : decode cX10_parse 0 = .ok (.aload_n 0, 1) := by decide +kernel
theorem dX10_parse_1 : decode cX10_parse 1 = .ok (.iconst 0, 1) := by decide +kernel
theorem dX10_parse_2 : decode cX10_parse 2 = .ok (.putfield 244, 3) := by decide +kernel
theorem dX10_parse_5 : decode cX10_parse 5 = .ok (.aload_n 0, 1) := by decide +kernel
theorem dX10_parse_6 : decode cX10_parse 6 = .ok (.iconst 3, 1) := by decide +kernel
theorem dX10_parse_7 : decode cX10_parse 7 = .ok (.putfield 247, 3) := by decide +kernel
theorem dX10_parse_10 : decode cX10_parse 10 = .ok (.aload_n 0, 1) := by decide +kernel
theorem dX10_parse_11 : decode cX10_parse 11 = .ok (.iconst 0, 1) := by decide +kernel
theorem dX10_parse_12 : decode cX10_parse 12 = .ok (.putfield 312, 3) := by decide +kernel
theorem dX10_parse_15 : decode cX10_parse 15 = .ok (.aload_n 0, 1) := by decide +kernel
theorem dX10_parse_16 : decode cX10_parse 16 = .ok (.iconst 0, 1) := by decide +kernel
theorem dX10_parse_17 : decode cX10_parse 17 = .ok (.putfield 309, 3) := by decide +kernel
theorem dX10_parse_20 : decode cX10_parse 20 = .ok (.aload_n 0, 1) := by decide +kernel
theorem dX10_parse_21 : decode cX10_parse 21 = .ok (.iconst 0, 1) := by decide +kernel
theorem dX10_parse_22 : decode cX10_parse 22 = .ok (.putfield 276, 3) := by decide +kernel
theorem dX10_parse_25 : decode cX10_parse 25 = .ok (.aload_n 0, 1) := by decide +kernel
theorem dX10_parse_26 : decode cX10_parse 26 = .ok (.iconst 0, 1) := by decide +kernel
theorem dX10_parse_27 : decode cX10_parse 27 = .ok (.putfield 303, 3) := by decide +kernel
theorem dX10_parse_30 : decode cX10_parse 30 = .ok (.aload_n 0, 1) := by decide +kernel
theorem dX10_parse_31 : decode cX10_parse 31 = .ok (.aload_n 0, 1) := by decide +kernel
theorem dX10_parse_32 : decode cX10_parse 32 = .ok (.getfield 7, 3) := by decide +kernel
theorem dX10_parse_35 : decode cX10_parse 35 = .ok (.iconst 1, 1) := by decide +kernel
theorem dX10_parse_36 : decode cX10_parse 36 = .ok (.iaload, 1) := by decide +kernel
theorem dX10_parse_37 : decode cX10_parse 37 = .ok (.bipush 14, 2) := by decide +kernel
theorem dX10_parse_39 : decode cX10_parse 39 = .ok (.if_icmp .ge 18, 3) := by decide +kernel
theorem dX10_parse_42 : decode cX10_parse 42 = .ok (.aload_n 0, 1) := by decide +kernel
theorem dX10_parse_43 : decode cX10_parse 43 = .ok (.aload_n 0, 1) := by decide +kernel
theorem dX10_parse_44 : decode cX10_parse 44 = .ok (.getfield 7, 3) := by decide +kernel
theorem dX10_parse_47 : decode cX10_parse 47 = .ok (.iconst 1, 1) := by decide +kernel
theorem dX10_parse_48 : decode cX10_parse 48 = .ok (.iaload, 1) := by decide +kernel
theorem dX10_parse_49 : decode cX10_parse 49 = .ok (.invokevirtual 318, 3) := by decide +kernel
theorem dX10_parse_52 : decode cX10_parse 52 = .ok (.iconst 4, 1) := by decide +kernel
theorem dX10_parse_53 : decode cX10_parse 53 = .ok (.iadd, 1) := by decide +kernel
theorem dX10_parse_54 : decode cX10_parse 54 = .ok (.goto 6, 3) := by decide +kernel
theorem dX10_parse_57 : decode cX10_parse 57 = .ok (.sipush 2882, 3) := by decide +kernel
theorem dX10_parse_60 : decode cX10_parse 60 = .ok (.putfield 273, 3) := by decide +kernel
theorem dX10_parse_63 : decode cX10_parse 63 = .ok (.aload_n 0, 1) := by decide +kernel
theorem dX10_parse_64 : decode cX10_parse 64 = .ok (.invokevirtual 285, 3) := by decide +kernel
theorem dX10_parse_67 : decode cX10_parse 67 = .ok (.aload_n 0, 1) := by decide +kernel
theorem dX10_parse_68 : decode cX10_parse 68 = .ok (.invokevirtual 321, 3) := by decide +kernel
theorem dX10_parse_71 : decode cX10_parse 71 = .ok (.istore_n 1, 1) := by decide +kernel
theorem dX10_parse_72 : decode cX10_parse 72 = .ok (.iload_n 1, 1) := by decide +kernel
theorem dX10_parse_73 : decode cX10_parse 73 = .ok (.ifCond .lt 7, 3) := by decide +kernel
theorem dX10_parse_76 : decode cX10_parse 76 = .ok (.iconst 1, 1) := by decide +kernel
theorem dX10_parse_77 : decode cX10_parse 77 = .ok (.goto 4, 3) := by decide +kernel
theorem dX10_parse_80 : decode cX10_parse 80 = .ok (.iconst 0, 1) := by decide +kernel
theorem dX10_parse_81 : decode cX10_parse 81 = .ok (.istore_n 2, 1) := by decide +kernel
theorem dX10_parse_82 : decode cX10_parse 82 = .ok (.iload_n 2, 1) := by decide +kernel
theorem dX10_parse_83 : decode cX10_parse 83 = .ok (.ifCond .eq 28, 3) := by decide +kernel
theorem dX10_parse_86 : decode cX10_parse 86 = .ok (.aload_n 0, 1) := by decide +kernel
theorem dX10_parse_87 : decode cX10_parse 87 = .ok (.invokevirtual 285, 3) := by decide +kernel
theorem dX10_parse_90 : decode cX10_parse 90 = .ok (.aload_n 0, 1) := by decide +kernel
theorem dX10_parse_91 : decode cX10_parse 91 = .ok (.iload_n 1, 1) := by decide +kernel
theorem dX10_parse_92 : decode cX10_parse 92 = .ok (.invokevirtual 315, 3) := by decide +kernel
theorem dX10_parse_95 : decode cX10_parse 95 = .ok (.ifCond .eq 14, 3) := by decide +kernel
theorem dX10_parse_98 : decode cX10_parse 98 = .ok (.aload_n 0, 1) := by decide +kernel
theorem dX10_parse_99 : decode cX10_parse 99 = .ok (.getfield 247, 3) := by decide +kernel
theorem dX10_parse_102 : decode cX10_parse 102 = .ok (.ifCond .ne 7, 3) := by decide +kernel
theorem dX10_parse_105 : decode cX10_parse 105 = .ok (.iconst 1, 1) := by decide +kernel
theorem dX10_parse_106 : decode cX10_parse 106 = .ok (.goto 4, 3) := by decide +kernel
theorem dX10_parse_109 : decode cX10_parse 109 = .ok (.iconst 0, 1) := by decide +kernel
theorem dX10_parse_110 : decode cX10_parse 110 = .ok (.istore_n 2, 1) := by decide +kernel
theorem dX10_parse_111 : decode cX10_parse 111 = .ok (.aload_n 0, 1) := by decide +kernel
theorem dX10_parse_112 : decode cX10_parse 112 = .ok (.iconst 0, 1) := by decide +kernel
theorem dX10_parse_113 : decode cX10_parse 113 = .ok (.putfield 233, 3) := by decide +kernel
theorem dX10_parse_116 : decode cX10_parse 116 = .ok (.iload_n 2, 1) := by decide +kernel
theorem dX10_parse_117 : decode cX10_parse 117 = .ok (.ifCond .eq 7, 3) := by decide +kernel
theorem dX10_parse_120 : decode cX10_parse 120 = .ok (.iload_n 1, 1) := by decide +kernel
theorem dX10_parse_121 : decode cX10_parse 121 = .ok (.goto 4, 3) := by decide +kernel
theorem dX10_parse_124 : decode cX10_parse 124 = .ok (.iconst (-1), 1) := by decide +kernel
theorem dX10_parse_125 : decode cX10_parse 125 = .ok (.ireturn, 1) := by decide +kernel
theorem ok_X10_parse : okV yX10_parse cX10_parse 3 (some .int) 0 := ⟨mw_1297, mw_55, mw_83, mw_1298, by decide +kernel, by decide +kernel⟩
abbrev rm_X10_parse : Room := { frames := 161, cells := 0, slots := 0, locals := 9221 }
def b_X10_parse_111 (post : Int32 → St → Prop) (σ : St) (x1 : Int32) (x2 : Int32) : Prop := ∀ s1 : St, s1 = wr σ 0 0 2 0 → (((x2 = 0 → (post ((-1)) s1)) ∧ (¬ x2 = 0 → (post x1 s1))))
theorem B_X10_parse_111 (E : EnvW p s m args meth c D cy regsM ad "RoofWarModel" cX10_parse 3 (some .int)) (ha : Apart regsM ad) {post : Int32 → St → Prop} {σ : St} {x1 : Int32} {x2 : Int32} (hw : b_X10_parse_111 post σ x1 x2) {H : Heap} {locs : List Loc} {ls : Array Slot} (hP : va_P D CLS (wM cy ad σ) H) (hS : va_S (AM ad s.heap.size) s.heap H locs) (hl : lv_has ls 3 [(0, .ref (ad 0 0)), (1, .int x1), (2, .int x2)]) : W p l e rm_X10_parse s m args below meth c H locs 0 0 (MQ below (QI D cy (cellM cy ad) regsM ad s.heap.size post) args s 0 0 (AM ad s.heap.size)) (F0 m 111 ls []) := by
  obtain ⟨hx, hb, -⟩ := id E
  unfold b_X10_parse_111 at hw
  refine lv_aload_n hx hb dX10_parse_111 rfl (lv_at hl 0 rfl) ?_
  refine lv_iconst (v := 0) hx hb dX10_parse_112 (by decide) ?_
  refine uX10_17 E ha mw_963 dX10_parse_113 hP hS (fun s1 es1 H locs hP hS => ?_)
  replace hw := hw s1 es1
  refine lv_iload_n hx hb dX10_parse_116 rfl (lv_at hl 2 rfl) ?_
  refine lv_if_eq (tgt := 124) hx hb dX10_parse_117 (by decide) (fun c2 => ?_) (fun c2 => ?_)
  · replace hw := hw.1 c2
    refine lv_iconst (v := -1) hx hb dX10_parse_124 (by decide) ?_
    exact g_iret E hw hP hS dX10_parse_125
  · replace hw := hw.2 c2
    refine lv_iload_n hx hb dX10_parse_120 rfl (lv_at hl 1 rfl) ?_
    refine lv_goto (tgt := 125) hx hb dX10_parse_121 (by decide) ?_
    exact g_iret E hw hP hS dX10_parse_125
def b_X10_parse_110 (post : Int32 → St → Prop) (σ : St) (y0 : Int32) (x1 : Int32) : Prop := b_X10_parse_111 post σ x1 y0
theorem B_X10_parse_110 (E : EnvW p s m args meth c D cy regsM ad "RoofWarModel" cX10_parse 3 (some .int)) (ha : Apart regsM ad) {post : Int32 → St → Prop} {σ : St} {y0 : Int32} {x1 : Int32} (hw : b_X10_parse_110 post σ y0 x1) {H : Heap} {locs : List Loc} {ls : Array Slot} (hP : va_P D CLS (wM cy ad σ) H) (hS : va_S (AM ad s.heap.size) s.heap H locs) (hl : lv_has ls 3 [(0, .ref (ad 0 0)), (1, .int x1)]) : W p l e rm_X10_parse s m args below meth c H locs 0 0 (MQ below (QI D cy (cellM cy ad) regsM ad s.heap.size post) args s 0 0 (AM ad s.heap.size)) (F0 m 110 ls [.int y0]) := by
  obtain ⟨hx, hb, -⟩ := id E
  unfold b_X10_parse_110 at hw
  refine lv_istore_n (lv' := [(2, .int y0), (0, .ref (ad 0 0)), (1, .int x1)]) hx hb dX10_parse_110 rfl hl (by decide) rfl (fun ls hl => ?_)
  exact B_X10_parse_111 E ha hw hP hS (lv_sub hl [1, 2, 0] rfl)
def b_X10_parse_109 (post : Int32 → St → Prop) (σ : St) (x1 : Int32) : Prop := b_X10_parse_110 post σ (0 : Int32) x1
theorem B_X10_parse_109 (E : EnvW p s m args meth c D cy regsM ad "RoofWarModel" cX10_parse 3 (some .int)) (ha : Apart regsM ad) {post : Int32 → St → Prop} {σ : St} {x1 : Int32} (hw : b_X10_parse_109 post σ x1) {H : Heap} {locs : List Loc} {ls : Array Slot} (hP : va_P D CLS (wM cy ad σ) H) (hS : va_S (AM ad s.heap.size) s.heap H locs) (hl : lv_has ls 3 [(0, .ref (ad 0 0)), (1, .int x1)]) : W p l e rm_X10_parse s m args below meth c H locs 0 0 (MQ below (QI D cy (cellM cy ad) regsM ad s.heap.size post) args s 0 0 (AM ad s.heap.size)) (F0 m 109 ls []) := by
  obtain ⟨hx, hb, -⟩ := id E
  unfold b_X10_parse_109 at hw
  refine lv_iconst (v := 0) hx hb dX10_parse_109 (by decide) ?_
  exact B_X10_parse_110 E ha hw hP hS (lv_sub hl [0, 1] rfl)
def b_X10_parse_81 (post : Int32 → St → Prop) (σ : St) (y0 : Int32) (x1 : Int32) : Prop := ((y0 = 0 → (b_X10_parse_111 post σ x1 y0)) ∧ (¬ y0 = 0 → (w_X10_nextToken (fun s2 => w_X10_either (fun r3 s3 => ((r3 = 0 → (b_X10_parse_109 post s3 x1)) ∧ (¬ r3 = 0 → (((¬ (s3 0 0 5) = 0 → (b_X10_parse_109 post s3 x1)) ∧ ((s3 0 0 5) = 0 → (b_X10_parse_110 post s3 (1 : Int32) x1))))))) s2 x1) σ)))
theorem B_X10_parse_81 (E : EnvW p s m args meth c D cy regsM ad "RoofWarModel" cX10_parse 3 (some .int)) (ha : Apart regsM ad) {post : Int32 → St → Prop} {σ : St} {y0 : Int32} {x1 : Int32} (hw : b_X10_parse_81 post σ y0 x1) {H : Heap} {locs : List Loc} {ls : Array Slot} (hP : va_P D CLS (wM cy ad σ) H) (hS : va_S (AM ad s.heap.size) s.heap H locs) (hl : lv_has ls 3 [(0, .ref (ad 0 0)), (1, .int x1)]) : W p l e rm_X10_parse s m args below meth c H locs 0 0 (MQ below (QI D cy (cellM cy ad) regsM ad s.heap.size post) args s 0 0 (AM ad s.heap.size)) (F0 m 81 ls [.int y0]) := by
  obtain ⟨hx, hb, -⟩ := id E
  unfold b_X10_parse_81 at hw
  refine lv_istore_n (lv' := [(2, .int y0), (0, .ref (ad 0 0)), (1, .int x1)]) hx hb dX10_parse_81 rfl hl (by decide) rfl (fun ls hl => ?_)
  refine lv_iload_n hx hb dX10_parse_82 rfl (lv_at hl 0 rfl) ?_
  refine lv_if_eq (tgt := 111) hx hb dX10_parse_83 (by decide) (fun c1 => ?_) (fun c1 => ?_)
  · replace hw := hw.1 c1
    exact B_X10_parse_111 E ha hw hP hS (lv_sub hl [1, 2, 0] rfl)
  · replace hw := hw.2 c1
    refine lv_aload_n hx hb dX10_parse_86 rfl (lv_at hl 1 rfl) ?_
    refine g_cVv (As := []) (rest := []) E hl.1 (c_X10_nextToken l D cy ad ha hw _) ok_X10_nextToken mw_1299 ⟨(Nat.le_of_ble_eq_true rfl), (Nat.le_of_ble_eq_true rfl)⟩ ⟨rfl, rfl⟩ rM0 rfl rfl rfl rfl rfl (Nat.le_of_ble_eq_true rfl) ⟨Nat.zero_le _, Nat.zero_le _⟩ hP hS dX10_parse_87 (fun s2 hw H locs hP hS => ?_)
    refine lv_aload_n hx hb dX10_parse_90 rfl (lv_at hl 1 rfl) ?_
    refine lv_iload_n hx hb dX10_parse_91 rfl (lv_at hl 2 rfl) ?_
    refine g_cVi (As := [.int x1]) (rest := []) E hl.1 (c_X10_either l D cy ad ha hw _) ok_X10_either mw_1321 ⟨(Nat.le_of_ble_eq_true rfl), (Nat.le_of_ble_eq_true rfl)⟩ ⟨rfl, rfl⟩ rM0 rfl rfl rfl rfl rfl (Nat.le_of_ble_eq_true rfl) ⟨Nat.zero_le _, Nat.zero_le _⟩ hP hS dX10_parse_92 (fun r3 s3 hw H locs hP hS => ?_)
    obtain ⟨z3, hw⟩ := hw
    refine lv_if_eq (tgt := 109) hx hb dX10_parse_95 (by decide) (fun c4 => ?_) (fun c4 => ?_)
    · replace hw := hw.1 c4
      exact B_X10_parse_109 E ha hw hP hS (lv_sub hl [1, 2] rfl)
    · replace hw := hw.2 c4
      refine lv_aload_n hx hb dX10_parse_98 rfl (lv_at hl 1 rfl) ?_
      refine fX10_20 E hP mw_966 dX10_parse_99 ?_
      refine lv_if_ne (tgt := 109) hx hb dX10_parse_102 (by decide) (fun c5 => ?_) (fun c5 => ?_)
      · replace hw := hw.1 c5
        exact B_X10_parse_109 E ha hw hP hS (lv_sub hl [1, 2] rfl)
      · replace hw := hw.2 c5
        refine lv_iconst (v := 1) hx hb dX10_parse_105 (by decide) ?_
        refine lv_goto (tgt := 110) hx hb dX10_parse_106 (by decide) ?_
        exact B_X10_parse_110 E ha hw hP hS (lv_sub hl [1, 2] rfl)
def b_X10_parse_60 (post : Int32 → St → Prop) (σ : St) (y0 : Int32) : Prop := ∀ s1 : St, s1 = wr σ 0 0 11 y0 → (w_X10_nextToken (fun s2 => w_X10_key (fun r3 s3 => ((r3 < 0 → (b_X10_parse_81 post s3 (0 : Int32) r3)) ∧ (¬ r3 < 0 → (b_X10_parse_81 post s3 (1 : Int32) r3)))) s2) s1)
theorem B_X10_parse_60 (E : EnvW p s m args meth c D cy regsM ad "RoofWarModel" cX10_parse 3 (some .int)) (ha : Apart regsM ad) {post : Int32 → St → Prop} {σ : St} {y0 : Int32} (hw : b_X10_parse_60 post σ y0) {H : Heap} {locs : List Loc} {ls : Array Slot} (hP : va_P D CLS (wM cy ad σ) H) (hS : va_S (AM ad s.heap.size) s.heap H locs) (hl : lv_has ls 3 [(0, .ref (ad 0 0))]) : W p l e rm_X10_parse s m args below meth c H locs 0 0 (MQ below (QI D cy (cellM cy ad) regsM ad s.heap.size post) args s 0 0 (AM ad s.heap.size)) (F0 m 60 ls [.int y0, .ref (ad 0 0)]) := by
  obtain ⟨hx, hb, -⟩ := id E
  unfold b_X10_parse_60 at hw
  refine uX10_26 E ha mw_972 dX10_parse_60 hP hS (fun s1 es1 H locs hP hS => ?_)
  replace hw := hw s1 es1
  refine lv_aload_n hx hb dX10_parse_63 rfl (lv_at hl 0 rfl) ?_
  refine g_cVv (As := []) (rest := []) E hl.1 (c_X10_nextToken l D cy ad ha hw _) ok_X10_nextToken mw_1299 ⟨(Nat.le_of_ble_eq_true rfl), (Nat.le_of_ble_eq_true rfl)⟩ ⟨rfl, rfl⟩ rM0 rfl rfl rfl rfl rfl (Nat.le_of_ble_eq_true rfl) ⟨Nat.zero_le _, Nat.zero_le _⟩ hP hS dX10_parse_64 (fun s2 hw H locs hP hS => ?_)
  refine lv_aload_n hx hb dX10_parse_67 rfl (lv_at hl 0 rfl) ?_
  refine g_cVi (As := []) (rest := []) E hl.1 (c_X10_key l D cy ad ha hw _) ok_X10_key mw_1312 ⟨(Nat.le_of_ble_eq_true rfl), (Nat.le_of_ble_eq_true rfl)⟩ ⟨rfl, rfl⟩ rM0 rfl rfl rfl rfl rfl (Nat.le_of_ble_eq_true rfl) ⟨Nat.zero_le _, Nat.zero_le _⟩ hP hS dX10_parse_68 (fun r3 s3 hw H locs hP hS => ?_)
  refine lv_istore_n (lv' := [(1, .int r3), (0, .ref (ad 0 0))]) hx hb dX10_parse_71 rfl hl (by decide) rfl (fun ls hl => ?_)
  refine lv_iload_n hx hb dX10_parse_72 rfl (lv_at hl 0 rfl) ?_
  refine lv_if_lt (tgt := 80) hx hb dX10_parse_73 (by decide) (fun c4 => ?_) (fun c4 => ?_)
  · replace hw := hw.1 c4
    refine lv_iconst (v := 0) hx hb dX10_parse_80 (by decide) ?_
    exact B_X10_parse_81 E ha hw hP hS (lv_sub hl [1, 0] rfl)
  · replace hw := hw.2 c4
    refine lv_iconst (v := 1) hx hb dX10_parse_76 (by decide) ?_
    refine lv_goto (tgt := 81) hx hb dX10_parse_77 (by decide) ?_
    exact B_X10_parse_81 E ha hw hP hS (lv_sub hl [1, 0] rfl)
def w_X10_parse (post : Int32 → St → Prop) (σ : St) : Prop := ∀ s1 : St, s1 = wr σ 0 0 4 0 → (∀ s2 : St, s2 = wr s1 0 0 5 3 → (∀ s3 : St, s3 = wr s2 0 0 8 0 → (∀ s4 : St, s4 = wr s3 0 0 9 0 → (∀ s5 : St, s5 = wr s4 0 0 10 0 → (∀ s6 : St, s6 = wr s5 0 0 12 0 → (vp_in (1 : Int32) 3082 ∧ (((14 ≤ (s6 1 0 (1 : Int32).toNatClampNeg) → (b_X10_parse_60 post s6 (2882 : Int32))) ∧ (¬ 14 ≤ (s6 1 0 (1 : Int32).toNatClampNeg) → (vp_in (1 : Int32) 3082 ∧ (w_X10_textAt (fun r10 s10 => b_X10_parse_60 post s10 (r10 + 4)) s6 (s6 1 0 (1 : Int32).toNatClampNeg))))))))))))
theorem B_X10_parse_0 (E : EnvW p s m args meth c D cy regsM ad "RoofWarModel" cX10_parse 3 (some .int)) (ha : Apart regsM ad) {post : Int32 → St → Prop} {σ : St} (hw : w_X10_parse post σ) {H : Heap} {locs : List Loc} {ls : Array Slot} (hP : va_P D CLS (wM cy ad σ) H) (hS : va_S (AM ad s.heap.size) s.heap H locs) (hl : lv_has ls 3 [(0, .ref (ad 0 0))]) : W p l e rm_X10_parse s m args below meth c H locs 0 0 (MQ below (QI D cy (cellM cy ad) regsM ad s.heap.size post) args s 0 0 (AM ad s.heap.size)) (F0 m 0 ls []) := by
  obtain ⟨hx, hb, -⟩ := id E
  unfold w_X10_parse at hw
  refine lv_aload_n hx hb dX10_parse_0 rfl (lv_at hl 0 rfl) ?_
  refine lv_iconst (v := 0) hx hb dX10_parse_1 (by decide) ?_
  refine uX10_19 E ha mw_965 dX10_parse_2 hP hS (fun s1 es1 H locs hP hS => ?_)
  replace hw := hw s1 es1
  refine lv_aload_n hx hb dX10_parse_5 rfl (lv_at hl 0 rfl) ?_
  refine lv_iconst (v := 3) hx hb dX10_parse_6 (by decide) ?_
  refine uX10_20 E ha mw_966 dX10_parse_7 hP hS (fun s2 es2 H locs hP hS => ?_)
  replace hw := hw s2 es2
  refine lv_aload_n hx hb dX10_parse_10 rfl (lv_at hl 0 rfl) ?_
  refine lv_iconst (v := 0) hx hb dX10_parse_11 (by decide) ?_
  refine uX10_23 E ha mw_969 dX10_parse_12 hP hS (fun s3 es3 H locs hP hS => ?_)
  replace hw := hw s3 es3
  refine lv_aload_n hx hb dX10_parse_15 rfl (lv_at hl 0 rfl) ?_
  refine lv_iconst (v := 0) hx hb dX10_parse_16 (by decide) ?_
  refine uX10_24 E ha mw_970 dX10_parse_17 hP hS (fun s4 es4 H locs hP hS => ?_)
  replace hw := hw s4 es4
  refine lv_aload_n hx hb dX10_parse_20 rfl (lv_at hl 0 rfl) ?_
  refine lv_iconst (v := 0) hx hb dX10_parse_21 (by decide) ?_
  refine uX10_25 E ha mw_971 dX10_parse_22 hP hS (fun s5 es5 H locs hP hS => ?_)
  replace hw := hw s5 es5
  refine lv_aload_n hx hb dX10_parse_25 rfl (lv_at hl 0 rfl) ?_
  refine lv_iconst (v := 0) hx hb dX10_parse_26 (by decide) ?_
  refine uX10_27 E ha mw_973 dX10_parse_27 hP hS (fun s6 es6 H locs hP hS => ?_)
  replace hw := hw s6 es6
  refine lv_aload_n hx hb dX10_parse_30 rfl (lv_at hl 0 rfl) ?_
  refine lv_aload_n hx hb dX10_parse_31 rfl (lv_at hl 0 rfl) ?_
  refine fX10_0 E hP mw_946 dX10_parse_32 ?_
  refine lv_iconst (v := 1) hx hb dX10_parse_35 (by decide) ?_
  obtain ⟨h7, hw⟩ := hw
  refine aM1 E hP h7 dX10_parse_36 ?_
  refine lv_bipush (v := 14) hx hb dX10_parse_37 (by decide) ?_
  refine lv_icmp_ge (tgt := 57) hx hb dX10_parse_39 (by decide) (fun c8 => ?_) (fun c8 => ?_)
  · replace hw := hw.1 c8
    refine lv_sipush (v := 2882) hx hb dX10_parse_57 (by decide) ?_
    exact B_X10_parse_60 E ha hw hP hS (lv_sub hl [0] rfl)
  · replace hw := hw.2 c8
    refine lv_aload_n hx hb dX10_parse_42 rfl (lv_at hl 0 rfl) ?_
    refine lv_aload_n hx hb dX10_parse_43 rfl (lv_at hl 0 rfl) ?_
    refine fX10_0 E hP mw_946 dX10_parse_44 ?_
    refine lv_iconst (v := 1) hx hb dX10_parse_47 (by decide) ?_
    obtain ⟨h9, hw⟩ := hw
    refine aM1 E hP h9 dX10_parse_48 ?_
    refine g_cVi (As := [.int (s6 1 0 (1 : Int32).toNatClampNeg)]) (rest := [.ref (ad 0 0)]) E hl.1 (c_X10_textAt l D cy ad ha hw _) ok_X10_textAt mw_1196 ⟨(Nat.le_of_ble_eq_true rfl), (Nat.le_of_ble_eq_true rfl)⟩ ⟨rfl, rfl⟩ rM0 rfl rfl rfl rfl rfl (Nat.le_of_ble_eq_true rfl) ⟨Nat.zero_le _, Nat.zero_le _⟩ hP hS dX10_parse_49 (fun r10 s10 hw H locs hP hS => ?_)
    refine lv_iconst (v := 4) hx hb dX10_parse_52 (by decide) ?_
    refine lv_iadd hx hb dX10_parse_53 ?_
    refine lv_goto (tgt := 60) hx hb dX10_parse_54 (by decide) ?_
    exact B_X10_parse_60 E ha hw hP hS (lv_sub hl [0] rfl)
theorem c_X10_parse (l : Launch) (D : va_G) (cy : Nat → ClassId) (ad : Nat → Nat → Nat) (ha : Apart regsM ad) {post : Int32 → St → Prop} {σ : St} (hw : w_X10_parse post σ) (sz : Nat) : MetI l yX10_parse cX10_parse 3 .int rm_X10_parse [.ref (ad 0 0)] D cy (cellM cy ad) regsM ad σ sz post :=
  Met_inI ok_X10_parse.2.2.2.2.2 (Nat.le_of_ble_eq_true rfl) (fun p e s m below meth c ls E hP hl => B_X10_parse_0 E ha hw hP va_S.rf hl)
-- RoofWarModel.text()I
theorem dX10_text_0 : decode cX10_text 0 = .ok (.aload_n 0, 1) := by decide +kernel
theorem dX10_text_1 : decode cX10_text 1 = .ok (.invokevirtual 324, 3) := by decide +kernel
theorem dX10_text_4 : decode cX10_text 4 = .ok (.istore_n 1, 1) := by decide +kernel
theorem dX10_text_5 : decode cX10_text 5 = .ok (.iload_n 1, 1) := by decide +kernel
theorem dX10_text_6 : decode cX10_text 6 = .ok (.ifCond .ge 11, 3) := by decide +kernel
theorem dX10_text_9 : decode cX10_text 9 = .ok (.bipush (-100), 2) := by decide +kernel
theorem dX10_text_11 : decode cX10_text 11 = .ok (.aload_n 0, 1) := by decide +kernel
theorem dX10_text_12 : decode cX10_text 12 = .ok (.getfield 250, 3) := by decide +kernel
theorem dX10_text_15 : decode cX10_text 15 = .ok (.isub, 1) := by decide +kernel
theorem dX10_text_16 : decode cX10_text 16 = .ok (.ireturn, 1) := by decide +kernel
theorem dX10_text_17 : decode cX10_text 17 = .ok (.aload_n 0, 1) := by decide +kernel
theorem dX10_text_18 : decode cX10_text 18 = .ok (.getfield 7, 3) := by decide +kernel
theorem dX10_text_21 : decode cX10_text 21 = .ok (.iconst 1, 1) := by decide +kernel
theorem dX10_text_22 : decode cX10_text 22 = .ok (.iaload, 1) := by decide +kernel
theorem dX10_text_23 : decode cX10_text 23 = .ok (.bipush 14, 2) := by decide +kernel
theorem dX10_text_25 : decode cX10_text 25 = .ok (.if_icmp .ne 6, 3) := by decide +kernel
theorem dX10_text_28 : decode cX10_text 28 = .ok (.ldc 102, 2) := by decide +kernel
theorem dX10_text_30 : decode cX10_text 30 = .ok (.ireturn, 1) := by decide +kernel
theorem dX10_text_31 : decode cX10_text 31 = .ok (.aload_n 0, 1) := by decide +kernel
theorem dX10_text_32 : decode cX10_text 32 = .ok (.aload_n 0, 1) := by decide +kernel
theorem dX10_text_33 : decode cX10_text 33 = .ok (.getfield 7, 3) := by decide +kernel
theorem dX10_text_36 : decode cX10_text 36 = .ok (.iconst 1, 1) := by decide +kernel
theorem dX10_text_37 : decode cX10_text 37 = .ok (.iaload, 1) := by decide +kernel
theorem dX10_text_38 : decode cX10_text 38 = .ok (.invokevirtual 318, 3) := by decide +kernel
theorem dX10_text_41 : decode cX10_text 41 = .ok (.istore_n 2, 1) := by decide +kernel
theorem dX10_text_42 : decode cX10_text 42 = .ok (.aload_n 0, 1) := by decide +kernel
theorem dX10_text_43 : decode cX10_text 43 = .ok (.getfield 7, 3) := by decide +kernel
theorem dX10_text_46 : decode cX10_text 46 = .ok (.iload_n 2, 1) := by decide +kernel
theorem dX10_text_47 : decode cX10_text 47 = .ok (.iconst 0, 1) := by decide +kernel
theorem dX10_text_48 : decode cX10_text 48 = .ok (.iadd, 1) := by decide +kernel
theorem dX10_text_49 : decode cX10_text 49 = .ok (.iload_n 1, 1) := by decide +kernel
theorem dX10_text_50 : decode cX10_text 50 = .ok (.iastore, 1) := by decide +kernel
theorem dX10_text_51 : decode cX10_text 51 = .ok (.aload_n 0, 1) := by decide +kernel
theorem dX10_text_52 : decode cX10_text 52 = .ok (.getfield 7, 3) := by decide +kernel
theorem dX10_text_55 : decode cX10_text 55 = .ok (.iload_n 2, 1) := by decide +kernel
theorem dX10_text_56 : decode cX10_text 56 = .ok (.iconst 1, 1) := by decide +kernel
theorem dX10_text_57 : decode cX10_text 57 = .ok (.iadd, 1) := by decide +kernel
theorem dX10_text_58 : decode cX10_text 58 = .ok (.aload_n 0, 1) := by decide +kernel
theorem dX10_text_59 : decode cX10_text 59 = .ok (.getfield 303, 3) := by decide +kernel
theorem dX10_text_62 : decode cX10_text 62 = .ok (.iastore, 1) := by decide +kernel
theorem dX10_text_63 : decode cX10_text 63 = .ok (.aload_n 0, 1) := by decide +kernel
theorem dX10_text_64 : decode cX10_text 64 = .ok (.getfield 7, 3) := by decide +kernel
theorem dX10_text_67 : decode cX10_text 67 = .ok (.iload_n 2, 1) := by decide +kernel
theorem dX10_text_68 : decode cX10_text 68 = .ok (.iconst 2, 1) := by decide +kernel
theorem dX10_text_69 : decode cX10_text 69 = .ok (.iadd, 1) := by decide +kernel
theorem dX10_text_70 : decode cX10_text 70 = .ok (.aload_n 0, 1) := by decide +kernel
theorem dX10_text_71 : decode cX10_text 71 = .ok (.getfield 276, 3) := by decide +kernel
theorem dX10_text_74 : decode cX10_text 74 = .ok (.iastore, 1) := by decide +kernel
theorem dX10_text_75 : decode cX10_text 75 = .ok (.aload_n 0, 1) := by decide +kernel
theorem dX10_text_76 : decode cX10_text 76 = .ok (.getfield 7, 3) := by decide +kernel
theorem dX10_text_79 : decode cX10_text 79 = .ok (.iconst 1, 1) := by decide +kernel
theorem dX10_text_80 : decode cX10_text 80 = .ok (.dup2, 1) := by decide +kernel
theorem dX10_text_81 : decode cX10_text 81 = .ok (.iaload, 1) := by decide +kernel
theorem dX10_text_82 : decode cX10_text 82 = .ok (.iconst 1, 1) := by decide +kernel
theorem dX10_text_83 : decode cX10_text 83 = .ok (.iadd, 1) := by decide +kernel
theorem dX10_text_84 : decode cX10_text 84 = .ok (.iastore, 1) := by decide +kernel
theorem dX10_text_85 : decode cX10_text 85 = .ok (.aload_n 0, 1) := by decide +kernel
theorem dX10_text_86 : decode cX10_text 86 = .ok (.getfield 7, 3) := by decide +kernel
theorem dX10_text_89 : decode cX10_text 89 = .ok (.iconst 1, 1) := by decide +kernel
theorem dX10_text_90 : decode cX10_text 90 = .ok (.iaload, 1) := by decide +kernel
theorem dX10_text_91 : decode cX10_text 91 = .ok (.iconst 1, 1) := by decide +kernel
theorem dX10_text_92 : decode cX10_text 92 = .ok (.isub, 1) := by decide +kernel
theorem dX10_text_93 : decode cX10_text 93 = .ok (.ireturn, 1) := by decide +kernel
theorem ok_X10_text : okV yX10_text cX10_text 3 (some .int) 0 := ⟨mw_1293, mw_1294, mw_83, mw_1295, by decide +kernel, by decide +kernel⟩
abbrev rm_X10_text : Room := { frames := 162, cells := 0, slots := 0, locals := 9243 }
def w_X10_text (post : Int32 → St → Prop) (σ : St) : Prop := w_X10_parse (fun r1 s1 => ((0 ≤ r1 → (vp_in (1 : Int32) 3082 ∧ (((¬ (s1 1 0 (1 : Int32).toNatClampNeg) = 14 → (vp_in (1 : Int32) 3082 ∧ (w_X10_textAt (fun r6 s6 => vp_in (r6 + 0) 3082 ∧ (∀ s8 : St, s8 = wr s6 1 0 (r6 + 0).toNatClampNeg r1 → (vp_in (r6 + 1) 3082 ∧ (∀ s10 : St, s10 = wr s8 1 0 (r6 + 1).toNatClampNeg (s8 0 0 12) → (vp_in (r6 + 2) 3082 ∧ (∀ s12 : St, s12 = wr s10 1 0 (r6 + 2).toNatClampNeg (s10 0 0 10) → (vp_in (1 : Int32) 3082 ∧ (vp_in (1 : Int32) 3082 ∧ (∀ s15 : St, s15 = wr s12 1 0 (1 : Int32).toNatClampNeg ((s12 1 0 (1 : Int32).toNatClampNeg) + 1) → (vp_in (1 : Int32) 3082 ∧ (post ((s15 1 0 (1 : Int32).toNatClampNeg) - 1) s15))))))))))) s1 (s1 1 0 (1 : Int32).toNatClampNeg)))) ∧ ((s1 1 0 (1 : Int32).toNatClampNeg) = 14 → (post ((-1000000003)) s1)))))) ∧ (¬ 0 ≤ r1 → (post (((-100)) - (s1 0 0 3)) s1)))) σ
theorem B_X10_text_0 (E : EnvW p s m args meth c D cy regsM ad "RoofWarModel" cX10_text 3 (some .int)) (ha : Apart regsM ad) {post : Int32 → St → Prop} {σ : St} (hw : w_X10_text post σ) {H : Heap} {locs : List Loc} {ls : Array Slot} (hP : va_P D CLS (wM cy ad σ) H) (hS : va_S (AM ad s.heap.size) s.heap H locs) (hl : lv_has ls 3 [(0, .ref (ad 0 0))]) : W p l e rm_X10_text s m args below meth c H locs 0 0 (MQ below (QI D cy (cellM cy ad) regsM ad s.heap.size post) args s 0 0 (AM ad s.heap.size)) (F0 m 0 ls []) := by
  obtain ⟨hx, hb, -⟩ := id E
  unfold w_X10_text at hw
  refine lv_aload_n hx hb dX10_text_0 rfl (lv_at hl 0 rfl) ?_
  refine g_cVi (As := []) (rest := []) E hl.1 (c_X10_parse l D cy ad ha hw _) ok_X10_parse mw_1296 ⟨(Nat.le_of_ble_eq_true rfl), (Nat.le_of_ble_eq_true rfl)⟩ ⟨rfl, rfl⟩ rM0 rfl rfl rfl rfl rfl (Nat.le_of_ble_eq_true rfl) ⟨Nat.zero_le _, Nat.zero_le _⟩ hP hS dX10_text_1 (fun r1 s1 hw H locs hP hS => ?_)
  refine lv_istore_n (lv' := [(1, .int r1), (0, .ref (ad 0 0))]) hx hb dX10_text_4 rfl hl (by decide) rfl (fun ls hl => ?_)
  refine lv_iload_n hx hb dX10_text_5 rfl (lv_at hl 0 rfl) ?_
  refine lv_if_ge (tgt := 17) hx hb dX10_text_6 (by decide) (fun c2 => ?_) (fun c2 => ?_)
  · replace hw := hw.1 c2
    refine lv_aload_n hx hb dX10_text_17 rfl (lv_at hl 1 rfl) ?_
    refine fX10_0 E hP mw_946 dX10_text_18 ?_
    refine lv_iconst (v := 1) hx hb dX10_text_21 (by decide) ?_
    obtain ⟨h3, hw⟩ := hw
    refine aM1 E hP h3 dX10_text_22 ?_
    refine lv_bipush (v := 14) hx hb dX10_text_23 (by decide) ?_
    refine lv_icmp_ne (tgt := 31) hx hb dX10_text_25 (by decide) (fun c4 => ?_) (fun c4 => ?_)
    · replace hw := hw.1 c4
      refine lv_aload_n hx hb dX10_text_31 rfl (lv_at hl 1 rfl) ?_
      refine lv_aload_n hx hb dX10_text_32 rfl (lv_at hl 1 rfl) ?_
      refine fX10_0 E hP mw_946 dX10_text_33 ?_
      refine lv_iconst (v := 1) hx hb dX10_text_36 (by decide) ?_
      obtain ⟨h5, hw⟩ := hw
      refine aM1 E hP h5 dX10_text_37 ?_
      refine g_cVi (As := [.int (s1 1 0 (1 : Int32).toNatClampNeg)]) (rest := []) E hl.1 (c_X10_textAt l D cy ad ha hw _) ok_X10_textAt mw_1196 ⟨(Nat.le_of_ble_eq_true rfl), (Nat.le_of_ble_eq_true rfl)⟩ ⟨rfl, rfl⟩ rM0 rfl rfl rfl rfl rfl (Nat.le_of_ble_eq_true rfl) ⟨Nat.zero_le _, Nat.zero_le _⟩ hP hS dX10_text_38 (fun r6 s6 hw H locs hP hS => ?_)
      refine lv_istore_n (lv' := [(2, .int r6), (1, .int r1), (0, .ref (ad 0 0))]) hx hb dX10_text_41 rfl hl (by decide) rfl (fun ls hl => ?_)
      refine lv_aload_n hx hb dX10_text_42 rfl (lv_at hl 2 rfl) ?_
      refine fX10_0 E hP mw_946 dX10_text_43 ?_
      refine lv_iload_n hx hb dX10_text_46 rfl (lv_at hl 0 rfl) ?_
      refine lv_iconst (v := 0) hx hb dX10_text_47 (by decide) ?_
      refine lv_iadd hx hb dX10_text_48 ?_
      refine lv_iload_n hx hb dX10_text_49 rfl (lv_at hl 1 rfl) ?_
      obtain ⟨h7, hw⟩ := hw
      refine tM1 E ha h7 dX10_text_50 hP hS (fun s8 es8 H locs hP hS => ?_)
      replace hw := hw s8 es8
      refine lv_aload_n hx hb dX10_text_51 rfl (lv_at hl 2 rfl) ?_
      refine fX10_0 E hP mw_946 dX10_text_52 ?_
      refine lv_iload_n hx hb dX10_text_55 rfl (lv_at hl 0 rfl) ?_
      refine lv_iconst (v := 1) hx hb dX10_text_56 (by decide) ?_
      refine lv_iadd hx hb dX10_text_57 ?_
      refine lv_aload_n hx hb dX10_text_58 rfl (lv_at hl 2 rfl) ?_
      refine fX10_27 E hP mw_973 dX10_text_59 ?_
      obtain ⟨h9, hw⟩ := hw
      refine tM1 E ha h9 dX10_text_62 hP hS (fun s10 es10 H locs hP hS => ?_)
      replace hw := hw s10 es10
      refine lv_aload_n hx hb dX10_text_63 rfl (lv_at hl 2 rfl) ?_
      refine fX10_0 E hP mw_946 dX10_text_64 ?_
      refine lv_iload_n hx hb dX10_text_67 rfl (lv_at hl 0 rfl) ?_
      refine lv_iconst (v := 2) hx hb dX10_text_68 (by decide) ?_
      refine lv_iadd hx hb dX10_text_69 ?_
      refine lv_aload_n hx hb dX10_text_70 rfl (lv_at hl 2 rfl) ?_
      refine fX10_25 E hP mw_971 dX10_text_71 ?_
      obtain ⟨h11, hw⟩ := hw
      refine tM1 E ha h11 dX10_text_74 hP hS (fun s12 es12 H locs hP hS => ?_)
      replace hw := hw s12 es12
      refine lv_aload_n hx hb dX10_text_75 rfl (lv_at hl 2 rfl) ?_
      refine fX10_0 E hP mw_946 dX10_text_76 ?_
      refine lv_iconst (v := 1) hx hb dX10_text_79 (by decide) ?_
      refine lv_dup2_11 hx hb dX10_text_80 rfl rfl ?_
      obtain ⟨h13, hw⟩ := hw
      refine aM1 E hP h13 dX10_text_81 ?_
      refine lv_iconst (v := 1) hx hb dX10_text_82 (by decide) ?_
      refine lv_iadd hx hb dX10_text_83 ?_
      obtain ⟨h14, hw⟩ := hw
      refine tM1 E ha h14 dX10_text_84 hP hS (fun s15 es15 H locs hP hS => ?_)
      replace hw := hw s15 es15
      refine lv_aload_n hx hb dX10_text_85 rfl (lv_at hl 2 rfl) ?_
      refine fX10_0 E hP mw_946 dX10_text_86 ?_
      refine lv_iconst (v := 1) hx hb dX10_text_89 (by decide) ?_
      obtain ⟨h16, hw⟩ := hw
      refine aM1 E hP h16 dX10_text_90 ?_
      refine lv_iconst (v := 1) hx hb dX10_text_91 (by decide) ?_
      refine lv_isub hx hb dX10_text_92 ?_
      exact g_iret E hw hP hS dX10_text_93
    · replace hw := hw.2 c4
      refine g_ldc (v := -1000000003) E mw_1071 dX10_text_28 ?_
      exact g_iret E hw hP hS dX10_text_30
  · replace hw := hw.2 c2
    refine lv_bipush (v := -100) hx hb dX10_text_9 (by decide) ?_
    refine lv_aload_n hx hb dX10_text_11 rfl (lv_at hl 1 rfl) ?_
    refine fX10_18 E hP mw_964 dX10_text_12 ?_
    refine lv_isub hx hb dX10_text_15 ?_
    exact g_iret E hw hP hS dX10_text_16
theorem c_X10_text (l : Launch) (D : va_G) (cy : Nat → ClassId) (ad : Nat → Nat → Nat) (ha : Apart regsM ad) {post : Int32 → St → Prop} {σ : St} (hw : w_X10_text post σ) (sz : Nat) : MetI l yX10_text cX10_text 3 .int rm_X10_text [.ref (ad 0 0)] D cy (cellM cy ad) regsM ad σ sz post :=
  Met_inI ok_X10_text.2.2.2.2.2 (Nat.le_of_ble_eq_true rfl) (fun p e s m below meth c ls E hP hl => B_X10_text_0 E ha hw hP va_S.rf hl)
end WalkM3
