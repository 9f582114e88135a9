theorem dX10_init_0 : decode cX10_init 0 = .ok (.aload_n 0, 1) := by decide +kernel
theorem dX10_init_1 : decode cX10_init 1 = .ok (.invokespecial 1, 3) := by decide +kernel
theorem dX10_init_4 : decode cX10_init 4 = .ok (.aload_n 0, 1) := by decide +kernel
theorem dX10_init_5 : decode cX10_init 5 = .ok (.sipush 3082, 3) := by decide +kernel
theorem dX10_init_8 : decode cX10_init 8 = .ok (.newarray .int, 2) := by decide +kernel
theorem dX10_init_10 : decode cX10_init 10 = .ok (.putfield 7, 3) := by decide +kernel
theorem dX10_init_13 : decode cX10_init 13 = .ok (.aload_n 0, 1) := by decide +kernel
theorem dX10_init_14 : decode cX10_init 14 = .ok (.sipush 3082, 3) := by decide +kernel
theorem dX10_init_17 : decode cX10_init 17 = .ok (.newarray .int, 2) := by decide +kernel
theorem dX10_init_19 : decode cX10_init 19 = .ok (.putfield 13, 3) := by decide +kernel
theorem dX10_init_22 : decode cX10_init 22 = .ok (.aload_n 0, 1) := by decide +kernel
theorem dX10_init_23 : decode cX10_init 23 = .ok (.sipush 3082, 3) := by decide +kernel
theorem dX10_init_26 : decode cX10_init 26 = .ok (.newarray .int, 2) := by decide +kernel
theorem dX10_init_28 : decode cX10_init 28 = .ok (.putfield 16, 3) := by decide +kernel
theorem dX10_init_31 : decode cX10_init 31 = .ok (.aload_n 0, 1) := by decide +kernel
theorem dX10_init_32 : decode cX10_init 32 = .ok (.iconst 4, 1) := by decide +kernel
theorem dX10_init_33 : decode cX10_init 33 = .ok (.newarray .int, 2) := by decide +kernel
theorem dX10_init_35 : decode cX10_init 35 = .ok (.putfield 19, 3) := by decide +kernel
theorem dX10_init_38 : decode cX10_init 38 = .ok (.aload_n 0, 1) := by decide +kernel
theorem dX10_init_39 : decode cX10_init 39 = .ok (.iconst 4, 1) := by decide +kernel
theorem dX10_init_40 : decode cX10_init 40 = .ok (.newarray .int, 2) := by decide +kernel
theorem dX10_init_42 : decode cX10_init 42 = .ok (.putfield 22, 3) := by decide +kernel
theorem dX10_init_45 : decode cX10_init 45 = .ok (.aload_n 0, 1) := by decide +kernel
theorem dX10_init_46 : decode cX10_init 46 = .ok (.bipush 96, 2) := by decide +kernel
theorem dX10_init_48 : decode cX10_init 48 = .ok (.newarray .int, 2) := by decide +kernel
theorem dX10_init_50 : decode cX10_init 50 = .ok (.putfield 25, 3) := by decide +kernel
theorem dX10_init_53 : decode cX10_init 53 = .ok (.aload_n 0, 1) := by decide +kernel
theorem dX10_init_54 : decode cX10_init 54 = .ok (.iconst 5, 1) := by decide +kernel
theorem dX10_init_55 : decode cX10_init 55 = .ok (.newarray .int, 2) := by decide +kernel
theorem dX10_init_57 : decode cX10_init 57 = .ok (.putfield 28, 3) := by decide +kernel
theorem dX10_init_60 : decode cX10_init 60 = .ok (.aload_n 0, 1) := by decide +kernel
theorem dX10_init_61 : decode cX10_init 61 = .ok (.iconst 5, 1) := by decide +kernel
theorem dX10_init_62 : decode cX10_init 62 = .ok (.newarray .int, 2) := by decide +kernel
theorem dX10_init_64 : decode cX10_init 64 = .ok (.putfield 31, 3) := by decide +kernel
theorem dX10_init_67 : decode cX10_init 67 = .ok (.aload_n 0, 1) := by decide +kernel
theorem dX10_init_68 : decode cX10_init 68 = .ok (.iconst 5, 1) := by decide +kernel
theorem dX10_init_69 : decode cX10_init 69 = .ok (.newarray .int, 2) := by decide +kernel
theorem dX10_init_71 : decode cX10_init 71 = .ok (.putfield 34, 3) := by decide +kernel
theorem dX10_init_74 : decode cX10_init 74 = .ok (.aload_n 0, 1) := by decide +kernel
theorem dX10_init_75 : decode cX10_init 75 = .ok (.iconst 5, 1) := by decide +kernel
theorem dX10_init_76 : decode cX10_init 76 = .ok (.newarray .int, 2) := by decide +kernel
theorem dX10_init_78 : decode cX10_init 78 = .ok (.putfield 37, 3) := by decide +kernel
theorem dX10_init_81 : decode cX10_init 81 = .ok (.aload_n 0, 1) := by decide +kernel
theorem dX10_init_82 : decode cX10_init 82 = .ok (.bipush 120, 2) := by decide +kernel
theorem dX10_init_84 : decode cX10_init 84 = .ok (.newarray .int, 2) := by decide +kernel
theorem dX10_init_86 : decode cX10_init 86 = .ok (.putfield 40, 3) := by decide +kernel
theorem dX10_init_89 : decode cX10_init 89 = .ok (.aload_n 0, 1) := by decide +kernel
theorem dX10_init_90 : decode cX10_init 90 = .ok (.bipush 6, 2) := by decide +kernel
theorem dX10_init_92 : decode cX10_init 92 = .ok (.newarray .int, 2) := by decide +kernel
theorem dX10_init_94 : decode cX10_init 94 = .ok (.putfield 43, 3) := by decide +kernel
theorem dX10_init_97 : decode cX10_init 97 = .ok (.aload_n 0, 1) := by decide +kernel
theorem dX10_init_98 : decode cX10_init 98 = .ok (.bipush 6, 2) := by decide +kernel
theorem dX10_init_100 : decode cX10_init 100 = .ok (.newarray .int, 2) := by decide +kernel
theorem dX10_init_102 : decode cX10_init 102 = .ok (.putfield 46, 3) := by decide +kernel
theorem dX10_init_105 : decode cX10_init 105 = .ok (.aload_n 0, 1) := by decide +kernel
theorem dX10_init_106 : decode cX10_init 106 = .ok (.bipush 82, 2) := by decide +kernel
theorem dX10_init_108 : decode cX10_init 108 = .ok (.newarray .int, 2) := by decide +kernel
theorem dX10_init_110 : decode cX10_init 110 = .ok (.putfield 49, 3) := by decide +kernel
theorem dX10_init_113 : decode cX10_init 113 = .ok (.aload_n 0, 1) := by decide +kernel
theorem dX10_init_114 : decode cX10_init 114 = .ok (.bipush 96, 2) := by decide +kernel
theorem dX10_init_116 : decode cX10_init 116 = .ok (.newarray .int, 2) := by decide +kernel
theorem dX10_init_118 : decode cX10_init 118 = .ok (.putfield 52, 3) := by decide +kernel
theorem dX10_init_121 : decode cX10_init 121 = .ok (.aload_n 0, 1) := by decide +kernel
theorem dX10_init_122 : decode cX10_init 122 = .ok (.sipush 128, 3) := by decide +kernel
theorem dX10_init_125 : decode cX10_init 125 = .ok (.newarray .int, 2) := by decide +kernel
theorem dX10_init_127 : decode cX10_init 127 = .ok (.putfield 55, 3) := by decide +kernel
theorem dX10_init_130 : decode cX10_init 130 = .ok (.aload_n 0, 1) := by decide +kernel
theorem dX10_init_131 : decode cX10_init 131 = .ok (.bipush 100, 2) := by decide +kernel
theorem dX10_init_133 : decode cX10_init 133 = .ok (.newarray .int, 2) := by decide +kernel
theorem dX10_init_135 : decode cX10_init 135 = .ok (.putfield 58, 3) := by decide +kernel
theorem dX10_init_138 : decode cX10_init 138 = .ok (.aload_n 0, 1) := by decide +kernel
theorem dX10_init_139 : decode cX10_init 139 = .ok (.bipush 24, 2) := by decide +kernel
theorem dX10_init_141 : decode cX10_init 141 = .ok (.newarray .int, 2) := by decide +kernel
theorem dX10_init_143 : decode cX10_init 143 = .ok (.putfield 61, 3) := by decide +kernel
theorem dX10_init_146 : decode cX10_init 146 = .ok (.aload_n 0, 1) := by decide +kernel
theorem dX10_init_147 : decode cX10_init 147 = .ok (.bipush 60, 2) := by decide +kernel
theorem dX10_init_149 : decode cX10_init 149 = .ok (.newarray .int, 2) := by decide +kernel
theorem dX10_init_151 : decode cX10_init 151 = .ok (.putfield 64, 3) := by decide +kernel
theorem dX10_init_154 : decode cX10_init 154 = .ok (.aload_n 0, 1) := by decide +kernel
theorem dX10_init_155 : decode cX10_init 155 = .ok (.bipush 60, 2) := by decide +kernel
theorem dX10_init_157 : decode cX10_init 157 = .ok (.newarray .int, 2) := by decide +kernel
theorem dX10_init_159 : decode cX10_init 159 = .ok (.putfield 67, 3) := by decide +kernel
theorem dX10_init_162 : decode cX10_init 162 = .ok (.aload_n 0, 1) := by decide +kernel
theorem dX10_init_163 : decode cX10_init 163 = .ok (.getfield 7, 3) := by decide +kernel
theorem dX10_init_166 : decode cX10_init 166 = .ok (.bipush 9, 2) := by decide +kernel
theorem dX10_init_168 : decode cX10_init 168 = .ok (.iconst 1, 1) := by decide +kernel
theorem dX10_init_169 : decode cX10_init 169 = .ok (.iastore, 1) := by decide +kernel
theorem dX10_init_170 : decode cX10_init 170 = .ok (.aload_n 0, 1) := by decide +kernel
theorem dX10_init_171 : decode cX10_init 171 = .ok (.getfield 7, 3) := by decide +kernel
theorem dX10_init_174 : decode cX10_init 174 = .ok (.iconst 3, 1) := by decide +kernel
theorem dX10_init_175 : decode cX10_init 175 = .ok (.bipush 12, 2) := by decide +kernel
theorem dX10_init_177 : decode cX10_init 177 = .ok (.iastore, 1) := by decide +kernel
theorem dX10_init_178 : decode cX10_init 178 = .ok (.aload_n 0, 1) := by decide +kernel
theorem dX10_init_179 : decode cX10_init 179 = .ok (.getfield 7, 3) := by decide +kernel
theorem dX10_init_182 : decode cX10_init 182 = .ok (.iconst 4, 1) := by decide +kernel
theorem dX10_init_183 : decode cX10_init 183 = .ok (.bipush 12, 2) := by decide +kernel
theorem dX10_init_185 : decode cX10_init 185 = .ok (.iastore, 1) := by decide +kernel
theorem dX10_init_186 : decode cX10_init 186 = .ok (.aload_n 0, 1) := by decide +kernel
theorem dX10_init_187 : decode cX10_init 187 = .ok (.getfield 7, 3) := by decide +kernel
theorem dX10_init_190 : decode cX10_init 190 = .ok (.iconst 5, 1) := by decide +kernel
theorem dX10_init_191 : decode cX10_init 191 = .ok (.bipush 40, 2) := by decide +kernel
theorem dX10_init_193 : decode cX10_init 193 = .ok (.iastore, 1) := by decide +kernel
theorem dX10_init_194 : decode cX10_init 194 = .ok (.iconst 0, 1) := by decide +kernel
theorem dX10_init_195 : decode cX10_init 195 = .ok (.istore_n 1, 1) := by decide +kernel
theorem dX10_init_196 : decode cX10_init 196 = .ok (.iload_n 1, 1) := by decide +kernel
theorem dX10_init_197 : decode cX10_init 197 = .ok (.bipush 12, 2) := by decide +kernel
theorem dX10_init_199 : decode cX10_init 199 = .ok (.if_icmp .ge 19, 3) := by decide +kernel
theorem dX10_init_202 : decode cX10_init 202 = .ok (.aload_n 0, 1) := by decide +kernel
theorem dX10_init_203 : decode cX10_init 203 = .ok (.getfield 7, 3) := by decide +kernel
theorem dX10_init_206 : decode cX10_init 206 = .ok (.bipush 58, 2) := by decide +kernel
theorem dX10_init_208 : decode cX10_init 208 = .ok (.iload_n 1, 1) := by decide +kernel
theorem dX10_init_209 : decode cX10_init 209 = .ok (.iadd, 1) := by decide +kernel
theorem dX10_init_210 : decode cX10_init 210 = .ok (.iconst 3, 1) := by decide +kernel
theorem dX10_init_211 : decode cX10_init 211 = .ok (.iastore, 1) := by decide +kernel
theorem dX10_init_212 : decode cX10_init 212 = .ok (.iinc 1 1, 3) := by decide +kernel
theorem dX10_init_215 : decode cX10_init 215 = .ok (.goto (-19), 3) := by decide +kernel
theorem dX10_init_218 : decode cX10_init 218 = .ok (.iconst 0, 1) := by decide +kernel
theorem dX10_init_219 : decode cX10_init 219 = .ok (.istore_n 1, 1) := by decide +kernel
theorem dX10_init_220 : decode cX10_init 220 = .ok (.iload_n 1, 1) := by decide +kernel
theorem dX10_init_221 : decode cX10_init 221 = .ok (.iconst 4, 1) := by decide +kernel
theorem dX10_init_222 : decode cX10_init 222 = .ok (.if_icmp .ge 16, 3) := by decide +kernel
theorem dX10_init_225 : decode cX10_init 225 = .ok (.aload_n 0, 1) := by decide +kernel
theorem dX10_init_226 : decode cX10_init 226 = .ok (.getfield 19, 3) := by decide +kernel
theorem dX10_init_229 : decode cX10_init 229 = .ok (.iload_n 1, 1) := by decide +kernel
theorem dX10_init_230 : decode cX10_init 230 = .ok (.iconst (-1), 1) := by decide +kernel
theorem dX10_init_231 : decode cX10_init 231 = .ok (.iastore, 1) := by decide +kernel
theorem dX10_init_232 : decode cX10_init 232 = .ok (.iinc 1 1, 3) := by decide +kernel
theorem dX10_init_235 : decode cX10_init 235 = .ok (.goto (-15), 3) := by decide +kernel
theorem dX10_init_238 : decode cX10_init 238 = .ok (.return_, 1) := by decide +kernel
theorem okd_X10_init : yX10_init.cls ≠ "java/lang/invoke/MethodHandle" ∧ yX10_init.cls ≠ "java/lang/invoke/VarHandle" ∧ (parseMethodDescriptor yX10_init.desc).map (fun d => d.parameters.length) = some 0 := by decide +kernel
abbrev rm_X10_init : Room := { frames := 1, cells := 20, slots := 10052, locals := 12 }
set_option maxHeartbeats 4000000 in
set_option maxRecDepth 100000 in
theorem sg_X10_init_10 {p : Program} {l : Launch} {e : Env} {s : State} {m : MethodId} {args : Array Value} {below : List Frame} {meth : Method} {c : Code} (dC : Nat → ClassId) (dI : Nat → Nat → Nat) {A : Nat → Prop} (h0 : Nat) (q1 : Nat) (q3 : Nat) (q5 : Nat) (q7 : Nat) (q9 : Nat) (q11 : Nat) (q13 : Nat) (q15 : Nat) (q17 : Nat) (q19 : Nat) (q21 : Nat) (q23 : Nat) (q25 : Nat) (q27 : Nat) (q29 : Nat) (q31 : Nat) (q33 : Nat) (q35 : Nat) (q37 : Nat) (q39 : Nat) (cA2 : ClassId) (hx : p.tables.exec = Jvm.exec) (hb : c.code = cX10_init) (hr : meth.sig.returnType = none) (hts : ∀ w ∈ WT, w.before args s = true) (hown : s.vm.findClass RX10 = some m.cls) (hml : c.maxLocals = 2) (hlocks : meth.locks = false) (hin : meth.name = "<init>") (hN : NK s) (hA : ∀ q : Nat, s.heap.size ≤ q → A q) {H : Heap} {locs : List Loc} {ls : Array Slot} (hK : va_K (dC, dI) CLS [(cA2, .int)] s) (hP : va_P (dC, dI) CLS [(h0, eO 9 [.ref q1, .ref q3, .ref q5, .int 0, .ref q7, .ref q9, .ref q11, .ref q13, .ref q15, .ref q17, .ref q19, .ref q21, .ref q23, .ref q25, .int 0, .ref q27, .ref q29, .int 0, .int 0, .int 0, .int 0, .int 0, .int 0, .int 0, .int 0, .int 0, .int 0, .int 0, .ref q31, .ref q33, .ref q35, .ref q37, .int 0, .ref q39]), (q1, eI cA2 3082 (upd (upd (upd (upd (upd (upd (upd (upd (upd (upd (upd (upd (upd (upd (upd (upd (fun _ => 0) 9 1) 3 12) 4 12) 5 40) 58 3) 59 3) 60 3) 61 3) 62 3) 63 3) 64 3) 65 3) 66 3) 67 3) 68 3) 69 3)), (q3, eI cA2 3082 (fun _ => 0)), (q5, eI cA2 3082 (fun _ => 0)), (q7, eI cA2 4 (upd (upd (upd (upd (fun _ => 0) 0 (-1)) 1 (-1)) 2 (-1)) 3 (-1))), (q9, eI cA2 4 (fun _ => 0)), (q11, eI cA2 96 (fun _ => 0)), (q13, eI cA2 5 (fun _ => 0)), (q15, eI cA2 5 (fun _ => 0)), (q17, eI cA2 5 (fun _ => 0)), (q19, eI cA2 5 (fun _ => 0)), (q21, eI cA2 120 (fun _ => 0)), (q23, eI cA2 6 (fun _ => 0)), (q25, eI cA2 6 (fun _ => 0)), (q27, eI cA2 82 (fun _ => 0)), (q29, eI cA2 96 (fun _ => 0)), (q31, eI cA2 128 (fun _ => 0)), (q33, eI cA2 100 (fun _ => 0)), (q35, eI cA2 24 (fun _ => 0)), (q37, eI cA2 60 (fun _ => 0)), (q39, eI cA2 60 (fun _ => 0))] H) (hD : va_D A [(h0, eO 9 [.ref q1, .ref q3, .ref q5, .int 0, .ref q7, .ref q9, .ref q11, .ref q13, .ref q15, .ref q17, .ref q19, .ref q21, .ref q23, .ref q25, .int 0, .ref q27, .ref q29, .int 0, .int 0, .int 0, .int 0, .int 0, .int 0, .int 0, .int 0, .int 0, .int 0, .int 0, .ref q31, .ref q33, .ref q35, .ref q37, .int 0, .ref q39]), (q1, eI cA2 3082 (upd (upd (upd (upd (upd (upd (upd (upd (upd (upd (upd (upd (upd (upd (upd (upd (fun _ => 0) 9 1) 3 12) 4 12) 5 40) 58 3) 59 3) 60 3) 61 3) 62 3) 63 3) 64 3) 65 3) 66 3) 67 3) 68 3) 69 3)), (q3, eI cA2 3082 (fun _ => 0)), (q5, eI cA2 3082 (fun _ => 0)), (q7, eI cA2 4 (upd (upd (upd (upd (fun _ => 0) 0 (-1)) 1 (-1)) 2 (-1)) 3 (-1))), (q9, eI cA2 4 (fun _ => 0)), (q11, eI cA2 96 (fun _ => 0)), (q13, eI cA2 5 (fun _ => 0)), (q15, eI cA2 5 (fun _ => 0)), (q17, eI cA2 5 (fun _ => 0)), (q19, eI cA2 5 (fun _ => 0)), (q21, eI cA2 120 (fun _ => 0)), (q23, eI cA2 6 (fun _ => 0)), (q25, eI cA2 6 (fun _ => 0)), (q27, eI cA2 82 (fun _ => 0)), (q29, eI cA2 96 (fun _ => 0)), (q31, eI cA2 128 (fun _ => 0)), (q33, eI cA2 100 (fun _ => 0)), (q35, eI cA2 24 (fun _ => 0)), (q37, eI cA2 60 (fun _ => 0)), (q39, eI cA2 60 (fun _ => 0))]) (hS : va_S A s.heap H locs) (hl : lv_has ls 2 [(1, .int 3), (0, .ref h0)]) : W p l e rm_X10_init s m args below meth c H locs 20 10052 (MQ below (va_Qv (fun _ : Unit => True) (fun _ t => ∃ (q1 : Nat) (q3 : Nat) (q5 : Nat) (q7 : Nat) (q9 : Nat) (q11 : Nat) (q13 : Nat) (q15 : Nat) (q17 : Nat) (q19 : Nat) (q21 : Nat) (q23 : Nat) (q25 : Nat) (q27 : Nat) (q29 : Nat) (q31 : Nat) (q33 : Nat) (q35 : Nat) (q37 : Nat) (q39 : Nat) (cA2 : ClassId), va_P (dC, dI) CLS [(h0, eO 9 [.ref q1, .ref q3, .ref q5, .int 0, .ref q7, .ref q9, .ref q11, .ref q13, .ref q15, .ref q17, .ref q19, .ref q21, .ref q23, .ref q25, .int 0, .ref q27, .ref q29, .int 0, .int 0, .int 0, .int 0, .int 0, .int 0, .int 0, .int 0, .int 0, .int 0, .int 0, .ref q31, .ref q33, .ref q35, .ref q37, .int 0, .ref q39]), (q1, eI cA2 3082 (upd (upd (upd (upd (upd (upd (upd (upd (upd (upd (upd (upd (upd (upd (upd (upd (fun _ => 0) 9 1) 3 12) 4 12) 5 40) 58 3) 59 3) 60 3) 61 3) 62 3) 63 3) 64 3) 65 3) 66 3) 67 3) 68 3) 69 3)), (q3, eI cA2 3082 (fun _ => 0)), (q5, eI cA2 3082 (fun _ => 0)), (q7, eI cA2 4 (upd (upd (upd (upd (fun _ => 0) 0 (-1)) 1 (-1)) 2 (-1)) 3 (-1))), (q9, eI cA2 4 (fun _ => 0)), (q11, eI cA2 96 (fun _ => 0)), (q13, eI cA2 5 (fun _ => 0)), (q15, eI cA2 5 (fun _ => 0)), (q17, eI cA2 5 (fun _ => 0)), (q19, eI cA2 5 (fun _ => 0)), (q21, eI cA2 120 (fun _ => 0)), (q23, eI cA2 6 (fun _ => 0)), (q25, eI cA2 6 (fun _ => 0)), (q27, eI cA2 82 (fun _ => 0)), (q29, eI cA2 96 (fun _ => 0)), (q31, eI cA2 128 (fun _ => 0)), (q33, eI cA2 100 (fun _ => 0)), (q35, eI cA2 24 (fun _ => 0)), (q37, eI cA2 60 (fun _ => 0)), (q39, eI cA2 60 (fun _ => 0))] t.heap ∧ va_K (dC, dI) CLS [(cA2, .int)] t ∧ va_D A [(h0, eO 9 [.ref q1, .ref q3, .ref q5, .int 0, .ref q7, .ref q9, .ref q11, .ref q13, .ref q15, .ref q17, .ref q19, .ref q21, .ref q23, .ref q25, .int 0, .ref q27, .ref q29, .int 0, .int 0, .int 0, .int 0, .int 0, .int 0, .int 0, .int 0, .int 0, .int 0, .int 0, .ref q31, .ref q33, .ref q35, .ref q37, .int 0, .ref q39]), (q1, eI cA2 3082 (upd (upd (upd (upd (upd (upd (upd (upd (upd (upd (upd (upd (upd (upd (upd (upd (fun _ => 0) 9 1) 3 12) 4 12) 5 40) 58 3) 59 3) 60 3) 61 3) 62 3) 63 3) 64 3) 65 3) 66 3) 67 3) 68 3) 69 3)), (q3, eI cA2 3082 (fun _ => 0)), (q5, eI cA2 3082 (fun _ => 0)), (q7, eI cA2 4 (upd (upd (upd (upd (fun _ => 0) 0 (-1)) 1 (-1)) 2 (-1)) 3 (-1))), (q9, eI cA2 4 (fun _ => 0)), (q11, eI cA2 96 (fun _ => 0)), (q13, eI cA2 5 (fun _ => 0)), (q15, eI cA2 5 (fun _ => 0)), (q17, eI cA2 5 (fun _ => 0)), (q19, eI cA2 5 (fun _ => 0)), (q21, eI cA2 120 (fun _ => 0)), (q23, eI cA2 6 (fun _ => 0)), (q25, eI cA2 6 (fun _ => 0)), (q27, eI cA2 82 (fun _ => 0)), (q29, eI cA2 96 (fun _ => 0)), (q31, eI cA2 128 (fun _ => 0)), (q33, eI cA2 100 (fun _ => 0)), (q35, eI cA2 24 (fun _ => 0)), (q37, eI cA2 60 (fun _ => 0)), (q39, eI cA2 60 (fun _ => 0))]) A) args s 20 10052 A) (F0 m 232 ls []) := by
  refine lv_iinc (v := 4) (lv' := [(1, .int 4), (0, .ref h0)]) hx hb dX10_init_232 hl (k := 0) rfl (by decide) (by decide) rfl (fun ls hl => ?_)
  refine lv_goto (tgt := 220) hx hb dX10_init_235 (by decide) ?_
  refine lv_iload_n hx hb dX10_init_220 rfl (lv_at hl 0 rfl) ?_
  refine lv_iconst (v := 4) hx hb dX10_init_221 (by decide) ?_
  refine lv_icmp_ge (tgt := 238) hx hb dX10_init_222 (by decide) (fun _ => ?_) (fun q => absurd (by decide) q)
  refine W.widen (k := 20) (n := 10052) (Nat.le_of_ble_eq_true rfl) (Nat.le_of_ble_eq_true rfl) ?_
  exact W.vret hx hb hr (fun t ht hW => ⟨⟨(), rfl, trivial, q1, q3, q5, q7, q9, q11, q13, q15, q17, q19, q21, q23, q25, q27, q29, q31, q33, q35, q37, q39, cA2, by rw [ht]; exact hP, va_K.moved hW.alike hK, hD⟩, hS.F ht⟩) hS.2.2 dX10_init_238
set_option maxHeartbeats 4000000 in
set_option maxRecDepth 100000 in
theorem sg_X10_init_9 {p : Program} {l : Launch} {e : Env} {s : State} {m : MethodId} {args : Array Value} {below : List Frame} {meth : Method} {c : Code} (dC : Nat → ClassId) (dI : Nat → Nat → Nat) {A : Nat → Prop} (h0 : Nat) (q1 : Nat) (q3 : Nat) (q5 : Nat) (q7 : Nat) (q9 : Nat) (q11 : Nat) (q13 : Nat) (q15 : Nat) (q17 : Nat) (q19 : Nat) (q21 : Nat) (q23 : Nat) (q25 : Nat) (q27 : Nat) (q29 : Nat) (q31 : Nat) (q33 : Nat) (q35 : Nat) (q37 : Nat) (q39 : Nat) (cA2 : ClassId) (hx : p.tables.exec = Jvm.exec) (hb : c.code = cX10_init) (hr : meth.sig.returnType = none) (hts : ∀ w ∈ WT, w.before args s = true) (hown : s.vm.findClass RX10 = some m.cls) (hml : c.maxLocals = 2) (hlocks : meth.locks = false) (hin : meth.name = "<init>") (hN : NK s) (hA : ∀ q : Nat, s.heap.size ≤ q → A q) {H : Heap} {locs : List Loc} {ls : Array Slot} (hK : va_K (dC, dI) CLS [(cA2, .int)] s) (hP : va_P (dC, dI) CLS [(h0, eO 9 [.ref q1, .ref q3, .ref q5, .int 0, .ref q7, .ref q9, .ref q11, .ref q13, .ref q15, .ref q17, .ref q19, .ref q21, .ref q23, .ref q25, .int 0, .ref q27, .ref q29, .int 0, .int 0, .int 0, .int 0, .int 0, .int 0, .int 0, .int 0, .int 0, .int 0, .int 0, .ref q31, .ref q33, .ref q35, .ref q37, .int 0, .ref q39]), (q1, eI cA2 3082 (upd (upd (upd (upd (upd (upd (upd (upd (upd (upd (upd (upd (upd (upd (upd (upd (fun _ => 0) 9 1) 3 12) 4 12) 5 40) 58 3) 59 3) 60 3) 61 3) 62 3) 63 3) 64 3) 65 3) 66 3) 67 3) 68 3) 69 3)), (q3, eI cA2 3082 (fun _ => 0)), (q5, eI cA2 3082 (fun _ => 0)), (q7, eI cA2 4 (fun _ => 0)), (q9, eI cA2 4 (fun _ => 0)), (q11, eI cA2 96 (fun _ => 0)), (q13, eI cA2 5 (fun _ => 0)), (q15, eI cA2 5 (fun _ => 0)), (q17, eI cA2 5 (fun _ => 0)), (q19, eI cA2 5 (fun _ => 0)), (q21, eI cA2 120 (fun _ => 0)), (q23, eI cA2 6 (fun _ => 0)), (q25, eI cA2 6 (fun _ => 0)), (q27, eI cA2 82 (fun _ => 0)), (q29, eI cA2 96 (fun _ => 0)), (q31, eI cA2 128 (fun _ => 0)), (q33, eI cA2 100 (fun _ => 0)), (q35, eI cA2 24 (fun _ => 0)), (q37, eI cA2 60 (fun _ => 0)), (q39, eI cA2 60 (fun _ => 0))] H) (hD : va_D A [(h0, eO 9 [.ref q1, .ref q3, .ref q5, .int 0, .ref q7, .ref q9, .ref q11, .ref q13, .ref q15, .ref q17, .ref q19, .ref q21, .ref q23, .ref q25, .int 0, .ref q27, .ref q29, .int 0, .int 0, .int 0, .int 0, .int 0, .int 0, .int 0, .int 0, .int 0, .int 0, .int 0, .ref q31, .ref q33, .ref q35, .ref q37, .int 0, .ref q39]), (q1, eI cA2 3082 (upd (upd (upd (upd (upd (upd (upd (upd (upd (upd (upd (upd (upd (upd (upd (upd (fun _ => 0) 9 1) 3 12) 4 12) 5 40) 58 3) 59 3) 60 3) 61 3) 62 3) 63 3) 64 3) 65 3) 66 3) 67 3) 68 3) 69 3)), (q3, eI cA2 3082 (fun _ => 0)), (q5, eI cA2 3082 (fun _ => 0)), (q7, eI cA2 4 (fun _ => 0)), (q9, eI cA2 4 (fun _ => 0)), (q11, eI cA2 96 (fun _ => 0)), (q13, eI cA2 5 (fun _ => 0)), (q15, eI cA2 5 (fun _ => 0)), (q17, eI cA2 5 (fun _ => 0)), (q19, eI cA2 5 (fun _ => 0)), (q21, eI cA2 120 (fun _ => 0)), (q23, eI cA2 6 (fun _ => 0)), (q25, eI cA2 6 (fun _ => 0)), (q27, eI cA2 82 (fun _ => 0)), (q29, eI cA2 96 (fun _ => 0)), (q31, eI cA2 128 (fun _ => 0)), (q33, eI cA2 100 (fun _ => 0)), (q35, eI cA2 24 (fun _ => 0)), (q37, eI cA2 60 (fun _ => 0)), (q39, eI cA2 60 (fun _ => 0))]) (hS : va_S A s.heap H locs) (hl : lv_has ls 2 [(1, .int 11), (0, .ref h0)]) : W p l e rm_X10_init s m args below meth c H locs 20 10052 (MQ below (va_Qv (fun _ : Unit => True) (fun _ t => ∃ (q1 : Nat) (q3 : Nat) (q5 : Nat) (q7 : Nat) (q9 : Nat) (q11 : Nat) (q13 : Nat) (q15 : Nat) (q17 : Nat) (q19 : Nat) (q21 : Nat) (q23 : Nat) (q25 : Nat) (q27 : Nat) (q29 : Nat) (q31 : Nat) (q33 : Nat) (q35 : Nat) (q37 : Nat) (q39 : Nat) (cA2 : ClassId), va_P (dC, dI) CLS [(h0, eO 9 [.ref q1, .ref q3, .ref q5, .int 0, .ref q7, .ref q9, .ref q11, .ref q13, .ref q15, .ref q17, .ref q19, .ref q21, .ref q23, .ref q25, .int 0, .ref q27, .ref q29, .int 0, .int 0, .int 0, .int 0, .int 0, .int 0, .int 0, .int 0, .int 0, .int 0, .int 0, .ref q31, .ref q33, .ref q35, .ref q37, .int 0, .ref q39]), (q1, eI cA2 3082 (upd (upd (upd (upd (upd (upd (upd (upd (upd (upd (upd (upd (upd (upd (upd (upd (fun _ => 0) 9 1) 3 12) 4 12) 5 40) 58 3) 59 3) 60 3) 61 3) 62 3) 63 3) 64 3) 65 3) 66 3) 67 3) 68 3) 69 3)), (q3, eI cA2 3082 (fun _ => 0)), (q5, eI cA2 3082 (fun _ => 0)), (q7, eI cA2 4 (upd (upd (upd (upd (fun _ => 0) 0 (-1)) 1 (-1)) 2 (-1)) 3 (-1))), (q9, eI cA2 4 (fun _ => 0)), (q11, eI cA2 96 (fun _ => 0)), (q13, eI cA2 5 (fun _ => 0)), (q15, eI cA2 5 (fun _ => 0)), (q17, eI cA2 5 (fun _ => 0)), (q19, eI cA2 5 (fun _ => 0)), (q21, eI cA2 120 (fun _ => 0)), (q23, eI cA2 6 (fun _ => 0)), (q25, eI cA2 6 (fun _ => 0)), (q27, eI cA2 82 (fun _ => 0)), (q29, eI cA2 96 (fun _ => 0)), (q31, eI cA2 128 (fun _ => 0)), (q33, eI cA2 100 (fun _ => 0)), (q35, eI cA2 24 (fun _ => 0)), (q37, eI cA2 60 (fun _ => 0)), (q39, eI cA2 60 (fun _ => 0))] t.heap ∧ va_K (dC, dI) CLS [(cA2, .int)] t ∧ va_D A [(h0, eO 9 [.ref q1, .ref q3, .ref q5, .int 0, .ref q7, .ref q9, .ref q11, .ref q13, .ref q15, .ref q17, .ref q19, .ref q21, .ref q23, .ref q25, .int 0, .ref q27, .ref q29, .int 0, .int 0, .int 0, .int 0, .int 0, .int 0, .int 0, .int 0, .int 0, .int 0, .int 0, .ref q31, .ref q33, .ref q35, .ref q37, .int 0, .ref q39]), (q1, eI cA2 3082 (upd (upd (upd (upd (upd (upd (upd (upd (upd (upd (upd (upd (upd (upd (upd (upd (fun _ => 0) 9 1) 3 12) 4 12) 5 40) 58 3) 59 3) 60 3) 61 3) 62 3) 63 3) 64 3) 65 3) 66 3) 67 3) 68 3) 69 3)), (q3, eI cA2 3082 (fun _ => 0)), (q5, eI cA2 3082 (fun _ => 0)), (q7, eI cA2 4 (upd (upd (upd (upd (fun _ => 0) 0 (-1)) 1 (-1)) 2 (-1)) 3 (-1))), (q9, eI cA2 4 (fun _ => 0)), (q11, eI cA2 96 (fun _ => 0)), (q13, eI cA2 5 (fun _ => 0)), (q15, eI cA2 5 (fun _ => 0)), (q17, eI cA2 5 (fun _ => 0)), (q19, eI cA2 5 (fun _ => 0)), (q21, eI cA2 120 (fun _ => 0)), (q23, eI cA2 6 (fun _ => 0)), (q25, eI cA2 6 (fun _ => 0)), (q27, eI cA2 82 (fun _ => 0)), (q29, eI cA2 96 (fun _ => 0)), (q31, eI cA2 128 (fun _ => 0)), (q33, eI cA2 100 (fun _ => 0)), (q35, eI cA2 24 (fun _ => 0)), (q37, eI cA2 60 (fun _ => 0)), (q39, eI cA2 60 (fun _ => 0))]) A) args s 20 10052 A) (F0 m 212 ls []) := by
  refine lv_iinc (v := 12) (lv' := [(1, .int 12), (0, .ref h0)]) hx hb dX10_init_212 hl (k := 0) rfl (by decide) (by decide) rfl (fun ls hl => ?_)
  refine lv_goto (tgt := 196) hx hb dX10_init_215 (by decide) ?_
  refine lv_iload_n hx hb dX10_init_196 rfl (lv_at hl 0 rfl) ?_
  refine lv_bipush (v := 12) hx hb dX10_init_197 (by decide) ?_
  refine lv_icmp_ge (tgt := 218) hx hb dX10_init_199 (by decide) (fun _ => ?_) (fun q => absurd (by decide) q)
  refine lv_iconst (v := 0) hx hb dX10_init_218 (by decide) ?_
  refine lv_istore_n (lv' := [(1, .int 0), (0, .ref h0)]) hx hb dX10_init_219 rfl hl (by decide) rfl (fun ls hl => ?_)
  refine lv_iload_n hx hb dX10_init_220 rfl (lv_at hl 0 rfl) ?_
  refine lv_iconst (v := 4) hx hb dX10_init_221 (by decide) ?_
  refine lv_icmp_ge (tgt := 238) hx hb dX10_init_222 (by decide) (fun q => absurd q (by decide)) (fun _ => ?_)
  refine lv_aload_n hx hb dX10_init_225 rfl (lv_at hl 1 rfl) ?_
  refine va_get (D := (dC, dI)) (ci := 9) (v := .ref q7) (C := RX10) (T := TX10) (N := 34) hx hb hts iwX10 hown hK hP 0 rfl rfl 4 (by decide) (hts _ mw_950) (fun _ h9 => h9) rfl dX10_init_226 ?_
  refine lv_iload_n hx hb dX10_init_229 rfl (lv_at hl 0 rfl) ?_
  refine lv_iconst (v := -1) hx hb dX10_init_230 (by decide) ?_
  refine va_iast (i := 0) (x := (-1)) hx hb hK hP hD hS 4 0 rfl rfl (by show ¬ (_ ∨ _); decide) dX10_init_231 (fun H locs hP2 hD2 hS => ?_)
  clear hP hD
  have hP := hP2
  have hD := hD2
  clear hP2 hD2
  refine lv_iinc (v := 1) (lv' := [(1, .int 1), (0, .ref h0)]) hx hb dX10_init_232 hl (k := 0) rfl (by decide) (by decide) rfl (fun ls hl => ?_)
  refine lv_goto (tgt := 220) hx hb dX10_init_235 (by decide) ?_
  refine lv_iload_n hx hb dX10_init_220 rfl (lv_at hl 0 rfl) ?_
  refine lv_iconst (v := 4) hx hb dX10_init_221 (by decide) ?_
  refine lv_icmp_ge (tgt := 238) hx hb dX10_init_222 (by decide) (fun q => absurd q (by decide)) (fun _ => ?_)
  refine lv_aload_n hx hb dX10_init_225 rfl (lv_at hl 1 rfl) ?_
  refine va_get (D := (dC, dI)) (ci := 9) (v := .ref q7) (C := RX10) (T := TX10) (N := 34) hx hb hts iwX10 hown hK hP 0 rfl rfl 4 (by decide) (hts _ mw_950) (fun _ h9 => h9) rfl dX10_init_226 ?_
  refine lv_iload_n hx hb dX10_init_229 rfl (lv_at hl 0 rfl) ?_
  refine lv_iconst (v := -1) hx hb dX10_init_230 (by decide) ?_
  refine va_iast (i := 1) (x := (-1)) hx hb hK hP hD hS 4 0 rfl rfl (by show ¬ (_ ∨ _); decide) dX10_init_231 (fun H locs hP2 hD2 hS => ?_)
  clear hP hD
  have hP := hP2
  have hD := hD2
  clear hP2 hD2
  refine lv_iinc (v := 2) (lv' := [(1, .int 2), (0, .ref h0)]) hx hb dX10_init_232 hl (k := 0) rfl (by decide) (by decide) rfl (fun ls hl => ?_)
  refine lv_goto (tgt := 220) hx hb dX10_init_235 (by decide) ?_
  refine lv_iload_n hx hb dX10_init_220 rfl (lv_at hl 0 rfl) ?_
  refine lv_iconst (v := 4) hx hb dX10_init_221 (by decide) ?_
  refine lv_icmp_ge (tgt := 238) hx hb dX10_init_222 (by decide) (fun q => absurd q (by decide)) (fun _ => ?_)
  refine lv_aload_n hx hb dX10_init_225 rfl (lv_at hl 1 rfl) ?_
  refine va_get (D := (dC, dI)) (ci := 9) (v := .ref q7) (C := RX10) (T := TX10) (N := 34) hx hb hts iwX10 hown hK hP 0 rfl rfl 4 (by decide) (hts _ mw_950) (fun _ h9 => h9) rfl dX10_init_226 ?_
  refine lv_iload_n hx hb dX10_init_229 rfl (lv_at hl 0 rfl) ?_
  refine lv_iconst (v := -1) hx hb dX10_init_230 (by decide) ?_
  refine va_iast (i := 2) (x := (-1)) hx hb hK hP hD hS 4 0 rfl rfl (by show ¬ (_ ∨ _); decide) dX10_init_231 (fun H locs hP2 hD2 hS => ?_)
  clear hP hD
  have hP := hP2
  have hD := hD2
  clear hP2 hD2
  refine lv_iinc (v := 3) (lv' := [(1, .int 3), (0, .ref h0)]) hx hb dX10_init_232 hl (k := 0) rfl (by decide) (by decide) rfl (fun ls hl => ?_)
  refine lv_goto (tgt := 220) hx hb dX10_init_235 (by decide) ?_
  refine lv_iload_n hx hb dX10_init_220 rfl (lv_at hl 0 rfl) ?_
  refine lv_iconst (v := 4) hx hb dX10_init_221 (by decide) ?_
  refine lv_icmp_ge (tgt := 238) hx hb dX10_init_222 (by decide) (fun q => absurd q (by decide)) (fun _ => ?_)
  refine lv_aload_n hx hb dX10_init_225 rfl (lv_at hl 1 rfl) ?_
  refine va_get (D := (dC, dI)) (ci := 9) (v := .ref q7) (C := RX10) (T := TX10) (N := 34) hx hb hts iwX10 hown hK hP 0 rfl rfl 4 (by decide) (hts _ mw_950) (fun _ h9 => h9) rfl dX10_init_226 ?_
  refine lv_iload_n hx hb dX10_init_229 rfl (lv_at hl 0 rfl) ?_
  refine lv_iconst (v := -1) hx hb dX10_init_230 (by decide) ?_
  refine va_iast (i := 3) (x := (-1)) hx hb hK hP hD hS 4 0 rfl rfl (by show ¬ (_ ∨ _); decide) dX10_init_231 (fun H locs hP2 hD2 hS => ?_)
  clear hP hD
  have hP := hP2
  have hD := hD2
  clear hP2 hD2
  refine W.widen (k := 20) (n := 10052) (Nat.le_of_ble_eq_true rfl) (Nat.le_of_ble_eq_true rfl) ?_
  exact sg_X10_init_10 dC dI h0 q1 q3 q5 q7 q9 q11 q13 q15 q17 q19 q21 q23 q25 q27 q29 q31 q33 q35 q37 q39 cA2 hx hb hr hts hown hml hlocks hin hN hA hK hP hD hS hl
set_option maxHeartbeats 4000000 in
set_option maxRecDepth 100000 in
theorem sg_X10_init_8 {p : Program} {l : Launch} {e : Env} {s : State} {m : MethodId} {args : Array Value} {below : List Frame} {meth : Method} {c : Code} (dC : Nat → ClassId) (dI : Nat → Nat → Nat) {A : Nat → Prop} (h0 : Nat) (q1 : Nat) (q3 : Nat) (q5 : Nat) (q7 : Nat) (q9 : Nat) (q11 : Nat) (q13 : Nat) (q15 : Nat) (q17 : Nat) (q19 : Nat) (q21 : Nat) (q23 : Nat) (q25 : Nat) (q27 : Nat) (q29 : Nat) (q31 : Nat) (q33 : Nat) (q35 : Nat) (q37 : Nat) (q39 : Nat) (cA2 : ClassId) (hx : p.tables.exec = Jvm.exec) (hb : c.code = cX10_init) (hr : meth.sig.returnType = none) (hts : ∀ w ∈ WT, w.before args s = true) (hown : s.vm.findClass RX10 = some m.cls) (hml : c.maxLocals = 2) (hlocks : meth.locks = false) (hin : meth.name = "<init>") (hN : NK s) (hA : ∀ q : Nat, s.heap.size ≤ q → A q) {H : Heap} {locs : List Loc} {ls : Array Slot} (hK : va_K (dC, dI) CLS [(cA2, .int)] s) (hP : va_P (dC, dI) CLS [(h0, eO 9 [.ref q1, .ref q3, .ref q5, .int 0, .ref q7, .ref q9, .ref q11, .ref q13, .ref q15, .ref q17, .ref q19, .ref q21, .ref q23, .ref q25, .int 0, .ref q27, .ref q29, .int 0, .int 0, .int 0, .int 0, .int 0, .int 0, .int 0, .int 0, .int 0, .int 0, .int 0, .ref q31, .ref q33, .ref q35, .ref q37, .int 0, .ref q39]), (q1, eI cA2 3082 (upd (upd (upd (upd (upd (upd (upd (upd (upd (upd (upd (upd (fun _ => 0) 9 1) 3 12) 4 12) 5 40) 58 3) 59 3) 60 3) 61 3) 62 3) 63 3) 64 3) 65 3)), (q3, eI cA2 3082 (fun _ => 0)), (q5, eI cA2 3082 (fun _ => 0)), (q7, eI cA2 4 (fun _ => 0)), (q9, eI cA2 4 (fun _ => 0)), (q11, eI cA2 96 (fun _ => 0)), (q13, eI cA2 5 (fun _ => 0)), (q15, eI cA2 5 (fun _ => 0)), (q17, eI cA2 5 (fun _ => 0)), (q19, eI cA2 5 (fun _ => 0)), (q21, eI cA2 120 (fun _ => 0)), (q23, eI cA2 6 (fun _ => 0)), (q25, eI cA2 6 (fun _ => 0)), (q27, eI cA2 82 (fun _ => 0)), (q29, eI cA2 96 (fun _ => 0)), (q31, eI cA2 128 (fun _ => 0)), (q33, eI cA2 100 (fun _ => 0)), (q35, eI cA2 24 (fun _ => 0)), (q37, eI cA2 60 (fun _ => 0)), (q39, eI cA2 60 (fun _ => 0))] H) (hD : va_D A [(h0, eO 9 [.ref q1, .ref q3, .ref q5, .int 0, .ref q7, .ref q9, .ref q11, .ref q13, .ref q15, .ref q17, .ref q19, .ref q21, .ref q23, .ref q25, .int 0, .ref q27, .ref q29, .int 0, .int 0, .int 0, .int 0, .int 0, .int 0, .int 0, .int 0, .int 0, .int 0, .int 0, .ref q31, .ref q33, .ref q35, .ref q37, .int 0, .ref q39]), (q1, eI cA2 3082 (upd (upd (upd (upd (upd (upd (upd (upd (upd (upd (upd (upd (fun _ => 0) 9 1) 3 12) 4 12) 5 40) 58 3) 59 3) 60 3) 61 3) 62 3) 63 3) 64 3) 65 3)), (q3, eI cA2 3082 (fun _ => 0)), (q5, eI cA2 3082 (fun _ => 0)), (q7, eI cA2 4 (fun _ => 0)), (q9, eI cA2 4 (fun _ => 0)), (q11, eI cA2 96 (fun _ => 0)), (q13, eI cA2 5 (fun _ => 0)), (q15, eI cA2 5 (fun _ => 0)), (q17, eI cA2 5 (fun _ => 0)), (q19, eI cA2 5 (fun _ => 0)), (q21, eI cA2 120 (fun _ => 0)), (q23, eI cA2 6 (fun _ => 0)), (q25, eI cA2 6 (fun _ => 0)), (q27, eI cA2 82 (fun _ => 0)), (q29, eI cA2 96 (fun _ => 0)), (q31, eI cA2 128 (fun _ => 0)), (q33, eI cA2 100 (fun _ => 0)), (q35, eI cA2 24 (fun _ => 0)), (q37, eI cA2 60 (fun _ => 0)), (q39, eI cA2 60 (fun _ => 0))]) (hS : va_S A s.heap H locs) (hl : lv_has ls 2 [(1, .int 7), (0, .ref h0)]) : W p l e rm_X10_init s m args below meth c H locs 20 10052 (MQ below (va_Qv (fun _ : Unit => True) (fun _ t => ∃ (q1 : Nat) (q3 : Nat) (q5 : Nat) (q7 : Nat) (q9 : Nat) (q11 : Nat) (q13 : Nat) (q15 : Nat) (q17 : Nat) (q19 : Nat) (q21 : Nat) (q23 : Nat) (q25 : Nat) (q27 : Nat) (q29 : Nat) (q31 : Nat) (q33 : Nat) (q35 : Nat) (q37 : Nat) (q39 : Nat) (cA2 : ClassId), va_P (dC, dI) CLS [(h0, eO 9 [.ref q1, .ref q3, .ref q5, .int 0, .ref q7, .ref q9, .ref q11, .ref q13, .ref q15, .ref q17, .ref q19, .ref q21, .ref q23, .ref q25, .int 0, .ref q27, .ref q29, .int 0, .int 0, .int 0, .int 0, .int 0, .int 0, .int 0, .int 0, .int 0, .int 0, .int 0, .ref q31, .ref q33, .ref q35, .ref q37, .int 0, .ref q39]), (q1, eI cA2 3082 (upd (upd (upd (upd (upd (upd (upd (upd (upd (upd (upd (upd (upd (upd (upd (upd (fun _ => 0) 9 1) 3 12) 4 12) 5 40) 58 3) 59 3) 60 3) 61 3) 62 3) 63 3) 64 3) 65 3) 66 3) 67 3) 68 3) 69 3)), (q3, eI cA2 3082 (fun _ => 0)), (q5, eI cA2 3082 (fun _ => 0)), (q7, eI cA2 4 (upd (upd (upd (upd (fun _ => 0) 0 (-1)) 1 (-1)) 2 (-1)) 3 (-1))), (q9, eI cA2 4 (fun _ => 0)), (q11, eI cA2 96 (fun _ => 0)), (q13, eI cA2 5 (fun _ => 0)), (q15, eI cA2 5 (fun _ => 0)), (q17, eI cA2 5 (fun _ => 0)), (q19, eI cA2 5 (fun _ => 0)), (q21, eI cA2 120 (fun _ => 0)), (q23, eI cA2 6 (fun _ => 0)), (q25, eI cA2 6 (fun _ => 0)), (q27, eI cA2 82 (fun _ => 0)), (q29, eI cA2 96 (fun _ => 0)), (q31, eI cA2 128 (fun _ => 0)), (q33, eI cA2 100 (fun _ => 0)), (q35, eI cA2 24 (fun _ => 0)), (q37, eI cA2 60 (fun _ => 0)), (q39, eI cA2 60 (fun _ => 0))] t.heap ∧ va_K (dC, dI) CLS [(cA2, .int)] t ∧ va_D A [(h0, eO 9 [.ref q1, .ref q3, .ref q5, .int 0, .ref q7, .ref q9, .ref q11, .ref q13, .ref q15, .ref q17, .ref q19, .ref q21, .ref q23, .ref q25, .int 0, .ref q27, .ref q29, .int 0, .int 0, .int 0, .int 0, .int 0, .int 0, .int 0, .int 0, .int 0, .int 0, .int 0, .ref q31, .ref q33, .ref q35, .ref q37, .int 0, .ref q39]), (q1, eI cA2 3082 (upd (upd (upd (upd (upd (upd (upd (upd (upd (upd (upd (upd (upd (upd (upd (upd (fun _ => 0) 9 1) 3 12) 4 12) 5 40) 58 3) 59 3) 60 3) 61 3) 62 3) 63 3) 64 3) 65 3) 66 3) 67 3) 68 3) 69 3)), (q3, eI cA2 3082 (fun _ => 0)), (q5, eI cA2 3082 (fun _ => 0)), (q7, eI cA2 4 (upd (upd (upd (upd (fun _ => 0) 0 (-1)) 1 (-1)) 2 (-1)) 3 (-1))), (q9, eI cA2 4 (fun _ => 0)), (q11, eI cA2 96 (fun _ => 0)), (q13, eI cA2 5 (fun _ => 0)), (q15, eI cA2 5 (fun _ => 0)), (q17, eI cA2 5 (fun _ => 0)), (q19, eI cA2 5 (fun _ => 0)), (q21, eI cA2 120 (fun _ => 0)), (q23, eI cA2 6 (fun _ => 0)), (q25, eI cA2 6 (fun _ => 0)), (q27, eI cA2 82 (fun _ => 0)), (q29, eI cA2 96 (fun _ => 0)), (q31, eI cA2 128 (fun _ => 0)), (q33, eI cA2 100 (fun _ => 0)), (q35, eI cA2 24 (fun _ => 0)), (q37, eI cA2 60 (fun _ => 0)), (q39, eI cA2 60 (fun _ => 0))]) A) args s 20 10052 A) (F0 m 212 ls []) := by
  refine lv_iinc (v := 8) (lv' := [(1, .int 8), (0, .ref h0)]) hx hb dX10_init_212 hl (k := 0) rfl (by decide) (by decide) rfl (fun ls hl => ?_)
  refine lv_goto (tgt := 196) hx hb dX10_init_215 (by decide) ?_
  refine lv_iload_n hx hb dX10_init_196 rfl (lv_at hl 0 rfl) ?_
  refine lv_bipush (v := 12) hx hb dX10_init_197 (by decide) ?_
  refine lv_icmp_ge (tgt := 218) hx hb dX10_init_199 (by decide) (fun q => absurd q (by decide)) (fun _ => ?_)
  refine lv_aload_n hx hb dX10_init_202 rfl (lv_at hl 1 rfl) ?_
  refine va_get (D := (dC, dI)) (ci := 9) (v := .ref q1) (C := RX10) (T := TX10) (N := 34) hx hb hts iwX10 hown hK hP 0 rfl rfl 0 (by decide) (hts _ mw_946) (fun _ h9 => h9) rfl dX10_init_203 ?_
  refine lv_bipush (v := 58) hx hb dX10_init_206 (by decide) ?_
  refine lv_iload_n hx hb dX10_init_208 rfl (lv_at hl 0 rfl) ?_
  refine lv_iadd hx hb dX10_init_209 ?_
  refine lv_iconst (v := 3) hx hb dX10_init_210 (by decide) ?_
  refine va_iast (i := (58 + 8)) (x := 3) hx hb hK hP hD hS 1 0 rfl rfl (by show ¬ (_ ∨ _); decide) dX10_init_211 (fun H locs hP2 hD2 hS => ?_)
  clear hP hD
  have hP := hP2
  have hD := hD2
  clear hP2 hD2
  refine lv_iinc (v := 9) (lv' := [(1, .int 9), (0, .ref h0)]) hx hb dX10_init_212 hl (k := 0) rfl (by decide) (by decide) rfl (fun ls hl => ?_)
  refine lv_goto (tgt := 196) hx hb dX10_init_215 (by decide) ?_
  refine lv_iload_n hx hb dX10_init_196 rfl (lv_at hl 0 rfl) ?_
  refine lv_bipush (v := 12) hx hb dX10_init_197 (by decide) ?_
  refine lv_icmp_ge (tgt := 218) hx hb dX10_init_199 (by decide) (fun q => absurd q (by decide)) (fun _ => ?_)
  refine lv_aload_n hx hb dX10_init_202 rfl (lv_at hl 1 rfl) ?_
  refine va_get (D := (dC, dI)) (ci := 9) (v := .ref q1) (C := RX10) (T := TX10) (N := 34) hx hb hts iwX10 hown hK hP 0 rfl rfl 0 (by decide) (hts _ mw_946) (fun _ h9 => h9) rfl dX10_init_203 ?_
  refine lv_bipush (v := 58) hx hb dX10_init_206 (by decide) ?_
  refine lv_iload_n hx hb dX10_init_208 rfl (lv_at hl 0 rfl) ?_
  refine lv_iadd hx hb dX10_init_209 ?_
  refine lv_iconst (v := 3) hx hb dX10_init_210 (by decide) ?_
  refine va_iast (i := (58 + 9)) (x := 3) hx hb hK hP hD hS 1 0 rfl rfl (by show ¬ (_ ∨ _); decide) dX10_init_211 (fun H locs hP2 hD2 hS => ?_)
  clear hP hD
  have hP := hP2
  have hD := hD2
  clear hP2 hD2
  refine lv_iinc (v := 10) (lv' := [(1, .int 10), (0, .ref h0)]) hx hb dX10_init_212 hl (k := 0) rfl (by decide) (by decide) rfl (fun ls hl => ?_)
  refine lv_goto (tgt := 196) hx hb dX10_init_215 (by decide) ?_
  refine lv_iload_n hx hb dX10_init_196 rfl (lv_at hl 0 rfl) ?_
  refine lv_bipush (v := 12) hx hb dX10_init_197 (by decide) ?_
  refine lv_icmp_ge (tgt := 218) hx hb dX10_init_199 (by decide) (fun q => absurd q (by decide)) (fun _ => ?_)
  refine lv_aload_n hx hb dX10_init_202 rfl (lv_at hl 1 rfl) ?_
  refine va_get (D := (dC, dI)) (ci := 9) (v := .ref q1) (C := RX10) (T := TX10) (N := 34) hx hb hts iwX10 hown hK hP 0 rfl rfl 0 (by decide) (hts _ mw_946) (fun _ h9 => h9) rfl dX10_init_203 ?_
  refine lv_bipush (v := 58) hx hb dX10_init_206 (by decide) ?_
  refine lv_iload_n hx hb dX10_init_208 rfl (lv_at hl 0 rfl) ?_
  refine lv_iadd hx hb dX10_init_209 ?_
  refine lv_iconst (v := 3) hx hb dX10_init_210 (by decide) ?_
  refine va_iast (i := (58 + 10)) (x := 3) hx hb hK hP hD hS 1 0 rfl rfl (by show ¬ (_ ∨ _); decide) dX10_init_211 (fun H locs hP2 hD2 hS => ?_)
  clear hP hD
  have hP := hP2
  have hD := hD2
  clear hP2 hD2
  refine lv_iinc (v := 11) (lv' := [(1, .int 11), (0, .ref h0)]) hx hb dX10_init_212 hl (k := 0) rfl (by decide) (by decide) rfl (fun ls hl => ?_)
  refine lv_goto (tgt := 196) hx hb dX10_init_215 (by decide) ?_
  refine lv_iload_n hx hb dX10_init_196 rfl (lv_at hl 0 rfl) ?_
  refine lv_bipush (v := 12) hx hb dX10_init_197 (by decide) ?_
  refine lv_icmp_ge (tgt := 218) hx hb dX10_init_199 (by decide) (fun q => absurd q (by decide)) (fun _ => ?_)
  refine lv_aload_n hx hb dX10_init_202 rfl (lv_at hl 1 rfl) ?_
  refine va_get (D := (dC, dI)) (ci := 9) (v := .ref q1) (C := RX10) (T := TX10) (N := 34) hx hb hts iwX10 hown hK hP 0 rfl rfl 0 (by decide) (hts _ mw_946) (fun _ h9 => h9) rfl dX10_init_203 ?_
  refine lv_bipush (v := 58) hx hb dX10_init_206 (by decide) ?_
  refine lv_iload_n hx hb dX10_init_208 rfl (lv_at hl 0 rfl) ?_
  refine lv_iadd hx hb dX10_init_209 ?_
  refine lv_iconst (v := 3) hx hb dX10_init_210 (by decide) ?_
  refine va_iast (i := (58 + 11)) (x := 3) hx hb hK hP hD hS 1 0 rfl rfl (by show ¬ (_ ∨ _); decide) dX10_init_211 (fun H locs hP2 hD2 hS => ?_)
  clear hP hD
  have hP := hP2
  have hD := hD2
  clear hP2 hD2
  refine W.widen (k := 20) (n := 10052) (Nat.le_of_ble_eq_true rfl) (Nat.le_of_ble_eq_true rfl) ?_
  exact sg_X10_init_9 dC dI h0 q1 q3 q5 q7 q9 q11 q13 q15 q17 q19 q21 q23 q25 q27 q29 q31 q33 q35 q37 q39 cA2 hx hb hr hts hown hml hlocks hin hN hA hK hP hD hS hl
set_option maxHeartbeats 4000000 in
set_option maxRecDepth 100000 in
theorem sg_X10_init_7 {p : Program} {l : Launch} {e : Env} {s : State} {m : MethodId} {args : Array Value} {below : List Frame} {meth : Method} {c : Code} (dC : Nat → ClassId) (dI : Nat → Nat → Nat) {A : Nat → Prop} (h0 : Nat) (q1 : Nat) (q3 : Nat) (q5 : Nat) (q7 : Nat) (q9 : Nat) (q11 : Nat) (q13 : Nat) (q15 : Nat) (q17 : Nat) (q19 : Nat) (q21 : Nat) (q23 : Nat) (q25 : Nat) (q27 : Nat) (q29 : Nat) (q31 : Nat) (q33 : Nat) (q35 : Nat) (q37 : Nat) (q39 : Nat) (cA2 : ClassId) (hx : p.tables.exec = Jvm.exec) (hb : c.code = cX10_init) (hr : meth.sig.returnType = none) (hts : ∀ w ∈ WT, w.before args s = true) (hown : s.vm.findClass RX10 = some m.cls) (hml : c.maxLocals = 2) (hlocks : meth.locks = false) (hin : meth.name = "<init>") (hN : NK s) (hA : ∀ q : Nat, s.heap.size ≤ q → A q) {H : Heap} {locs : List Loc} {ls : Array Slot} (hK : va_K (dC, dI) CLS [(cA2, .int)] s) (hP : va_P (dC, dI) CLS [(h0, eO 9 [.ref q1, .ref q3, .ref q5, .int 0, .ref q7, .ref q9, .ref q11, .ref q13, .ref q15, .ref q17, .ref q19, .ref q21, .ref q23, .ref q25, .int 0, .ref q27, .ref q29, .int 0, .int 0, .int 0, .int 0, .int 0, .int 0, .int 0, .int 0, .int 0, .int 0, .int 0, .ref q31, .ref q33, .ref q35, .ref q37, .int 0, .ref q39]), (q1, eI cA2 3082 (upd (upd (upd (upd (upd (upd (upd (upd (fun _ => 0) 9 1) 3 12) 4 12) 5 40) 58 3) 59 3) 60 3) 61 3)), (q3, eI cA2 3082 (fun _ => 0)), (q5, eI cA2 3082 (fun _ => 0)), (q7, eI cA2 4 (fun _ => 0)), (q9, eI cA2 4 (fun _ => 0)), (q11, eI cA2 96 (fun _ => 0)), (q13, eI cA2 5 (fun _ => 0)), (q15, eI cA2 5 (fun _ => 0)), (q17, eI cA2 5 (fun _ => 0)), (q19, eI cA2 5 (fun _ => 0)), (q21, eI cA2 120 (fun _ => 0)), (q23, eI cA2 6 (fun _ => 0)), (q25, eI cA2 6 (fun _ => 0)), (q27, eI cA2 82 (fun _ => 0)), (q29, eI cA2 96 (fun _ => 0)), (q31, eI cA2 128 (fun _ => 0)), (q33, eI cA2 100 (fun _ => 0)), (q35, eI cA2 24 (fun _ => 0)), (q37, eI cA2 60 (fun _ => 0)), (q39, eI cA2 60 (fun _ => 0))] H) (hD : va_D A [(h0, eO 9 [.ref q1, .ref q3, .ref q5, .int 0, .ref q7, .ref q9, .ref q11, .ref q13, .ref q15, .ref q17, .ref q19, .ref q21, .ref q23, .ref q25, .int 0, .ref q27, .ref q29, .int 0, .int 0, .int 0, .int 0, .int 0, .int 0, .int 0, .int 0, .int 0, .int 0, .int 0, .ref q31, .ref q33, .ref q35, .ref q37, .int 0, .ref q39]), (q1, eI cA2 3082 (upd (upd (upd (upd (upd (upd (upd (upd (fun _ => 0) 9 1) 3 12) 4 12) 5 40) 58 3) 59 3) 60 3) 61 3)), (q3, eI cA2 3082 (fun _ => 0)), (q5, eI cA2 3082 (fun _ => 0)), (q7, eI cA2 4 (fun _ => 0)), (q9, eI cA2 4 (fun _ => 0)), (q11, eI cA2 96 (fun _ => 0)), (q13, eI cA2 5 (fun _ => 0)), (q15, eI cA2 5 (fun _ => 0)), (q17, eI cA2 5 (fun _ => 0)), (q19, eI cA2 5 (fun _ => 0)), (q21, eI cA2 120 (fun _ => 0)), (q23, eI cA2 6 (fun _ => 0)), (q25, eI cA2 6 (fun _ => 0)), (q27, eI cA2 82 (fun _ => 0)), (q29, eI cA2 96 (fun _ => 0)), (q31, eI cA2 128 (fun _ => 0)), (q33, eI cA2 100 (fun _ => 0)), (q35, eI cA2 24 (fun _ => 0)), (q37, eI cA2 60 (fun _ => 0)), (q39, eI cA2 60 (fun _ => 0))]) (hS : va_S A s.heap H locs) (hl : lv_has ls 2 [(1, .int 3), (0, .ref h0)]) : W p l e rm_X10_init s m args below meth c H locs 20 10052 (MQ below (va_Qv (fun _ : Unit => True) (fun _ t => ∃ (q1 : Nat) (q3 : Nat) (q5 : Nat) (q7 : Nat) (q9 : Nat) (q11 : Nat) (q13 : Nat) (q15 : Nat) (q17 : Nat) (q19 : Nat) (q21 : Nat) (q23 : Nat) (q25 : Nat) (q27 : Nat) (q29 : Nat) (q31 : Nat) (q33 : Nat) (q35 : Nat) (q37 : Nat) (q39 : Nat) (cA2 : ClassId), va_P (dC, dI) CLS [(h0, eO 9 [.ref q1, .ref q3, .ref q5, .int 0, .ref q7, .ref q9, .ref q11, .ref q13, .ref q15, .ref q17, .ref q19, .ref q21, .ref q23, .ref q25, .int 0, .ref q27, .ref q29, .int 0, .int 0, .int 0, .int 0, .int 0, .int 0, .int 0, .int 0, .int 0, .int 0, .int 0, .ref q31, .ref q33, .ref q35, .ref q37, .int 0, .ref q39]), (q1, eI cA2 3082 (upd (upd (upd (upd (upd (upd (upd (upd (upd (upd (upd (upd (upd (upd (upd (upd (fun _ => 0) 9 1) 3 12) 4 12) 5 40) 58 3) 59 3) 60 3) 61 3) 62 3) 63 3) 64 3) 65 3) 66 3) 67 3) 68 3) 69 3)), (q3, eI cA2 3082 (fun _ => 0)), (q5, eI cA2 3082 (fun _ => 0)), (q7, eI cA2 4 (upd (upd (upd (upd (fun _ => 0) 0 (-1)) 1 (-1)) 2 (-1)) 3 (-1))), (q9, eI cA2 4 (fun _ => 0)), (q11, eI cA2 96 (fun _ => 0)), (q13, eI cA2 5 (fun _ => 0)), (q15, eI cA2 5 (fun _ => 0)), (q17, eI cA2 5 (fun _ => 0)), (q19, eI cA2 5 (fun _ => 0)), (q21, eI cA2 120 (fun _ => 0)), (q23, eI cA2 6 (fun _ => 0)), (q25, eI cA2 6 (fun _ => 0)), (q27, eI cA2 82 (fun _ => 0)), (q29, eI cA2 96 (fun _ => 0)), (q31, eI cA2 128 (fun _ => 0)), (q33, eI cA2 100 (fun _ => 0)), (q35, eI cA2 24 (fun _ => 0)), (q37, eI cA2 60 (fun _ => 0)), (q39, eI cA2 60 (fun _ => 0))] t.heap ∧ va_K (dC, dI) CLS [(cA2, .int)] t ∧ va_D A [(h0, eO 9 [.ref q1, .ref q3, .ref q5, .int 0, .ref q7, .ref q9, .ref q11, .ref q13, .ref q15, .ref q17, .ref q19, .ref q21, .ref q23, .ref q25, .int 0, .ref q27, .ref q29, .int 0, .int 0, .int 0, .int 0, .int 0, .int 0, .int 0, .int 0, .int 0, .int 0, .int 0, .ref q31, .ref q33, .ref q35, .ref q37, .int 0, .ref q39]), (q1, eI cA2 3082 (upd (upd (upd (upd (upd (upd (upd (upd (upd (upd (upd (upd (upd (upd (upd (upd (fun _ => 0) 9 1) 3 12) 4 12) 5 40) 58 3) 59 3) 60 3) 61 3) 62 3) 63 3) 64 3) 65 3) 66 3) 67 3) 68 3) 69 3)), (q3, eI cA2 3082 (fun _ => 0)), (q5, eI cA2 3082 (fun _ => 0)), (q7, eI cA2 4 (upd (upd (upd (upd (fun _ => 0) 0 (-1)) 1 (-1)) 2 (-1)) 3 (-1))), (q9, eI cA2 4 (fun _ => 0)), (q11, eI cA2 96 (fun _ => 0)), (q13, eI cA2 5 (fun _ => 0)), (q15, eI cA2 5 (fun _ => 0)), (q17, eI cA2 5 (fun _ => 0)), (q19, eI cA2 5 (fun _ => 0)), (q21, eI cA2 120 (fun _ => 0)), (q23, eI cA2 6 (fun _ => 0)), (q25, eI cA2 6 (fun _ => 0)), (q27, eI cA2 82 (fun _ => 0)), (q29, eI cA2 96 (fun _ => 0)), (q31, eI cA2 128 (fun _ => 0)), (q33, eI cA2 100 (fun _ => 0)), (q35, eI cA2 24 (fun _ => 0)), (q37, eI cA2 60 (fun _ => 0)), (q39, eI cA2 60 (fun _ => 0))]) A) args s 20 10052 A) (F0 m 212 ls []) := by
  refine lv_iinc (v := 4) (lv' := [(1, .int 4), (0, .ref h0)]) hx hb dX10_init_212 hl (k := 0) rfl (by decide) (by decide) rfl (fun ls hl => ?_)
  refine lv_goto (tgt := 196) hx hb dX10_init_215 (by decide) ?_
  refine lv_iload_n hx hb dX10_init_196 rfl (lv_at hl 0 rfl) ?_
  refine lv_bipush (v := 12) hx hb dX10_init_197 (by decide) ?_
  refine lv_icmp_ge (tgt := 218) hx hb dX10_init_199 (by decide) (fun q => absurd q (by decide)) (fun _ => ?_)
  refine lv_aload_n hx hb dX10_init_202 rfl (lv_at hl 1 rfl) ?_
  refine va_get (D := (dC, dI)) (ci := 9) (v := .ref q1) (C := RX10) (T := TX10) (N := 34) hx hb hts iwX10 hown hK hP 0 rfl rfl 0 (by decide) (hts _ mw_946) (fun _ h9 => h9) rfl dX10_init_203 ?_
  refine lv_bipush (v := 58) hx hb dX10_init_206 (by decide) ?_
  refine lv_iload_n hx hb dX10_init_208 rfl (lv_at hl 0 rfl) ?_
  refine lv_iadd hx hb dX10_init_209 ?_
  refine lv_iconst (v := 3) hx hb dX10_init_210 (by decide) ?_
  refine va_iast (i := (58 + 4)) (x := 3) hx hb hK hP hD hS 1 0 rfl rfl (by show ¬ (_ ∨ _); decide) dX10_init_211 (fun H locs hP2 hD2 hS => ?_)
  clear hP hD
  have hP := hP2
  have hD := hD2
  clear hP2 hD2
  refine lv_iinc (v := 5) (lv' := [(1, .int 5), (0, .ref h0)]) hx hb dX10_init_212 hl (k := 0) rfl (by decide) (by decide) rfl (fun ls hl => ?_)
  refine lv_goto (tgt := 196) hx hb dX10_init_215 (by decide) ?_
  refine lv_iload_n hx hb dX10_init_196 rfl (lv_at hl 0 rfl) ?_
  refine lv_bipush (v := 12) hx hb dX10_init_197 (by decide) ?_
  refine lv_icmp_ge (tgt := 218) hx hb dX10_init_199 (by decide) (fun q => absurd q (by decide)) (fun _ => ?_)
  refine lv_aload_n hx hb dX10_init_202 rfl (lv_at hl 1 rfl) ?_
  refine va_get (D := (dC, dI)) (ci := 9) (v := .ref q1) (C := RX10) (T := TX10) (N := 34) hx hb hts iwX10 hown hK hP 0 rfl rfl 0 (by decide) (hts _ mw_946) (fun _ h9 => h9) rfl dX10_init_203 ?_
  refine lv_bipush (v := 58) hx hb dX10_init_206 (by decide) ?_
  refine lv_iload_n hx hb dX10_init_208 rfl (lv_at hl 0 rfl) ?_
  refine lv_iadd hx hb dX10_init_209 ?_
  refine lv_iconst (v := 3) hx hb dX10_init_210 (by decide) ?_
  refine va_iast (i := (58 + 5)) (x := 3) hx hb hK hP hD hS 1 0 rfl rfl (by show ¬ (_ ∨ _); decide) dX10_init_211 (fun H locs hP2 hD2 hS => ?_)
  clear hP hD
  have hP := hP2
  have hD := hD2
  clear hP2 hD2
  refine lv_iinc (v := 6) (lv' := [(1, .int 6), (0, .ref h0)]) hx hb dX10_init_212 hl (k := 0) rfl (by decide) (by decide) rfl (fun ls hl => ?_)
  refine lv_goto (tgt := 196) hx hb dX10_init_215 (by decide) ?_
  refine lv_iload_n hx hb dX10_init_196 rfl (lv_at hl 0 rfl) ?_
  refine lv_bipush (v := 12) hx hb dX10_init_197 (by decide) ?_
  refine lv_icmp_ge (tgt := 218) hx hb dX10_init_199 (by decide) (fun q => absurd q (by decide)) (fun _ => ?_)
  refine lv_aload_n hx hb dX10_init_202 rfl (lv_at hl 1 rfl) ?_
  refine va_get (D := (dC, dI)) (ci := 9) (v := .ref q1) (C := RX10) (T := TX10) (N := 34) hx hb hts iwX10 hown hK hP 0 rfl rfl 0 (by decide) (hts _ mw_946) (fun _ h9 => h9) rfl dX10_init_203 ?_
  refine lv_bipush (v := 58) hx hb dX10_init_206 (by decide) ?_
  refine lv_iload_n hx hb dX10_init_208 rfl (lv_at hl 0 rfl) ?_
  refine lv_iadd hx hb dX10_init_209 ?_
  refine lv_iconst (v := 3) hx hb dX10_init_210 (by decide) ?_
  refine va_iast (i := (58 + 6)) (x := 3) hx hb hK hP hD hS 1 0 rfl rfl (by show ¬ (_ ∨ _); decide) dX10_init_211 (fun H locs hP2 hD2 hS => ?_)
  clear hP hD
  have hP := hP2
  have hD := hD2
  clear hP2 hD2
  refine lv_iinc (v := 7) (lv' := [(1, .int 7), (0, .ref h0)]) hx hb dX10_init_212 hl (k := 0) rfl (by decide) (by decide) rfl (fun ls hl => ?_)
  refine lv_goto (tgt := 196) hx hb dX10_init_215 (by decide) ?_
  refine lv_iload_n hx hb dX10_init_196 rfl (lv_at hl 0 rfl) ?_
  refine lv_bipush (v := 12) hx hb dX10_init_197 (by decide) ?_
  refine lv_icmp_ge (tgt := 218) hx hb dX10_init_199 (by decide) (fun q => absurd q (by decide)) (fun _ => ?_)
  refine lv_aload_n hx hb dX10_init_202 rfl (lv_at hl 1 rfl) ?_
  refine va_get (D := (dC, dI)) (ci := 9) (v := .ref q1) (C := RX10) (T := TX10) (N := 34) hx hb hts iwX10 hown hK hP 0 rfl rfl 0 (by decide) (hts _ mw_946) (fun _ h9 => h9) rfl dX10_init_203 ?_
  refine lv_bipush (v := 58) hx hb dX10_init_206 (by decide) ?_
  refine lv_iload_n hx hb dX10_init_208 rfl (lv_at hl 0 rfl) ?_
  refine lv_iadd hx hb dX10_init_209 ?_
  refine lv_iconst (v := 3) hx hb dX10_init_210 (by decide) ?_
  refine va_iast (i := (58 + 7)) (x := 3) hx hb hK hP hD hS 1 0 rfl rfl (by show ¬ (_ ∨ _); decide) dX10_init_211 (fun H locs hP2 hD2 hS => ?_)
  clear hP hD
  have hP := hP2
  have hD := hD2
  clear hP2 hD2
  refine W.widen (k := 20) (n := 10052) (Nat.le_of_ble_eq_true rfl) (Nat.le_of_ble_eq_true rfl) ?_
  exact sg_X10_init_8 dC dI h0 q1 q3 q5 q7 q9 q11 q13 q15 q17 q19 q21 q23 q25 q27 q29 q31 q33 q35 q37 q39 cA2 hx hb hr hts hown hml hlocks hin hN hA hK hP hD hS hl
set_option maxHeartbeats 4000000 in
set_option maxRecDepth 100000 in
theorem sg_X10_init_6 {p : Program} {l : Launch} {e : Env} {s : State} {m : MethodId} {args : Array Value} {below : List Frame} {meth : Method} {c : Code} (dC : Nat → ClassId) (dI : Nat → Nat → Nat) {A : Nat → Prop} (h0 : Nat) (q1 : Nat) (q3 : Nat) (q5 : Nat) (q7 : Nat) (q9 : Nat) (q11 : Nat) (q13 : Nat) (q15 : Nat) (q17 : Nat) (q19 : Nat) (q21 : Nat) (q23 : Nat) (q25 : Nat) (q27 : Nat) (q29 : Nat) (q31 : Nat) (q33 : Nat) (q35 : Nat) (q37 : Nat) (q39 : Nat) (cA2 : ClassId) (hx : p.tables.exec = Jvm.exec) (hb : c.code = cX10_init) (hr : meth.sig.returnType = none) (hts : ∀ w ∈ WT, w.before args s = true) (hown : s.vm.findClass RX10 = some m.cls) (hml : c.maxLocals = 2) (hlocks : meth.locks = false) (hin : meth.name = "<init>") (hN : NK s) (hA : ∀ q : Nat, s.heap.size ≤ q → A q) {H : Heap} {locs : List Loc} {ls : Array Slot} (hK : va_K (dC, dI) CLS [(cA2, .int)] s) (hP : va_P (dC, dI) CLS [(h0, eO 9 [.ref q1, .ref q3, .ref q5, .int 0, .ref q7, .ref q9, .ref q11, .ref q13, .ref q15, .ref q17, .ref q19, .ref q21, .ref q23, .ref q25, .int 0, .ref q27, .ref q29, .int 0, .int 0, .int 0, .int 0, .int 0, .int 0, .int 0, .int 0, .int 0, .int 0, .int 0, .ref q31, .ref q33, .ref q35, .ref q37, .int 0, .ref q39]), (q1, eI cA2 3082 (upd (upd (upd (upd (fun _ => 0) 9 1) 3 12) 4 12) 5 40)), (q3, eI cA2 3082 (fun _ => 0)), (q5, eI cA2 3082 (fun _ => 0)), (q7, eI cA2 4 (fun _ => 0)), (q9, eI cA2 4 (fun _ => 0)), (q11, eI cA2 96 (fun _ => 0)), (q13, eI cA2 5 (fun _ => 0)), (q15, eI cA2 5 (fun _ => 0)), (q17, eI cA2 5 (fun _ => 0)), (q19, eI cA2 5 (fun _ => 0)), (q21, eI cA2 120 (fun _ => 0)), (q23, eI cA2 6 (fun _ => 0)), (q25, eI cA2 6 (fun _ => 0)), (q27, eI cA2 82 (fun _ => 0)), (q29, eI cA2 96 (fun _ => 0)), (q31, eI cA2 128 (fun _ => 0)), (q33, eI cA2 100 (fun _ => 0)), (q35, eI cA2 24 (fun _ => 0)), (q37, eI cA2 60 (fun _ => 0)), (q39, eI cA2 60 (fun _ => 0))] H) (hD : va_D A [(h0, eO 9 [.ref q1, .ref q3, .ref q5, .int 0, .ref q7, .ref q9, .ref q11, .ref q13, .ref q15, .ref q17, .ref q19, .ref q21, .ref q23, .ref q25, .int 0, .ref q27, .ref q29, .int 0, .int 0, .int 0, .int 0, .int 0, .int 0, .int 0, .int 0, .int 0, .int 0, .int 0, .ref q31, .ref q33, .ref q35, .ref q37, .int 0, .ref q39]), (q1, eI cA2 3082 (upd (upd (upd (upd (fun _ => 0) 9 1) 3 12) 4 12) 5 40)), (q3, eI cA2 3082 (fun _ => 0)), (q5, eI cA2 3082 (fun _ => 0)), (q7, eI cA2 4 (fun _ => 0)), (q9, eI cA2 4 (fun _ => 0)), (q11, eI cA2 96 (fun _ => 0)), (q13, eI cA2 5 (fun _ => 0)), (q15, eI cA2 5 (fun _ => 0)), (q17, eI cA2 5 (fun _ => 0)), (q19, eI cA2 5 (fun _ => 0)), (q21, eI cA2 120 (fun _ => 0)), (q23, eI cA2 6 (fun _ => 0)), (q25, eI cA2 6 (fun _ => 0)), (q27, eI cA2 82 (fun _ => 0)), (q29, eI cA2 96 (fun _ => 0)), (q31, eI cA2 128 (fun _ => 0)), (q33, eI cA2 100 (fun _ => 0)), (q35, eI cA2 24 (fun _ => 0)), (q37, eI cA2 60 (fun _ => 0)), (q39, eI cA2 60 (fun _ => 0))]) (hS : va_S A s.heap H locs) (hl : lv_has ls 2 [(0, .ref h0)]) : W p l e rm_X10_init s m args below meth c H locs 20 10052 (MQ below (va_Qv (fun _ : Unit => True) (fun _ t => ∃ (q1 : Nat) (q3 : Nat) (q5 : Nat) (q7 : Nat) (q9 : Nat) (q11 : Nat) (q13 : Nat) (q15 : Nat) (q17 : Nat) (q19 : Nat) (q21 : Nat) (q23 : Nat) (q25 : Nat) (q27 : Nat) (q29 : Nat) (q31 : Nat) (q33 : Nat) (q35 : Nat) (q37 : Nat) (q39 : Nat) (cA2 : ClassId), va_P (dC, dI) CLS [(h0, eO 9 [.ref q1, .ref q3, .ref q5, .int 0, .ref q7, .ref q9, .ref q11, .ref q13, .ref q15, .ref q17, .ref q19, .ref q21, .ref q23, .ref q25, .int 0, .ref q27, .ref q29, .int 0, .int 0, .int 0, .int 0, .int 0, .int 0, .int 0, .int 0, .int 0, .int 0, .int 0, .ref q31, .ref q33, .ref q35, .ref q37, .int 0, .ref q39]), (q1, eI cA2 3082 (upd (upd (upd (upd (upd (upd (upd (upd (upd (upd (upd (upd (upd (upd (upd (upd (fun _ => 0) 9 1) 3 12) 4 12) 5 40) 58 3) 59 3) 60 3) 61 3) 62 3) 63 3) 64 3) 65 3) 66 3) 67 3) 68 3) 69 3)), (q3, eI cA2 3082 (fun _ => 0)), (q5, eI cA2 3082 (fun _ => 0)), (q7, eI cA2 4 (upd (upd (upd (upd (fun _ => 0) 0 (-1)) 1 (-1)) 2 (-1)) 3 (-1))), (q9, eI cA2 4 (fun _ => 0)), (q11, eI cA2 96 (fun _ => 0)), (q13, eI cA2 5 (fun _ => 0)), (q15, eI cA2 5 (fun _ => 0)), (q17, eI cA2 5 (fun _ => 0)), (q19, eI cA2 5 (fun _ => 0)), (q21, eI cA2 120 (fun _ => 0)), (q23, eI cA2 6 (fun _ => 0)), (q25, eI cA2 6 (fun _ => 0)), (q27, eI cA2 82 (fun _ => 0)), (q29, eI cA2 96 (fun _ => 0)), (q31, eI cA2 128 (fun _ => 0)), (q33, eI cA2 100 (fun _ => 0)), (q35, eI cA2 24 (fun _ => 0)), (q37, eI cA2 60 (fun _ => 0)), (q39, eI cA2 60 (fun _ => 0))] t.heap ∧ va_K (dC, dI) CLS [(cA2, .int)] t ∧ va_D A [(h0, eO 9 [.ref q1, .ref q3, .ref q5, .int 0, .ref q7, .ref q9, .ref q11, .ref q13, .ref q15, .ref q17, .ref q19, .ref q21, .ref q23, .ref q25, .int 0, .ref q27, .ref q29, .int 0, .int 0, .int 0, .int 0, .int 0, .int 0, .int 0, .int 0, .int 0, .int 0, .int 0, .ref q31, .ref q33, .ref q35, .ref q37, .int 0, .ref q39]), (q1, eI cA2 3082 (upd (upd (upd (upd (upd (upd (upd (upd (upd (upd (upd (upd (upd (upd (upd (upd (fun _ => 0) 9 1) 3 12) 4 12) 5 40) 58 3) 59 3) 60 3) 61 3) 62 3) 63 3) 64 3) 65 3) 66 3) 67 3) 68 3) 69 3)), (q3, eI cA2 3082 (fun _ => 0)), (q5, eI cA2 3082 (fun _ => 0)), (q7, eI cA2 4 (upd (upd (upd (upd (fun _ => 0) 0 (-1)) 1 (-1)) 2 (-1)) 3 (-1))), (q9, eI cA2 4 (fun _ => 0)), (q11, eI cA2 96 (fun _ => 0)), (q13, eI cA2 5 (fun _ => 0)), (q15, eI cA2 5 (fun _ => 0)), (q17, eI cA2 5 (fun _ => 0)), (q19, eI cA2 5 (fun _ => 0)), (q21, eI cA2 120 (fun _ => 0)), (q23, eI cA2 6 (fun _ => 0)), (q25, eI cA2 6 (fun _ => 0)), (q27, eI cA2 82 (fun _ => 0)), (q29, eI cA2 96 (fun _ => 0)), (q31, eI cA2 128 (fun _ => 0)), (q33, eI cA2 100 (fun _ => 0)), (q35, eI cA2 24 (fun _ => 0)), (q37, eI cA2 60 (fun _ => 0)), (q39, eI cA2 60 (fun _ => 0))]) A) args s 20 10052 A) (F0 m 194 ls []) := by
  refine lv_iconst (v := 0) hx hb dX10_init_194 (by decide) ?_
  refine lv_istore_n (lv' := [(1, .int 0), (0, .ref h0)]) hx hb dX10_init_195 rfl hl (by decide) rfl (fun ls hl => ?_)
  refine lv_iload_n hx hb dX10_init_196 rfl (lv_at hl 0 rfl) ?_
  refine lv_bipush (v := 12) hx hb dX10_init_197 (by decide) ?_
  refine lv_icmp_ge (tgt := 218) hx hb dX10_init_199 (by decide) (fun q => absurd q (by decide)) (fun _ => ?_)
  refine lv_aload_n hx hb dX10_init_202 rfl (lv_at hl 1 rfl) ?_
  refine va_get (D := (dC, dI)) (ci := 9) (v := .ref q1) (C := RX10) (T := TX10) (N := 34) hx hb hts iwX10 hown hK hP 0 rfl rfl 0 (by decide) (hts _ mw_946) (fun _ h9 => h9) rfl dX10_init_203 ?_
  refine lv_bipush (v := 58) hx hb dX10_init_206 (by decide) ?_
  refine lv_iload_n hx hb dX10_init_208 rfl (lv_at hl 0 rfl) ?_
  refine lv_iadd hx hb dX10_init_209 ?_
  refine lv_iconst (v := 3) hx hb dX10_init_210 (by decide) ?_
  refine va_iast (i := (58 + 0)) (x := 3) hx hb hK hP hD hS 1 0 rfl rfl (by show ¬ (_ ∨ _); decide) dX10_init_211 (fun H locs hP2 hD2 hS => ?_)
  clear hP hD
  have hP := hP2
  have hD := hD2
  clear hP2 hD2
  refine lv_iinc (v := 1) (lv' := [(1, .int 1), (0, .ref h0)]) hx hb dX10_init_212 hl (k := 0) rfl (by decide) (by decide) rfl (fun ls hl => ?_)
  refine lv_goto (tgt := 196) hx hb dX10_init_215 (by decide) ?_
  refine lv_iload_n hx hb dX10_init_196 rfl (lv_at hl 0 rfl) ?_
  refine lv_bipush (v := 12) hx hb dX10_init_197 (by decide) ?_
  refine lv_icmp_ge (tgt := 218) hx hb dX10_init_199 (by decide) (fun q => absurd q (by decide)) (fun _ => ?_)
  refine lv_aload_n hx hb dX10_init_202 rfl (lv_at hl 1 rfl) ?_
  refine va_get (D := (dC, dI)) (ci := 9) (v := .ref q1) (C := RX10) (T := TX10) (N := 34) hx hb hts iwX10 hown hK hP 0 rfl rfl 0 (by decide) (hts _ mw_946) (fun _ h9 => h9) rfl dX10_init_203 ?_
  refine lv_bipush (v := 58) hx hb dX10_init_206 (by decide) ?_
  refine lv_iload_n hx hb dX10_init_208 rfl (lv_at hl 0 rfl) ?_
  refine lv_iadd hx hb dX10_init_209 ?_
  refine lv_iconst (v := 3) hx hb dX10_init_210 (by decide) ?_
  refine va_iast (i := (58 + 1)) (x := 3) hx hb hK hP hD hS 1 0 rfl rfl (by show ¬ (_ ∨ _); decide) dX10_init_211 (fun H locs hP2 hD2 hS => ?_)
  clear hP hD
  have hP := hP2
  have hD := hD2
  clear hP2 hD2
  refine lv_iinc (v := 2) (lv' := [(1, .int 2), (0, .ref h0)]) hx hb dX10_init_212 hl (k := 0) rfl (by decide) (by decide) rfl (fun ls hl => ?_)
  refine lv_goto (tgt := 196) hx hb dX10_init_215 (by decide) ?_
  refine lv_iload_n hx hb dX10_init_196 rfl (lv_at hl 0 rfl) ?_
  refine lv_bipush (v := 12) hx hb dX10_init_197 (by decide) ?_
  refine lv_icmp_ge (tgt := 218) hx hb dX10_init_199 (by decide) (fun q => absurd q (by decide)) (fun _ => ?_)
  refine lv_aload_n hx hb dX10_init_202 rfl (lv_at hl 1 rfl) ?_
  refine va_get (D := (dC, dI)) (ci := 9) (v := .ref q1) (C := RX10) (T := TX10) (N := 34) hx hb hts iwX10 hown hK hP 0 rfl rfl 0 (by decide) (hts _ mw_946) (fun _ h9 => h9) rfl dX10_init_203 ?_
  refine lv_bipush (v := 58) hx hb dX10_init_206 (by decide) ?_
  refine lv_iload_n hx hb dX10_init_208 rfl (lv_at hl 0 rfl) ?_
  refine lv_iadd hx hb dX10_init_209 ?_
  refine lv_iconst (v := 3) hx hb dX10_init_210 (by decide) ?_
  refine va_iast (i := (58 + 2)) (x := 3) hx hb hK hP hD hS 1 0 rfl rfl (by show ¬ (_ ∨ _); decide) dX10_init_211 (fun H locs hP2 hD2 hS => ?_)
  clear hP hD
  have hP := hP2
  have hD := hD2
  clear hP2 hD2
  refine lv_iinc (v := 3) (lv' := [(1, .int 3), (0, .ref h0)]) hx hb dX10_init_212 hl (k := 0) rfl (by decide) (by decide) rfl (fun ls hl => ?_)
  refine lv_goto (tgt := 196) hx hb dX10_init_215 (by decide) ?_
  refine lv_iload_n hx hb dX10_init_196 rfl (lv_at hl 0 rfl) ?_
  refine lv_bipush (v := 12) hx hb dX10_init_197 (by decide) ?_
  refine lv_icmp_ge (tgt := 218) hx hb dX10_init_199 (by decide) (fun q => absurd q (by decide)) (fun _ => ?_)
  refine lv_aload_n hx hb dX10_init_202 rfl (lv_at hl 1 rfl) ?_
  refine va_get (D := (dC, dI)) (ci := 9) (v := .ref q1) (C := RX10) (T := TX10) (N := 34) hx hb hts iwX10 hown hK hP 0 rfl rfl 0 (by decide) (hts _ mw_946) (fun _ h9 => h9) rfl dX10_init_203 ?_
  refine lv_bipush (v := 58) hx hb dX10_init_206 (by decide) ?_
  refine lv_iload_n hx hb dX10_init_208 rfl (lv_at hl 0 rfl) ?_
  refine lv_iadd hx hb dX10_init_209 ?_
  refine lv_iconst (v := 3) hx hb dX10_init_210 (by decide) ?_
  refine va_iast (i := (58 + 3)) (x := 3) hx hb hK hP hD hS 1 0 rfl rfl (by show ¬ (_ ∨ _); decide) dX10_init_211 (fun H locs hP2 hD2 hS => ?_)
  clear hP hD
  have hP := hP2
  have hD := hD2
  clear hP2 hD2
  refine W.widen (k := 20) (n := 10052) (Nat.le_of_ble_eq_true rfl) (Nat.le_of_ble_eq_true rfl) ?_
  exact sg_X10_init_7 dC dI h0 q1 q3 q5 q7 q9 q11 q13 q15 q17 q19 q21 q23 q25 q27 q29 q31 q33 q35 q37 q39 cA2 hx hb hr hts hown hml hlocks hin hN hA hK hP hD hS hl
set_option maxHeartbeats 4000000 in
set_option maxRecDepth 100000 in
theorem sg_X10_init_5 {p : Program} {l : Launch} {e : Env} {s : State} {m : MethodId} {args : Array Value} {below : List Frame} {meth : Method} {c : Code} (dC : Nat → ClassId) (dI : Nat → Nat → Nat) {A : Nat → Prop} (h0 : Nat) (q1 : Nat) (q3 : Nat) (q5 : Nat) (q7 : Nat) (q9 : Nat) (q11 : Nat) (q13 : Nat) (q15 : Nat) (q17 : Nat) (q19 : Nat) (q21 : Nat) (q23 : Nat) (q25 : Nat) (q27 : Nat) (q29 : Nat) (q31 : Nat) (q33 : Nat) (q35 : Nat) (q37 : Nat) (q39 : Nat) (cA2 : ClassId) (hx : p.tables.exec = Jvm.exec) (hb : c.code = cX10_init) (hr : meth.sig.returnType = none) (hts : ∀ w ∈ WT, w.before args s = true) (hown : s.vm.findClass RX10 = some m.cls) (hml : c.maxLocals = 2) (hlocks : meth.locks = false) (hin : meth.name = "<init>") (hN : NK s) (hA : ∀ q : Nat, s.heap.size ≤ q → A q) {H : Heap} {locs : List Loc} {ls : Array Slot} (hK : va_K (dC, dI) CLS [(cA2, .int)] s) (hP : va_P (dC, dI) CLS [(h0, eO 9 [.ref q1, .ref q3, .ref q5, .int 0, .ref q7, .ref q9, .ref q11, .ref q13, .ref q15, .ref q17, .ref q19, .ref q21, .ref q23, .ref q25, .int 0, .ref q27, .ref q29, .int 0, .int 0, .int 0, .int 0, .int 0, .int 0, .int 0, .int 0, .int 0, .int 0, .int 0, .ref q31, .ref q33, .ref q35, .ref q37, .int 0, .null]), (q1, eI cA2 3082 (fun _ => 0)), (q3, eI cA2 3082 (fun _ => 0)), (q5, eI cA2 3082 (fun _ => 0)), (q7, eI cA2 4 (fun _ => 0)), (q9, eI cA2 4 (fun _ => 0)), (q11, eI cA2 96 (fun _ => 0)), (q13, eI cA2 5 (fun _ => 0)), (q15, eI cA2 5 (fun _ => 0)), (q17, eI cA2 5 (fun _ => 0)), (q19, eI cA2 5 (fun _ => 0)), (q21, eI cA2 120 (fun _ => 0)), (q23, eI cA2 6 (fun _ => 0)), (q25, eI cA2 6 (fun _ => 0)), (q27, eI cA2 82 (fun _ => 0)), (q29, eI cA2 96 (fun _ => 0)), (q31, eI cA2 128 (fun _ => 0)), (q33, eI cA2 100 (fun _ => 0)), (q35, eI cA2 24 (fun _ => 0)), (q37, eI cA2 60 (fun _ => 0)), (q39, eI cA2 60 (fun _ => 0))] H) (hD : va_D A [(h0, eO 9 [.ref q1, .ref q3, .ref q5, .int 0, .ref q7, .ref q9, .ref q11, .ref q13, .ref q15, .ref q17, .ref q19, .ref q21, .ref q23, .ref q25, .int 0, .ref q27, .ref q29, .int 0, .int 0, .int 0, .int 0, .int 0, .int 0, .int 0, .int 0, .int 0, .int 0, .int 0, .ref q31, .ref q33, .ref q35, .ref q37, .int 0, .null]), (q1, eI cA2 3082 (fun _ => 0)), (q3, eI cA2 3082 (fun _ => 0)), (q5, eI cA2 3082 (fun _ => 0)), (q7, eI cA2 4 (fun _ => 0)), (q9, eI cA2 4 (fun _ => 0)), (q11, eI cA2 96 (fun _ => 0)), (q13, eI cA2 5 (fun _ => 0)), (q15, eI cA2 5 (fun _ => 0)), (q17, eI cA2 5 (fun _ => 0)), (q19, eI cA2 5 (fun _ => 0)), (q21, eI cA2 120 (fun _ => 0)), (q23, eI cA2 6 (fun _ => 0)), (q25, eI cA2 6 (fun _ => 0)), (q27, eI cA2 82 (fun _ => 0)), (q29, eI cA2 96 (fun _ => 0)), (q31, eI cA2 128 (fun _ => 0)), (q33, eI cA2 100 (fun _ => 0)), (q35, eI cA2 24 (fun _ => 0)), (q37, eI cA2 60 (fun _ => 0)), (q39, eI cA2 60 (fun _ => 0))]) (hS : va_S A s.heap H locs) (hl : lv_has ls 2 [(0, .ref h0)]) : W p l e rm_X10_init s m args below meth c H locs 20 10052 (MQ below (va_Qv (fun _ : Unit => True) (fun _ t => ∃ (q1 : Nat) (q3 : Nat) (q5 : Nat) (q7 : Nat) (q9 : Nat) (q11 : Nat) (q13 : Nat) (q15 : Nat) (q17 : Nat) (q19 : Nat) (q21 : Nat) (q23 : Nat) (q25 : Nat) (q27 : Nat) (q29 : Nat) (q31 : Nat) (q33 : Nat) (q35 : Nat) (q37 : Nat) (q39 : Nat) (cA2 : ClassId), va_P (dC, dI) CLS [(h0, eO 9 [.ref q1, .ref q3, .ref q5, .int 0, .ref q7, .ref q9, .ref q11, .ref q13, .ref q15, .ref q17, .ref q19, .ref q21, .ref q23, .ref q25, .int 0, .ref q27, .ref q29, .int 0, .int 0, .int 0, .int 0, .int 0, .int 0, .int 0, .int 0, .int 0, .int 0, .int 0, .ref q31, .ref q33, .ref q35, .ref q37, .int 0, .ref q39]), (q1, eI cA2 3082 (upd (upd (upd (upd (upd (upd (upd (upd (upd (upd (upd (upd (upd (upd (upd (upd (fun _ => 0) 9 1) 3 12) 4 12) 5 40) 58 3) 59 3) 60 3) 61 3) 62 3) 63 3) 64 3) 65 3) 66 3) 67 3) 68 3) 69 3)), (q3, eI cA2 3082 (fun _ => 0)), (q5, eI cA2 3082 (fun _ => 0)), (q7, eI cA2 4 (upd (upd (upd (upd (fun _ => 0) 0 (-1)) 1 (-1)) 2 (-1)) 3 (-1))), (q9, eI cA2 4 (fun _ => 0)), (q11, eI cA2 96 (fun _ => 0)), (q13, eI cA2 5 (fun _ => 0)), (q15, eI cA2 5 (fun _ => 0)), (q17, eI cA2 5 (fun _ => 0)), (q19, eI cA2 5 (fun _ => 0)), (q21, eI cA2 120 (fun _ => 0)), (q23, eI cA2 6 (fun _ => 0)), (q25, eI cA2 6 (fun _ => 0)), (q27, eI cA2 82 (fun _ => 0)), (q29, eI cA2 96 (fun _ => 0)), (q31, eI cA2 128 (fun _ => 0)), (q33, eI cA2 100 (fun _ => 0)), (q35, eI cA2 24 (fun _ => 0)), (q37, eI cA2 60 (fun _ => 0)), (q39, eI cA2 60 (fun _ => 0))] t.heap ∧ va_K (dC, dI) CLS [(cA2, .int)] t ∧ va_D A [(h0, eO 9 [.ref q1, .ref q3, .ref q5, .int 0, .ref q7, .ref q9, .ref q11, .ref q13, .ref q15, .ref q17, .ref q19, .ref q21, .ref q23, .ref q25, .int 0, .ref q27, .ref q29, .int 0, .int 0, .int 0, .int 0, .int 0, .int 0, .int 0, .int 0, .int 0, .int 0, .int 0, .ref q31, .ref q33, .ref q35, .ref q37, .int 0, .ref q39]), (q1, eI cA2 3082 (upd (upd (upd (upd (upd (upd (upd (upd (upd (upd (upd (upd (upd (upd (upd (upd (fun _ => 0) 9 1) 3 12) 4 12) 5 40) 58 3) 59 3) 60 3) 61 3) 62 3) 63 3) 64 3) 65 3) 66 3) 67 3) 68 3) 69 3)), (q3, eI cA2 3082 (fun _ => 0)), (q5, eI cA2 3082 (fun _ => 0)), (q7, eI cA2 4 (upd (upd (upd (upd (fun _ => 0) 0 (-1)) 1 (-1)) 2 (-1)) 3 (-1))), (q9, eI cA2 4 (fun _ => 0)), (q11, eI cA2 96 (fun _ => 0)), (q13, eI cA2 5 (fun _ => 0)), (q15, eI cA2 5 (fun _ => 0)), (q17, eI cA2 5 (fun _ => 0)), (q19, eI cA2 5 (fun _ => 0)), (q21, eI cA2 120 (fun _ => 0)), (q23, eI cA2 6 (fun _ => 0)), (q25, eI cA2 6 (fun _ => 0)), (q27, eI cA2 82 (fun _ => 0)), (q29, eI cA2 96 (fun _ => 0)), (q31, eI cA2 128 (fun _ => 0)), (q33, eI cA2 100 (fun _ => 0)), (q35, eI cA2 24 (fun _ => 0)), (q37, eI cA2 60 (fun _ => 0)), (q39, eI cA2 60 (fun _ => 0))]) A) args s 20 10052 A) (F0 m 159 ls [.ref q39, .ref h0]) := by
  refine va_putF (D := (dC, dI)) (ci := 9) (v := .ref q39) (C := RX10) (T := TX10) (N := 34) hx hb hts iwX10 tyX10 tyX10_ok nmX10 hown hK hP hD hS 0 rfl rfl 33 (by decide) (hts _ mw_979) (fun _ h9 => h9) rfl hin rfl (tyX10_ok 33 (by decide)) rfl rfl (Nat.le_of_ble_eq_true rfl) dX10_init_159 (fun H locs hP2 hD2 hS => ?_)
  clear hP hD
  have hP := hP2
  have hD := hD2
  clear hP2 hD2
  refine lv_aload_n hx hb dX10_init_162 rfl (lv_at hl 0 rfl) ?_
  refine va_get (D := (dC, dI)) (ci := 9) (v := .ref q1) (C := RX10) (T := TX10) (N := 34) hx hb hts iwX10 hown hK hP 0 rfl rfl 0 (by decide) (hts _ mw_946) (fun _ h9 => h9) rfl dX10_init_163 ?_
  refine lv_bipush (v := 9) hx hb dX10_init_166 (by decide) ?_
  refine lv_iconst (v := 1) hx hb dX10_init_168 (by decide) ?_
  refine va_iast (i := 9) (x := 1) hx hb hK hP hD hS 1 0 rfl rfl (by show ¬ (_ ∨ _); decide) dX10_init_169 (fun H locs hP2 hD2 hS => ?_)
  clear hP hD
  have hP := hP2
  have hD := hD2
  clear hP2 hD2
  refine lv_aload_n hx hb dX10_init_170 rfl (lv_at hl 0 rfl) ?_
  refine va_get (D := (dC, dI)) (ci := 9) (v := .ref q1) (C := RX10) (T := TX10) (N := 34) hx hb hts iwX10 hown hK hP 0 rfl rfl 0 (by decide) (hts _ mw_946) (fun _ h9 => h9) rfl dX10_init_171 ?_
  refine lv_iconst (v := 3) hx hb dX10_init_174 (by decide) ?_
  refine lv_bipush (v := 12) hx hb dX10_init_175 (by decide) ?_
  refine va_iast (i := 3) (x := 12) hx hb hK hP hD hS 1 0 rfl rfl (by show ¬ (_ ∨ _); decide) dX10_init_177 (fun H locs hP2 hD2 hS => ?_)
  clear hP hD
  have hP := hP2
  have hD := hD2
  clear hP2 hD2
  refine lv_aload_n hx hb dX10_init_178 rfl (lv_at hl 0 rfl) ?_
  refine va_get (D := (dC, dI)) (ci := 9) (v := .ref q1) (C := RX10) (T := TX10) (N := 34) hx hb hts iwX10 hown hK hP 0 rfl rfl 0 (by decide) (hts _ mw_946) (fun _ h9 => h9) rfl dX10_init_179 ?_
  refine lv_iconst (v := 4) hx hb dX10_init_182 (by decide) ?_
  refine lv_bipush (v := 12) hx hb dX10_init_183 (by decide) ?_
  refine va_iast (i := 4) (x := 12) hx hb hK hP hD hS 1 0 rfl rfl (by show ¬ (_ ∨ _); decide) dX10_init_185 (fun H locs hP2 hD2 hS => ?_)
  clear hP hD
  have hP := hP2
  have hD := hD2
  clear hP2 hD2
  refine lv_aload_n hx hb dX10_init_186 rfl (lv_at hl 0 rfl) ?_
  refine va_get (D := (dC, dI)) (ci := 9) (v := .ref q1) (C := RX10) (T := TX10) (N := 34) hx hb hts iwX10 hown hK hP 0 rfl rfl 0 (by decide) (hts _ mw_946) (fun _ h9 => h9) rfl dX10_init_187 ?_
  refine lv_iconst (v := 5) hx hb dX10_init_190 (by decide) ?_
  refine lv_bipush (v := 40) hx hb dX10_init_191 (by decide) ?_
  refine va_iast (i := 5) (x := 40) hx hb hK hP hD hS 1 0 rfl rfl (by show ¬ (_ ∨ _); decide) dX10_init_193 (fun H locs hP2 hD2 hS => ?_)
  clear hP hD
  have hP := hP2
  have hD := hD2
  clear hP2 hD2
  refine W.widen (k := 20) (n := 10052) (Nat.le_of_ble_eq_true rfl) (Nat.le_of_ble_eq_true rfl) ?_
  exact sg_X10_init_6 dC dI h0 q1 q3 q5 q7 q9 q11 q13 q15 q17 q19 q21 q23 q25 q27 q29 q31 q33 q35 q37 q39 cA2 hx hb hr hts hown hml hlocks hin hN hA hK hP hD hS hl
set_option maxHeartbeats 4000000 in
set_option maxRecDepth 100000 in
theorem sg_X10_init_4 {p : Program} {l : Launch} {e : Env} {s : State} {m : MethodId} {args : Array Value} {below : List Frame} {meth : Method} {c : Code} (dC : Nat → ClassId) (dI : Nat → Nat → Nat) {A : Nat → Prop} (h0 : Nat) (q1 : Nat) (q3 : Nat) (q5 : Nat) (q7 : Nat) (q9 : Nat) (q11 : Nat) (q13 : Nat) (q15 : Nat) (q17 : Nat) (q19 : Nat) (q21 : Nat) (q23 : Nat) (q25 : Nat) (q27 : Nat) (q29 : Nat) (q31 : Nat) (cA2 : ClassId) (hx : p.tables.exec = Jvm.exec) (hb : c.code = cX10_init) (hr : meth.sig.returnType = none) (hts : ∀ w ∈ WT, w.before args s = true) (hown : s.vm.findClass RX10 = some m.cls) (hml : c.maxLocals = 2) (hlocks : meth.locks = false) (hin : meth.name = "<init>") (hN : NK s) (hA : ∀ q : Nat, s.heap.size ≤ q → A q) {H : Heap} {locs : List Loc} {ls : Array Slot} (hK : va_K (dC, dI) CLS [(cA2, .int)] s) (hP : va_P (dC, dI) CLS [(h0, eO 9 [.ref q1, .ref q3, .ref q5, .int 0, .ref q7, .ref q9, .ref q11, .ref q13, .ref q15, .ref q17, .ref q19, .ref q21, .ref q23, .ref q25, .int 0, .ref q27, .ref q29, .int 0, .int 0, .int 0, .int 0, .int 0, .int 0, .int 0, .int 0, .int 0, .int 0, .int 0, .null, .null, .null, .null, .int 0, .null]), (q1, eI cA2 3082 (fun _ => 0)), (q3, eI cA2 3082 (fun _ => 0)), (q5, eI cA2 3082 (fun _ => 0)), (q7, eI cA2 4 (fun _ => 0)), (q9, eI cA2 4 (fun _ => 0)), (q11, eI cA2 96 (fun _ => 0)), (q13, eI cA2 5 (fun _ => 0)), (q15, eI cA2 5 (fun _ => 0)), (q17, eI cA2 5 (fun _ => 0)), (q19, eI cA2 5 (fun _ => 0)), (q21, eI cA2 120 (fun _ => 0)), (q23, eI cA2 6 (fun _ => 0)), (q25, eI cA2 6 (fun _ => 0)), (q27, eI cA2 82 (fun _ => 0)), (q29, eI cA2 96 (fun _ => 0)), (q31, eI cA2 128 (fun _ => 0))] H) (hD : va_D A [(h0, eO 9 [.ref q1, .ref q3, .ref q5, .int 0, .ref q7, .ref q9, .ref q11, .ref q13, .ref q15, .ref q17, .ref q19, .ref q21, .ref q23, .ref q25, .int 0, .ref q27, .ref q29, .int 0, .int 0, .int 0, .int 0, .int 0, .int 0, .int 0, .int 0, .int 0, .int 0, .int 0, .null, .null, .null, .null, .int 0, .null]), (q1, eI cA2 3082 (fun _ => 0)), (q3, eI cA2 3082 (fun _ => 0)), (q5, eI cA2 3082 (fun _ => 0)), (q7, eI cA2 4 (fun _ => 0)), (q9, eI cA2 4 (fun _ => 0)), (q11, eI cA2 96 (fun _ => 0)), (q13, eI cA2 5 (fun _ => 0)), (q15, eI cA2 5 (fun _ => 0)), (q17, eI cA2 5 (fun _ => 0)), (q19, eI cA2 5 (fun _ => 0)), (q21, eI cA2 120 (fun _ => 0)), (q23, eI cA2 6 (fun _ => 0)), (q25, eI cA2 6 (fun _ => 0)), (q27, eI cA2 82 (fun _ => 0)), (q29, eI cA2 96 (fun _ => 0)), (q31, eI cA2 128 (fun _ => 0))]) (hS : va_S A s.heap H locs) (hl : lv_has ls 2 [(0, .ref h0)]) : W p l e rm_X10_init s m args below meth c H locs 16 9808 (MQ below (va_Qv (fun _ : Unit => True) (fun _ t => ∃ (q1 : Nat) (q3 : Nat) (q5 : Nat) (q7 : Nat) (q9 : Nat) (q11 : Nat) (q13 : Nat) (q15 : Nat) (q17 : Nat) (q19 : Nat) (q21 : Nat) (q23 : Nat) (q25 : Nat) (q27 : Nat) (q29 : Nat) (q31 : Nat) (q33 : Nat) (q35 : Nat) (q37 : Nat) (q39 : Nat) (cA2 : ClassId), va_P (dC, dI) CLS [(h0, eO 9 [.ref q1, .ref q3, .ref q5, .int 0, .ref q7, .ref q9, .ref q11, .ref q13, .ref q15, .ref q17, .ref q19, .ref q21, .ref q23, .ref q25, .int 0, .ref q27, .ref q29, .int 0, .int 0, .int 0, .int 0, .int 0, .int 0, .int 0, .int 0, .int 0, .int 0, .int 0, .ref q31, .ref q33, .ref q35, .ref q37, .int 0, .ref q39]), (q1, eI cA2 3082 (upd (upd (upd (upd (upd (upd (upd (upd (upd (upd (upd (upd (upd (upd (upd (upd (fun _ => 0) 9 1) 3 12) 4 12) 5 40) 58 3) 59 3) 60 3) 61 3) 62 3) 63 3) 64 3) 65 3) 66 3) 67 3) 68 3) 69 3)), (q3, eI cA2 3082 (fun _ => 0)), (q5, eI cA2 3082 (fun _ => 0)), (q7, eI cA2 4 (upd (upd (upd (upd (fun _ => 0) 0 (-1)) 1 (-1)) 2 (-1)) 3 (-1))), (q9, eI cA2 4 (fun _ => 0)), (q11, eI cA2 96 (fun _ => 0)), (q13, eI cA2 5 (fun _ => 0)), (q15, eI cA2 5 (fun _ => 0)), (q17, eI cA2 5 (fun _ => 0)), (q19, eI cA2 5 (fun _ => 0)), (q21, eI cA2 120 (fun _ => 0)), (q23, eI cA2 6 (fun _ => 0)), (q25, eI cA2 6 (fun _ => 0)), (q27, eI cA2 82 (fun _ => 0)), (q29, eI cA2 96 (fun _ => 0)), (q31, eI cA2 128 (fun _ => 0)), (q33, eI cA2 100 (fun _ => 0)), (q35, eI cA2 24 (fun _ => 0)), (q37, eI cA2 60 (fun _ => 0)), (q39, eI cA2 60 (fun _ => 0))] t.heap ∧ va_K (dC, dI) CLS [(cA2, .int)] t ∧ va_D A [(h0, eO 9 [.ref q1, .ref q3, .ref q5, .int 0, .ref q7, .ref q9, .ref q11, .ref q13, .ref q15, .ref q17, .ref q19, .ref q21, .ref q23, .ref q25, .int 0, .ref q27, .ref q29, .int 0, .int 0, .int 0, .int 0, .int 0, .int 0, .int 0, .int 0, .int 0, .int 0, .int 0, .ref q31, .ref q33, .ref q35, .ref q37, .int 0, .ref q39]), (q1, eI cA2 3082 (upd (upd (upd (upd (upd (upd (upd (upd (upd (upd (upd (upd (upd (upd (upd (upd (fun _ => 0) 9 1) 3 12) 4 12) 5 40) 58 3) 59 3) 60 3) 61 3) 62 3) 63 3) 64 3) 65 3) 66 3) 67 3) 68 3) 69 3)), (q3, eI cA2 3082 (fun _ => 0)), (q5, eI cA2 3082 (fun _ => 0)), (q7, eI cA2 4 (upd (upd (upd (upd (fun _ => 0) 0 (-1)) 1 (-1)) 2 (-1)) 3 (-1))), (q9, eI cA2 4 (fun _ => 0)), (q11, eI cA2 96 (fun _ => 0)), (q13, eI cA2 5 (fun _ => 0)), (q15, eI cA2 5 (fun _ => 0)), (q17, eI cA2 5 (fun _ => 0)), (q19, eI cA2 5 (fun _ => 0)), (q21, eI cA2 120 (fun _ => 0)), (q23, eI cA2 6 (fun _ => 0)), (q25, eI cA2 6 (fun _ => 0)), (q27, eI cA2 82 (fun _ => 0)), (q29, eI cA2 96 (fun _ => 0)), (q31, eI cA2 128 (fun _ => 0)), (q33, eI cA2 100 (fun _ => 0)), (q35, eI cA2 24 (fun _ => 0)), (q37, eI cA2 60 (fun _ => 0)), (q39, eI cA2 60 (fun _ => 0))]) A) args s 20 10052 A) (F0 m 127 ls [.ref q31, .ref h0]) := by
  refine va_putF (D := (dC, dI)) (ci := 9) (v := .ref q31) (C := RX10) (T := TX10) (N := 34) hx hb hts iwX10 tyX10 tyX10_ok nmX10 hown hK hP hD hS 0 rfl rfl 28 (by decide) (hts _ mw_974) (fun _ h9 => h9) rfl hin rfl (tyX10_ok 28 (by decide)) rfl rfl (Nat.le_of_ble_eq_true rfl) dX10_init_127 (fun H locs hP2 hD2 hS => ?_)
  clear hP hD
  have hP := hP2
  have hD := hD2
  clear hP2 hD2
  refine lv_aload_n hx hb dX10_init_130 rfl (lv_at hl 0 rfl) ?_
  refine lv_bipush (v := 100) hx hb dX10_init_131 (by decide) ?_
  refine va_newa (atype := .int) (a0 := (100, .inl (fun _ => 0))) (N' := 100) (n := 100) hx hb (hts _ mw_130) rfl hK hP hD hS hA (fun cA => rfl) (by decide) (by decide) (Nat.le_of_ble_eq_true rfl) (Nat.le_of_ble_eq_true rfl) (Nat.le_of_ble_eq_true rfl) dX10_init_133 (fun q33 cA34 H hK hP2 hD2 hS => ?_)
  obtain rfl : cA2 = cA34 := tysame hK (i := 0) (j := 1) rfl rfl
  have hK := hK.sub (tys' := [(cA2, .int)]) [0] rfl
  clear hP hD
  have hP := hP2
  have hD := hD2
  clear hP2 hD2
  refine va_putF (D := (dC, dI)) (ci := 9) (v := .ref q33) (C := RX10) (T := TX10) (N := 34) hx hb hts iwX10 tyX10 tyX10_ok nmX10 hown hK hP hD hS 0 rfl rfl 29 (by decide) (hts _ mw_975) (fun _ h9 => h9) rfl hin rfl (tyX10_ok 29 (by decide)) rfl rfl (Nat.le_of_ble_eq_true rfl) dX10_init_135 (fun H locs hP2 hD2 hS => ?_)
  clear hP hD
  have hP := hP2
  have hD := hD2
  clear hP2 hD2
  refine lv_aload_n hx hb dX10_init_138 rfl (lv_at hl 0 rfl) ?_
  refine lv_bipush (v := 24) hx hb dX10_init_139 (by decide) ?_
  refine va_newa (atype := .int) (a0 := (24, .inl (fun _ => 0))) (N' := 24) (n := 24) hx hb (hts _ mw_130) rfl hK hP hD hS hA (fun cA => rfl) (by decide) (by decide) (Nat.le_of_ble_eq_true rfl) (Nat.le_of_ble_eq_true rfl) (Nat.le_of_ble_eq_true rfl) dX10_init_141 (fun q35 cA36 H hK hP2 hD2 hS => ?_)
  obtain rfl : cA2 = cA36 := tysame hK (i := 0) (j := 1) rfl rfl
  have hK := hK.sub (tys' := [(cA2, .int)]) [0] rfl
  clear hP hD
  have hP := hP2
  have hD := hD2
  clear hP2 hD2
  refine va_putF (D := (dC, dI)) (ci := 9) (v := .ref q35) (C := RX10) (T := TX10) (N := 34) hx hb hts iwX10 tyX10 tyX10_ok nmX10 hown hK hP hD hS 0 rfl rfl 30 (by decide) (hts _ mw_976) (fun _ h9 => h9) rfl hin rfl (tyX10_ok 30 (by decide)) rfl rfl (Nat.le_of_ble_eq_true rfl) dX10_init_143 (fun H locs hP2 hD2 hS => ?_)
  clear hP hD
  have hP := hP2
  have hD := hD2
  clear hP2 hD2
  refine lv_aload_n hx hb dX10_init_146 rfl (lv_at hl 0 rfl) ?_
  refine lv_bipush (v := 60) hx hb dX10_init_147 (by decide) ?_
  refine va_newa (atype := .int) (a0 := (60, .inl (fun _ => 0))) (N' := 60) (n := 60) hx hb (hts _ mw_130) rfl hK hP hD hS hA (fun cA => rfl) (by decide) (by decide) (Nat.le_of_ble_eq_true rfl) (Nat.le_of_ble_eq_true rfl) (Nat.le_of_ble_eq_true rfl) dX10_init_149 (fun q37 cA38 H hK hP2 hD2 hS => ?_)
  obtain rfl : cA2 = cA38 := tysame hK (i := 0) (j := 1) rfl rfl
  have hK := hK.sub (tys' := [(cA2, .int)]) [0] rfl
  clear hP hD
  have hP := hP2
  have hD := hD2
  clear hP2 hD2
  refine va_putF (D := (dC, dI)) (ci := 9) (v := .ref q37) (C := RX10) (T := TX10) (N := 34) hx hb hts iwX10 tyX10 tyX10_ok nmX10 hown hK hP hD hS 0 rfl rfl 31 (by decide) (hts _ mw_977) (fun _ h9 => h9) rfl hin rfl (tyX10_ok 31 (by decide)) rfl rfl (Nat.le_of_ble_eq_true rfl) dX10_init_151 (fun H locs hP2 hD2 hS => ?_)
  clear hP hD
  have hP := hP2
  have hD := hD2
  clear hP2 hD2
  refine lv_aload_n hx hb dX10_init_154 rfl (lv_at hl 0 rfl) ?_
  refine lv_bipush (v := 60) hx hb dX10_init_155 (by decide) ?_
  refine va_newa (atype := .int) (a0 := (60, .inl (fun _ => 0))) (N' := 60) (n := 60) hx hb (hts _ mw_130) rfl hK hP hD hS hA (fun cA => rfl) (by decide) (by decide) (Nat.le_of_ble_eq_true rfl) (Nat.le_of_ble_eq_true rfl) (Nat.le_of_ble_eq_true rfl) dX10_init_157 (fun q39 cA40 H hK hP2 hD2 hS => ?_)
  obtain rfl : cA2 = cA40 := tysame hK (i := 0) (j := 1) rfl rfl
  have hK := hK.sub (tys' := [(cA2, .int)]) [0] rfl
  clear hP hD
  have hP := hP2
  have hD := hD2
  clear hP2 hD2
  refine W.widen (k := 20) (n := 10052) (Nat.le_of_ble_eq_true rfl) (Nat.le_of_ble_eq_true rfl) ?_
  exact sg_X10_init_5 dC dI h0 q1 q3 q5 q7 q9 q11 q13 q15 q17 q19 q21 q23 q25 q27 q29 q31 q33 q35 q37 q39 cA2 hx hb hr hts hown hml hlocks hin hN hA hK hP hD hS hl
set_option maxHeartbeats 4000000 in
set_option maxRecDepth 100000 in
theorem sg_X10_init_3 {p : Program} {l : Launch} {e : Env} {s : State} {m : MethodId} {args : Array Value} {below : List Frame} {meth : Method} {c : Code} (dC : Nat → ClassId) (dI : Nat → Nat → Nat) {A : Nat → Prop} (h0 : Nat) (q1 : Nat) (q3 : Nat) (q5 : Nat) (q7 : Nat) (q9 : Nat) (q11 : Nat) (q13 : Nat) (q15 : Nat) (q17 : Nat) (q19 : Nat) (q21 : Nat) (q23 : Nat) (cA2 : ClassId) (hx : p.tables.exec = Jvm.exec) (hb : c.code = cX10_init) (hr : meth.sig.returnType = none) (hts : ∀ w ∈ WT, w.before args s = true) (hown : s.vm.findClass RX10 = some m.cls) (hml : c.maxLocals = 2) (hlocks : meth.locks = false) (hin : meth.name = "<init>") (hN : NK s) (hA : ∀ q : Nat, s.heap.size ≤ q → A q) {H : Heap} {locs : List Loc} {ls : Array Slot} (hK : va_K (dC, dI) CLS [(cA2, .int)] s) (hP : va_P (dC, dI) CLS [(h0, eO 9 [.ref q1, .ref q3, .ref q5, .int 0, .ref q7, .ref q9, .ref q11, .ref q13, .ref q15, .ref q17, .ref q19, .ref q21, .null, .null, .int 0, .null, .null, .int 0, .int 0, .int 0, .int 0, .int 0, .int 0, .int 0, .int 0, .int 0, .int 0, .int 0, .null, .null, .null, .null, .int 0, .null]), (q1, eI cA2 3082 (fun _ => 0)), (q3, eI cA2 3082 (fun _ => 0)), (q5, eI cA2 3082 (fun _ => 0)), (q7, eI cA2 4 (fun _ => 0)), (q9, eI cA2 4 (fun _ => 0)), (q11, eI cA2 96 (fun _ => 0)), (q13, eI cA2 5 (fun _ => 0)), (q15, eI cA2 5 (fun _ => 0)), (q17, eI cA2 5 (fun _ => 0)), (q19, eI cA2 5 (fun _ => 0)), (q21, eI cA2 120 (fun _ => 0)), (q23, eI cA2 6 (fun _ => 0))] H) (hD : va_D A [(h0, eO 9 [.ref q1, .ref q3, .ref q5, .int 0, .ref q7, .ref q9, .ref q11, .ref q13, .ref q15, .ref q17, .ref q19, .ref q21, .null, .null, .int 0, .null, .null, .int 0, .int 0, .int 0, .int 0, .int 0, .int 0, .int 0, .int 0, .int 0, .int 0, .int 0, .null, .null, .null, .null, .int 0, .null]), (q1, eI cA2 3082 (fun _ => 0)), (q3, eI cA2 3082 (fun _ => 0)), (q5, eI cA2 3082 (fun _ => 0)), (q7, eI cA2 4 (fun _ => 0)), (q9, eI cA2 4 (fun _ => 0)), (q11, eI cA2 96 (fun _ => 0)), (q13, eI cA2 5 (fun _ => 0)), (q15, eI cA2 5 (fun _ => 0)), (q17, eI cA2 5 (fun _ => 0)), (q19, eI cA2 5 (fun _ => 0)), (q21, eI cA2 120 (fun _ => 0)), (q23, eI cA2 6 (fun _ => 0))]) (hS : va_S A s.heap H locs) (hl : lv_has ls 2 [(0, .ref h0)]) : W p l e rm_X10_init s m args below meth c H locs 12 9496 (MQ below (va_Qv (fun _ : Unit => True) (fun _ t => ∃ (q1 : Nat) (q3 : Nat) (q5 : Nat) (q7 : Nat) (q9 : Nat) (q11 : Nat) (q13 : Nat) (q15 : Nat) (q17 : Nat) (q19 : Nat) (q21 : Nat) (q23 : Nat) (q25 : Nat) (q27 : Nat) (q29 : Nat) (q31 : Nat) (q33 : Nat) (q35 : Nat) (q37 : Nat) (q39 : Nat) (cA2 : ClassId), va_P (dC, dI) CLS [(h0, eO 9 [.ref q1, .ref q3, .ref q5, .int 0, .ref q7, .ref q9, .ref q11, .ref q13, .ref q15, .ref q17, .ref q19, .ref q21, .ref q23, .ref q25, .int 0, .ref q27, .ref q29, .int 0, .int 0, .int 0, .int 0, .int 0, .int 0, .int 0, .int 0, .int 0, .int 0, .int 0, .ref q31, .ref q33, .ref q35, .ref q37, .int 0, .ref q39]), (q1, eI cA2 3082 (upd (upd (upd (upd (upd (upd (upd (upd (upd (upd (upd (upd (upd (upd (upd (upd (fun _ => 0) 9 1) 3 12) 4 12) 5 40) 58 3) 59 3) 60 3) 61 3) 62 3) 63 3) 64 3) 65 3) 66 3) 67 3) 68 3) 69 3)), (q3, eI cA2 3082 (fun _ => 0)), (q5, eI cA2 3082 (fun _ => 0)), (q7, eI cA2 4 (upd (upd (upd (upd (fun _ => 0) 0 (-1)) 1 (-1)) 2 (-1)) 3 (-1))), (q9, eI cA2 4 (fun _ => 0)), (q11, eI cA2 96 (fun _ => 0)), (q13, eI cA2 5 (fun _ => 0)), (q15, eI cA2 5 (fun _ => 0)), (q17, eI cA2 5 (fun _ => 0)), (q19, eI cA2 5 (fun _ => 0)), (q21, eI cA2 120 (fun _ => 0)), (q23, eI cA2 6 (fun _ => 0)), (q25, eI cA2 6 (fun _ => 0)), (q27, eI cA2 82 (fun _ => 0)), (q29, eI cA2 96 (fun _ => 0)), (q31, eI cA2 128 (fun _ => 0)), (q33, eI cA2 100 (fun _ => 0)), (q35, eI cA2 24 (fun _ => 0)), (q37, eI cA2 60 (fun _ => 0)), (q39, eI cA2 60 (fun _ => 0))] t.heap ∧ va_K (dC, dI) CLS [(cA2, .int)] t ∧ va_D A [(h0, eO 9 [.ref q1, .ref q3, .ref q5, .int 0, .ref q7, .ref q9, .ref q11, .ref q13, .ref q15, .ref q17, .ref q19, .ref q21, .ref q23, .ref q25, .int 0, .ref q27, .ref q29, .int 0, .int 0, .int 0, .int 0, .int 0, .int 0, .int 0, .int 0, .int 0, .int 0, .int 0, .ref q31, .ref q33, .ref q35, .ref q37, .int 0, .ref q39]), (q1, eI cA2 3082 (upd (upd (upd (upd (upd (upd (upd (upd (upd (upd (upd (upd (upd (upd (upd (upd (fun _ => 0) 9 1) 3 12) 4 12) 5 40) 58 3) 59 3) 60 3) 61 3) 62 3) 63 3) 64 3) 65 3) 66 3) 67 3) 68 3) 69 3)), (q3, eI cA2 3082 (fun _ => 0)), (q5, eI cA2 3082 (fun _ => 0)), (q7, eI cA2 4 (upd (upd (upd (upd (fun _ => 0) 0 (-1)) 1 (-1)) 2 (-1)) 3 (-1))), (q9, eI cA2 4 (fun _ => 0)), (q11, eI cA2 96 (fun _ => 0)), (q13, eI cA2 5 (fun _ => 0)), (q15, eI cA2 5 (fun _ => 0)), (q17, eI cA2 5 (fun _ => 0)), (q19, eI cA2 5 (fun _ => 0)), (q21, eI cA2 120 (fun _ => 0)), (q23, eI cA2 6 (fun _ => 0)), (q25, eI cA2 6 (fun _ => 0)), (q27, eI cA2 82 (fun _ => 0)), (q29, eI cA2 96 (fun _ => 0)), (q31, eI cA2 128 (fun _ => 0)), (q33, eI cA2 100 (fun _ => 0)), (q35, eI cA2 24 (fun _ => 0)), (q37, eI cA2 60 (fun _ => 0)), (q39, eI cA2 60 (fun _ => 0))]) A) args s 20 10052 A) (F0 m 94 ls [.ref q23, .ref h0]) := by
  refine va_putF (D := (dC, dI)) (ci := 9) (v := .ref q23) (C := RX10) (T := TX10) (N := 34) hx hb hts iwX10 tyX10 tyX10_ok nmX10 hown hK hP hD hS 0 rfl rfl 12 (by decide) (hts _ mw_958) (fun _ h9 => h9) rfl hin rfl (tyX10_ok 12 (by decide)) rfl rfl (Nat.le_of_ble_eq_true rfl) dX10_init_94 (fun H locs hP2 hD2 hS => ?_)
  clear hP hD
  have hP := hP2
  have hD := hD2
  clear hP2 hD2
  refine lv_aload_n hx hb dX10_init_97 rfl (lv_at hl 0 rfl) ?_
  refine lv_bipush (v := 6) hx hb dX10_init_98 (by decide) ?_
  refine va_newa (atype := .int) (a0 := (6, .inl (fun _ => 0))) (N' := 6) (n := 6) hx hb (hts _ mw_130) rfl hK hP hD hS hA (fun cA => rfl) (by decide) (by decide) (Nat.le_of_ble_eq_true rfl) (Nat.le_of_ble_eq_true rfl) (Nat.le_of_ble_eq_true rfl) dX10_init_100 (fun q25 cA26 H hK hP2 hD2 hS => ?_)
  obtain rfl : cA2 = cA26 := tysame hK (i := 0) (j := 1) rfl rfl
  have hK := hK.sub (tys' := [(cA2, .int)]) [0] rfl
  clear hP hD
  have hP := hP2
  have hD := hD2
  clear hP2 hD2
  refine va_putF (D := (dC, dI)) (ci := 9) (v := .ref q25) (C := RX10) (T := TX10) (N := 34) hx hb hts iwX10 tyX10 tyX10_ok nmX10 hown hK hP hD hS 0 rfl rfl 13 (by decide) (hts _ mw_959) (fun _ h9 => h9) rfl hin rfl (tyX10_ok 13 (by decide)) rfl rfl (Nat.le_of_ble_eq_true rfl) dX10_init_102 (fun H locs hP2 hD2 hS => ?_)
  clear hP hD
  have hP := hP2
  have hD := hD2
  clear hP2 hD2
  refine lv_aload_n hx hb dX10_init_105 rfl (lv_at hl 0 rfl) ?_
  refine lv_bipush (v := 82) hx hb dX10_init_106 (by decide) ?_
  refine va_newa (atype := .int) (a0 := (82, .inl (fun _ => 0))) (N' := 82) (n := 82) hx hb (hts _ mw_130) rfl hK hP hD hS hA (fun cA => rfl) (by decide) (by decide) (Nat.le_of_ble_eq_true rfl) (Nat.le_of_ble_eq_true rfl) (Nat.le_of_ble_eq_true rfl) dX10_init_108 (fun q27 cA28 H hK hP2 hD2 hS => ?_)
  obtain rfl : cA2 = cA28 := tysame hK (i := 0) (j := 1) rfl rfl
  have hK := hK.sub (tys' := [(cA2, .int)]) [0] rfl
  clear hP hD
  have hP := hP2
  have hD := hD2
  clear hP2 hD2
  refine va_putF (D := (dC, dI)) (ci := 9) (v := .ref q27) (C := RX10) (T := TX10) (N := 34) hx hb hts iwX10 tyX10 tyX10_ok nmX10 hown hK hP hD hS 0 rfl rfl 15 (by decide) (hts _ mw_961) (fun _ h9 => h9) rfl hin rfl (tyX10_ok 15 (by decide)) rfl rfl (Nat.le_of_ble_eq_true rfl) dX10_init_110 (fun H locs hP2 hD2 hS => ?_)
  clear hP hD
  have hP := hP2
  have hD := hD2
  clear hP2 hD2
  refine lv_aload_n hx hb dX10_init_113 rfl (lv_at hl 0 rfl) ?_
  refine lv_bipush (v := 96) hx hb dX10_init_114 (by decide) ?_
  refine va_newa (atype := .int) (a0 := (96, .inl (fun _ => 0))) (N' := 96) (n := 96) hx hb (hts _ mw_130) rfl hK hP hD hS hA (fun cA => rfl) (by decide) (by decide) (Nat.le_of_ble_eq_true rfl) (Nat.le_of_ble_eq_true rfl) (Nat.le_of_ble_eq_true rfl) dX10_init_116 (fun q29 cA30 H hK hP2 hD2 hS => ?_)
  obtain rfl : cA2 = cA30 := tysame hK (i := 0) (j := 1) rfl rfl
  have hK := hK.sub (tys' := [(cA2, .int)]) [0] rfl
  clear hP hD
  have hP := hP2
  have hD := hD2
  clear hP2 hD2
  refine va_putF (D := (dC, dI)) (ci := 9) (v := .ref q29) (C := RX10) (T := TX10) (N := 34) hx hb hts iwX10 tyX10 tyX10_ok nmX10 hown hK hP hD hS 0 rfl rfl 16 (by decide) (hts _ mw_962) (fun _ h9 => h9) rfl hin rfl (tyX10_ok 16 (by decide)) rfl rfl (Nat.le_of_ble_eq_true rfl) dX10_init_118 (fun H locs hP2 hD2 hS => ?_)
  clear hP hD
  have hP := hP2
  have hD := hD2
  clear hP2 hD2
  refine lv_aload_n hx hb dX10_init_121 rfl (lv_at hl 0 rfl) ?_
  refine lv_sipush (v := 128) hx hb dX10_init_122 (by decide) ?_
  refine va_newa (atype := .int) (a0 := (128, .inl (fun _ => 0))) (N' := 128) (n := 128) hx hb (hts _ mw_130) rfl hK hP hD hS hA (fun cA => rfl) (by decide) (by decide) (Nat.le_of_ble_eq_true rfl) (Nat.le_of_ble_eq_true rfl) (Nat.le_of_ble_eq_true rfl) dX10_init_125 (fun q31 cA32 H hK hP2 hD2 hS => ?_)
  obtain rfl : cA2 = cA32 := tysame hK (i := 0) (j := 1) rfl rfl
  have hK := hK.sub (tys' := [(cA2, .int)]) [0] rfl
  clear hP hD
  have hP := hP2
  have hD := hD2
  clear hP2 hD2
  refine W.widen (k := 16) (n := 9808) (Nat.le_of_ble_eq_true rfl) (Nat.le_of_ble_eq_true rfl) ?_
  exact sg_X10_init_4 dC dI h0 q1 q3 q5 q7 q9 q11 q13 q15 q17 q19 q21 q23 q25 q27 q29 q31 cA2 hx hb hr hts hown hml hlocks hin hN hA hK hP hD hS hl
set_option maxHeartbeats 4000000 in
set_option maxRecDepth 100000 in
theorem sg_X10_init_2 {p : Program} {l : Launch} {e : Env} {s : State} {m : MethodId} {args : Array Value} {below : List Frame} {meth : Method} {c : Code} (dC : Nat → ClassId) (dI : Nat → Nat → Nat) {A : Nat → Prop} (h0 : Nat) (q1 : Nat) (q3 : Nat) (q5 : Nat) (q7 : Nat) (q9 : Nat) (q11 : Nat) (q13 : Nat) (q15 : Nat) (cA2 : ClassId) (hx : p.tables.exec = Jvm.exec) (hb : c.code = cX10_init) (hr : meth.sig.returnType = none) (hts : ∀ w ∈ WT, w.before args s = true) (hown : s.vm.findClass RX10 = some m.cls) (hml : c.maxLocals = 2) (hlocks : meth.locks = false) (hin : meth.name = "<init>") (hN : NK s) (hA : ∀ q : Nat, s.heap.size ≤ q → A q) {H : Heap} {locs : List Loc} {ls : Array Slot} (hK : va_K (dC, dI) CLS [(cA2, .int)] s) (hP : va_P (dC, dI) CLS [(h0, eO 9 [.ref q1, .ref q3, .ref q5, .int 0, .ref q7, .ref q9, .ref q11, .ref q13, .null, .null, .null, .null, .null, .null, .int 0, .null, .null, .int 0, .int 0, .int 0, .int 0, .int 0, .int 0, .int 0, .int 0, .int 0, .int 0, .int 0, .null, .null, .null, .null, .int 0, .null]), (q1, eI cA2 3082 (fun _ => 0)), (q3, eI cA2 3082 (fun _ => 0)), (q5, eI cA2 3082 (fun _ => 0)), (q7, eI cA2 4 (fun _ => 0)), (q9, eI cA2 4 (fun _ => 0)), (q11, eI cA2 96 (fun _ => 0)), (q13, eI cA2 5 (fun _ => 0)), (q15, eI cA2 5 (fun _ => 0))] H) (hD : va_D A [(h0, eO 9 [.ref q1, .ref q3, .ref q5, .int 0, .ref q7, .ref q9, .ref q11, .ref q13, .null, .null, .null, .null, .null, .null, .int 0, .null, .null, .int 0, .int 0, .int 0, .int 0, .int 0, .int 0, .int 0, .int 0, .int 0, .int 0, .int 0, .null, .null, .null, .null, .int 0, .null]), (q1, eI cA2 3082 (fun _ => 0)), (q3, eI cA2 3082 (fun _ => 0)), (q5, eI cA2 3082 (fun _ => 0)), (q7, eI cA2 4 (fun _ => 0)), (q9, eI cA2 4 (fun _ => 0)), (q11, eI cA2 96 (fun _ => 0)), (q13, eI cA2 5 (fun _ => 0)), (q15, eI cA2 5 (fun _ => 0))]) (hS : va_S A s.heap H locs) (hl : lv_has ls 2 [(0, .ref h0)]) : W p l e rm_X10_init s m args below meth c H locs 8 9360 (MQ below (va_Qv (fun _ : Unit => True) (fun _ t => ∃ (q1 : Nat) (q3 : Nat) (q5 : Nat) (q7 : Nat) (q9 : Nat) (q11 : Nat) (q13 : Nat) (q15 : Nat) (q17 : Nat) (q19 : Nat) (q21 : Nat) (q23 : Nat) (q25 : Nat) (q27 : Nat) (q29 : Nat) (q31 : Nat) (q33 : Nat) (q35 : Nat) (q37 : Nat) (q39 : Nat) (cA2 : ClassId), va_P (dC, dI) CLS [(h0, eO 9 [.ref q1, .ref q3, .ref q5, .int 0, .ref q7, .ref q9, .ref q11, .ref q13, .ref q15, .ref q17, .ref q19, .ref q21, .ref q23, .ref q25, .int 0, .ref q27, .ref q29, .int 0, .int 0, .int 0, .int 0, .int 0, .int 0, .int 0, .int 0, .int 0, .int 0, .int 0, .ref q31, .ref q33, .ref q35, .ref q37, .int 0, .ref q39]), (q1, eI cA2 3082 (upd (upd (upd (upd (upd (upd (upd (upd (upd (upd (upd (upd (upd (upd (upd (upd (fun _ => 0) 9 1) 3 12) 4 12) 5 40) 58 3) 59 3) 60 3) 61 3) 62 3) 63 3) 64 3) 65 3) 66 3) 67 3) 68 3) 69 3)), (q3, eI cA2 3082 (fun _ => 0)), (q5, eI cA2 3082 (fun _ => 0)), (q7, eI cA2 4 (upd (upd (upd (upd (fun _ => 0) 0 (-1)) 1 (-1)) 2 (-1)) 3 (-1))), (q9, eI cA2 4 (fun _ => 0)), (q11, eI cA2 96 (fun _ => 0)), (q13, eI cA2 5 (fun _ => 0)), (q15, eI cA2 5 (fun _ => 0)), (q17, eI cA2 5 (fun _ => 0)), (q19, eI cA2 5 (fun _ => 0)), (q21, eI cA2 120 (fun _ => 0)), (q23, eI cA2 6 (fun _ => 0)), (q25, eI cA2 6 (fun _ => 0)), (q27, eI cA2 82 (fun _ => 0)), (q29, eI cA2 96 (fun _ => 0)), (q31, eI cA2 128 (fun _ => 0)), (q33, eI cA2 100 (fun _ => 0)), (q35, eI cA2 24 (fun _ => 0)), (q37, eI cA2 60 (fun _ => 0)), (q39, eI cA2 60 (fun _ => 0))] t.heap ∧ va_K (dC, dI) CLS [(cA2, .int)] t ∧ va_D A [(h0, eO 9 [.ref q1, .ref q3, .ref q5, .int 0, .ref q7, .ref q9, .ref q11, .ref q13, .ref q15, .ref q17, .ref q19, .ref q21, .ref q23, .ref q25, .int 0, .ref q27, .ref q29, .int 0, .int 0, .int 0, .int 0, .int 0, .int 0, .int 0, .int 0, .int 0, .int 0, .int 0, .ref q31, .ref q33, .ref q35, .ref q37, .int 0, .ref q39]), (q1, eI cA2 3082 (upd (upd (upd (upd (upd (upd (upd (upd (upd (upd (upd (upd (upd (upd (upd (upd (fun _ => 0) 9 1) 3 12) 4 12) 5 40) 58 3) 59 3) 60 3) 61 3) 62 3) 63 3) 64 3) 65 3) 66 3) 67 3) 68 3) 69 3)), (q3, eI cA2 3082 (fun _ => 0)), (q5, eI cA2 3082 (fun _ => 0)), (q7, eI cA2 4 (upd (upd (upd (upd (fun _ => 0) 0 (-1)) 1 (-1)) 2 (-1)) 3 (-1))), (q9, eI cA2 4 (fun _ => 0)), (q11, eI cA2 96 (fun _ => 0)), (q13, eI cA2 5 (fun _ => 0)), (q15, eI cA2 5 (fun _ => 0)), (q17, eI cA2 5 (fun _ => 0)), (q19, eI cA2 5 (fun _ => 0)), (q21, eI cA2 120 (fun _ => 0)), (q23, eI cA2 6 (fun _ => 0)), (q25, eI cA2 6 (fun _ => 0)), (q27, eI cA2 82 (fun _ => 0)), (q29, eI cA2 96 (fun _ => 0)), (q31, eI cA2 128 (fun _ => 0)), (q33, eI cA2 100 (fun _ => 0)), (q35, eI cA2 24 (fun _ => 0)), (q37, eI cA2 60 (fun _ => 0)), (q39, eI cA2 60 (fun _ => 0))]) A) args s 20 10052 A) (F0 m 64 ls [.ref q15, .ref h0]) := by
  refine va_putF (D := (dC, dI)) (ci := 9) (v := .ref q15) (C := RX10) (T := TX10) (N := 34) hx hb hts iwX10 tyX10 tyX10_ok nmX10 hown hK hP hD hS 0 rfl rfl 8 (by decide) (hts _ mw_954) (fun _ h9 => h9) rfl hin rfl (tyX10_ok 8 (by decide)) rfl rfl (Nat.le_of_ble_eq_true rfl) dX10_init_64 (fun H locs hP2 hD2 hS => ?_)
  clear hP hD
  have hP := hP2
  have hD := hD2
  clear hP2 hD2
  refine lv_aload_n hx hb dX10_init_67 rfl (lv_at hl 0 rfl) ?_
  refine lv_iconst (v := 5) hx hb dX10_init_68 (by decide) ?_
  refine va_newa (atype := .int) (a0 := (5, .inl (fun _ => 0))) (N' := 5) (n := 5) hx hb (hts _ mw_130) rfl hK hP hD hS hA (fun cA => rfl) (by decide) (by decide) (Nat.le_of_ble_eq_true rfl) (Nat.le_of_ble_eq_true rfl) (Nat.le_of_ble_eq_true rfl) dX10_init_69 (fun q17 cA18 H hK hP2 hD2 hS => ?_)
  obtain rfl : cA2 = cA18 := tysame hK (i := 0) (j := 1) rfl rfl
  have hK := hK.sub (tys' := [(cA2, .int)]) [0] rfl
  clear hP hD
  have hP := hP2
  have hD := hD2
  clear hP2 hD2
  refine va_putF (D := (dC, dI)) (ci := 9) (v := .ref q17) (C := RX10) (T := TX10) (N := 34) hx hb hts iwX10 tyX10 tyX10_ok nmX10 hown hK hP hD hS 0 rfl rfl 9 (by decide) (hts _ mw_955) (fun _ h9 => h9) rfl hin rfl (tyX10_ok 9 (by decide)) rfl rfl (Nat.le_of_ble_eq_true rfl) dX10_init_71 (fun H locs hP2 hD2 hS => ?_)
  clear hP hD
  have hP := hP2
  have hD := hD2
  clear hP2 hD2
  refine lv_aload_n hx hb dX10_init_74 rfl (lv_at hl 0 rfl) ?_
  refine lv_iconst (v := 5) hx hb dX10_init_75 (by decide) ?_
  refine va_newa (atype := .int) (a0 := (5, .inl (fun _ => 0))) (N' := 5) (n := 5) hx hb (hts _ mw_130) rfl hK hP hD hS hA (fun cA => rfl) (by decide) (by decide) (Nat.le_of_ble_eq_true rfl) (Nat.le_of_ble_eq_true rfl) (Nat.le_of_ble_eq_true rfl) dX10_init_76 (fun q19 cA20 H hK hP2 hD2 hS => ?_)
  obtain rfl : cA2 = cA20 := tysame hK (i := 0) (j := 1) rfl rfl
  have hK := hK.sub (tys' := [(cA2, .int)]) [0] rfl
  clear hP hD
  have hP := hP2
  have hD := hD2
  clear hP2 hD2
  refine va_putF (D := (dC, dI)) (ci := 9) (v := .ref q19) (C := RX10) (T := TX10) (N := 34) hx hb hts iwX10 tyX10 tyX10_ok nmX10 hown hK hP hD hS 0 rfl rfl 10 (by decide) (hts _ mw_956) (fun _ h9 => h9) rfl hin rfl (tyX10_ok 10 (by decide)) rfl rfl (Nat.le_of_ble_eq_true rfl) dX10_init_78 (fun H locs hP2 hD2 hS => ?_)
  clear hP hD
  have hP := hP2
  have hD := hD2
  clear hP2 hD2
  refine lv_aload_n hx hb dX10_init_81 rfl (lv_at hl 0 rfl) ?_
  refine lv_bipush (v := 120) hx hb dX10_init_82 (by decide) ?_
  refine va_newa (atype := .int) (a0 := (120, .inl (fun _ => 0))) (N' := 120) (n := 120) hx hb (hts _ mw_130) rfl hK hP hD hS hA (fun cA => rfl) (by decide) (by decide) (Nat.le_of_ble_eq_true rfl) (Nat.le_of_ble_eq_true rfl) (Nat.le_of_ble_eq_true rfl) dX10_init_84 (fun q21 cA22 H hK hP2 hD2 hS => ?_)
  obtain rfl : cA2 = cA22 := tysame hK (i := 0) (j := 1) rfl rfl
  have hK := hK.sub (tys' := [(cA2, .int)]) [0] rfl
  clear hP hD
  have hP := hP2
  have hD := hD2
  clear hP2 hD2
  refine va_putF (D := (dC, dI)) (ci := 9) (v := .ref q21) (C := RX10) (T := TX10) (N := 34) hx hb hts iwX10 tyX10 tyX10_ok nmX10 hown hK hP hD hS 0 rfl rfl 11 (by decide) (hts _ mw_957) (fun _ h9 => h9) rfl hin rfl (tyX10_ok 11 (by decide)) rfl rfl (Nat.le_of_ble_eq_true rfl) dX10_init_86 (fun H locs hP2 hD2 hS => ?_)
  clear hP hD
  have hP := hP2
  have hD := hD2
  clear hP2 hD2
  refine lv_aload_n hx hb dX10_init_89 rfl (lv_at hl 0 rfl) ?_
  refine lv_bipush (v := 6) hx hb dX10_init_90 (by decide) ?_
  refine va_newa (atype := .int) (a0 := (6, .inl (fun _ => 0))) (N' := 6) (n := 6) hx hb (hts _ mw_130) rfl hK hP hD hS hA (fun cA => rfl) (by decide) (by decide) (Nat.le_of_ble_eq_true rfl) (Nat.le_of_ble_eq_true rfl) (Nat.le_of_ble_eq_true rfl) dX10_init_92 (fun q23 cA24 H hK hP2 hD2 hS => ?_)
  obtain rfl : cA2 = cA24 := tysame hK (i := 0) (j := 1) rfl rfl
  have hK := hK.sub (tys' := [(cA2, .int)]) [0] rfl
  clear hP hD
  have hP := hP2
  have hD := hD2
  clear hP2 hD2
  refine W.widen (k := 12) (n := 9496) (Nat.le_of_ble_eq_true rfl) (Nat.le_of_ble_eq_true rfl) ?_
  exact sg_X10_init_3 dC dI h0 q1 q3 q5 q7 q9 q11 q13 q15 q17 q19 q21 q23 cA2 hx hb hr hts hown hml hlocks hin hN hA hK hP hD hS hl
set_option maxHeartbeats 4000000 in
set_option maxRecDepth 100000 in
theorem sg_X10_init_1 {p : Program} {l : Launch} {e : Env} {s : State} {m : MethodId} {args : Array Value} {below : List Frame} {meth : Method} {c : Code} (dC : Nat → ClassId) (dI : Nat → Nat → Nat) {A : Nat → Prop} (h0 : Nat) (q1 : Nat) (q3 : Nat) (q5 : Nat) (q7 : Nat) (cA2 : ClassId) (hx : p.tables.exec = Jvm.exec) (hb : c.code = cX10_init) (hr : meth.sig.returnType = none) (hts : ∀ w ∈ WT, w.before args s = true) (hown : s.vm.findClass RX10 = some m.cls) (hml : c.maxLocals = 2) (hlocks : meth.locks = false) (hin : meth.name = "<init>") (hN : NK s) (hA : ∀ q : Nat, s.heap.size ≤ q → A q) {H : Heap} {locs : List Loc} {ls : Array Slot} (hK : va_K (dC, dI) CLS [(cA2, .int)] s) (hP : va_P (dC, dI) CLS [(h0, eO 9 [.ref q1, .ref q3, .ref q5, .int 0, .null, .null, .null, .null, .null, .null, .null, .null, .null, .null, .int 0, .null, .null, .int 0, .int 0, .int 0, .int 0, .int 0, .int 0, .int 0, .int 0, .int 0, .int 0, .int 0, .null, .null, .null, .null, .int 0, .null]), (q1, eI cA2 3082 (fun _ => 0)), (q3, eI cA2 3082 (fun _ => 0)), (q5, eI cA2 3082 (fun _ => 0)), (q7, eI cA2 4 (fun _ => 0))] H) (hD : va_D A [(h0, eO 9 [.ref q1, .ref q3, .ref q5, .int 0, .null, .null, .null, .null, .null, .null, .null, .null, .null, .null, .int 0, .null, .null, .int 0, .int 0, .int 0, .int 0, .int 0, .int 0, .int 0, .int 0, .int 0, .int 0, .int 0, .null, .null, .null, .null, .int 0, .null]), (q1, eI cA2 3082 (fun _ => 0)), (q3, eI cA2 3082 (fun _ => 0)), (q5, eI cA2 3082 (fun _ => 0)), (q7, eI cA2 4 (fun _ => 0))]) (hS : va_S A s.heap H locs) (hl : lv_has ls 2 [(0, .ref h0)]) : W p l e rm_X10_init s m args below meth c H locs 4 9250 (MQ below (va_Qv (fun _ : Unit => True) (fun _ t => ∃ (q1 : Nat) (q3 : Nat) (q5 : Nat) (q7 : Nat) (q9 : Nat) (q11 : Nat) (q13 : Nat) (q15 : Nat) (q17 : Nat) (q19 : Nat) (q21 : Nat) (q23 : Nat) (q25 : Nat) (q27 : Nat) (q29 : Nat) (q31 : Nat) (q33 : Nat) (q35 : Nat) (q37 : Nat) (q39 : Nat) (cA2 : ClassId), va_P (dC, dI) CLS [(h0, eO 9 [.ref q1, .ref q3, .ref q5, .int 0, .ref q7, .ref q9, .ref q11, .ref q13, .ref q15, .ref q17, .ref q19, .ref q21, .ref q23, .ref q25, .int 0, .ref q27, .ref q29, .int 0, .int 0, .int 0, .int 0, .int 0, .int 0, .int 0, .int 0, .int 0, .int 0, .int 0, .ref q31, .ref q33, .ref q35, .ref q37, .int 0, .ref q39]), (q1, eI cA2 3082 (upd (upd (upd (upd (upd (upd (upd (upd (upd (upd (upd (upd (upd (upd (upd (upd (fun _ => 0) 9 1) 3 12) 4 12) 5 40) 58 3) 59 3) 60 3) 61 3) 62 3) 63 3) 64 3) 65 3) 66 3) 67 3) 68 3) 69 3)), (q3, eI cA2 3082 (fun _ => 0)), (q5, eI cA2 3082 (fun _ => 0)), (q7, eI cA2 4 (upd (upd (upd (upd (fun _ => 0) 0 (-1)) 1 (-1)) 2 (-1)) 3 (-1))), (q9, eI cA2 4 (fun _ => 0)), (q11, eI cA2 96 (fun _ => 0)), (q13, eI cA2 5 (fun _ => 0)), (q15, eI cA2 5 (fun _ => 0)), (q17, eI cA2 5 (fun _ => 0)), (q19, eI cA2 5 (fun _ => 0)), (q21, eI cA2 120 (fun _ => 0)), (q23, eI cA2 6 (fun _ => 0)), (q25, eI cA2 6 (fun _ => 0)), (q27, eI cA2 82 (fun _ => 0)), (q29, eI cA2 96 (fun _ => 0)), (q31, eI cA2 128 (fun _ => 0)), (q33, eI cA2 100 (fun _ => 0)), (q35, eI cA2 24 (fun _ => 0)), (q37, eI cA2 60 (fun _ => 0)), (q39, eI cA2 60 (fun _ => 0))] t.heap ∧ va_K (dC, dI) CLS [(cA2, .int)] t ∧ va_D A [(h0, eO 9 [.ref q1, .ref q3, .ref q5, .int 0, .ref q7, .ref q9, .ref q11, .ref q13, .ref q15, .ref q17, .ref q19, .ref q21, .ref q23, .ref q25, .int 0, .ref q27, .ref q29, .int 0, .int 0, .int 0, .int 0, .int 0, .int 0, .int 0, .int 0, .int 0, .int 0, .int 0, .ref q31, .ref q33, .ref q35, .ref q37, .int 0, .ref q39]), (q1, eI cA2 3082 (upd (upd (upd (upd (upd (upd (upd (upd (upd (upd (upd (upd (upd (upd (upd (upd (fun _ => 0) 9 1) 3 12) 4 12) 5 40) 58 3) 59 3) 60 3) 61 3) 62 3) 63 3) 64 3) 65 3) 66 3) 67 3) 68 3) 69 3)), (q3, eI cA2 3082 (fun _ => 0)), (q5, eI cA2 3082 (fun _ => 0)), (q7, eI cA2 4 (upd (upd (upd (upd (fun _ => 0) 0 (-1)) 1 (-1)) 2 (-1)) 3 (-1))), (q9, eI cA2 4 (fun _ => 0)), (q11, eI cA2 96 (fun _ => 0)), (q13, eI cA2 5 (fun _ => 0)), (q15, eI cA2 5 (fun _ => 0)), (q17, eI cA2 5 (fun _ => 0)), (q19, eI cA2 5 (fun _ => 0)), (q21, eI cA2 120 (fun _ => 0)), (q23, eI cA2 6 (fun _ => 0)), (q25, eI cA2 6 (fun _ => 0)), (q27, eI cA2 82 (fun _ => 0)), (q29, eI cA2 96 (fun _ => 0)), (q31, eI cA2 128 (fun _ => 0)), (q33, eI cA2 100 (fun _ => 0)), (q35, eI cA2 24 (fun _ => 0)), (q37, eI cA2 60 (fun _ => 0)), (q39, eI cA2 60 (fun _ => 0))]) A) args s 20 10052 A) (F0 m 35 ls [.ref q7, .ref h0]) := by
  refine va_putF (D := (dC, dI)) (ci := 9) (v := .ref q7) (C := RX10) (T := TX10) (N := 34) hx hb hts iwX10 tyX10 tyX10_ok nmX10 hown hK hP hD hS 0 rfl rfl 4 (by decide) (hts _ mw_950) (fun _ h9 => h9) rfl hin rfl (tyX10_ok 4 (by decide)) rfl rfl (Nat.le_of_ble_eq_true rfl) dX10_init_35 (fun H locs hP2 hD2 hS => ?_)
  clear hP hD
  have hP := hP2
  have hD := hD2
  clear hP2 hD2
  refine lv_aload_n hx hb dX10_init_38 rfl (lv_at hl 0 rfl) ?_
  refine lv_iconst (v := 4) hx hb dX10_init_39 (by decide) ?_
  refine va_newa (atype := .int) (a0 := (4, .inl (fun _ => 0))) (N' := 4) (n := 4) hx hb (hts _ mw_130) rfl hK hP hD hS hA (fun cA => rfl) (by decide) (by decide) (Nat.le_of_ble_eq_true rfl) (Nat.le_of_ble_eq_true rfl) (Nat.le_of_ble_eq_true rfl) dX10_init_40 (fun q9 cA10 H hK hP2 hD2 hS => ?_)
  obtain rfl : cA2 = cA10 := tysame hK (i := 0) (j := 1) rfl rfl
  have hK := hK.sub (tys' := [(cA2, .int)]) [0] rfl
  clear hP hD
  have hP := hP2
  have hD := hD2
  clear hP2 hD2
  refine va_putF (D := (dC, dI)) (ci := 9) (v := .ref q9) (C := RX10) (T := TX10) (N := 34) hx hb hts iwX10 tyX10 tyX10_ok nmX10 hown hK hP hD hS 0 rfl rfl 5 (by decide) (hts _ mw_951) (fun _ h9 => h9) rfl hin rfl (tyX10_ok 5 (by decide)) rfl rfl (Nat.le_of_ble_eq_true rfl) dX10_init_42 (fun H locs hP2 hD2 hS => ?_)
  clear hP hD
  have hP := hP2
  have hD := hD2
  clear hP2 hD2
  refine lv_aload_n hx hb dX10_init_45 rfl (lv_at hl 0 rfl) ?_
  refine lv_bipush (v := 96) hx hb dX10_init_46 (by decide) ?_
  refine va_newa (atype := .int) (a0 := (96, .inl (fun _ => 0))) (N' := 96) (n := 96) hx hb (hts _ mw_130) rfl hK hP hD hS hA (fun cA => rfl) (by decide) (by decide) (Nat.le_of_ble_eq_true rfl) (Nat.le_of_ble_eq_true rfl) (Nat.le_of_ble_eq_true rfl) dX10_init_48 (fun q11 cA12 H hK hP2 hD2 hS => ?_)
  obtain rfl : cA2 = cA12 := tysame hK (i := 0) (j := 1) rfl rfl
  have hK := hK.sub (tys' := [(cA2, .int)]) [0] rfl
  clear hP hD
  have hP := hP2
  have hD := hD2
  clear hP2 hD2
  refine va_putF (D := (dC, dI)) (ci := 9) (v := .ref q11) (C := RX10) (T := TX10) (N := 34) hx hb hts iwX10 tyX10 tyX10_ok nmX10 hown hK hP hD hS 0 rfl rfl 6 (by decide) (hts _ mw_952) (fun _ h9 => h9) rfl hin rfl (tyX10_ok 6 (by decide)) rfl rfl (Nat.le_of_ble_eq_true rfl) dX10_init_50 (fun H locs hP2 hD2 hS => ?_)
  clear hP hD
  have hP := hP2
  have hD := hD2
  clear hP2 hD2
  refine lv_aload_n hx hb dX10_init_53 rfl (lv_at hl 0 rfl) ?_
  refine lv_iconst (v := 5) hx hb dX10_init_54 (by decide) ?_
  refine va_newa (atype := .int) (a0 := (5, .inl (fun _ => 0))) (N' := 5) (n := 5) hx hb (hts _ mw_130) rfl hK hP hD hS hA (fun cA => rfl) (by decide) (by decide) (Nat.le_of_ble_eq_true rfl) (Nat.le_of_ble_eq_true rfl) (Nat.le_of_ble_eq_true rfl) dX10_init_55 (fun q13 cA14 H hK hP2 hD2 hS => ?_)
  obtain rfl : cA2 = cA14 := tysame hK (i := 0) (j := 1) rfl rfl
  have hK := hK.sub (tys' := [(cA2, .int)]) [0] rfl
  clear hP hD
  have hP := hP2
  have hD := hD2
  clear hP2 hD2
  refine va_putF (D := (dC, dI)) (ci := 9) (v := .ref q13) (C := RX10) (T := TX10) (N := 34) hx hb hts iwX10 tyX10 tyX10_ok nmX10 hown hK hP hD hS 0 rfl rfl 7 (by decide) (hts _ mw_953) (fun _ h9 => h9) rfl hin rfl (tyX10_ok 7 (by decide)) rfl rfl (Nat.le_of_ble_eq_true rfl) dX10_init_57 (fun H locs hP2 hD2 hS => ?_)
  clear hP hD
  have hP := hP2
  have hD := hD2
  clear hP2 hD2
  refine lv_aload_n hx hb dX10_init_60 rfl (lv_at hl 0 rfl) ?_
  refine lv_iconst (v := 5) hx hb dX10_init_61 (by decide) ?_
  refine va_newa (atype := .int) (a0 := (5, .inl (fun _ => 0))) (N' := 5) (n := 5) hx hb (hts _ mw_130) rfl hK hP hD hS hA (fun cA => rfl) (by decide) (by decide) (Nat.le_of_ble_eq_true rfl) (Nat.le_of_ble_eq_true rfl) (Nat.le_of_ble_eq_true rfl) dX10_init_62 (fun q15 cA16 H hK hP2 hD2 hS => ?_)
  obtain rfl : cA2 = cA16 := tysame hK (i := 0) (j := 1) rfl rfl
  have hK := hK.sub (tys' := [(cA2, .int)]) [0] rfl
  clear hP hD
  have hP := hP2
  have hD := hD2
  clear hP2 hD2
  refine W.widen (k := 8) (n := 9360) (Nat.le_of_ble_eq_true rfl) (Nat.le_of_ble_eq_true rfl) ?_
  exact sg_X10_init_2 dC dI h0 q1 q3 q5 q7 q9 q11 q13 q15 cA2 hx hb hr hts hown hml hlocks hin hN hA hK hP hD hS hl
set_option maxHeartbeats 4000000 in
set_option maxRecDepth 100000 in
theorem k_X10_init (l : Launch) (dC : Nat → ClassId) (dI : Nat → Nat → Nat) (h0 sz : Nat) : Met l yX10_init (wsOf yX10_init cX10_init 2 none) rm_X10_init (va_Pc [.ref h0] (fun U => U.heap.size = sz ∧ va_P (dC, dI) CLS [(h0, eO 9 [.null, .null, .null, .int 0, .null, .null, .null, .null, .null, .null, .null, .null, .null, .null, .int 0, .null, .null, .int 0, .int 0, .int 0, .int 0, .int 0, .int 0, .int 0, .int 0, .int 0, .int 0, .int 0, .null, .null, .null, .null, .int 0, .null])] U.heap ∧ va_K (dC, dI) CLS [] U ∧ va_D (fun _ => True) [(h0, eO 9 [.null, .null, .null, .int 0, .null, .null, .null, .null, .null, .null, .null, .null, .null, .null, .int 0, .null, .null, .int 0, .int 0, .int 0, .int 0, .int 0, .int 0, .int 0, .int 0, .int 0, .int 0, .int 0, .null, .null, .null, .null, .int 0, .null])] ∧ NK U)) (va_Qv (fun _ : Unit => True) (fun _ t => ∃ (q1 : Nat) (q3 : Nat) (q5 : Nat) (q7 : Nat) (q9 : Nat) (q11 : Nat) (q13 : Nat) (q15 : Nat) (q17 : Nat) (q19 : Nat) (q21 : Nat) (q23 : Nat) (q25 : Nat) (q27 : Nat) (q29 : Nat) (q31 : Nat) (q33 : Nat) (q35 : Nat) (q37 : Nat) (q39 : Nat) (cA2 : ClassId), va_P (dC, dI) CLS [(h0, eO 9 [.ref q1, .ref q3, .ref q5, .int 0, .ref q7, .ref q9, .ref q11, .ref q13, .ref q15, .ref q17, .ref q19, .ref q21, .ref q23, .ref q25, .int 0, .ref q27, .ref q29, .int 0, .int 0, .int 0, .int 0, .int 0, .int 0, .int 0, .int 0, .int 0, .int 0, .int 0, .ref q31, .ref q33, .ref q35, .ref q37, .int 0, .ref q39]), (q1, eI cA2 3082 (upd (upd (upd (upd (upd (upd (upd (upd (upd (upd (upd (upd (upd (upd (upd (upd (fun _ => 0) 9 1) 3 12) 4 12) 5 40) 58 3) 59 3) 60 3) 61 3) 62 3) 63 3) 64 3) 65 3) 66 3) 67 3) 68 3) 69 3)), (q3, eI cA2 3082 (fun _ => 0)), (q5, eI cA2 3082 (fun _ => 0)), (q7, eI cA2 4 (upd (upd (upd (upd (fun _ => 0) 0 (-1)) 1 (-1)) 2 (-1)) 3 (-1))), (q9, eI cA2 4 (fun _ => 0)), (q11, eI cA2 96 (fun _ => 0)), (q13, eI cA2 5 (fun _ => 0)), (q15, eI cA2 5 (fun _ => 0)), (q17, eI cA2 5 (fun _ => 0)), (q19, eI cA2 5 (fun _ => 0)), (q21, eI cA2 120 (fun _ => 0)), (q23, eI cA2 6 (fun _ => 0)), (q25, eI cA2 6 (fun _ => 0)), (q27, eI cA2 82 (fun _ => 0)), (q29, eI cA2 96 (fun _ => 0)), (q31, eI cA2 128 (fun _ => 0)), (q33, eI cA2 100 (fun _ => 0)), (q35, eI cA2 24 (fun _ => 0)), (q37, eI cA2 60 (fun _ => 0)), (q39, eI cA2 60 (fun _ => 0))] t.heap ∧ va_K (dC, dI) CLS [(cA2, .int)] t ∧ va_D (va_A [(h0, eO 9 [.null, .null, .null, .int 0, .null, .null, .null, .null, .null, .null, .null, .null, .null, .null, .int 0, .null, .null, .int 0, .int 0, .int 0, .int 0, .int 0, .int 0, .int 0, .int 0, .int 0, .int 0, .int 0, .null, .null, .null, .null, .int 0, .null])] sz) [(h0, eO 9 [.ref q1, .ref q3, .ref q5, .int 0, .ref q7, .ref q9, .ref q11, .ref q13, .ref q15, .ref q17, .ref q19, .ref q21, .ref q23, .ref q25, .int 0, .ref q27, .ref q29, .int 0, .int 0, .int 0, .int 0, .int 0, .int 0, .int 0, .int 0, .int 0, .int 0, .int 0, .ref q31, .ref q33, .ref q35, .ref q37, .int 0, .ref q39]), (q1, eI cA2 3082 (upd (upd (upd (upd (upd (upd (upd (upd (upd (upd (upd (upd (upd (upd (upd (upd (fun _ => 0) 9 1) 3 12) 4 12) 5 40) 58 3) 59 3) 60 3) 61 3) 62 3) 63 3) 64 3) 65 3) 66 3) 67 3) 68 3) 69 3)), (q3, eI cA2 3082 (fun _ => 0)), (q5, eI cA2 3082 (fun _ => 0)), (q7, eI cA2 4 (upd (upd (upd (upd (fun _ => 0) 0 (-1)) 1 (-1)) 2 (-1)) 3 (-1))), (q9, eI cA2 4 (fun _ => 0)), (q11, eI cA2 96 (fun _ => 0)), (q13, eI cA2 5 (fun _ => 0)), (q15, eI cA2 5 (fun _ => 0)), (q17, eI cA2 5 (fun _ => 0)), (q19, eI cA2 5 (fun _ => 0)), (q21, eI cA2 120 (fun _ => 0)), (q23, eI cA2 6 (fun _ => 0)), (q25, eI cA2 6 (fun _ => 0)), (q27, eI cA2 82 (fun _ => 0)), (q29, eI cA2 96 (fun _ => 0)), (q31, eI cA2 128 (fun _ => 0)), (q33, eI cA2 100 (fun _ => 0)), (q35, eI cA2 24 (fun _ => 0)), (q37, eI cA2 60 (fun _ => 0)), (q39, eI cA2 60 (fun _ => 0))]) (va_A [(h0, eO 9 [.null, .null, .null, .int 0, .null, .null, .null, .null, .null, .null, .null, .null, .null, .null, .int 0, .null, .null, .int 0, .int 0, .int 0, .int 0, .int 0, .int 0, .int 0, .int 0, .int 0, .int 0, .int 0, .null, .null, .null, .null, .int 0, .null])] sz)) 20 10052 (va_A [(h0, eO 9 [.null, .null, .null, .int 0, .null, .null, .null, .null, .null, .null, .null, .null, .null, .null, .int 0, .null, .null, .int 0, .int 0, .int 0, .int 0, .int 0, .int 0, .int 0, .int 0, .int 0, .int 0, .int 0, .null, .null, .null, .null, .int 0, .null])] sz) := by
  refine Met.ofW (cc := cX10_init) (maxL := 2) (ret := none) (by decide) rfl ?_
  intro p e s m args below meth c s₁ B hml hv
  obtain ⟨rfl, hsz, hP, hK, hD0, hN⟩ := hv
  have hx := B.exec
  have hb := B.bytes
  have hr := B.returns
  have hts0 := atoms_spec (ws := wsOf yX10_init cX10_init 2 none) B.pre
  have hts : ∀ w ∈ WT, w.before _ s = true := fun w hw => hts0 w (List.mem_cons_of_mem _ hw)
  have hown : s.vm.findClass RX10 = some m.cls := findClass_of_methodNamed B.named
  have hlocks := B.notSynchronized
  have hin : meth.name = "<init>" := (name_of_methodNamed B.named B.method).1
  subst hsz
  have hD := hD0.self (sz := s.heap.size)
  generalize hAe : va_A [(h0, eO 9 [.null, .null, .null, .int 0, .null, .null, .null, .null, .null, .null, .null, .null, .null, .null, .int 0, .null, .null, .int 0, .int 0, .int 0, .int 0, .int 0, .int 0, .int 0, .int 0, .int 0, .int 0, .int 0, .null, .null, .null, .null, .int 0, .null])] s.heap.size = A at hD ⊢
  have hA : ∀ q : Nat, s.heap.size ≤ q → A q := fun q h => by rw [← hAe]; exact Or.inr h
  have hS : va_S A s.heap s.heap [] := va_S.rf
  have hl := lv_entry ([.ref h0]) (n := 2) (Nat.le_of_ble_eq_true rfl)
  rw [lg_entry_eq]
  generalize (lg_sl ([.ref h0]) ++ List.replicate (2 - (lg_sl ([.ref h0])).length) Slot.unset).toArray = ls at hl ⊢
  have hl : lv_has ls 2 [(0, .ref h0)] := hl
  have hP : va_P (dC, dI) CLS [(h0, eO 9 [.null, .null, .null, .int 0, .null, .null, .null, .null, .null, .null, .null, .null, .null, .null, .int 0, .null, .null, .int 0, .int 0, .int 0, .int 0, .int 0, .int 0, .int 0, .int 0, .int 0, .int 0, .int 0, .null, .null, .null, .null, .int 0, .null])] s.heap := hP
  refine lv_aload_n hx hb dX10_init_0 rfl (lv_at hl 0 rfl) ?_
  refine W.objInit hx hb hown (hts _ mw_945) (hts _ mw_99) (hts _ mw_100) rfl (by rw [hml]; exact hl.1) rfl dX10_init_1 (Nat.le_of_ble_eq_true rfl) (Nat.le_of_ble_eq_true rfl) ?_
  refine W.eq (g2 := F0 m 4 ls []) rfl ?_
  refine lv_aload_n hx hb dX10_init_4 rfl (lv_at hl 0 rfl) ?_
  refine lv_sipush (v := 3082) hx hb dX10_init_5 (by decide) ?_
  refine va_newa (atype := .int) (a0 := (3082, .inl (fun _ => 0))) (N' := 3082) (n := 3082) hx hb (hts _ mw_130) rfl hK hP hD hS hA (fun cA => rfl) (by decide) (by decide) (Nat.le_of_ble_eq_true rfl) (Nat.le_of_ble_eq_true rfl) (Nat.le_of_ble_eq_true rfl) dX10_init_8 (fun q1 cA2 H hK hP2 hD2 hS => ?_)
  have hK : va_K (dC, dI) CLS [(cA2, .int)] s := hK
  clear hP hD
  have hP := hP2
  have hD := hD2
  clear hP2 hD2
  refine va_putF (D := (dC, dI)) (ci := 9) (v := .ref q1) (C := RX10) (T := TX10) (N := 34) hx hb hts iwX10 tyX10 tyX10_ok nmX10 hown hK hP hD hS 0 rfl rfl 0 (by decide) (hts _ mw_946) (fun _ h9 => h9) rfl hin rfl (tyX10_ok 0 (by decide)) rfl rfl (Nat.le_of_ble_eq_true rfl) dX10_init_10 (fun H locs hP2 hD2 hS => ?_)
  clear hP hD
  have hP := hP2
  have hD := hD2
  clear hP2 hD2
  refine lv_aload_n hx hb dX10_init_13 rfl (lv_at hl 0 rfl) ?_
  refine lv_sipush (v := 3082) hx hb dX10_init_14 (by decide) ?_
  refine va_newa (atype := .int) (a0 := (3082, .inl (fun _ => 0))) (N' := 3082) (n := 3082) hx hb (hts _ mw_130) rfl hK hP hD hS hA (fun cA => rfl) (by decide) (by decide) (Nat.le_of_ble_eq_true rfl) (Nat.le_of_ble_eq_true rfl) (Nat.le_of_ble_eq_true rfl) dX10_init_17 (fun q3 cA4 H hK hP2 hD2 hS => ?_)
  obtain rfl : cA2 = cA4 := tysame hK (i := 0) (j := 1) rfl rfl
  have hK := hK.sub (tys' := [(cA2, .int)]) [0] rfl
  clear hP hD
  have hP := hP2
  have hD := hD2
  clear hP2 hD2
  refine va_putF (D := (dC, dI)) (ci := 9) (v := .ref q3) (C := RX10) (T := TX10) (N := 34) hx hb hts iwX10 tyX10 tyX10_ok nmX10 hown hK hP hD hS 0 rfl rfl 1 (by decide) (hts _ mw_947) (fun _ h9 => h9) rfl hin rfl (tyX10_ok 1 (by decide)) rfl rfl (Nat.le_of_ble_eq_true rfl) dX10_init_19 (fun H locs hP2 hD2 hS => ?_)
  clear hP hD
  have hP := hP2
  have hD := hD2
  clear hP2 hD2
  refine lv_aload_n hx hb dX10_init_22 rfl (lv_at hl 0 rfl) ?_
  refine lv_sipush (v := 3082) hx hb dX10_init_23 (by decide) ?_
  refine va_newa (atype := .int) (a0 := (3082, .inl (fun _ => 0))) (N' := 3082) (n := 3082) hx hb (hts _ mw_130) rfl hK hP hD hS hA (fun cA => rfl) (by decide) (by decide) (Nat.le_of_ble_eq_true rfl) (Nat.le_of_ble_eq_true rfl) (Nat.le_of_ble_eq_true rfl) dX10_init_26 (fun q5 cA6 H hK hP2 hD2 hS => ?_)
  obtain rfl : cA2 = cA6 := tysame hK (i := 0) (j := 1) rfl rfl
  have hK := hK.sub (tys' := [(cA2, .int)]) [0] rfl
  clear hP hD
  have hP := hP2
  have hD := hD2
  clear hP2 hD2
  refine va_putF (D := (dC, dI)) (ci := 9) (v := .ref q5) (C := RX10) (T := TX10) (N := 34) hx hb hts iwX10 tyX10 tyX10_ok nmX10 hown hK hP hD hS 0 rfl rfl 2 (by decide) (hts _ mw_948) (fun _ h9 => h9) rfl hin rfl (tyX10_ok 2 (by decide)) rfl rfl (Nat.le_of_ble_eq_true rfl) dX10_init_28 (fun H locs hP2 hD2 hS => ?_)
  clear hP hD
  have hP := hP2
  have hD := hD2
  clear hP2 hD2
  refine lv_aload_n hx hb dX10_init_31 rfl (lv_at hl 0 rfl) ?_
  refine lv_iconst (v := 4) hx hb dX10_init_32 (by decide) ?_
  refine va_newa (atype := .int) (a0 := (4, .inl (fun _ => 0))) (N' := 4) (n := 4) hx hb (hts _ mw_130) rfl hK hP hD hS hA (fun cA => rfl) (by decide) (by decide) (Nat.le_of_ble_eq_true rfl) (Nat.le_of_ble_eq_true rfl) (Nat.le_of_ble_eq_true rfl) dX10_init_33 (fun q7 cA8 H hK hP2 hD2 hS => ?_)
  obtain rfl : cA2 = cA8 := tysame hK (i := 0) (j := 1) rfl rfl
  have hK := hK.sub (tys' := [(cA2, .int)]) [0] rfl
  clear hP hD
  have hP := hP2
  have hD := hD2
  clear hP2 hD2
  refine W.widen (k := 4) (n := 9250) (Nat.le_of_ble_eq_true rfl) (Nat.le_of_ble_eq_true rfl) ?_
  exact sg_X10_init_1 dC dI h0 q1 q3 q5 q7 cA2 hx hb hr hts hown hml hlocks hin hN hA hK hP hD hS hl
