/-! The worlds of this claim: a world is a fixed row of places (kind, number), each with an address; what it holds is a function of the state: St k i j is what place (k, i) holds at j. -/
abbrev St : Type := Nat → Nat → Nat → Int32
def wr (σ : St) (k i j : Nat) (v : Int32) : St := fun a b c => if a = k ∧ b = i ∧ c = j then v else σ a b c
def wrR (σ : St) (k i : Nat) (f : Nat → Int32) : St := fun a b => if a = k ∧ b = i then f else σ a b
theorem wr_row (σ : St) (k i j : Nat) (v : Int32) : wr σ k i j v k i = upd (σ k i) j v := by
  funext x
  simp [wr, upd]
theorem wr_off (σ : St) {k i : Nat} (j : Nat) (v : Int32) {a b : Nat} (h : ¬ (a = k ∧ b = i)) : wr σ k i j v a b = σ a b := by
  funext x
  simp only [wr]
  rw [if_neg (fun q => h ⟨q.1, q.2.1⟩)]
theorem wrR_row (σ : St) (k i : Nat) (f : Nat → Int32) : wrR σ k i f k i = f := by simp [wrR]
theorem wrR_off (σ : St) {k i : Nat} (f : Nat → Int32) {a b : Nat} (h : ¬ (a = k ∧ b = i)) : wrR σ k i f a b = σ a b := by
  simp only [wrR]
  rw [if_neg h]
abbrev CLS : List vw_C := [(RX0, TX0, 4), (RX1, TX1, 17), (RX3, TX3, 4), (RX4, TX4, 2), (RX5, TX5, 7), (RX6, TX6, 3), (RX7, TX7, 5), (RX8, TX8, 2), (RX9, TX9, 13), (RX10, TX10, 34)]
abbrev tysW (cy : Nat → ClassId) : List (ClassId × FieldType) := [(cy 0, .int), (cy 1, .object "RoofWar$Law"), (cy 2, .object "RoofWar$Row"), (cy 3, .object "RoofWar$Slot"), (cy 4, .array .int)]
abbrev CellF : Type := Nat → Nat → (Nat → Int32) → va_E
def wd (cell : CellF) (regs : List (Nat × Nat)) (ad : Nat → Nat → Nat) (σ : St) : va_W := regs.map (fun r => (ad r.1 r.2, cell r.1 r.2 (σ r.1 r.2)))
theorem wd_at {cell : CellF} {regs : List (Nat × Nat)} {ad : Nat → Nat → Nat} {σ : St} {q0 k i : Nat} (h : regs[q0]? = some (k, i)) : (wd cell regs ad σ)[q0]? = some (ad k i, cell k i (σ k i)) := by
  simp [wd, h]
theorem nodup_at {α : Type} {l : List α} (hn : l.Nodup) {i j : Nat} {x : α} (hi : l[i]? = some x) (hj : l[j]? = some x) : i = j := by
  obtain ⟨h1, e1⟩ := List.getElem?_eq_some_iff.mp hi
  obtain ⟨h2, e2⟩ := List.getElem?_eq_some_iff.mp hj
  exact (List.getElem_inj hn).mp (e1.trans e2.symm)
theorem wd_set {cell : CellF} {regs : List (Nat × Nat)} {ad : Nat → Nat → Nat} {σ σ' : St} {q0 k i : Nat} (hn : regs.Nodup) (h : regs[q0]? = some (k, i)) (he : ∀ a b, ¬ (a = k ∧ b = i) → σ' a b = σ a b) : (wd cell regs ad σ).set q0 (ad k i, cell k i (σ' k i)) = wd cell regs ad σ' := by
  apply List.ext_getElem?
  intro j
  rw [List.getElem?_set]
  by_cases hj : q0 = j
  · subst hj
    have hlt : q0 < (wd cell regs ad σ).length := (List.getElem?_eq_some_iff.mp (wd_at (cell := cell) (ad := ad) (σ := σ) h)).1
    rw [if_pos rfl, if_pos hlt, wd_at h]
  · rw [if_neg hj]
    simp only [wd, List.getElem?_map]
    cases hr : regs[j]? with
    | none => rfl
    | some r =>
      have hne : ¬ (r.1 = k ∧ r.2 = i) := fun q => hj (nodup_at hn h (by rw [hr]; exact congrArg some (Prod.ext q.1 q.2)))
      simp only [Option.map_some]
      rw [he r.1 r.2 hne]
/-- the cells of a world, and all from sz on -/
def AA (regs : List (Nat × Nat)) (ad : Nat → Nat → Nat) (sz : Nat) : Nat → Prop := fun q => (∃ r ∈ regs, ad r.1 r.2 = q) ∨ sz ≤ q
def Apart (regs : List (Nat × Nat)) (ad : Nat → Nat → Nat) : Prop := regs.Nodup ∧ ∀ r ∈ regs, ∀ r' ∈ regs, ad r.1 r.2 = ad r'.1 r'.2 → r = r'
theorem wd_D {cell : CellF} {regs : List (Nat × Nat)} {ad : Nat → Nat → Nat} {σ : St} {sz : Nat} (ha : Apart regs ad) : va_D (AA regs ad sz) (wd cell regs ad σ) := by
  refine ⟨fun i j p q hi hj e => ?_, fun k q hk => ?_⟩
  · simp only [wd, List.getElem?_map, Option.map_eq_some_iff] at hi hj
    obtain ⟨r, hr, rfl⟩ := hi
    obtain ⟨r', hr', rfl⟩ := hj
    have hrr := ha.2 r (List.mem_of_getElem? hr) r' (List.mem_of_getElem? hr') e
    subst hrr
    exact nodup_at ha.1 hr hr'
  · simp only [wd, List.getElem?_map, Option.map_eq_some_iff] at hk
    obtain ⟨r, hr, rfl⟩ := hk
    exact Or.inl ⟨r, List.mem_of_getElem? hr, rfl⟩
theorem AA_mono {regs : List (Nat × Nat)} {ad : Nat → Nat → Nat} {sz sz' : Nat} (h : sz ≤ sz') : ∀ q, AA regs ad sz' q → AA regs ad sz q := fun _ hq => hq.imp id (fun g => Nat.le_trans h g)
/-- the words of nest mates, and the text constants: old things that a warmer machine and a heap with other cells of ours keep -/
def NWq : List (String × Nat × MethodName × String) := [("RoofWar$Laws", 21, ⟨"RoofWar$Law", "<init>", "()V"⟩, "RoofWar"), ("RoofWar", 37, ⟨"RoofWar$Fitting", "<init>", "()V"⟩, "RoofWar"), ("RoofWar", 44, ⟨"RoofWar$Tape", "<init>", "()V"⟩, "RoofWar"), ("RoofWar", 64, ⟨"RoofWar$Row", "<init>", "()V"⟩, "RoofWar"), ("RoofWar", 71, ⟨"RoofWar$Slot", "<init>", "()V"⟩, "RoofWar"), ("RoofWar$Slot", 9, ⟨"RoofWar$Row", "<init>", "()V"⟩, "RoofWar"), ("RoofWar$Hill", 102, ⟨"RoofWar", "townOf", "(I)I"⟩, "RoofWar"), ("RoofWar$Hill", 95, ⟨"RoofWar", "firstHouse", "(I)I"⟩, "RoofWar"), ("RoofWar$Hill", 118, ⟨"RoofWar", "inSet", "(II)Z"⟩, "RoofWar"), ("RoofWar$Laws", 53, ⟨"RoofWar", "heldWithin", "(III)I"⟩, "RoofWar"), ("RoofWar$Hill", 146, ⟨"RoofWar", "otherTown", "(I)I"⟩, "RoofWar"), ("RoofWar$Fitting", 34, ⟨"RoofWar", "townOf", "(I)I"⟩, "RoofWar"), ("RoofWar$Fitting", 53, ⟨"RoofWar", "inSet", "(II)Z"⟩, "RoofWar"), ("RoofWar$Fitting", 46, ⟨"RoofWar", "firstHouse", "(I)I"⟩, "RoofWar")]
def LNs : List Nat := [5, 3, 4, 3, 2, 2, 1, 1, 1, 1, 1, 3, 2, 2]
def BYs : List (List Int32) := [[115, 112, 105, 116, 101], [102, 101, 101], [102, 105, 110, 101], [108, 115, 110], [116, 119], [108, 115], [33], [40], [41], [124], [38], [60, 61, 62], [43, 45], [42, 47]]
def SIs : List (Nat × String) := [(64, "spite"), (66, "fee"), (68, "fine"), (70, "lsn"), (72, "tw"), (74, "ls"), (134, "!"), (139, "("), (147, ")"), (76, "|"), (78, "&"), (80, "<=>"), (82, "+-"), (84, "*/")]
def KX (regs : List (Nat × Nat)) (ad : Nat → Nat → Nat) (sz : Nat) (U : State) (H : Heap) : Prop :=
  (∀ q ∈ NWq, va_Nw (.methodLinkNest q.1 q.2.1 q.2.2.1 q.2.2.2) U) ∧ vk_S 14 LNs BYs (ad 90) (ad 91) (AA regs ad sz) U H ∧ (∀ i : Nat, i < 14 → vk_R "RoofWar$Reader" (SIs.getD i (0, "")).1 (SIs.getD i (0, "")).2 (ad 90 i) U) ∧ va_Z "java/lang/String" "COMPACT_STRINGS" "Z" (.int 1) (AA regs ad sz) U H ∧ ∃ r : Option Nat, va_Z "jdk/internal/util/Preconditions" "SIOOBE_FORMATTER" "Ljava/util/function/BiFunction;" (va_rf r) (AA regs ad sz) U H
theorem KX_call {regs : List (Nat × Nat)} {ad : Nat → Nat → Nat} {s U : State} {H : Heap} {locs : List Loc} (h : KX regs ad s.heap.size s s.heap) (hS : va_S (AA regs ad s.heap.size) s.heap H locs) (hW : s.WarmedH U.vm) : KX regs ad H.size U H :=
  ⟨fun q hq => va_Nw.warmM hW (h.1 q hq), ((h.2.1.kept hS.2.1).moved hW.alike).narrow (AA_mono hS.1), fun i hi => (h.2.2.1 i hi).warm hW, ((h.2.2.2.1.kept hS.2.1).moved hW.alike).narrow (AA_mono hS.1), h.2.2.2.2.imp (fun _ g => ((g.kept hS.2.1).moved hW.alike).narrow (AA_mono hS.1))⟩
theorem KX_same {regs : List (Nat × Nat)} {ad : Nat → Nat → Nat} {u U : State} {sz : Nat} {H : Heap} (h : KX regs ad sz u H) (hv : u.vm = U.vm) : KX regs ad sz U H :=
  have ha : u.vm.Alike U.vm := hv ▸ Vm.Alike.refl u.vm
  ⟨fun q hq => (h.1 q hq).same rfl hv, h.2.1.moved ha, fun i hi => (h.2.2.1 i hi).same hv.symm, h.2.2.2.1.moved ha, h.2.2.2.2.imp (fun _ g => g.moved ha)⟩
/-- what a method's body knows of the machine -/
def EnvW (p : Program) (s : State) (m : MethodId) (args : Array Value) (meth : Method) (c : Code) (D : va_G) (cy : Nat → ClassId) (regs : List (Nat × Nat)) (ad : Nat → Nat → Nat) (own : String) (cc : ByteArray) (maxL : Nat) (ret : Option FieldType) : Prop :=
  p.tables.exec = Jvm.exec ∧ c.code = cc ∧ (∀ w ∈ WT, w.before args s = true) ∧ s.vm.findClass own = some m.cls ∧ va_K D CLS (tysW cy) s ∧ c.maxLocals = maxL ∧ meth.sig.returnType = ret ∧ meth.locks = false ∧ KX regs ad s.heap.size s s.heap
abbrev PreW (D : va_G) (cy : Nat → ClassId) (cell : CellF) (regs : List (Nat × Nat)) (ad : Nat → Nat → Nat) (σ : St) (sz : Nat) : State → Prop := fun U => U.heap.size = sz ∧ va_P D CLS (wd cell regs ad σ) U.heap ∧ va_K D CLS (tysW cy) U ∧ KX regs ad sz U U.heap
abbrev PoW (D : va_G) (cy : Nat → ClassId) (cell : CellF) (regs : List (Nat × Nat)) (ad : Nat → Nat → Nat) : St → State → Prop := fun σ t => va_P D CLS (wd cell regs ad σ) t.heap ∧ va_K D CLS (tysW cy) t
abbrev QI (D : va_G) (cy : Nat → ClassId) (cell : CellF) (regs : List (Nat × Nat)) (ad : Nat → Nat → Nat) (sz : Nat) (post : Int32 → St → Prop) := va_Qi post (PoW D cy cell regs ad) (AA regs ad sz)
abbrev QV (D : va_G) (cy : Nat → ClassId) (cell : CellF) (regs : List (Nat × Nat)) (ad : Nat → Nat → Nat) (sz : Nat) (post : St → Prop) := va_Qv post (PoW D cy cell regs ad) (AA regs ad sz)
abbrev QQ (D : va_G) (cy : Nat → ClassId) (cell : CellF) (regs : List (Nat × Nat)) (ad : Nat → Nat → Nat) (sz : Nat) (post : Option Nat → St → Prop) := va_Qq post (PoW D cy cell regs ad) (AA regs ad sz)
def okV (y : MethodName) (bytes : ByteArray) (maxL : Nat) (ret : Option FieldType) (n : Nat) : Prop := Cond.instanceMethod y ∈ WT ∧ Cond.selects y.cls y y ∈ WT ∧ Cond.initialized y.cls ∈ WT ∧ Cond.code y bytes maxL ret ∈ WT ∧ (y.cls ≠ "java/lang/invoke/MethodHandle" ∧ y.cls ≠ "java/lang/invoke/VarHandle" ∧ (parseMethodDescriptor y.desc).map (fun d => d.parameters.length) = some n) ∧ plainName y.cls = true
def okS (y : MethodName) (bytes : ByteArray) (maxL : Nat) (ret : Option FieldType) (n : Nat) : Prop := Cond.static y ∈ WT ∧ Cond.initialized y.cls ∈ WT ∧ Cond.code y bytes maxL ret ∈ WT ∧ (y.cls ≠ "java/lang/invoke/MethodHandle" ∧ y.cls ≠ "java/lang/invoke/VarHandle" ∧ (parseMethodDescriptor y.desc).map (fun d => d.parameters.length) = some n) ∧ plainName y.cls = true
/-- the words of a method: its own code, and the tables -/
abbrev wsOf (y : MethodName) (bytes : ByteArray) (maxL : Nat) (ret : Option FieldType) : List Cond := .code y bytes maxL ret :: WT
theorem good_ws {y : MethodName} {bytes : ByteArray} {maxL : Nat} {ret : Option FieldType} (h : Cond.code y bytes maxL ret ∈ WT) : GoodIn WT (wsOf y bytes maxL ret) := fun w hw => (List.mem_cons.mp hw).elim (fun e => by subst e; exact ⟨h, good_of_word (WT_good _ h)⟩) (fun h2 => ⟨h2, good_of_word (WT_good _ h2)⟩)
theorem good_in {ws1 ws2 : List Cond} (h1 : ∀ w ∈ ws1, w ∈ WT) (h2 : GoodIn WT ws2) : GoodIn WT (ws1 ++ ws2) := fun w hw => (List.mem_append.mp hw).elim (fun h => ⟨h1 w h, good_of_word (WT_good _ (h1 w h))⟩) (h2 w)
abbrev MetI (l : Launch) (y : MethodName) (bytes : ByteArray) (maxL : Nat) (ty : FieldType) (rm : Room) (av : List Value) (D : va_G) (cy : Nat → ClassId) (cell : CellF) (regs : List (Nat × Nat)) (ad : Nat → Nat → Nat) (σ : St) (sz : Nat) (post : Int32 → St → Prop) : Prop :=
  Met l y (wsOf y bytes maxL (some ty)) rm (va_Pc av (PreW D cy cell regs ad σ sz)) (QI D cy cell regs ad sz post) 0 0 (AA regs ad sz)
abbrev MetV (l : Launch) (y : MethodName) (bytes : ByteArray) (maxL : Nat) (rm : Room) (av : List Value) (D : va_G) (cy : Nat → ClassId) (cell : CellF) (regs : List (Nat × Nat)) (ad : Nat → Nat → Nat) (σ : St) (sz : Nat) (post : St → Prop) : Prop :=
  Met l y (wsOf y bytes maxL none) rm (va_Pc av (PreW D cy cell regs ad σ sz)) (QV D cy cell regs ad sz post) 0 0 (AA regs ad sz)
abbrev MetQ (l : Launch) (y : MethodName) (bytes : ByteArray) (maxL : Nat) (ty : FieldType) (rm : Room) (av : List Value) (D : va_G) (cy : Nat → ClassId) (cell : CellF) (regs : List (Nat × Nat)) (ad : Nat → Nat → Nat) (σ : St) (sz : Nat) (post : Option Nat → St → Prop) : Prop :=
  Met l y (wsOf y bytes maxL (some ty)) rm (va_Pc av (PreW D cy cell regs ad σ sz)) (QQ D cy cell regs ad sz post) 0 0 (AA regs ad sz)
abbrev QR (D : va_G) (cy : Nat → ClassId) (cell : CellF) (regs : List (Nat × Nat)) (ad : Nat → Nat → Nat) (sz : Nat) (post : Nat → St → Prop) := va_Qr (fun u : Nat × St => post u.1 u.2) (fun u a t => a = ad 90 u.1 ∧ PoW D cy cell regs ad u.2 t) (AA regs ad sz)
abbrev MetR (l : Launch) (y : MethodName) (bytes : ByteArray) (maxL : Nat) (ty : FieldType) (rm : Room) (av : List Value) (D : va_G) (cy : Nat → ClassId) (cell : CellF) (regs : List (Nat × Nat)) (ad : Nat → Nat → Nat) (σ : St) (sz : Nat) (post : Nat → St → Prop) : Prop :=
  Met l y (wsOf y bytes maxL (some ty)) rm (va_Pc av (PreW D cy cell regs ad σ sz)) (QR D cy cell regs ad sz post) 0 0 (AA regs ad sz)
section RowsW
variable {p : Program} {l : Launch} {e : Env} {R : Room} {s : State} {m : MethodId} {args : Array Value} {below : List Frame} {meth : Method} {c : Code} {H : Heap} {locs : List Loc} {cells slots : Nat} {Q : State → Prop}
variable {pc : Nat} {ls : Array Slot} {rest : List Value} {D : va_G} {cy : Nat → ClassId} {own : String} {cc : ByteArray} {maxL : Nat} {ret : Option FieldType}
variable {cell : CellF} {regs : List (Nat × Nat)} {ad : Nat → Nat → Nat} {σ : St}
theorem Met_inI {y : MethodName} {bytes : ByteArray} {ty : FieldType} {rm : Room} {av : List Value} {sz : Nat} {post : Int32 → St → Prop} (hy : plainName y.cls = true) (hsl : (lg_sl av).length ≤ maxL)
    (body : ∀ (p : Program) (e : Env) (s : State) (m : MethodId) (below : List Frame) (meth : Method) (c : Code) (ls : Array Slot), EnvW p s m av.toArray meth c D cy regs ad y.cls bytes maxL (some ty) → va_P D CLS (wd cell regs ad σ) s.heap → lv_has ls maxL (lv_args 0 av) → W p l e rm s m av.toArray below meth c s.heap [] 0 0 (MQ below (QI D cy cell regs ad s.heap.size post) av.toArray s 0 0 (AA regs ad s.heap.size)) (F0 m 0 ls [])) : MetI l y bytes maxL ty rm av D cy cell regs ad σ sz post := by
  refine Met.ofW (cc := bytes) (maxL := maxL) (ret := some ty) hy rfl ?_
  intro p e s m args below meth c s₁ B hml hv
  obtain ⟨rfl, hsz, hP, hK, hX⟩ := hv
  subst hsz
  have hl := lv_entry av hsl
  rw [lg_entry_eq]
  exact body p e s m below meth c _ ⟨B.exec, B.bytes, fun w hw => atoms_spec (ws := wsOf y bytes maxL (some ty)) B.pre w (List.mem_cons_of_mem _ hw), findClass_of_methodNamed B.named, hK, hml, B.returns, B.notSynchronized, hX⟩ hP hl
theorem Met_inV {y : MethodName} {bytes : ByteArray} {rm : Room} {av : List Value} {sz : Nat} {post : St → Prop} (hy : plainName y.cls = true) (hsl : (lg_sl av).length ≤ maxL)
    (body : ∀ (p : Program) (e : Env) (s : State) (m : MethodId) (below : List Frame) (meth : Method) (c : Code) (ls : Array Slot), EnvW p s m av.toArray meth c D cy regs ad y.cls bytes maxL none → va_P D CLS (wd cell regs ad σ) s.heap → lv_has ls maxL (lv_args 0 av) → W p l e rm s m av.toArray below meth c s.heap [] 0 0 (MQ below (QV D cy cell regs ad s.heap.size post) av.toArray s 0 0 (AA regs ad s.heap.size)) (F0 m 0 ls [])) : MetV l y bytes maxL rm av D cy cell regs ad σ sz post := by
  refine Met.ofW (cc := bytes) (maxL := maxL) (ret := none) hy rfl ?_
  intro p e s m args below meth c s₁ B hml hv
  obtain ⟨rfl, hsz, hP, hK, hX⟩ := hv
  subst hsz
  have hl := lv_entry av hsl
  rw [lg_entry_eq]
  exact body p e s m below meth c _ ⟨B.exec, B.bytes, fun w hw => atoms_spec (ws := wsOf y bytes maxL none) B.pre w (List.mem_cons_of_mem _ hw), findClass_of_methodNamed B.named, hK, hml, B.returns, B.notSynchronized, hX⟩ hP hl
theorem Met_inQ {y : MethodName} {bytes : ByteArray} {ty : FieldType} {rm : Room} {av : List Value} {sz : Nat} {post : Option Nat → St → Prop} (hy : plainName y.cls = true) (hsl : (lg_sl av).length ≤ maxL)
    (body : ∀ (p : Program) (e : Env) (s : State) (m : MethodId) (below : List Frame) (meth : Method) (c : Code) (ls : Array Slot), EnvW p s m av.toArray meth c D cy regs ad y.cls bytes maxL (some ty) → va_P D CLS (wd cell regs ad σ) s.heap → lv_has ls maxL (lv_args 0 av) → W p l e rm s m av.toArray below meth c s.heap [] 0 0 (MQ below (QQ D cy cell regs ad s.heap.size post) av.toArray s 0 0 (AA regs ad s.heap.size)) (F0 m 0 ls [])) : MetQ l y bytes maxL ty rm av D cy cell regs ad σ sz post := by
  refine Met.ofW (cc := bytes) (maxL := maxL) (ret := some ty) hy rfl ?_
  intro p e s m args below meth c s₁ B hml hv
  obtain ⟨rfl, hsz, hP, hK, hX⟩ := hv
  subst hsz
  have hl := lv_entry av hsl
  rw [lg_entry_eq]
  exact body p e s m below meth c _ ⟨B.exec, B.bytes, fun w hw => atoms_spec (ws := wsOf y bytes maxL (some ty)) B.pre w (List.mem_cons_of_mem _ hw), findClass_of_methodNamed B.named, hK, hml, B.returns, B.notSynchronized, hX⟩ hP hl
theorem Met_inR {y : MethodName} {bytes : ByteArray} {ty : FieldType} {rm : Room} {av : List Value} {sz : Nat} {post : Nat → St → Prop} (hy : plainName y.cls = true) (hsl : (lg_sl av).length ≤ maxL)
    (body : ∀ (p : Program) (e : Env) (s : State) (m : MethodId) (below : List Frame) (meth : Method) (c : Code) (ls : Array Slot), EnvW p s m av.toArray meth c D cy regs ad y.cls bytes maxL (some ty) → va_P D CLS (wd cell regs ad σ) s.heap → lv_has ls maxL (lv_args 0 av) → W p l e rm s m av.toArray below meth c s.heap [] 0 0 (MQ below (QR D cy cell regs ad s.heap.size post) av.toArray s 0 0 (AA regs ad s.heap.size)) (F0 m 0 ls [])) : MetR l y bytes maxL ty rm av D cy cell regs ad σ sz post := by
  refine Met.ofW (cc := bytes) (maxL := maxL) (ret := some ty) hy rfl ?_
  intro p e s m args below meth c s₁ B hml hv
  obtain ⟨rfl, hsz, hP, hK, hX⟩ := hv
  subst hsz
  have hl := lv_entry av hsl
  rw [lg_entry_eq]
  exact body p e s m below meth c _ ⟨B.exec, B.bytes, fun w hw => atoms_spec (ws := wsOf y bytes maxL (some ty)) B.pre w (List.mem_cons_of_mem _ hw), findClass_of_methodNamed B.named, hK, hml, B.returns, B.notSynchronized, hX⟩ hP hl
-- ends
theorem g_iret (E : EnvW p s m args meth c D cy regs ad own cc maxL (some .int)) {post : Int32 → St → Prop} {v : Int32} (hq : post v σ) (hP : va_P D CLS (wd cell regs ad σ) H) (hS : va_S (AA regs ad s.heap.size) s.heap H locs) (hdg : decode cc pc = .ok (.ireturn, 1)) : W p l e R s m args below meth c H locs cells slots (MQ below (QI D cy cell regs ad s.heap.size post) args s cells slots (AA regs ad s.heap.size)) (F0 m pc ls [.int v]) := by
  obtain ⟨hx, hb, hts, hown, hK, hml, hr, hlk, -⟩ := E
  exact W.iret (v := v) hx hb hr (fun t ht hW => ⟨⟨v, σ, rfl, hq, by rw [ht]; exact hP, va_K.moved hW.alike hK⟩, hS.F ht⟩) hS.2.2 hdg hlk
theorem g_zret (E : EnvW p s m args meth c D cy regs ad own cc maxL (some .boolean)) {post : Int32 → St → Prop} {v : Int32} (hz : v = 0 ∨ v = 1) (hq : post v σ) (hP : va_P D CLS (wd cell regs ad σ) H) (hS : va_S (AA regs ad s.heap.size) s.heap H locs) (hdg : decode cc pc = .ok (.ireturn, 1)) : W p l e R s m args below meth c H locs cells slots (MQ below (QI D cy cell regs ad s.heap.size (fun r u => (r = 0 ∨ r = 1) ∧ post r u)) args s cells slots (AA regs ad s.heap.size)) (F0 m pc ls [.int v]) := by
  obtain ⟨hx, hb, hts, hown, hK, hml, hr, hlk, -⟩ := E
  exact W.zret (v := v) hx hb hr (by rcases hz with rfl | rfl <;> decide) (fun t ht hW => ⟨⟨v, σ, rfl, ⟨hz, hq⟩, by rw [ht]; exact hP, va_K.moved hW.alike hK⟩, hS.F ht⟩) hS.2.2 hdg hlk
theorem g_nret {ty : FieldType} (E : EnvW p s m args meth c D cy regs ad own cc maxL (some ty)) {post : Int32 → St → Prop} {v : Int32} (hz : narrow ty (.int v) = .int v) (hq : post v σ) (hP : va_P D CLS (wd cell regs ad σ) H) (hS : va_S (AA regs ad s.heap.size) s.heap H locs) (hdg : decode cc pc = .ok (.ireturn, 1)) : W p l e R s m args below meth c H locs cells slots (MQ below (QI D cy cell regs ad s.heap.size (fun r u => (narrow ty (.int r) = .int r) ∧ post r u)) args s cells slots (AA regs ad s.heap.size)) (F0 m pc ls [.int v]) := by
  obtain ⟨hx, hb, hts, hown, hK, hml, hr, hlk, -⟩ := E
  exact W.zret (v := v) hx hb hr hz (fun t ht hW => ⟨⟨v, σ, rfl, ⟨hz, hq⟩, by rw [ht]; exact hP, va_K.moved hW.alike hK⟩, hS.F ht⟩) hS.2.2 hdg hlk
theorem g_vret (E : EnvW p s m args meth c D cy regs ad own cc maxL none) {post : St → Prop} (hq : post σ) (hP : va_P D CLS (wd cell regs ad σ) H) (hS : va_S (AA regs ad s.heap.size) s.heap H locs) (hdg : decode cc pc = .ok (.return_, 1)) : W p l e R s m args below meth c H locs cells slots (MQ below (QV D cy cell regs ad s.heap.size post) args s cells slots (AA regs ad s.heap.size)) (F0 m pc ls []) := by
  obtain ⟨hx, hb, hts, hown, hK, hml, hr, hlk, -⟩ := E
  exact W.vret hx hb hr (fun t ht hW => ⟨⟨σ, rfl, hq, by rw [ht]; exact hP, va_K.moved hW.alike hK⟩, hS.F ht⟩) hS.2.2 hdg hlk
theorem g_qret {Co : String} (E : EnvW p s m args meth c D cy regs ad own cc maxL (some (.object Co))) {post : Option Nat → St → Prop} {v : Option Nat} (hq : post v σ) (hP : va_P D CLS (wd cell regs ad σ) H) (hS : va_S (AA regs ad s.heap.size) s.heap H locs) (hdg : decode cc pc = .ok (.areturn, 1)) : W p l e R s m args below meth c H locs cells slots (MQ below (QQ D cy cell regs ad s.heap.size post) args s cells slots (AA regs ad s.heap.size)) (F0 m pc ls [va_rf v]) := by
  obtain ⟨hx, hb, hts, hown, hK, hml, hr, hlk, -⟩ := E
  exact W.aret (v := va_rf v) hx hb hr (Or.inl ⟨Co, rfl⟩) (by cases v with | none => exact Or.inl rfl | some a => exact Or.inr ⟨a, rfl⟩) (fun t ht hW => ⟨⟨v, σ, rfl, hq, by rw [ht]; exact hP, va_K.moved hW.alike hK⟩, hS.F ht⟩) hS.2.2 hdg hlk
theorem g_rret {Co : String} (E : EnvW p s m args meth c D cy regs ad own cc maxL (some (.object Co))) {post : Nat → St → Prop} {v : Nat} (hq : post v σ) (hP : va_P D CLS (wd cell regs ad σ) H) (hS : va_S (AA regs ad s.heap.size) s.heap H locs) (hdg : decode cc pc = .ok (.areturn, 1)) : W p l e R s m args below meth c H locs cells slots (MQ below (QR D cy cell regs ad s.heap.size post) args s cells slots (AA regs ad s.heap.size)) (F0 m pc ls [.ref (ad 90 v)]) := by
  obtain ⟨hx, hb, hts, hown, hK, hml, hr, hlk, -⟩ := E
  exact W.aret (v := .ref (ad 90 v)) hx hb hr (Or.inl ⟨Co, rfl⟩) (Or.inr ⟨_, rfl⟩) (fun t ht hW => ⟨⟨(v, σ), ad 90 v, rfl, hq, rfl, by rw [ht]; exact hP, va_K.moved hW.alike hK⟩, hS.F ht⟩) hS.2.2 hdg hlk
-- texts
theorem g_ldcS {index i : Nat} (hi : i < 14) (hix : (SIs.getD i (0, "")).1 = index) (E : EnvW p s m args meth c D cy regs ad "RoofWar$Reader" cc maxL ret) (hdg : decode cc pc = .ok (.ldc index, 2)) (kk : W p l e R s m args below meth c H locs cells slots Q (F0 m (pc + 2) ls (.ref (ad 90 i) :: rest))) : W p l e R s m args below meth c H locs cells slots Q (F0 m pc ls rest) := by
  obtain ⟨hx, hb, hts, hown, hK, hml, hr, hlk, hX⟩ := E
  have h := hX.2.2.1 i hi
  rw [hix] at h
  exact va_ldcS hx hb hown h hdg kk
theorem g_strV {index i : Nat} (hi : i < 14) (E : EnvW p s m args meth c D cy regs ad own cc maxL ret) (hS : va_S (AA regs ad s.heap.size) s.heap H locs) (hl : Cond.fieldLink own index "java/lang/String" "value" "[B" ∈ WT) (hdg : decode cc pc = .ok (.getfield index, 3)) (kk : W p l e R s m args below meth c H locs cells slots Q (F0 m (pc + 3) ls (.ref (ad 91 i) :: rest))) : W p l e R s m args below meth c H locs cells slots Q (F0 m pc ls (.ref (ad 90 i) :: rest)) := by
  obtain ⟨hx, hb, hts, hown, hK, hml, hr, hlk, hX⟩ := E
  exact vk_getf hx hb (hX.2.1.1 i hi).2.2.1 hS hown (hts _ hl) (fun _ h => h) hdg kk
theorem g_strC {index i : Nat} (hi : i < 14) (E : EnvW p s m args meth c D cy regs ad own cc maxL ret) (hS : va_S (AA regs ad s.heap.size) s.heap H locs) (hl : Cond.fieldLink own index "java/lang/String" "coder" "B" ∈ WT) (hdg : decode cc pc = .ok (.getfield index, 3)) (kk : W p l e R s m args below meth c H locs cells slots Q (F0 m (pc + 3) ls (.int 0 :: rest))) : W p l e R s m args below meth c H locs cells slots Q (F0 m pc ls (.ref (ad 90 i) :: rest)) := by
  obtain ⟨hx, hb, hts, hown, hK, hml, hr, hlk, hX⟩ := E
  exact vk_getf hx hb (hX.2.1.1 i hi).2.1 hS hown (hts _ hl) (fun _ h => h) hdg kk
theorem g_strL {i : Nat} (hi : i < 14) (E : EnvW p s m args meth c D cy regs ad own cc maxL ret) (hS : va_S (AA regs ad s.heap.size) s.heap H locs) (hdg : decode cc pc = .ok (.arraylength, 1)) (kk : W p l e R s m args below meth c H locs cells slots Q (F0 m (pc + 1) ls (.int (nI (LNs.getD i 0)) :: rest))) : W p l e R s m args below meth c H locs cells slots Q (F0 m pc ls (.ref (ad 91 i) :: rest)) := by
  obtain ⟨hx, hb, hts, hown, hK, hml, hr, hlk, hX⟩ := E
  exact va_tlen hx hb (hX.2.1.1 i hi).2.2.2 hS rfl hdg kk
theorem g_strB {i : Nat} {x : Int32} (hi : i < 14) (E : EnvW p s m args meth c D cy regs ad own cc maxL ret) (hS : va_S (AA regs ad s.heap.size) s.heap H locs) (hin : vp_in x (LNs.getD i 0)) (hdg : decode cc pc = .ok (.baload, 1)) (kk : W p l e R s m args below meth c H locs cells slots Q (F0 m (pc + 1) ls (.int ((BYs.getD i []).getD x.toNatClampNeg 0) :: rest))) : W p l e R s m args below meth c H locs cells slots Q (F0 m pc ls (.int x :: .ref (ad 91 i) :: rest)) := by
  obtain ⟨hx, hb, hts, hown, hK, hml, hr, hlk, hX⟩ := E
  exact va_tb hx hb (hX.2.1.1 i hi).2.2.2 hS hin rfl hdg kk
theorem g_gsCS {index : Nat} (E : EnvW p s m args meth c D cy regs ad own cc maxL ret) (hS : va_S (AA regs ad s.heap.size) s.heap H locs) (hl : Cond.fieldLink own index "java/lang/String" "COMPACT_STRINGS" "Z" ∈ WT) (hdg : decode cc pc = .ok (.getstatic index, 3)) (kk : W p l e R s m args below meth c H locs cells slots Q (F0 m (pc + 3) ls (.int 1 :: rest))) : W p l e R s m args below meth c H locs cells slots Q (F0 m pc ls rest) := by
  obtain ⟨hx, hb, hts, hown, hK, hml, hr, hlk, hX⟩ := E
  exact va_gets hx hb hX.2.2.2.1 hS hown (hts _ hl) (fun _ h => h) hdg kk
theorem g_gsBF {index : Nat} (E : EnvW p s m args meth c D cy regs ad own cc maxL ret) (hS : va_S (AA regs ad s.heap.size) s.heap H locs) (hl : Cond.fieldLink own index "jdk/internal/util/Preconditions" "SIOOBE_FORMATTER" "Ljava/util/function/BiFunction;" ∈ WT) (hdg : decode cc pc = .ok (.getstatic index, 3)) (kk : ∀ r : Option Nat, W p l e R s m args below meth c H locs cells slots Q (F0 m (pc + 3) ls (va_rf r :: rest))) : W p l e R s m args below meth c H locs cells slots Q (F0 m pc ls rest) := by
  obtain ⟨hx, hb, hts, hown, hK, hml, hr, hlk, hX⟩ := E
  obtain ⟨r, hr2⟩ := hX.2.2.2.2
  exact va_gets hx hb hr2 hS hown (hts _ hl) (fun _ h => h) hdg (kk r)
-- fields and arrays
theorem g_get {C : String} {T : u_T} {N ci index k i j : Nat} {fs : List Value} {v : Value} (E : EnvW p s m args meth c D cy regs ad own cc maxL ret) (hin : ∀ w ∈ u_ws C T N, w ∈ WT) (hP : va_P D CLS (wd cell regs ad σ) H) (hr : (k, i) ∈ regs) (hcell : cell k i (σ k i) = .inr (ci, fs)) (hc : CLS[ci]? = some (C, T, N)) (hj : j < N) (hl : Cond.fieldLink own index C (T j).2.1 (T j).2.2.1 ∈ WT) (hd : (T j).1 = C) (hv : fs[j]? = some v) (hdg : decode cc pc = .ok (.getfield index, 3))
    (kk : W p l e R s m args below meth c H locs cells slots Q (F0 m (pc + 3) ls (v :: rest))) : W p l e R s m args below meth c H locs cells slots Q (F0 m pc ls (.ref (ad k i) :: rest)) := by
  obtain ⟨hx, hb, hts, hown, hK, -⟩ := E
  obtain ⟨q0, hq⟩ := List.mem_iff_getElem?.mp hr
  exact va_get hx hb hts hin hown hK hP q0 ((wd_at hq).trans (by rw [hcell])) hc j hj (hts _ hl) (fun x h => by rw [hd] at h; exact h) hv hdg kk
theorem g_put {C : String} {T : u_T} {N ci index k i j o : Nat} {fs : List Value} {x : Int32} {v : Value} {ty : FieldType} {ty0 : Nat → FieldType} (E : EnvW p s m args meth c D cy regs ad own cc maxL ret) (ha : Apart regs ad) (hin : ∀ w ∈ u_ws C T N, w ∈ WT) (hty : ∀ k, k < N → parseFieldDescriptor (T k).2.2.1 = some (ty0 k)) (hnm : ∀ a, a < N → ∀ b, b < N → a ≠ b → (T a).2.1 ≠ (T b).2.1) (hr : (k, i) ∈ regs) (hcell : cell k i (σ k i) = .inr (ci, fs)) (hset : cell k i (upd (σ k i) o x) = .inr (ci, fs.set j v)) (hc : CLS[ci]? = some (C, T, N)) (hj : j < N) (hl : Cond.fieldLink own index C (T j).2.1 (T j).2.2.1 ∈ WT) (hd : (T j).1 = C) (hfin : (T j).2.2.2 = false) (hd2 : ty0 j = ty) (hn : narrow ty v = v) (hfit : fits ty v = true) (hlen : j < fs.length) (hdg : decode cc pc = .ok (.putfield index, 3)) (hP : va_P D CLS (wd cell regs ad σ) H) (hS : va_S (AA regs ad s.heap.size) s.heap H locs)
    (kk : ∀ σ1 : St, σ1 = wr σ k i o x → ∀ (H1 : Heap) (locs1 : List Loc), va_P D CLS (wd cell regs ad σ1) H1 → va_S (AA regs ad s.heap.size) s.heap H1 locs1 → W p l e R s m args below meth c H1 locs1 cells slots Q (F0 m (pc + 3) ls rest)) : W p l e R s m args below meth c H locs cells slots Q (F0 m pc ls (v :: .ref (ad k i) :: rest)) := by
  obtain ⟨hx, hb, hts, hown, hK, -⟩ := E
  obtain ⟨q0, hq⟩ := List.mem_iff_getElem?.mp hr
  refine va_put hx hb hts hin ty0 hty hnm hown hK hP (wd_D ha) hS q0 ((wd_at hq).trans (by rw [hcell])) hc j hj (hts _ hl) (fun x h => by rw [hd] at h; exact h) hfin (by rw [hty j hj, hd2]) hn hfit hlen hdg (fun H1 locs1 h1 _ h3 => ?_)
  refine kk _ rfl H1 locs1 ?_ h3
  have e : (wd cell regs ad σ).set q0 (ad k i, .inr (ci, fs.set j v)) = wd cell regs ad (wr σ k i o x) := by
    rw [← hset, ← wr_row]
    exact wd_set ha.1 hq (fun a b h => wr_off σ o x h)
  rw [e] at h1
  exact h1
theorem g_ald {k i n : Nat} {x : Int32} (E : EnvW p s m args meth c D cy regs ad own cc maxL ret) (hP : va_P D CLS (wd cell regs ad σ) H) (hr : (k, i) ∈ regs) (hcell : cell k i (σ k i) = .inl (cy 0, n, .inl (σ k i))) (hin : vp_in x n) (hdg : decode cc pc = .ok (.iaload, 1))
    (kk : W p l e R s m args below meth c H locs cells slots Q (F0 m (pc + 1) ls (.int (σ k i x.toNatClampNeg) :: rest))) : W p l e R s m args below meth c H locs cells slots Q (F0 m pc ls (.int x :: .ref (ad k i) :: rest)) := by
  obtain ⟨hx, hb, hts, hown, hK, -⟩ := E
  obtain ⟨q0, hq⟩ := List.mem_iff_getElem?.mp hr
  exact va_iald hx hb hK hP q0 0 ((wd_at hq).trans (by rw [hcell])) rfl hin hdg kk
theorem g_ast {k i n : Nat} {x v : Int32} (E : EnvW p s m args meth c D cy regs ad own cc maxL ret) (ha : Apart regs ad) (hr : (k, i) ∈ regs) (hcell : ∀ f, cell k i f = .inl (cy 0, n, .inl f)) (hin : vp_in x n) (hdg : decode cc pc = .ok (.iastore, 1)) (hP : va_P D CLS (wd cell regs ad σ) H) (hS : va_S (AA regs ad s.heap.size) s.heap H locs)
    (kk : ∀ σ1 : St, σ1 = wr σ k i x.toNatClampNeg v → ∀ (H1 : Heap) (locs1 : List Loc), va_P D CLS (wd cell regs ad σ1) H1 → va_S (AA regs ad s.heap.size) s.heap H1 locs1 → W p l e R s m args below meth c H1 locs1 cells slots Q (F0 m (pc + 1) ls rest)) : W p l e R s m args below meth c H locs cells slots Q (F0 m pc ls (.int v :: .int x :: .ref (ad k i) :: rest)) := by
  obtain ⟨hx, hb, hts, hown, hK, -⟩ := E
  obtain ⟨q0, hq⟩ := List.mem_iff_getElem?.mp hr
  refine va_iast hx hb hK hP (wd_D ha) hS q0 0 ((wd_at hq).trans (by rw [hcell])) rfl hin hdg (fun H1 locs1 h1 _ h3 => ?_)
  refine kk _ rfl H1 locs1 ?_ h3
  have e : (wd cell regs ad σ).set q0 (ad k i, .inl (cy 0, n, .inl (upd (σ k i) x.toNatClampNeg v))) = wd cell regs ad (wr σ k i x.toNatClampNeg v) := by
    rw [← hcell, ← wr_row]
    exact wd_set ha.1 hq (fun a b h => wr_off σ _ v h)
  rw [e] at h1
  exact h1
theorem g_aldr {k i n t0 : Nat} {C : String} {g : Nat → Option Nat} {x : Int32} {v : Nat} (E : EnvW p s m args meth c D cy regs ad own cc maxL ret) (hP : va_P D CLS (wd cell regs ad σ) H) (hr : (k, i) ∈ regs) (hcell : cell k i (σ k i) = .inl (cy t0, n, .inr (.inr (.inr (.inr g))))) (ht : (tysW cy)[t0]? = some (cy t0, .object C)) (hin : vp_in x n) (hv : g x.toNatClampNeg = some v) (hdg : decode cc pc = .ok (.aaload, 1))
    (kk : W p l e R s m args below meth c H locs cells slots Q (F0 m (pc + 1) ls (.ref v :: rest))) : W p l e R s m args below meth c H locs cells slots Q (F0 m pc ls (.int x :: .ref (ad k i) :: rest)) := by
  obtain ⟨hx, hb, hts, hown, hK, -⟩ := E
  obtain ⟨q0, hq⟩ := List.mem_iff_getElem?.mp hr
  exact va_aldq hx hb hK hP q0 t0 ((wd_at hq).trans (by rw [hcell])) ht hin hdg (by rw [hv]; exact kk)
theorem g_aldI {k i n t0 : Nat} {g : Nat → Option Nat} {x : Int32} {v : Nat} (E : EnvW p s m args meth c D cy regs ad own cc maxL ret) (hP : va_P D CLS (wd cell regs ad σ) H) (hr : (k, i) ∈ regs) (hcell : cell k i (σ k i) = .inl (cy t0, n, .inr (.inr (.inr (.inr g))))) (ht : (tysW cy)[t0]? = some (cy t0, .array .int)) (hin : vp_in x n) (hv : g x.toNatClampNeg = some v) (hdg : decode cc pc = .ok (.aaload, 1))
    (kk : W p l e R s m args below meth c H locs cells slots Q (F0 m (pc + 1) ls (.ref v :: rest))) : W p l e R s m args below meth c H locs cells slots Q (F0 m pc ls (.int x :: .ref (ad k i) :: rest)) := by
  obtain ⟨hx, hb, hts, hown, hK, -⟩ := E
  obtain ⟨q0, hq⟩ := List.mem_iff_getElem?.mp hr
  have hlt : x.toNatClampNeg < n := Nat.not_le.mp fun q => hin (Or.inr q)
  have ha : (wd cell regs ad σ)[q0]? = some (ad k i, .inl (cy t0, n, .inr (.inr (.inr (.inr g))))) := (wd_at hq).trans (by rw [hcell])
  exact W.aald (v := .ref v) (ty := .array .int) hx hb (hP q0 _ ha) ((hK.2 t0 _ ht).1 n (fun j => va_rf (g j))) rfl (fun q => by cases q) (by show ¬ (x < 0 ∨ (arrV _ _ _).slots.size ≤ _); rw [arrV_size]; exact hin) (by show (arrV _ _ _).slots[_]? = _; rw [arrV_read _ _ hlt, hv]; rfl) rfl rfl hdg kk
theorem g_copy {k i n k2 i2 n2 index : Nat} {sp dp cnt : Int32} (E : EnvW p s m args meth c D cy regs ad own cc maxL ret) (hls : ls.size = maxL) (ha : Apart regs ad) (hl : Cond.methodLink own index arraycopyName ∈ WT) (hr : (k, i) ∈ regs) (hcell : ∀ f, cell k i f = .inl (cy 0, n, .inl f)) (hr2 : (k2, i2) ∈ regs) (hcell2 : ∀ f, cell k2 i2 f = .inl (cy 0, n2, .inl f)) (hnat : Cond.native arraycopyName ∈ WT) (hstat : Cond.static arraycopyName ∈ WT) (hini : Cond.initialized "java/lang/System" ∈ WT) (hin : ¬ sp < 0 ∧ ¬ dp < 0 ∧ ¬ cnt < 0 ∧ sp.toNatClampNeg + cnt.toNatClampNeg ≤ n ∧ dp.toNatClampNeg + cnt.toNatClampNeg ≤ n2) (hR : 1 ≤ R.frames ∧ (rest.map fun v => v.category).sum + (nativeFrameWords "java/lang/System" "arraycopy" 5 + 11) ≤ R.locals) (hdg : decode cc pc = .ok (.invokestatic index, 3)) (hP : va_P D CLS (wd cell regs ad σ) H) (hS : va_S (AA regs ad s.heap.size) s.heap H locs)
    (kk : ∀ σ1 : St, σ1 = wrR σ k2 i2 (va_cpy (σ k i) (σ k2 i2) sp.toNatClampNeg dp.toNatClampNeg cnt.toNatClampNeg) → ∀ (H1 : Heap) (locs1 : List Loc), va_P D CLS (wd cell regs ad σ1) H1 → va_S (AA regs ad s.heap.size) s.heap H1 locs1 → W p l e R s m args below meth c H1 locs1 cells slots Q (F0 m (pc + 3) ls rest)) : W p l e R s m args below meth c H locs cells slots Q (F0 m pc ls (.int cnt :: .int dp :: .ref (ad k2 i2) :: .int sp :: .ref (ad k i) :: rest)) := by
  obtain ⟨hx, hb, hts, hown, hK, hml, -⟩ := E
  obtain ⟨q0, hq⟩ := List.mem_iff_getElem?.mp hr
  obtain ⟨q1, hq1⟩ := List.mem_iff_getElem?.mp hr2
  refine va_copyi (ty := .int) (f := σ k i) (g := σ k2 i2) hx hb (hml.trans hls.symm) hown (hts _ hl) (hts _ hnat) (hts _ hstat) (hts _ hini) hK hP (wd_D ha) hS q0 q1 0 0 ((wd_at hq).trans (by rw [hcell])) ((wd_at hq1).trans (by rw [hcell2])) rfl rfl rfl hin.1 hin.2.1 hin.2.2.1 hin.2.2.2.1 hin.2.2.2.2 (fun i _ => rfl) hR.1 hR.2 hdg (fun H1 locs1 h1 _ h3 => ?_)
  refine kk _ rfl H1 locs1 ?_ h3
  have e : (wd cell regs ad σ).set q1 (ad k2 i2, .inl (cy 0, n2, .inl (va_cpy (σ k i) (σ k2 i2) sp.toNatClampNeg dp.toNatClampNeg cnt.toNatClampNeg))) = wd cell regs ad (wrR σ k2 i2 (va_cpy (σ k i) (σ k2 i2) sp.toNatClampNeg dp.toNatClampNeg cnt.toNatClampNeg)) := by
    rw [← hcell2]
    have h := wd_set (cell := cell) (ad := ad) (σ := σ) (σ' := wrR σ k2 i2 (va_cpy (σ k i) (σ k2 i2) sp.toNatClampNeg dp.toNatClampNeg cnt.toNatClampNeg)) ha.1 hq1 (fun a b h => wrR_off σ _ h)
    rw [wrR_row] at h
    exact h
  rw [e] at h1
  exact h1
-- calls
theorem frameBlindW {av : List Value} {sz : Nat} : FrameBlind (va_Pc av (PreW D cy cell regs ad σ sz)) := fun a U g mk q => by
  obtain ⟨q0, q1, qP, qK, qX⟩ := q
  exact ⟨q0, q1, qP, va_K.moved (u := U) (U := U.calling g mk a) (Vm.Alike.refl U.vm) qK, KX_same qX rfl⟩
theorem preW {av : List Value} (hP : va_P D CLS (wd cell regs ad σ) H) (hK : va_K D CLS (tysW cy) s) (hX : KX regs ad s.heap.size s s.heap) (hS : va_S (AA regs ad s.heap.size) s.heap H locs) (U : State) (hU : U.heap = H) (hW : s.WarmedH U.vm) : va_Pc av (PreW D cy cell regs ad σ H.size) av.toArray U := ⟨rfl, by rw [hU], by rw [hU]; exact hP, va_K.moved hW.alike hK, by rw [hU]; exact KX_call hX hS hW⟩
theorem AA_call (hS : va_S (AA regs ad s.heap.size) s.heap H locs) : ∀ q, AA regs ad H.size q → AA regs ad s.heap.size q := AA_mono hS.1
theorem g_cVi {y : MethodName} {bytes : ByteArray} {mL n index k i ci : Nat} {ty : FieldType} {rm : Room} {As st0 : List Value} {fs : List Value} {q : vw_C} {post : Int32 → St → Prop} (E : EnvW p s m args meth c D cy regs ad own cc maxL ret) (hls : ls.size = maxL) (hM : MetI l y bytes mL ty rm (.ref (ad k i) :: As) D cy cell regs ad σ H.size post) (hy : okV y bytes mL (some ty) n) (hl : Cond.methodLink own index y ∈ WT) (hR : rm.frames + 1 ≤ R.frames ∧ 8 + (mL + 11) + rm.locals ≤ R.locals) (hrm : rm.cells = 0 ∧ rm.slots = 0) (hr : (k, i) ∈ regs) (hcell : cell k i (σ k i) = .inr (ci, fs)) (hc : CLS[ci]? = some q) (hqc : q.1 = y.cls) (hn : As.length = n) (hst : st0 = As.reverse ++ .ref (ad k i) :: rest) (hrest : (rest.map fun v => v.category).sum ≤ 8) (hcs : cells ≤ R.cells ∧ slots ≤ R.slots) (hP : va_P D CLS (wd cell regs ad σ) H) (hS : va_S (AA regs ad s.heap.size) s.heap H locs) (hdg : decode cc pc = .ok (.invokevirtual index, 3))
    (kk : ∀ (r : Int32) (σ1 : St), post r σ1 → ∀ (H1 : Heap) (locs1 : List Loc), va_P D CLS (wd cell regs ad σ1) H1 → va_S (AA regs ad s.heap.size) s.heap H1 locs1 → W p l e R s m args below meth c H1 locs1 cells slots Q (F0 m (pc + 3) ls (.int r :: rest))) : W p l e R s m args below meth c H locs cells slots Q (F0 m pc ls st0) := by
  obtain ⟨hx, hb, hts, hown, hK, hml, -, -, hX⟩ := E
  obtain ⟨q0, hq⟩ := List.mem_iff_getElem?.mp hr
  obtain ⟨y1, y2, y3, y4, y5, -⟩ := hy
  have hG : GoodIn WT (wsV own index y.cls y (wsOf y bytes mL (some ty))) := good_in (fun w hw => by simp only [List.mem_cons, List.not_mem_nil, or_false] at hw; rcases hw with rfl | rfl | rfl | rfl <;> assumption) (good_ws y4)
  have hrecv := va_recv hK hP hc ((wd_at (σ := σ) (cell := cell) (ad := ad) hq).trans (by rw [hcell]))
  rw [hqc] at hrecv
  exact va_calli (va_runV (As := As) (rest := rest) ⟨hx, hb, hml, hown, hts⟩ hM (cwV n hts hG rfl hrm.1 hrm.2 ⟨rfl, y5⟩ hR) ⟨frameBlindW, hrecv, fun U hU hW => preW hP hK hX hS U hU hW⟩ rfl hn hls hst (lv_room hrest) hdg ⟨hcs.1, hcs.2⟩) hS (fun q _ h => AA_call hS q h) (AA_call hS) (fun r u t H1 locs1 ht hvm hw hB hz1 hk1 hS1 => kk r u hw H1 locs1 (by rw [← ht]; exact hB.1) hS1)
theorem g_cVv {y : MethodName} {bytes : ByteArray} {mL n index k i ci : Nat} {rm : Room} {As st0 : List Value} {fs : List Value} {q : vw_C} {post : St → Prop} (E : EnvW p s m args meth c D cy regs ad own cc maxL ret) (hls : ls.size = maxL) (hM : MetV l y bytes mL rm (.ref (ad k i) :: As) D cy cell regs ad σ H.size post) (hy : okV y bytes mL none n) (hl : Cond.methodLink own index y ∈ WT) (hR : rm.frames + 1 ≤ R.frames ∧ 8 + (mL + 11) + rm.locals ≤ R.locals) (hrm : rm.cells = 0 ∧ rm.slots = 0) (hr : (k, i) ∈ regs) (hcell : cell k i (σ k i) = .inr (ci, fs)) (hc : CLS[ci]? = some q) (hqc : q.1 = y.cls) (hn : As.length = n) (hst : st0 = As.reverse ++ .ref (ad k i) :: rest) (hrest : (rest.map fun v => v.category).sum ≤ 8) (hcs : cells ≤ R.cells ∧ slots ≤ R.slots) (hP : va_P D CLS (wd cell regs ad σ) H) (hS : va_S (AA regs ad s.heap.size) s.heap H locs) (hdg : decode cc pc = .ok (.invokevirtual index, 3))
    (kk : ∀ (σ1 : St), post σ1 → ∀ (H1 : Heap) (locs1 : List Loc), va_P D CLS (wd cell regs ad σ1) H1 → va_S (AA regs ad s.heap.size) s.heap H1 locs1 → W p l e R s m args below meth c H1 locs1 cells slots Q (F0 m (pc + 3) ls rest)) : W p l e R s m args below meth c H locs cells slots Q (F0 m pc ls st0) := by
  obtain ⟨hx, hb, hts, hown, hK, hml, -, -, hX⟩ := E
  obtain ⟨q0, hq⟩ := List.mem_iff_getElem?.mp hr
  obtain ⟨y1, y2, y3, y4, y5, -⟩ := hy
  have hG : GoodIn WT (wsV own index y.cls y (wsOf y bytes mL none)) := good_in (fun w hw => by simp only [List.mem_cons, List.not_mem_nil, or_false] at hw; rcases hw with rfl | rfl | rfl | rfl <;> assumption) (good_ws y4)
  have hrecv := va_recv hK hP hc ((wd_at (σ := σ) (cell := cell) (ad := ad) hq).trans (by rw [hcell]))
  rw [hqc] at hrecv
  exact va_callv (va_runV (As := As) (rest := rest) ⟨hx, hb, hml, hown, hts⟩ hM (cwV n hts hG rfl hrm.1 hrm.2 ⟨rfl, y5⟩ hR) ⟨frameBlindW, hrecv, fun U hU hW => preW hP hK hX hS U hU hW⟩ rfl hn hls hst (lv_room hrest) hdg ⟨hcs.1, hcs.2⟩) hS (fun q _ h => AA_call hS q h) (AA_call hS) (fun u t H1 locs1 ht hvm hw hB hz1 hk1 hS1 => kk u hw H1 locs1 (by rw [← ht]; exact hB.1) hS1)
theorem g_cVq {y : MethodName} {bytes : ByteArray} {mL n index k i ci : Nat} {ty : FieldType} {rm : Room} {As st0 : List Value} {fs : List Value} {q : vw_C} {post : Option Nat → St → Prop} (E : EnvW p s m args meth c D cy regs ad own cc maxL ret) (hls : ls.size = maxL) (hM : MetQ l y bytes mL ty rm (.ref (ad k i) :: As) D cy cell regs ad σ H.size post) (hy : okV y bytes mL (some ty) n) (hl : Cond.methodLink own index y ∈ WT) (hR : rm.frames + 1 ≤ R.frames ∧ 8 + (mL + 11) + rm.locals ≤ R.locals) (hrm : rm.cells = 0 ∧ rm.slots = 0) (hr : (k, i) ∈ regs) (hcell : cell k i (σ k i) = .inr (ci, fs)) (hc : CLS[ci]? = some q) (hqc : q.1 = y.cls) (hn : As.length = n) (hst : st0 = As.reverse ++ .ref (ad k i) :: rest) (hrest : (rest.map fun v => v.category).sum ≤ 8) (hcs : cells ≤ R.cells ∧ slots ≤ R.slots) (hP : va_P D CLS (wd cell regs ad σ) H) (hS : va_S (AA regs ad s.heap.size) s.heap H locs) (hdg : decode cc pc = .ok (.invokevirtual index, 3))
    (kk : ∀ (r : Option Nat) (σ1 : St), post r σ1 → ∀ (H1 : Heap) (locs1 : List Loc), va_P D CLS (wd cell regs ad σ1) H1 → va_S (AA regs ad s.heap.size) s.heap H1 locs1 → W p l e R s m args below meth c H1 locs1 cells slots Q (F0 m (pc + 3) ls (va_rf r :: rest))) : W p l e R s m args below meth c H locs cells slots Q (F0 m pc ls st0) := by
  obtain ⟨hx, hb, hts, hown, hK, hml, -, -, hX⟩ := E
  obtain ⟨q0, hq⟩ := List.mem_iff_getElem?.mp hr
  obtain ⟨y1, y2, y3, y4, y5, -⟩ := hy
  have hG : GoodIn WT (wsV own index y.cls y (wsOf y bytes mL (some ty))) := good_in (fun w hw => by simp only [List.mem_cons, List.not_mem_nil, or_false] at hw; rcases hw with rfl | rfl | rfl | rfl <;> assumption) (good_ws y4)
  have hrecv := va_recv hK hP hc ((wd_at (σ := σ) (cell := cell) (ad := ad) hq).trans (by rw [hcell]))
  rw [hqc] at hrecv
  exact va_callq (va_runV (As := As) (rest := rest) ⟨hx, hb, hml, hown, hts⟩ hM (cwV n hts hG rfl hrm.1 hrm.2 ⟨rfl, y5⟩ hR) ⟨frameBlindW, hrecv, fun U hU hW => preW hP hK hX hS U hU hW⟩ rfl hn hls hst (lv_room hrest) hdg ⟨hcs.1, hcs.2⟩) hS (fun q _ h => AA_call hS q h) (AA_call hS) (fun r u t H1 locs1 ht hvm hw hB hz1 hk1 hS1 => kk r u hw H1 locs1 (by rw [← ht]; exact hB.1) hS1)
theorem g_cSi {y : MethodName} {bytes : ByteArray} {mL n index : Nat} {ty : FieldType} {rm : Room} {As st0 : List Value} {post : Int32 → St → Prop} (E : EnvW p s m args meth c D cy regs ad own cc maxL ret) (hls : ls.size = maxL) (hM : MetI l y bytes mL ty rm As D cy cell regs ad σ H.size post) (hy : okS y bytes mL (some ty) n) (hl : Cond.methodLink own index y ∈ WT) (hR : rm.frames + 1 ≤ R.frames ∧ 8 + (mL + 11) + rm.locals ≤ R.locals) (hrm : rm.cells = 0 ∧ rm.slots = 0) (hn : As.length = n) (hst : st0 = As.reverse ++ rest) (hrest : (rest.map fun v => v.category).sum ≤ 8) (hcs : cells ≤ R.cells ∧ slots ≤ R.slots) (hP : va_P D CLS (wd cell regs ad σ) H) (hS : va_S (AA regs ad s.heap.size) s.heap H locs) (hdg : decode cc pc = .ok (.invokestatic index, 3))
    (kk : ∀ (r : Int32) (σ1 : St), post r σ1 → ∀ (H1 : Heap) (locs1 : List Loc), va_P D CLS (wd cell regs ad σ1) H1 → va_S (AA regs ad s.heap.size) s.heap H1 locs1 → W p l e R s m args below meth c H1 locs1 cells slots Q (F0 m (pc + 3) ls (.int r :: rest))) : W p l e R s m args below meth c H locs cells slots Q (F0 m pc ls st0) := by
  obtain ⟨hx, hb, hts, hown, hK, hml, -, -, hX⟩ := E
  obtain ⟨y1, y3, y4, y5, -⟩ := hy
  have hG : GoodIn WT (va_wsS own index y (wsOf y bytes mL (some ty))) := good_in (fun w hw => by simp only [List.mem_cons, List.not_mem_nil, or_false] at hw; rcases hw with rfl | rfl | rfl <;> assumption) (good_ws y4)
  exact va_calli (va_runS (As := As) (rest := rest) ⟨hx, hb, hml, hown, hts⟩ hM (va_cwS n hts hG rfl hrm.1 hrm.2 y5 hR) ⟨frameBlindW, fun U hU hW => preW hP hK hX hS U hU hW⟩ rfl hn hls hst (lv_room hrest) hdg ⟨hcs.1, hcs.2⟩) hS (fun q _ h => AA_call hS q h) (AA_call hS) (fun r u t H1 locs1 ht hvm hw hB hz1 hk1 hS1 => kk r u hw H1 locs1 (by rw [← ht]; exact hB.1) hS1)
theorem g_cNi {y : MethodName} {bytes : ByteArray} {mL n index : Nat} {ty : FieldType} {rm : Room} {As st0 : List Value} {post : Int32 → St → Prop} (E : EnvW p s m args meth c D cy regs ad own cc maxL ret) (hls : ls.size = maxL) (hM : MetI l y bytes mL ty rm As D cy cell regs ad σ H.size post) (hy : okS y bytes mL (some ty) n) {host : String} (hl : (own, index, y, host) ∈ NWq) (hR : rm.frames + 1 ≤ R.frames ∧ 8 + (mL + 11) + rm.locals ≤ R.locals) (hrm : rm.cells = 0 ∧ rm.slots = 0) (hn : As.length = n) (hst : st0 = As.reverse ++ rest) (hrest : (rest.map fun v => v.category).sum ≤ 8) (hcs : cells ≤ R.cells ∧ slots ≤ R.slots) (hP : va_P D CLS (wd cell regs ad σ) H) (hS : va_S (AA regs ad s.heap.size) s.heap H locs) (hdg : decode cc pc = .ok (.invokestatic index, 3))
    (kk : ∀ (r : Int32) (σ1 : St), post r σ1 → ∀ (H1 : Heap) (locs1 : List Loc), va_P D CLS (wd cell regs ad σ1) H1 → va_S (AA regs ad s.heap.size) s.heap H1 locs1 → W p l e R s m args below meth c H1 locs1 cells slots Q (F0 m (pc + 3) ls (.int r :: rest))) : W p l e R s m args below meth c H locs cells slots Q (F0 m pc ls st0) := by
  obtain ⟨hx, hb, hts, hown, hK, hml, -, -, hX⟩ := E
  obtain ⟨y1, y3, y4, y5, -⟩ := hy
  exact va_calli (va_runSN (As := As) (rest := rest) ⟨hx, hb, hml, hown, hts⟩ hM ⟨va_cnB n hts (good_ws y4) rfl hrm.1 hrm.2 (hX.1 _ hl) (hts _ y3) y5 hR, hts _ y1, trivial⟩ ⟨frameBlindW, fun U hU hW => preW hP hK hX hS U hU hW⟩ rfl hn hls hst (lv_room hrest) hdg ⟨hcs.1, hcs.2⟩) hS (fun q _ h => AA_call hS q h) (AA_call hS) (fun r u t H1 locs1 ht hvm hw hB hz1 hk1 hS1 => kk r u hw H1 locs1 (by rw [← ht]; exact hB.1) hS1)
theorem g_cSr {y : MethodName} {bytes : ByteArray} {mL n index : Nat} {ty : FieldType} {rm : Room} {As st0 : List Value} {post : Nat → St → Prop} (E : EnvW p s m args meth c D cy regs ad own cc maxL ret) (hls : ls.size = maxL) (hM : MetR l y bytes mL ty rm As D cy cell regs ad σ H.size post) (hy : okS y bytes mL (some ty) n) (hl : Cond.methodLink own index y ∈ WT) (hR : rm.frames + 1 ≤ R.frames ∧ 8 + (mL + 11) + rm.locals ≤ R.locals) (hrm : rm.cells = 0 ∧ rm.slots = 0) (hn : As.length = n) (hst : st0 = As.reverse ++ rest) (hrest : (rest.map fun v => v.category).sum ≤ 8) (hcs : cells ≤ R.cells ∧ slots ≤ R.slots) (hP : va_P D CLS (wd cell regs ad σ) H) (hS : va_S (AA regs ad s.heap.size) s.heap H locs) (hdg : decode cc pc = .ok (.invokestatic index, 3))
    (kk : ∀ (r : Nat) (σ1 : St), post r σ1 → ∀ (H1 : Heap) (locs1 : List Loc), va_P D CLS (wd cell regs ad σ1) H1 → va_S (AA regs ad s.heap.size) s.heap H1 locs1 → W p l e R s m args below meth c H1 locs1 cells slots Q (F0 m (pc + 3) ls (.ref (ad 90 r) :: rest))) : W p l e R s m args below meth c H locs cells slots Q (F0 m pc ls st0) := by
  obtain ⟨hx, hb, hts, hown, hK, hml, -, -, hX⟩ := E
  obtain ⟨y1, y3, y4, y5, -⟩ := hy
  have hG : GoodIn WT (va_wsS own index y (wsOf y bytes mL (some ty))) := good_in (fun w hw => by simp only [List.mem_cons, List.not_mem_nil, or_false] at hw; rcases hw with rfl | rfl | rfl <;> assumption) (good_ws y4)
  exact va_callr (va_runS (As := As) (rest := rest) ⟨hx, hb, hml, hown, hts⟩ hM (va_cwS n hts hG rfl hrm.1 hrm.2 y5 hR) ⟨frameBlindW, fun U hU hW => preW hP hK hX hS U hU hW⟩ rfl hn hls hst (lv_room hrest) hdg ⟨hcs.1, hcs.2⟩) hS (fun q _ h => AA_call hS q h) (AA_call hS) (fun u ra t H1 locs1 ht hvm hw hB hz1 hk1 hS1 => by rw [hB.1]; exact kk u.1 u.2 hw H1 locs1 (by rw [← ht]; exact hB.2.1) hS1)
theorem g_cSv {y : MethodName} {bytes : ByteArray} {mL n index : Nat} {rm : Room} {As st0 : List Value} {post : St → Prop} (E : EnvW p s m args meth c D cy regs ad own cc maxL ret) (hls : ls.size = maxL) (hM : MetV l y bytes mL rm As D cy cell regs ad σ H.size post) (hy : okS y bytes mL none n) (hl : Cond.methodLink own index y ∈ WT) (hR : rm.frames + 1 ≤ R.frames ∧ 8 + (mL + 11) + rm.locals ≤ R.locals) (hrm : rm.cells = 0 ∧ rm.slots = 0) (hn : As.length = n) (hst : st0 = As.reverse ++ rest) (hrest : (rest.map fun v => v.category).sum ≤ 8) (hcs : cells ≤ R.cells ∧ slots ≤ R.slots) (hP : va_P D CLS (wd cell regs ad σ) H) (hS : va_S (AA regs ad s.heap.size) s.heap H locs) (hdg : decode cc pc = .ok (.invokestatic index, 3))
    (kk : ∀ (σ1 : St), post σ1 → ∀ (H1 : Heap) (locs1 : List Loc), va_P D CLS (wd cell regs ad σ1) H1 → va_S (AA regs ad s.heap.size) s.heap H1 locs1 → W p l e R s m args below meth c H1 locs1 cells slots Q (F0 m (pc + 3) ls rest)) : W p l e R s m args below meth c H locs cells slots Q (F0 m pc ls st0) := by
  obtain ⟨hx, hb, hts, hown, hK, hml, -, -, hX⟩ := E
  obtain ⟨y1, y3, y4, y5, -⟩ := hy
  have hG : GoodIn WT (va_wsS own index y (wsOf y bytes mL none)) := good_in (fun w hw => by simp only [List.mem_cons, List.not_mem_nil, or_false] at hw; rcases hw with rfl | rfl | rfl <;> assumption) (good_ws y4)
  exact va_callv (va_runS (As := As) (rest := rest) ⟨hx, hb, hml, hown, hts⟩ hM (va_cwS n hts hG rfl hrm.1 hrm.2 y5 hR) ⟨frameBlindW, fun U hU hW => preW hP hK hX hS U hU hW⟩ rfl hn hls hst (lv_room hrest) hdg ⟨hcs.1, hcs.2⟩) hS (fun q _ h => AA_call hS q h) (AA_call hS) (fun u t H1 locs1 ht hvm hw hB hz1 hk1 hS1 => kk u hw H1 locs1 (by rw [← ht]; exact hB.1) hS1)
theorem g_cTi {y : MethodName} {bytes : ByteArray} {mL n index i : Nat} (hi : i < 14) (hcs0 : y.cls = "java/lang/String") {ty : FieldType} {rm : Room} {As st0 : List Value} {post : Int32 → St → Prop} (E : EnvW p s m args meth c D cy regs ad own cc maxL ret) (hls : ls.size = maxL) (hM : MetI l y bytes mL ty rm (.ref (ad 90 i) :: As) D cy cell regs ad σ H.size post) (hy : okV y bytes mL (some ty) n) (hl : Cond.methodLink own index y ∈ WT) (hR : rm.frames + 1 ≤ R.frames ∧ 8 + (mL + 11) + rm.locals ≤ R.locals) (hrm : rm.cells = 0 ∧ rm.slots = 0) (hn : As.length = n) (hst : st0 = As.reverse ++ .ref (ad 90 i) :: rest) (hrest : (rest.map fun v => v.category).sum ≤ 8) (hcs : cells ≤ R.cells ∧ slots ≤ R.slots) (hP : va_P D CLS (wd cell regs ad σ) H) (hS : va_S (AA regs ad s.heap.size) s.heap H locs) (hdg : decode cc pc = .ok (.invokevirtual index, 3))
    (kk : ∀ (r : Int32) (σ1 : St), post r σ1 → ∀ (H1 : Heap) (locs1 : List Loc), va_P D CLS (wd cell regs ad σ1) H1 → va_S (AA regs ad s.heap.size) s.heap H1 locs1 → W p l e R s m args below meth c H1 locs1 cells slots Q (F0 m (pc + 3) ls (.int r :: rest))) : W p l e R s m args below meth c H locs cells slots Q (F0 m pc ls st0) := by
  obtain ⟨hx, hb, hts, hown, hK, hml, -, -, hX⟩ := E
  obtain ⟨y1, y2, y3, y4, y5, -⟩ := hy
  have hG : GoodIn WT (wsV own index y.cls y (wsOf y bytes mL (some ty))) := good_in (fun w hw => by simp only [List.mem_cons, List.not_mem_nil, or_false] at hw; rcases hw with rfl | rfl | rfl | rfl <;> assumption) (good_ws y4)
  have hrecv := vk_recv hX.2.1 hi hS
  rw [← hcs0] at hrecv
  exact va_calli (va_runV (As := As) (rest := rest) ⟨hx, hb, hml, hown, hts⟩ hM (cwV n hts hG rfl hrm.1 hrm.2 ⟨rfl, y5⟩ hR) ⟨frameBlindW, hrecv, fun U hU hW => preW hP hK hX hS U hU hW⟩ rfl hn hls hst (lv_room hrest) hdg ⟨hcs.1, hcs.2⟩) hS (fun q _ h => AA_call hS q h) (AA_call hS) (fun r u t H1 locs1 ht hvm hw hB hz1 hk1 hS1 => kk r u hw H1 locs1 (by rw [← ht]; exact hB.1) hS1)
-- constants
theorem g_ldc {index : Nat} {v : Int32} (E : EnvW p s m args meth c D cy regs ad own cc maxL ret) (hl : Cond.constant own index v ∈ WT) (hdg : decode cc pc = .ok (.ldc index, 2)) (kk : W p l e R s m args below meth c H locs cells slots Q (F0 m (pc + 2) ls (.int v :: rest))) : W p l e R s m args below meth c H locs cells slots Q (F0 m pc ls rest) := by
  obtain ⟨hx, hb, hts, hown, -⟩ := E
  exact lv_ldc hx hb hown (hts _ hl) hdg kk
theorem g_ldcw {index : Nat} {v : Int32} (E : EnvW p s m args meth c D cy regs ad own cc maxL ret) (hl : Cond.constant own index v ∈ WT) (hdg : decode cc pc = .ok (.ldc_w index, 3)) (kk : W p l e R s m args below meth c H locs cells slots Q (F0 m (pc + 3) ls (.int v :: rest))) : W p l e R s m args below meth c H locs cells slots Q (F0 m pc ls rest) := by
  obtain ⟨hx, hb, hts, hown, -⟩ := E
  exact lv_ldcw hx hb hown (hts _ hl) hdg kk
theorem g_ldc2 {index : Nat} {v : Int64} (E : EnvW p s m args meth c D cy regs ad own cc maxL ret) (hl : Cond.constantLong own index v ∈ WT) (hdg : decode cc pc = .ok (.ldc2_w index, 3)) (kk : W p l e R s m args below meth c H locs cells slots Q (F0 m (pc + 3) ls (.long v :: rest))) : W p l e R s m args below meth c H locs cells slots Q (F0 m pc ls rest) := by
  obtain ⟨hx, hb, hts, hown, -⟩ := E
  exact lv_ldc2 hx hb hown (hts _ hl) hdg kk
theorem g_min {index : Nat} {x y : Int32} (E : EnvW p s m args meth c D cy regs ad own cc maxL ret) (hls : ls.size = maxL) (hl : Cond.methodLink own index Lib.Math.min.name ∈ WT) (h1 : Cond.static Lib.Math.min.name ∈ WT) (h2 : Cond.initialized "java/lang/Math" ∈ WT) (h3 : Cond.code Lib.Math.min.name Lib.Math.min.code 2 (some .int) ∈ WT) (hR : 1 ≤ R.frames ∧ (rest.map fun v => v.category).sum + 13 ≤ R.locals) (hcs : cells ≤ R.cells ∧ slots ≤ R.slots) (hdg : decode cc pc = .ok (.invokestatic index, 3)) (kk : W p l e R s m args below meth c H locs cells slots Q (F0 m (pc + 3) ls (.int (if y < x then y else x) :: rest))) : W p l e R s m args below meth c H locs cells slots Q (F0 m pc ls (.int y :: .int x :: rest)) := by
  obtain ⟨hx, hb, hts, hown, hK, hml, -⟩ := E
  exact va_mmin hx hb (hml.trans hls.symm) hown (hts _ hl) (hts _ h1) (hts _ h2) (hts _ h3) hR.1 hR.2 hcs.1 hcs.2 hdg kk
theorem g_max {index : Nat} {x y : Int32} (E : EnvW p s m args meth c D cy regs ad own cc maxL ret) (hls : ls.size = maxL) (hl : Cond.methodLink own index Lib.Math.max.name ∈ WT) (h1 : Cond.static Lib.Math.max.name ∈ WT) (h2 : Cond.initialized "java/lang/Math" ∈ WT) (h3 : Cond.code Lib.Math.max.name Lib.Math.max.code 2 (some .int) ∈ WT) (hR : 1 ≤ R.frames ∧ (rest.map fun v => v.category).sum + 13 ≤ R.locals) (hcs : cells ≤ R.cells ∧ slots ≤ R.slots) (hdg : decode cc pc = .ok (.invokestatic index, 3)) (kk : W p l e R s m args below meth c H locs cells slots Q (F0 m (pc + 3) ls (.int (if x < y then y else x) :: rest))) : W p l e R s m args below meth c H locs cells slots Q (F0 m pc ls (.int y :: .int x :: rest)) := by
  obtain ⟨hx, hb, hts, hown, hK, hml, -⟩ := E
  exact va_mmax hx hb (hml.trans hls.symm) hown (hts _ hl) (hts _ h1) (hts _ h2) (hts _ h3) hR.1 hR.2 hcs.1 hcs.2 hdg kk
end RowsW
