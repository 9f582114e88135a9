/-! Constructors. -/
def va_AOA (t : FieldType) (U : State) : Prop := (Cond.arrayOver (.array t)).before #[] U = true
theorem va_AOA.use {t : FieldType} {A : Array Value} {U : State} (h : va_AOA t U) : (Cond.arrayOver (.array t)).before A U = true := h
/-- f, but v at every address of l -/
def vr_up {α : Type} (f : Nat → α) (l : List Nat) (v : α) : Nat → α := fun a => if a ∈ l then v else f a
theorem vr_up_in {α : Type} {f : Nat → α} {l : List Nat} {v : α} {a : Nat} (h : a ∈ l) : vr_up f l v a = v := if_pos h
theorem vr_up_ne {α : Type} {f : Nat → α} {l : List Nat} {v : α} {a : Nat} (h : a ∉ l) : vr_up f l v a = f a := if_neg h
theorem vr_rows {L l : List Nat} {f : Nat → va_E} {e : va_E} (h : ∀ a, a ∈ l → a ∉ L) : va_pl L f ++ l.map (fun a => (a, e)) = va_pl (L ++ l) (vr_up f l e) := by
  unfold va_pl
  rw [List.map_append]
  congr 1
  · apply List.map_congr_left
    intro a ha
    rw [vr_up_ne (fun q => h a q ha)]
  · apply List.map_congr_left
    intro a ha
    rw [vr_up_in ha]
theorem vr_lay {X rows : va_W} {x : Nat × va_E} {pl : va_W} {D : va_G} {cl : List vw_C} {H : Heap} (hP : va_P D cl (((X ++ pl) ++ [x]) ++ rows) H) : va_P D cl ((X ++ [x]) ++ (pl ++ rows)) H := by
  rw [List.append_assoc (X ++ pl)] at hP
  have h := va_P.swap hP
  rw [← List.append_assoc X] at h
  have h2 := va_P.swap h
  rw [List.append_assoc (X ++ [x])] at h2
  exact h2
theorem vr_layD {X rows : va_W} {x : Nat × va_E} {pl : va_W} {A : Nat → Prop} (hD : va_D A (((X ++ pl) ++ [x]) ++ rows)) : va_D A ((X ++ [x]) ++ (pl ++ rows)) := by
  rw [List.append_assoc (X ++ pl)] at hD
  have h := va_D.swap hD
  rw [← List.append_assoc X] at h
  have h2 := va_D.swap h
  rw [List.append_assoc (X ++ [x])] at h2
  exact h2
theorem vr_outer (c : ClassId) (N h0 : Nat) : ∀ i : Nat, Jvm.Free.Multi.outerC c N h0 i = arrV c N (fun j => va_rf (if j < i then some (h0 + 1 + j) else none))
  | 0 => by
    show ({ cls := c, slots := Array.replicate N .null, vm := .none } : Cell) = _
    rw [arrV_new]
    refine congrArg (arrV c N) (funext fun j => ?_)
    simp [va_rf]
  | i + 1 => by
    show (Jvm.Free.Multi.outerC c N h0 i).setSlot i (.ref (h0 + 1 + i)) = _
    rw [vr_outer c N h0 i, arrV_store]
    refine congrArg (arrV c N) (funext fun j => ?_)
    by_cases e : j = i
    · subst e
      simp [updV, va_rf]
    · by_cases h : j < i
      · simp [updV, e, h, Nat.lt_succ_of_lt h]
      · simp [updV, e, h, show ¬ j < i + 1 by omega]
section VGM
variable {p : Program} {l : Launch} {e : Env} {R : Room} {s : State} {m : MethodId} {args : Array Value} {below : List Frame} {meth : Method} {c : Code} {H : Heap} {locs : List Loc} {cells slots : Nat} {Q : State → Prop}
variable {cc : ByteArray} {pc : Nat} {ls : Array Slot} {rest : List Value} {D : va_G} {cl : List vw_C} {A : Nat → Prop} {a : Nat} {tys : List (ClassId × FieldType)} {ws : va_W} {H0 : Heap}
theorem va_mna {X : va_W} {L : List Nat} {f : Nat → va_E} {cc : ByteArray} (hexec : p.tables.exec = Jvm.exec) (hb : c.code = cc) {own : String} {index : Nat} {ty : FieldType} {cy : ClassId} (hown : s.vm.findClass own = some m.cls) (hclink : (Cond.classLink own index ("[" ++ (FieldType.array ty).toString)).before args s = true) (hover : va_AOA ty s) (harr : (Cond.arrayClass ty).before args s = true) (hcy : s.vm.findClass (FieldType.array ty).toString = some cy)
    (hK : va_K D cl tys s) (hP : va_P D cl (X ++ va_pl L f) H) (hD : va_D A (X ++ va_pl L f)) (hS : va_S A H0 H locs) (hA : ∀ q, H0.size ≤ q → A q) {n k : Int32} {N' K' : Nat} {z : vp_A} (hn : ¬ n < 0) (hk : ¬ k < 0) (hN : n.toNatClampNeg = N') (hM : k.toNatClampNeg = K')
    (hb1 : N' * 4 ≤ 536870912) (hb2 : K' * componentBytes ty ≤ 536870912) (hb3 : K' ≤ 536870912) (hdf : fits ty (defaultValue ty) = true) (hdd : (defaultValue ty).isDefault = true) (hcells : cells + (1 + N') ≤ R.cells) (hslots : slots + (N' + N' * K') ≤ R.slots) (hz : ∀ c : ClassId, Jvm.Free.Multi.innerC c K' (defaultValue ty) = vp_cell c z) (hdg : decode cc pc = .ok (.multianewarray index 2, 4))
    (kk : ∀ (q : Nat) (r : Nat → Nat) (cA : ClassId) (H1 : Heap), (∀ i j : Nat, i < N' → j < N' → r i = r j → i = j) → (∀ i : Nat, i < N' → r i ∉ L) → va_K D cl (tys ++ [(cA, .array ty)]) s →
      va_P D cl ((X ++ [(q, .inl (cA, N', .inr (.inr (.inr (.inr (fun i => if i < N' then some (r i) else none))))))]) ++ va_pl (L ++ (List.range N').map r) (vr_up f ((List.range N').map r) (.inl (cy, z)))) H1 → va_D A ((X ++ [(q, .inl (cA, N', .inr (.inr (.inr (.inr (fun i => if i < N' then some (r i) else none))))))]) ++ va_pl (L ++ (List.range N').map r) (vr_up f ((List.range N').map r) (.inl (cy, z)))) → va_S A H0 H1 locs →
      W p l e R s m args below meth c H1 locs (cells + 1 + N') (slots + N' + N' * K') Q (F0 m (pc + 4) ls (.ref q :: rest))) : W p l e R s m args below meth c H locs cells slots Q (F0 m pc ls (.int k :: .int n :: rest)) := by
  subst hN
  subst hM
  intro T hT Xs
  obtain ⟨vm₁, cA, comp, -, fA, fC, hO, -, X', step⟩ := Xs.multianewarray2F hexec hown hclink (va_AOA.use hover) harr (g := F0 m pc ls (.int k :: .int n :: rest)) rfl (by rw [hb]; exact hdg) rfl hn hk hb1 hb2 hb3 hdf hdd hcells hslots
  have ec : some cy = some comp := hcy.symm.trans fC
  cases ec
  generalize hF : Jvm.Free.Multi.fill (T.setVm vm₁) cA cy n.toNatClampNeg k.toNatClampNeg (defaultValue ty) n.toNatClampNeg = F at X' step
  have hTh : (T.setVm vm₁).heap = H := hT
  obtain ⟨f1, f2, -, -⟩ := Jvm.Free.Multi.fill_facts (T.setVm vm₁) cA cy n.toNatClampNeg k.toNatClampNeg (defaultValue ty) n.toNatClampNeg
  rw [hF, hTh] at f1 f2
  have hold : ∀ x : Nat, x < H.size → F.heap[x]? = H[x]? := fun x hx => by
    have := Jvm.Free.Multi.fill_old (T.setVm vm₁) cA cy n.toNatClampNeg k.toNatClampNeg (defaultValue ty) (a := x) (by rw [hTh]; exact hx) n.toNatClampNeg
    rw [hF, hTh] at this
    exact this
  have hrow : ∀ j : Nat, j < n.toNatClampNeg → F.heap[H.size + 1 + j]? = some (vp_cell cy z) := fun j hj => by
    have := Jvm.Free.Multi.fill_inner (T.setVm vm₁) cA cy n.toNatClampNeg k.toNatClampNeg (defaultValue ty) n.toNatClampNeg j hj
    rw [hF, hTh, hz] at this
    exact this
  have hout : Jvm.Free.Multi.outerC cA n.toNatClampNeg H.size n.toNatClampNeg = vp_cell cA (n.toNatClampNeg, .inr (.inr (.inr (.inr (fun i => if i < n.toNatClampNeg then some (H.size + 1 + i) else none))))) := by
    rw [vp_cell_q]
    exact vr_outer cA n.toNatClampNeg H.size n.toNatClampNeg
  rw [hout] at f2
  have hlt : ∀ a, a ∈ L → a < H.size := fun a ha => by
    obtain ⟨k9, hk9⟩ := va_pl_get (X := X) (f := f) ha
    exact (hP k9 _ hk9).lt
  have hnl : ∀ i : Nat, i < n.toNatClampNeg → H.size + 1 + i ∉ L := fun i _ h => by
    have := hlt _ h
    omega
  have hnm : ∀ a, a ∈ (List.range n.toNatClampNeg).map (fun i => H.size + 1 + i) → a ∉ L := fun a ha h => by
    obtain ⟨i, -, rfl⟩ := List.mem_map.mp ha
    have := hlt _ h
    omega
  have hP0 : va_P D cl (X ++ va_pl L f) F.heap := hP.kept (fun k9 x hx => hold x.1 ((hP k9 x hx).lt))
  have hP1 : va_P D cl ((X ++ va_pl L f) ++ [(H.size, .inl (cA, n.toNatClampNeg, .inr (.inr (.inr (.inr (fun i => if i < n.toNatClampNeg then some (H.size + 1 + i) else none))))))]) F.heap := hP0.app (fun k9 x hx => by
    have h0 : k9 < 1 := (List.getElem?_eq_some_iff.mp hx).1
    rw [show k9 = 0 by omega] at hx
    cases hx
    exact f2)
  have hP2 : va_P D cl (((X ++ va_pl L f) ++ [(H.size, .inl (cA, n.toNatClampNeg, .inr (.inr (.inr (.inr (fun i => if i < n.toNatClampNeg then some (H.size + 1 + i) else none))))))]) ++ ((List.range n.toNatClampNeg).map (fun i => H.size + 1 + i)).map (fun a => (a, .inl (cy, z)))) F.heap := hP1.app (fun k9 x hx => by
    obtain ⟨a, ha, rfl⟩ := List.mem_map.mp (List.mem_of_getElem? hx)
    obtain ⟨i, hi, rfl⟩ := List.mem_map.mp ha
    exact hrow i (List.mem_range.mp hi))
  have hD2 : va_D A (((X ++ va_pl L f) ++ [(H.size, .inl (cA, n.toNatClampNeg, .inr (.inr (.inr (.inr (fun i => if i < n.toNatClampNeg then some (H.size + 1 + i) else none))))))]) ++ ((List.range n.toNatClampNeg).map (fun i => H.size + 1 + i)).map (fun a => (a, .inl (cy, z)))) := by
    have hD1 := hD.push (e := .inl (cA, n.toNatClampNeg, .inr (.inr (.inr (.inr (fun i => if i < n.toNatClampNeg then some (H.size + 1 + i) else none)))))) hP rfl (hA _ hS.1)
    generalize hW1 : (X ++ va_pl L f) ++ [(H.size, .inl (cA, n.toNatClampNeg, .inr (.inr (.inr (.inr (fun i => if i < n.toNatClampNeg then some (H.size + 1 + i) else none))))))] = W1 at hD1 hP1 ⊢
    have hle : ∀ (k9 : Nat) (x : Nat × va_E), W1[k9]? = some x → x.1 ≤ H.size := fun k9 x hx => by
      rw [← hW1] at hx
      by_cases hl : k9 < (X ++ va_pl L f).length
      · rw [List.getElem?_append_left hl] at hx
        exact Nat.le_of_lt ((hP k9 x hx).lt)
      · rw [List.getElem?_append_right (by omega)] at hx
        have h0 : k9 - (X ++ va_pl L f).length < 1 := (List.getElem?_eq_some_iff.mp hx).1
        rw [show k9 - (X ++ va_pl L f).length = 0 by omega] at hx
        cases hx
        exact Nat.le_refl _
    have hr : ∀ (k9 : Nat) (x : Nat × va_E), (((List.range n.toNatClampNeg).map (fun i => H.size + 1 + i)).map (fun a => ((a, .inl (cy, z)) : Nat × va_E)))[k9]? = some x → x.1 = H.size + 1 + k9 := fun k9 x hx => by
      rw [List.getElem?_map, List.getElem?_map] at hx
      by_cases h9 : k9 < n.toNatClampNeg
      · rw [List.getElem?_range h9] at hx
        cases hx
        rfl
      · have hn0 : (List.range n.toNatClampNeg)[k9]? = none := List.getElem?_eq_none (by rw [List.length_range]; omega)
        rw [hn0] at hx
        cases hx
    refine ⟨fun i j x y hi hj hxy => ?_, fun k9 x hx => ?_⟩
    · by_cases h1 : i < W1.length <;> by_cases h2 : j < W1.length
      · rw [List.getElem?_append_left h1] at hi
        rw [List.getElem?_append_left h2] at hj
        exact hD1.1 i j x y hi hj hxy
      · rw [List.getElem?_append_left h1] at hi
        rw [List.getElem?_append_right (by omega)] at hj
        have := hle _ _ hi
        have := hr _ _ hj
        omega
      · rw [List.getElem?_append_right (by omega)] at hi
        rw [List.getElem?_append_left h2] at hj
        have := hle _ _ hj
        have := hr _ _ hi
        omega
      · rw [List.getElem?_append_right (by omega)] at hi hj
        have := hr _ _ hi
        have := hr _ _ hj
        omega
    · by_cases h1 : k9 < W1.length
      · rw [List.getElem?_append_left h1] at hx
        exact hD1.2 k9 x hx
      · rw [List.getElem?_append_right (by omega)] at hx
        have := hr _ _ hx
        exact hA _ (by have := hS.1; omega)
  have hAr : ArrOfT s cA (.array ty) := fun N9 z9 => by
    obtain ⟨-, k9, hk9, cm9, hkk9⟩ := (hO 0 0 0).1
    exact ⟨(fun q hq => by cases hq), k9, hk9, cm9, hkk9⟩
  have hK2 : va_K D cl (tys ++ [(cA, .array ty)]) s := ⟨hK.1, fun k9 x hx => by
    by_cases hl : k9 < tys.length
    · rw [List.getElem?_append_left hl] at hx
      exact hK.2 k9 x hx
    · rw [List.getElem?_append_right (by omega)] at hx
      have h0 : k9 - tys.length < 1 := (List.getElem?_eq_some_iff.mp hx).1
      rw [show k9 - tys.length = 0 by omega] at hx
      cases hx
      exact ⟨hAr, fA⟩⟩
  obtain ⟨t, a1, b1⟩ := kk H.size (fun i => H.size + 1 + i) cA F.heap (fun i j _ _ h => by have h9 : H.size + 1 + i = H.size + 1 + j := h; omega) hnl hK2 (by rw [← vr_rows hnm]; exact vr_lay hP2) (by rw [← vr_rows hnm]; exact vr_layD hD2) ⟨by rw [f1]; have := hS.1; omega, fun x h1 h2 => (hold x (Nat.lt_of_lt_of_le h1 hS.1)).trans (hS.2.1 x h1 h2), hS.2.2⟩ F rfl X'
  refine ⟨t, step t ?_, b1⟩
  have e : T.heap.size = H.size := by rw [hT]
  rw [e]
  exact a1
end VGM
theorem tysame {D : va_G} {cl : List vw_C} {tys : List (ClassId × FieldType)} {s : State} {i j : Nat} {c1 c2 : ClassId} {ty : FieldType} (hK : va_K D cl tys s) (h1 : tys[i]? = some (c1, ty)) (h2 : tys[j]? = some (c2, ty)) : c1 = c2 := by
  have a := (hK.2 i _ h1).2
  have b := (hK.2 j _ h2).2
  cases ty with
  | object C =>
    obtain ⟨_, _, _, _, _, a4⟩ := a
    obtain ⟨_, _, _, _, _, b4⟩ := b
    exact Option.some.inj (a4.symm.trans b4)
  | _ => exact Option.some.inj (a.symm.trans b)
/-- what the constructors need of the start beside the tables -/
def NK (U : State) : Prop := (∀ q ∈ NWq, va_Nw (.methodLinkNest q.1 q.2.1 q.2.2.1 q.2.2.2) U) ∧ va_AO "RoofWar$Law" U ∧ va_AO "RoofWar$Row" U ∧ va_AO "RoofWar$Slot" U ∧ va_AOA .int U
theorem AOA_moved {t : FieldType} {u U : State} (hvm : u.vm.Alike U.vm) (h : va_AOA t u) : va_AOA t U := by
  obtain ⟨comp, c, k, h1, h2, h3, h4, h5⟩ := arrayOverA_spec h
  obtain ⟨k', hk', he⟩ := hvm.2.2 _ _ h3
  have g4 : k'.kind = .array comp (.array t) := by rw [he]; exact h4
  have g1 : U.vm.findClass (FieldType.array t).toString = some comp := by rw [hvm.findClass]; exact h1
  have g5 : U.vm.findClass ("[" ++ (FieldType.array t).toString) = some c := by rw [hvm.findClass]; exact h5
  have g2 := (Vm.Alike.findIdx?_eq hvm _ (fun k => rfl)).trans h2
  simp only [va_AOA, Cond.before, Cond.holds, Cond.value]
  rw [g1, Option.bind_some]
  first
    | (rw [g2]; simp [hk', g4, g5]; done)
    | (simp [g2, hk', g4, g5]; done)
    | (refine (congrArg (fun o : Option Nat => (o.bind _ == some true)) g2).trans ?_; simp [hk', g4, g5])
theorem NK_warm {s U : State} (h : NK s) (hW : s.WarmedH U.vm) : NK U := ⟨fun q hq => va_Nw.warmM hW (h.1 q hq), h.2.1.moved hW.alike, h.2.2.1.moved hW.alike, h.2.2.2.1.moved hW.alike, AOA_moved hW.alike h.2.2.2.2⟩
theorem NK_same {u U : State} (h : NK u) (hv : u.vm = U.vm) : NK U :=
  have ha : u.vm.Alike U.vm := hv ▸ Vm.Alike.refl u.vm
  ⟨fun q hq => (h.1 q hq).same rfl hv, h.2.1.moved ha, h.2.2.1.moved ha, h.2.2.2.1.moved ha, AOA_moved ha h.2.2.2.2⟩
theorem frameBlindK {av : List Value} {sz : Nat} {D : va_G} {ws : va_W} : FrameBlind (va_Pc av (fun U => U.heap.size = sz ∧ va_P D CLS ws U.heap ∧ va_K D CLS [] U ∧ va_D (fun _ => True) ws ∧ NK U)) := fun a U g mk q => by
  obtain ⟨q0, q1, qP, qK, qD, qN⟩ := q
  exact ⟨q0, q1, qP, va_K.moved (u := U) (U := U.calling g mk a) (Vm.Alike.refl U.vm) qK, qD, NK_same qN rfl⟩

theorem dX0_init_0 : decode cX0_init 0 = .ok (.aload_n 0, 1) := by decide +kernel
theorem dX0_init_1 : decode cX0_init 1 = .ok (.invokespecial 3, 3) := by decide +kernel
theorem dX0_init_4 : decode cX0_init 4 = .ok (.aload_n 0, 1) := by decide +kernel
theorem dX0_init_5 : decode cX0_init 5 = .ok (.bipush 6, 2) := by decide +kernel
theorem dX0_init_7 : decode cX0_init 7 = .ok (.newarray .int, 2) := by decide +kernel
theorem dX0_init_9 : decode cX0_init 9 = .ok (.putfield 9, 3) := by decide +kernel
theorem dX0_init_12 : decode cX0_init 12 = .ok (.aload_n 0, 1) := by decide +kernel
theorem dX0_init_13 : decode cX0_init 13 = .ok (.bipush 7, 2) := by decide +kernel
theorem dX0_init_15 : decode cX0_init 15 = .ok (.bipush 64, 2) := by decide +kernel
theorem dX0_init_17 : decode cX0_init 17 = .ok (.multianewarray 15 2, 4) := by decide +kernel
theorem dX0_init_21 : decode cX0_init 21 = .ok (.putfield 17, 3) := by decide +kernel
theorem dX0_init_24 : decode cX0_init 24 = .ok (.aload_n 0, 1) := by decide +kernel
theorem dX0_init_25 : decode cX0_init 25 = .ok (.bipush 6, 2) := by decide +kernel
theorem dX0_init_27 : decode cX0_init 27 = .ok (.newarray .int, 2) := by decide +kernel
theorem dX0_init_29 : decode cX0_init 29 = .ok (.putfield 20, 3) := by decide +kernel
theorem dX0_init_32 : decode cX0_init 32 = .ok (.return_, 1) := by decide +kernel
abbrev rm_X0_init : Room := { frames := 1, cells := 10, slots := 467, locals := 12 }
set_option maxHeartbeats 4000000 in
set_option maxRecDepth 100000 in
theorem k_X0_init (l : Launch) (dC : Nat → ClassId) (dI : Nat → Nat → Nat) (h0 sz : Nat) : Met l yX0_init (wsOf yX0_init cX0_init 1 none) rm_X0_init (va_Pc [.ref h0] (fun U => U.heap.size = sz ∧ va_P (dC, dI) CLS [(h0, .inr (0, [.null, .int 0, .null, .null]))] U.heap ∧ va_K (dC, dI) CLS [] U ∧ va_D (fun _ => True) [(h0, .inr (0, [.null, .int 0, .null, .null]))] ∧ NK U)) (va_Qv (fun _ : Unit => True) (fun _ t => ∃ (q1 : Nat) (r5 : Nat → Nat) (q3 : Nat) (q6 : Nat) (cA2 : ClassId) (cA4 : ClassId), va_P (dC, dI) CLS [(h0, .inr (0, [.ref q1, .int 0, .ref q3, .ref q6])), (q1, .inl (cA2, 6, .inl (fun _ => 0))), (q3, .inl (cA4, 7, .inr (.inr (.inr (.inr (fun i => if i < 7 then some (r5 i) else none)))))), ((r5 0), .inl (cA2, 64, .inl (fun _ => 0))), ((r5 1), .inl (cA2, 64, .inl (fun _ => 0))), ((r5 2), .inl (cA2, 64, .inl (fun _ => 0))), ((r5 3), .inl (cA2, 64, .inl (fun _ => 0))), ((r5 4), .inl (cA2, 64, .inl (fun _ => 0))), ((r5 5), .inl (cA2, 64, .inl (fun _ => 0))), ((r5 6), .inl (cA2, 64, .inl (fun _ => 0))), (q6, .inl (cA2, 6, .inl (fun _ => 0)))] t.heap ∧ va_K (dC, dI) CLS [(cA2, .int), (cA4, .array .int)] t ∧ va_D (va_A [(h0, .inr (0, [.null, .int 0, .null, .null]))] sz) [(h0, .inr (0, [.ref q1, .int 0, .ref q3, .ref q6])), (q1, .inl (cA2, 6, .inl (fun _ => 0))), (q3, .inl (cA4, 7, .inr (.inr (.inr (.inr (fun i => if i < 7 then some (r5 i) else none)))))), ((r5 0), .inl (cA2, 64, .inl (fun _ => 0))), ((r5 1), .inl (cA2, 64, .inl (fun _ => 0))), ((r5 2), .inl (cA2, 64, .inl (fun _ => 0))), ((r5 3), .inl (cA2, 64, .inl (fun _ => 0))), ((r5 4), .inl (cA2, 64, .inl (fun _ => 0))), ((r5 5), .inl (cA2, 64, .inl (fun _ => 0))), ((r5 6), .inl (cA2, 64, .inl (fun _ => 0))), (q6, .inl (cA2, 6, .inl (fun _ => 0)))]) (va_A [(h0, .inr (0, [.null, .int 0, .null, .null]))] sz)) 10 467 (va_A [(h0, .inr (0, [.null, .int 0, .null, .null]))] sz) := by
  refine Met.ofW (cc := cX0_init) (maxL := 1) (ret := none) (by decide) rfl ?_
  intro p e s m args below meth c s₁ B hml hv
  obtain ⟨rfl, hsz, hP, hK, hD0, hN⟩ := hv
  have hx := B.exec
  have hb := B.bytes
  have hr := B.returns
  have hts0 := atoms_spec (ws := wsOf yX0_init cX0_init 1 none) B.pre
  have hts : ∀ w ∈ WT, w.before _ s = true := fun w hw => hts0 w (List.mem_cons_of_mem _ hw)
  have hown : s.vm.findClass RX0 = some m.cls := findClass_of_methodNamed B.named
  have hlocks := B.notSynchronized
  have hin : meth.name = "<init>" := (name_of_methodNamed B.named B.method).1
  subst hsz
  have hD := hD0.self (sz := s.heap.size)
  generalize hAe : va_A [(h0, .inr (0, [.null, .int 0, .null, .null]))] s.heap.size = A at hD ⊢
  have hA : ∀ q : Nat, s.heap.size ≤ q → A q := fun q h => by rw [← hAe]; exact Or.inr h
  have hS : va_S A s.heap s.heap [] := va_S.rf
  have hl := lv_entry ([.ref h0]) (n := 1) (Nat.le_of_ble_eq_true rfl)
  rw [lg_entry_eq]
  generalize (lg_sl ([.ref h0]) ++ List.replicate (1 - (lg_sl ([.ref h0])).length) Slot.unset).toArray = ls at hl ⊢
  have hl : lv_has ls 1 [(0, .ref h0)] := hl
  have hP : va_P (dC, dI) CLS [(h0, .inr (0, [.null, .int 0, .null, .null]))] s.heap := hP
  refine lv_aload_n hx hb dX0_init_0 rfl (lv_at hl 0 rfl) ?_
  refine W.objInit hx hb hown (hts _ mw_223) (hts _ mw_98) (hts _ mw_99) rfl (by rw [hml]; exact hl.1) rfl dX0_init_1 (Nat.le_of_ble_eq_true rfl) (Nat.le_of_ble_eq_true rfl) ?_
  refine W.eq (g2 := F0 m 4 ls []) rfl ?_
  refine lv_aload_n hx hb dX0_init_4 rfl (lv_at hl 0 rfl) ?_
  refine lv_bipush (v := 6) hx hb dX0_init_5 (by decide) ?_
  refine va_newa (atype := .int) (a0 := (6, .inl (fun _ => 0))) (N' := 6) (n := 6) hx hb (hts _ mw_129) rfl hK hP hD hS hA (fun cA => rfl) (by decide) (by decide) (Nat.le_of_ble_eq_true rfl) (Nat.le_of_ble_eq_true rfl) (Nat.le_of_ble_eq_true rfl) dX0_init_7 (fun q1 cA2 H hK hP hD hS => ?_)
  have hK : va_K (dC, dI) CLS [(cA2, .int)] s := hK
  have hP : va_P (dC, dI) CLS [(h0, .inr (0, [.null, .int 0, .null, .null])), (q1, .inl (cA2, 6, .inl (fun _ => 0)))] H := hP
  have hD : va_D A [(h0, .inr (0, [.null, .int 0, .null, .null])), (q1, .inl (cA2, 6, .inl (fun _ => 0)))] := hD
  refine va_putF (D := (dC, dI)) (ci := 0) (v := .ref q1) (C := RX0) (T := TX0) (N := 4) hx hb hts iwX0 tyX0 tyX0_ok nmX0 hown hK hP hD hS 0 rfl rfl 0 (by decide) (hts _ mw_225) (fun _ h9 => h9) rfl hin rfl (tyX0_ok 0 (by decide)) rfl rfl (Nat.le_of_ble_eq_true rfl) dX0_init_9 (fun H locs hP hD hS => ?_)
  have hP : va_P (dC, dI) CLS [(h0, .inr (0, [.ref q1, .int 0, .null, .null])), (q1, .inl (cA2, 6, .inl (fun _ => 0)))] H := hP
  have hD : va_D A [(h0, .inr (0, [.ref q1, .int 0, .null, .null])), (q1, .inl (cA2, 6, .inl (fun _ => 0)))] := hD
  refine lv_aload_n hx hb dX0_init_12 rfl (lv_at hl 0 rfl) ?_
  refine lv_bipush (v := 7) hx hb dX0_init_13 (by decide) ?_
  refine lv_bipush (v := 64) hx hb dX0_init_15 (by decide) ?_
  refine va_mna (X := [(h0, .inr (0, [.ref q1, .int 0, .null, .null])), (q1, .inl (cA2, 6, .inl (fun _ => 0)))]) (L := []) (f := fun _ => .inl (cA2, 0, .inl (fun _ => 0))) (ty := .int) (cy := cA2) (N' := 7) (K' := 64) (n := 7) (k := 64) (z := (64, .inl (fun _ => 0))) hx hb hown (hts _ mw_224) hN.2.2.2.2 (hts _ mw_129) (hK.2 0 _ rfl).2 hK (by rw [va_pl]; simpa using hP) (by rw [va_pl]; simpa using hD) hS hA (by decide) (by decide) (by decide) (by decide) (Nat.le_of_ble_eq_true rfl) (Nat.le_of_ble_eq_true rfl) (Nat.le_of_ble_eq_true rfl) rfl rfl (Nat.le_of_ble_eq_true rfl) (Nat.le_of_ble_eq_true rfl) (fun c => by show _ = vp_cell c (64, _); simp [Jvm.Free.Multi.innerC, vp_cell, arrV_new, defaultValue]) dX0_init_17 (fun q3 r5 cA4 H hri hrn hK hP hD hS => ?_)
  have hP : va_P (dC, dI) CLS [(h0, .inr (0, [.ref q1, .int 0, .null, .null])), (q1, .inl (cA2, 6, .inl (fun _ => 0))), (q3, .inl (cA4, 7, .inr (.inr (.inr (.inr (fun i => if i < 7 then some (r5 i) else none)))))), ((r5 0), .inl (cA2, 64, .inl (fun _ => 0))), ((r5 1), .inl (cA2, 64, .inl (fun _ => 0))), ((r5 2), .inl (cA2, 64, .inl (fun _ => 0))), ((r5 3), .inl (cA2, 64, .inl (fun _ => 0))), ((r5 4), .inl (cA2, 64, .inl (fun _ => 0))), ((r5 5), .inl (cA2, 64, .inl (fun _ => 0))), ((r5 6), .inl (cA2, 64, .inl (fun _ => 0)))] H := by simpa [va_pl, vr_up, List.range, List.range.loop] using hP
  have hD : va_D A [(h0, .inr (0, [.ref q1, .int 0, .null, .null])), (q1, .inl (cA2, 6, .inl (fun _ => 0))), (q3, .inl (cA4, 7, .inr (.inr (.inr (.inr (fun i => if i < 7 then some (r5 i) else none)))))), ((r5 0), .inl (cA2, 64, .inl (fun _ => 0))), ((r5 1), .inl (cA2, 64, .inl (fun _ => 0))), ((r5 2), .inl (cA2, 64, .inl (fun _ => 0))), ((r5 3), .inl (cA2, 64, .inl (fun _ => 0))), ((r5 4), .inl (cA2, 64, .inl (fun _ => 0))), ((r5 5), .inl (cA2, 64, .inl (fun _ => 0))), ((r5 6), .inl (cA2, 64, .inl (fun _ => 0)))] := by simpa [va_pl, vr_up, List.range, List.range.loop] using hD
  have hK : va_K (dC, dI) CLS [(cA2, .int), (cA4, .array .int)] s := hK
  refine va_putF (D := (dC, dI)) (ci := 0) (v := .ref q3) (C := RX0) (T := TX0) (N := 4) hx hb hts iwX0 tyX0 tyX0_ok nmX0 hown hK hP hD hS 0 rfl rfl 2 (by decide) (hts _ mw_227) (fun _ h9 => h9) rfl hin rfl (tyX0_ok 2 (by decide)) rfl rfl (Nat.le_of_ble_eq_true rfl) dX0_init_21 (fun H locs hP hD hS => ?_)
  have hP : va_P (dC, dI) CLS [(h0, .inr (0, [.ref q1, .int 0, .ref q3, .null])), (q1, .inl (cA2, 6, .inl (fun _ => 0))), (q3, .inl (cA4, 7, .inr (.inr (.inr (.inr (fun i => if i < 7 then some (r5 i) else none)))))), ((r5 0), .inl (cA2, 64, .inl (fun _ => 0))), ((r5 1), .inl (cA2, 64, .inl (fun _ => 0))), ((r5 2), .inl (cA2, 64, .inl (fun _ => 0))), ((r5 3), .inl (cA2, 64, .inl (fun _ => 0))), ((r5 4), .inl (cA2, 64, .inl (fun _ => 0))), ((r5 5), .inl (cA2, 64, .inl (fun _ => 0))), ((r5 6), .inl (cA2, 64, .inl (fun _ => 0)))] H := hP
  have hD : va_D A [(h0, .inr (0, [.ref q1, .int 0, .ref q3, .null])), (q1, .inl (cA2, 6, .inl (fun _ => 0))), (q3, .inl (cA4, 7, .inr (.inr (.inr (.inr (fun i => if i < 7 then some (r5 i) else none)))))), ((r5 0), .inl (cA2, 64, .inl (fun _ => 0))), ((r5 1), .inl (cA2, 64, .inl (fun _ => 0))), ((r5 2), .inl (cA2, 64, .inl (fun _ => 0))), ((r5 3), .inl (cA2, 64, .inl (fun _ => 0))), ((r5 4), .inl (cA2, 64, .inl (fun _ => 0))), ((r5 5), .inl (cA2, 64, .inl (fun _ => 0))), ((r5 6), .inl (cA2, 64, .inl (fun _ => 0)))] := hD
  refine lv_aload_n hx hb dX0_init_24 rfl (lv_at hl 0 rfl) ?_
  refine lv_bipush (v := 6) hx hb dX0_init_25 (by decide) ?_
  refine va_newa (atype := .int) (a0 := (6, .inl (fun _ => 0))) (N' := 6) (n := 6) hx hb (hts _ mw_129) rfl hK hP hD hS hA (fun cA => rfl) (by decide) (by decide) (Nat.le_of_ble_eq_true rfl) (Nat.le_of_ble_eq_true rfl) (Nat.le_of_ble_eq_true rfl) dX0_init_27 (fun q6 cA7 H hK hP hD hS => ?_)
  obtain rfl : cA2 = cA7 := tysame hK (i := 0) (j := 2) rfl rfl
  have hK := hK.sub (tys' := [(cA2, .int), (cA4, .array .int)]) [0, 1] rfl
  have hP : va_P (dC, dI) CLS [(h0, .inr (0, [.ref q1, .int 0, .ref q3, .null])), (q1, .inl (cA2, 6, .inl (fun _ => 0))), (q3, .inl (cA4, 7, .inr (.inr (.inr (.inr (fun i => if i < 7 then some (r5 i) else none)))))), ((r5 0), .inl (cA2, 64, .inl (fun _ => 0))), ((r5 1), .inl (cA2, 64, .inl (fun _ => 0))), ((r5 2), .inl (cA2, 64, .inl (fun _ => 0))), ((r5 3), .inl (cA2, 64, .inl (fun _ => 0))), ((r5 4), .inl (cA2, 64, .inl (fun _ => 0))), ((r5 5), .inl (cA2, 64, .inl (fun _ => 0))), ((r5 6), .inl (cA2, 64, .inl (fun _ => 0))), (q6, .inl (cA2, 6, .inl (fun _ => 0)))] H := hP
  have hD : va_D A [(h0, .inr (0, [.ref q1, .int 0, .ref q3, .null])), (q1, .inl (cA2, 6, .inl (fun _ => 0))), (q3, .inl (cA4, 7, .inr (.inr (.inr (.inr (fun i => if i < 7 then some (r5 i) else none)))))), ((r5 0), .inl (cA2, 64, .inl (fun _ => 0))), ((r5 1), .inl (cA2, 64, .inl (fun _ => 0))), ((r5 2), .inl (cA2, 64, .inl (fun _ => 0))), ((r5 3), .inl (cA2, 64, .inl (fun _ => 0))), ((r5 4), .inl (cA2, 64, .inl (fun _ => 0))), ((r5 5), .inl (cA2, 64, .inl (fun _ => 0))), ((r5 6), .inl (cA2, 64, .inl (fun _ => 0))), (q6, .inl (cA2, 6, .inl (fun _ => 0)))] := hD
  refine va_putF (D := (dC, dI)) (ci := 0) (v := .ref q6) (C := RX0) (T := TX0) (N := 4) hx hb hts iwX0 tyX0 tyX0_ok nmX0 hown hK hP hD hS 0 rfl rfl 3 (by decide) (hts _ mw_228) (fun _ h9 => h9) rfl hin rfl (tyX0_ok 3 (by decide)) rfl rfl (Nat.le_of_ble_eq_true rfl) dX0_init_29 (fun H locs hP hD hS => ?_)
  have hP : va_P (dC, dI) CLS [(h0, .inr (0, [.ref q1, .int 0, .ref q3, .ref q6])), (q1, .inl (cA2, 6, .inl (fun _ => 0))), (q3, .inl (cA4, 7, .inr (.inr (.inr (.inr (fun i => if i < 7 then some (r5 i) else none)))))), ((r5 0), .inl (cA2, 64, .inl (fun _ => 0))), ((r5 1), .inl (cA2, 64, .inl (fun _ => 0))), ((r5 2), .inl (cA2, 64, .inl (fun _ => 0))), ((r5 3), .inl (cA2, 64, .inl (fun _ => 0))), ((r5 4), .inl (cA2, 64, .inl (fun _ => 0))), ((r5 5), .inl (cA2, 64, .inl (fun _ => 0))), ((r5 6), .inl (cA2, 64, .inl (fun _ => 0))), (q6, .inl (cA2, 6, .inl (fun _ => 0)))] H := hP
  have hD : va_D A [(h0, .inr (0, [.ref q1, .int 0, .ref q3, .ref q6])), (q1, .inl (cA2, 6, .inl (fun _ => 0))), (q3, .inl (cA4, 7, .inr (.inr (.inr (.inr (fun i => if i < 7 then some (r5 i) else none)))))), ((r5 0), .inl (cA2, 64, .inl (fun _ => 0))), ((r5 1), .inl (cA2, 64, .inl (fun _ => 0))), ((r5 2), .inl (cA2, 64, .inl (fun _ => 0))), ((r5 3), .inl (cA2, 64, .inl (fun _ => 0))), ((r5 4), .inl (cA2, 64, .inl (fun _ => 0))), ((r5 5), .inl (cA2, 64, .inl (fun _ => 0))), ((r5 6), .inl (cA2, 64, .inl (fun _ => 0))), (q6, .inl (cA2, 6, .inl (fun _ => 0)))] := hD
  refine W.widen (k := 10) (n := 467) (Nat.le_of_ble_eq_true rfl) (Nat.le_of_ble_eq_true rfl) ?_
  exact W.vret hx hb hr (fun t ht hW => ⟨⟨(), rfl, trivial, q1, r5, q3, q6, cA2, cA4, by rw [ht]; exact hP, va_K.moved hW.alike hK, hD⟩, hS.F ht⟩) hS.2.2 dX0_init_32
