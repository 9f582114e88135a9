/-! Constructors. -/
abbrev eO (ci : Nat) (fs : List Value) : va_E := .inr (ci, fs)
abbrev eI (c : ClassId) (n : Nat) (f : Nat → Int32) : va_E := .inl (c, n, .inl f)
abbrev eQ (c : ClassId) (n : Nat) (f : Nat → Option Nat) : va_E := .inl (c, n, .inr (.inr (.inr (.inr f))))
def va_AOA (t : FieldType) (U : State) : Prop := (Cond.arrayOver (.array t)).before #[] U = true
theorem va_AOA.use {t : FieldType} {A : Array Value} {U : State} (h : va_AOA t U) : (Cond.arrayOver (.array t)).before A U = true := h
/-- f, but v at every address of l -/
def vr_up {α : Type} (f : Nat → α) (l : List Nat) (v : α) : Nat → α := fun a => if a ∈ l then v else f a
theorem vr_up_in {α : Type} {f : Nat → α} {l : List Nat} {v : α} {a : Nat} (h : a ∈ l) : vr_up f l v a = v := if_pos h
theorem vr_up_ne {α : Type} {f : Nat → α} {l : List Nat} {v : α} {a : Nat} (h : a ∉ l) : vr_up f l v a = f a := if_neg h
theorem vr_rows {L l : List Nat} {f : Nat → va_E} {e : va_E} (h : ∀ a, a ∈ l → a ∉ L) : va_pl L f ++ l.map (fun a => (a, e)) = va_pl (L ++ l) (vr_up f l e) := by
  unfold va_pl
  rw [List.map_append]
  congr 1
  · apply List.map_congr_left
    intro a ha
    rw [vr_up_ne (fun q => h a q ha)]
  · apply List.map_congr_left
    intro a ha
    rw [vr_up_in ha]
theorem vr_lay {X rows : va_W} {x : Nat × va_E} {pl : va_W} {D : va_G} {cl : List vw_C} {H : Heap} (hP : va_P D cl (((X ++ pl) ++ [x]) ++ rows) H) : va_P D cl ((X ++ [x]) ++ (pl ++ rows)) H := by
  rw [List.append_assoc (X ++ pl)] at hP
  have h := va_P.swap hP
  rw [← List.append_assoc X] at h
  have h2 := va_P.swap h
  rw [List.append_assoc (X ++ [x])] at h2
  exact h2
theorem vr_layD {X rows : va_W} {x : Nat × va_E} {pl : va_W} {A : Nat → Prop} (hD : va_D A (((X ++ pl) ++ [x]) ++ rows)) : va_D A ((X ++ [x]) ++ (pl ++ rows)) := by
  rw [List.append_assoc (X ++ pl)] at hD
  have h := va_D.swap hD
  rw [← List.append_assoc X] at h
  have h2 := va_D.swap h
  rw [List.append_assoc (X ++ [x])] at h2
  exact h2
theorem vr_outer (c : ClassId) (N h0 : Nat) : ∀ i : Nat, Jvm.Free.Multi.outerC c N h0 i = arrV c N (fun j => va_rf (if j < i then some (h0 + 1 + j) else none))
  | 0 => by
    show ({ cls := c, slots := Array.replicate N .null, vm := .none } : Cell) = _
    rw [arrV_new]
    refine congrArg (arrV c N) (funext fun j => ?_)
    simp [va_rf]
  | i + 1 => by
    show (Jvm.Free.Multi.outerC c N h0 i).setSlot i (.ref (h0 + 1 + i)) = _
    rw [vr_outer c N h0 i, arrV_store]
    refine congrArg (arrV c N) (funext fun j => ?_)
    by_cases e : j = i
    · subst e
      simp [updV, va_rf]
    · by_cases h : j < i
      · simp [updV, e, h, Nat.lt_succ_of_lt h]
      · simp [updV, e, h, show ¬ j < i + 1 by omega]
section VGM
variable {p : Program} {l : Launch} {e : Env} {R : Room} {s : State} {m : MethodId} {args : Array Value} {below : List Frame} {meth : Method} {c : Code} {H : Heap} {locs : List Loc} {cells slots : Nat} {Q : State → Prop}
variable {cc : ByteArray} {pc : Nat} {ls : Array Slot} {rest : List Value} {D : va_G} {cl : List vw_C} {A : Nat → Prop} {a : Nat} {tys : List (ClassId × FieldType)} {ws : va_W} {H0 : Heap}
theorem va_mna {X : va_W} {L : List Nat} {f : Nat → va_E} {cc : ByteArray} (hexec : p.tables.exec = Jvm.exec) (hb : c.code = cc) {own : String} {index : Nat} {ty : FieldType} {cy : ClassId} (hown : s.vm.findClass own = some m.cls) (hclink : (Cond.classLink own index ("[" ++ (FieldType.array ty).toString)).before args s = true) (hover : va_AOA ty s) (harr : (Cond.arrayClass ty).before args s = true) (hcy : s.vm.findClass (FieldType.array ty).toString = some cy)
    (hK : va_K D cl tys s) (hP : va_P D cl (X ++ va_pl L f) H) (hD : va_D A (X ++ va_pl L f)) (hS : va_S A H0 H locs) (hA : ∀ q, H0.size ≤ q → A q) {n k : Int32} {N' K' : Nat} {z : vp_A} (hn : ¬ n < 0) (hk : ¬ k < 0) (hN : n.toNatClampNeg = N') (hM : k.toNatClampNeg = K')
    (hb1 : N' * 4 ≤ 536870912) (hb2 : K' * componentBytes ty ≤ 536870912) (hb3 : K' ≤ 536870912) (hdf : fits ty (defaultValue ty) = true) (hdd : (defaultValue ty).isDefault = true) (hcells : cells + (1 + N') ≤ R.cells) (hslots : slots + (N' + N' * K') ≤ R.slots) (hz : ∀ c : ClassId, Jvm.Free.Multi.innerC c K' (defaultValue ty) = vp_cell c z) (hdg : decode cc pc = .ok (.multianewarray index 2, 4))
    (kk : ∀ (q : Nat) (r : Nat → Nat) (cA : ClassId) (H1 : Heap), (∀ i j : Nat, i < N' → j < N' → r i = r j → i = j) → (∀ i : Nat, i < N' → r i ∉ L) → va_K D cl (tys ++ [(cA, .array ty)]) s →
      va_P D cl ((X ++ [(q, .inl (cA, N', .inr (.inr (.inr (.inr (fun i => if i < N' then some (r i) else none))))))]) ++ va_pl (L ++ (List.range N').map r) (vr_up f ((List.range N').map r) (.inl (cy, z)))) H1 → va_D A ((X ++ [(q, .inl (cA, N', .inr (.inr (.inr (.inr (fun i => if i < N' then some (r i) else none))))))]) ++ va_pl (L ++ (List.range N').map r) (vr_up f ((List.range N').map r) (.inl (cy, z)))) → va_S A H0 H1 locs →
      W p l e R s m args below meth c H1 locs (cells + 1 + N') (slots + N' + N' * K') Q (F0 m (pc + 4) ls (.ref q :: rest))) : W p l e R s m args below meth c H locs cells slots Q (F0 m pc ls (.int k :: .int n :: rest)) := by
  subst hN
  subst hM
  intro T hT Xs
  obtain ⟨vm₁, cA, comp, -, fA, fC, hO, -, X', step⟩ := Xs.multianewarray2F hexec hown hclink (va_AOA.use hover) harr (g := F0 m pc ls (.int k :: .int n :: rest)) rfl (by rw [hb]; exact hdg) rfl hn hk hb1 hb2 hb3 hdf hdd hcells hslots
  have ec : some cy = some comp := hcy.symm.trans fC
  cases ec
  generalize hF : Jvm.Free.Multi.fill (T.setVm vm₁) cA cy n.toNatClampNeg k.toNatClampNeg (defaultValue ty) n.toNatClampNeg = F at X' step
  have hTh : (T.setVm vm₁).heap = H := hT
  obtain ⟨f1, f2, -, -⟩ := Jvm.Free.Multi.fill_facts (T.setVm vm₁) cA cy n.toNatClampNeg k.toNatClampNeg (defaultValue ty) n.toNatClampNeg
  rw [hF, hTh] at f1 f2
  have hold : ∀ x : Nat, x < H.size → F.heap[x]? = H[x]? := fun x hx => by
    have := Jvm.Free.Multi.fill_old (T.setVm vm₁) cA cy n.toNatClampNeg k.toNatClampNeg (defaultValue ty) (a := x) (by rw [hTh]; exact hx) n.toNatClampNeg
    rw [hF, hTh] at this
    exact this
  have hrow : ∀ j : Nat, j < n.toNatClampNeg → F.heap[H.size + 1 + j]? = some (vp_cell cy z) := fun j hj => by
    have := Jvm.Free.Multi.fill_inner (T.setVm vm₁) cA cy n.toNatClampNeg k.toNatClampNeg (defaultValue ty) n.toNatClampNeg j hj
    rw [hF, hTh, hz] at this
    exact this
  have hout : Jvm.Free.Multi.outerC cA n.toNatClampNeg H.size n.toNatClampNeg = vp_cell cA (n.toNatClampNeg, .inr (.inr (.inr (.inr (fun i => if i < n.toNatClampNeg then some (H.size + 1 + i) else none))))) := by
    rw [vp_cell_q]
    exact vr_outer cA n.toNatClampNeg H.size n.toNatClampNeg
  rw [hout] at f2
  have hlt : ∀ a, a ∈ L → a < H.size := fun a ha => by
    obtain ⟨k9, hk9⟩ := va_pl_get (X := X) (f := f) ha
    exact (hP k9 _ hk9).lt
  have hnl : ∀ i : Nat, i < n.toNatClampNeg → H.size + 1 + i ∉ L := fun i _ h => by
    have := hlt _ h
    omega
  have hnm : ∀ a, a ∈ (List.range n.toNatClampNeg).map (fun i => H.size + 1 + i) → a ∉ L := fun a ha h => by
    obtain ⟨i, -, rfl⟩ := List.mem_map.mp ha
    have := hlt _ h
    omega
  have hP0 : va_P D cl (X ++ va_pl L f) F.heap := hP.kept (fun k9 x hx => hold x.1 ((hP k9 x hx).lt))
  have hP1 : va_P D cl ((X ++ va_pl L f) ++ [(H.size, .inl (cA, n.toNatClampNeg, .inr (.inr (.inr (.inr (fun i => if i < n.toNatClampNeg then some (H.size + 1 + i) else none))))))]) F.heap := hP0.app (fun k9 x hx => by
    have h0 : k9 < 1 := (List.getElem?_eq_some_iff.mp hx).1
    rw [show k9 = 0 by omega] at hx
    cases hx
    exact f2)
  have hP2 : va_P D cl (((X ++ va_pl L f) ++ [(H.size, .inl (cA, n.toNatClampNeg, .inr (.inr (.inr (.inr (fun i => if i < n.toNatClampNeg then some (H.size + 1 + i) else none))))))]) ++ ((List.range n.toNatClampNeg).map (fun i => H.size + 1 + i)).map (fun a => (a, .inl (cy, z)))) F.heap := hP1.app (fun k9 x hx => by
    obtain ⟨a, ha, rfl⟩ := List.mem_map.mp (List.mem_of_getElem? hx)
    obtain ⟨i, hi, rfl⟩ := List.mem_map.mp ha
    exact hrow i (List.mem_range.mp hi))
  have hD2 : va_D A (((X ++ va_pl L f) ++ [(H.size, .inl (cA, n.toNatClampNeg, .inr (.inr (.inr (.inr (fun i => if i < n.toNatClampNeg then some (H.size + 1 + i) else none))))))]) ++ ((List.range n.toNatClampNeg).map (fun i => H.size + 1 + i)).map (fun a => (a, .inl (cy, z)))) := by
    have hD1 := hD.push (e := .inl (cA, n.toNatClampNeg, .inr (.inr (.inr (.inr (fun i => if i < n.toNatClampNeg then some (H.size + 1 + i) else none)))))) hP rfl (hA _ hS.1)
    generalize hW1 : (X ++ va_pl L f) ++ [(H.size, .inl (cA, n.toNatClampNeg, .inr (.inr (.inr (.inr (fun i => if i < n.toNatClampNeg then some (H.size + 1 + i) else none))))))] = W1 at hD1 hP1 ⊢
    have hle : ∀ (k9 : Nat) (x : Nat × va_E), W1[k9]? = some x → x.1 ≤ H.size := fun k9 x hx => by
      rw [← hW1] at hx
      by_cases hl : k9 < (X ++ va_pl L f).length
      · rw [List.getElem?_append_left hl] at hx
        exact Nat.le_of_lt ((hP k9 x hx).lt)
      · rw [List.getElem?_append_right (by omega)] at hx
        have h0 : k9 - (X ++ va_pl L f).length < 1 := (List.getElem?_eq_some_iff.mp hx).1
        rw [show k9 - (X ++ va_pl L f).length = 0 by omega] at hx
        cases hx
        exact Nat.le_refl _
    have hr : ∀ (k9 : Nat) (x : Nat × va_E), (((List.range n.toNatClampNeg).map (fun i => H.size + 1 + i)).map (fun a => ((a, .inl (cy, z)) : Nat × va_E)))[k9]? = some x → x.1 = H.size + 1 + k9 := fun k9 x hx => by
      rw [List.getElem?_map, List.getElem?_map] at hx
      by_cases h9 : k9 < n.toNatClampNeg
      · rw [List.getElem?_range h9] at hx
        cases hx
        rfl
      · have hn0 : (List.range n.toNatClampNeg)[k9]? = none := List.getElem?_eq_none (by rw [List.length_range]; omega)
        rw [hn0] at hx
        cases hx
    refine ⟨fun i j x y hi hj hxy => ?_, fun k9 x hx => ?_⟩
    · by_cases h1 : i < W1.length <;> by_cases h2 : j < W1.length
      · rw [List.getElem?_append_left h1] at hi
        rw [List.getElem?_append_left h2] at hj
        exact hD1.1 i j x y hi hj hxy
      · rw [List.getElem?_append_left h1] at hi
        rw [List.getElem?_append_right (by omega)] at hj
        have := hle _ _ hi
        have := hr _ _ hj
        omega
      · rw [List.getElem?_append_right (by omega)] at hi
        rw [List.getElem?_append_left h2] at hj
        have := hle _ _ hj
        have := hr _ _ hi
        omega
      · rw [List.getElem?_append_right (by omega)] at hi hj
        have := hr _ _ hi
        have := hr _ _ hj
        omega
    · by_cases h1 : k9 < W1.length
      · rw [List.getElem?_append_left h1] at hx
        exact hD1.2 k9 x hx
      · rw [List.getElem?_append_right (by omega)] at hx
        have := hr _ _ hx
        exact hA _ (by have := hS.1; omega)
  have hAr : ArrOfT s cA (.array ty) := fun N9 z9 => by
    obtain ⟨-, k9, hk9, cm9, hkk9⟩ := (hO 0 0 0).1
    exact ⟨(fun q hq => by cases hq), k9, hk9, cm9, hkk9⟩
  have hK2 : va_K D cl (tys ++ [(cA, .array ty)]) s := ⟨hK.1, fun k9 x hx => by
    by_cases hl : k9 < tys.length
    · rw [List.getElem?_append_left hl] at hx
      exact hK.2 k9 x hx
    · rw [List.getElem?_append_right (by omega)] at hx
      have h0 : k9 - tys.length < 1 := (List.getElem?_eq_some_iff.mp hx).1
      rw [show k9 - tys.length = 0 by omega] at hx
      cases hx
      exact ⟨hAr, fA⟩⟩
  obtain ⟨t, a1, b1⟩ := kk H.size (fun i => H.size + 1 + i) cA F.heap (fun i j _ _ h => by have h9 : H.size + 1 + i = H.size + 1 + j := h; omega) hnl hK2 (by rw [← vr_rows hnm]; exact vr_lay hP2) (by rw [← vr_rows hnm]; exact vr_layD hD2) ⟨by rw [f1]; have := hS.1; omega, fun x h1 h2 => (hold x (Nat.lt_of_lt_of_le h1 hS.1)).trans (hS.2.1 x h1 h2), hS.2.2⟩ F rfl X'
  refine ⟨t, step t ?_, b1⟩
  have e : T.heap.size = H.size := by rw [hT]
  rw [e]
  exact a1
end VGM
theorem tysame {D : va_G} {cl : List vw_C} {tys : List (ClassId × FieldType)} {s : State} {i j : Nat} {c1 c2 : ClassId} {ty : FieldType} (hK : va_K D cl tys s) (h1 : tys[i]? = some (c1, ty)) (h2 : tys[j]? = some (c2, ty)) : c1 = c2 := by
  have a := (hK.2 i _ h1).2
  have b := (hK.2 j _ h2).2
  cases ty with
  | object C =>
    obtain ⟨_, _, _, _, _, a4⟩ := a
    obtain ⟨_, _, _, _, _, b4⟩ := b
    exact Option.some.inj (a4.symm.trans b4)
  | _ => exact Option.some.inj (a.symm.trans b)
theorem va_A1 {x : Nat × va_E} {sz a : Nat} (h : va_A [x] sz a) : a = x.1 ∨ sz ≤ a := by
  rcases h with ⟨k, e, hk⟩ | h
  · match k, hk with
    | 0, hk => cases hk; exact Or.inl rfl
    | k + 1, hk => simp at hk
  · exact Or.inr h
theorem lastL {ws : va_W} {x : Nat × va_E} : (ws ++ [x])[ws.length]? = some x := by simp
theorem leftL {ws : va_W} {x q : Nat × va_E} {k : Nat} (h : ws[k]? = some q) : (ws ++ [x])[k]? = some q := by
  rw [List.getElem?_append_left (List.getElem?_eq_some_iff.mp h).1]
  exact h
theorem cutL {D : va_G} {cl : List vw_C} {ws : va_W} {x : Nat × va_E} {H : Heap} (h : va_P D cl (ws ++ [x]) H) : va_P D cl [x] H := fun k q hk => by
  match k, hk with
  | 0, hk => cases hk; exact h _ _ lastL
  | k + 1, hk => simp at hk
theorem cutLD {A : Nat → Prop} {ws : va_W} {x : Nat × va_E} (h : va_D A (ws ++ [x])) : va_D A [x] := by
  refine ⟨fun i j p q hi hj _ => ?_, fun k q hk => ?_⟩
  · have h1 := (List.getElem?_eq_some_iff.mp hi).1
    have h2 := (List.getElem?_eq_some_iff.mp hj).1
    simp at h1 h2
    omega
  · match k, hk with
    | 0, hk => cases hk; exact h.2 _ _ lastL
    | k + 1, hk => simp at hk
theorem freeL {A : Nat → Prop} {ws : va_W} {x : Nat × va_E} {H0 H : Heap} {locs : List Loc} (hD : va_D A (ws ++ [x])) (hS : va_S A H0 H locs) (hA : ∀ q, H0.size ≤ q → A q) : ∀ q, va_A [x] H.size q → A q := fun q h => by
  rcases va_A1 h with rfl | h
  · exact hD.2 _ _ lastL
  · exact hA q (Nat.le_trans hS.1 h)
theorem joinL {A0 : Nat → Prop} {D : va_G} {cl : List vw_C} {ws w1 : va_W} {x : Nat × va_E} {H H1 : Heap} (hP : va_P D cl (ws ++ [x]) H) (hD : va_D A0 (ws ++ [x])) (hk : ∀ q : Nat, q < H.size → ¬ va_A [x] H.size q → H1[q]? = H[q]?) (hF : ∀ q, va_A [x] H.size q → A0 q) (hP1 : va_P D cl w1 H1) (hD1 : va_D (va_A [x] H.size) w1) : va_P D cl (ws ++ w1) H1 ∧ va_D A0 (ws ++ w1) := by
  have hne : ∀ (k : Nat) (q : Nat × va_E), ws[k]? = some q → q.1 ≠ x.1 := fun k q h e => by
    have h1 := hD.1 _ _ _ _ (leftL (x := x) h) lastL e
    have h2 := (List.getElem?_eq_some_iff.mp h).1
    omega
  have hlt : ∀ (k : Nat) (q : Nat × va_E), ws[k]? = some q → q.1 < H.size := fun k q h => (hP _ _ (leftL h)).lt
  have hw : va_P D cl ws H1 := va_P.kept (fun k q h => hP _ _ (leftL h)) (fun k q h => hk _ (hlt k q h) (fun g => by
    rcases va_A1 g with g | g
    · exact hne k q h g
    · exact absurd g (Nat.not_le.mpr (hlt k q h))))
  have hDw : va_D A0 ws := ⟨fun i j p q hi hj e => hD.1 i j p q (leftL hi) (leftL hj) e, fun k q h => hD.2 k q (leftL h)⟩
  refine ⟨hw.app hP1, va_D.app hDw (hD1.weaken (fun k q h g => hF _ g)) (fun i j p q hi hj e => ?_)⟩
  rcases va_A1 (hD1.2 j q hj) with g | g
  · exact hne i p hi (e.trans g)
  · exact absurd g (by have := hlt i p hi; omega)
/-- what the constructors need of the start beside the tables -/
def NK (U : State) : Prop := (∀ q ∈ NWq, va_Nw (.methodLinkNest q.1 q.2.1 q.2.2.1 q.2.2.2) U) ∧ va_AO "RoofWar$Law" U ∧ va_AO "RoofWar$Row" U ∧ va_AO "RoofWar$Slot" U ∧ va_AOA .int U
theorem AOA_moved {t : FieldType} {u U : State} (hvm : u.vm.Alike U.vm) (h : va_AOA t u) : va_AOA t U := by
  obtain ⟨comp, c, k, h1, h2, h3, h4, h5⟩ := arrayOverA_spec h
  obtain ⟨k', hk', he⟩ := hvm.2.2 _ _ h3
  have g4 : k'.kind = .array comp (.array t) := by rw [he]; exact h4
  have g1 : U.vm.findClass (FieldType.array t).toString = some comp := by rw [hvm.findClass]; exact h1
  have g5 : U.vm.findClass ("[" ++ (FieldType.array t).toString) = some c := by rw [hvm.findClass]; exact h5
  have g2 := (Vm.Alike.findIdx?_eq hvm _ (fun k => rfl)).trans h2
  simp only [va_AOA, Cond.before, Cond.holds, Cond.value]
  rw [g1, Option.bind_some]
  first
    | (rw [g2]; simp [hk', g4, g5]; done)
    | (simp [g2, hk', g4, g5]; done)
    | (refine (congrArg (fun o : Option Nat => (o.bind _ == some true)) g2).trans ?_; simp [hk', g4, g5])
theorem NK_warm {s U : State} (h : NK s) (hW : s.WarmedH U.vm) : NK U := ⟨fun q hq => va_Nw.warmM hW (h.1 q hq), h.2.1.moved hW.alike, h.2.2.1.moved hW.alike, h.2.2.2.1.moved hW.alike, AOA_moved hW.alike h.2.2.2.2⟩
theorem NK_same {u U : State} (h : NK u) (hv : u.vm = U.vm) : NK U :=
  have ha : u.vm.Alike U.vm := hv ▸ Vm.Alike.refl u.vm
  ⟨fun q hq => (h.1 q hq).same rfl hv, h.2.1.moved ha, h.2.2.1.moved ha, h.2.2.2.1.moved ha, AOA_moved ha h.2.2.2.2⟩
theorem frameBlindK {av : List Value} {sz : Nat} {D : va_G} {ws : va_W} : FrameBlind (va_Pc av (fun U => U.heap.size = sz ∧ va_P D CLS ws U.heap ∧ va_K D CLS [] U ∧ va_D (fun _ => True) ws ∧ NK U)) := fun a U g mk q => by
  obtain ⟨q0, q1, qP, qK, qD, qN⟩ := q
  exact ⟨q0, q1, qP, va_K.moved (u := U) (U := U.calling g mk a) (Vm.Alike.refl U.vm) qK, qD, NK_same qN rfl⟩
section CtorRows
variable {p : Program} {l : Launch} {e : Env} {R : Room} {s : State} {m : MethodId} {args : Array Value} {below : List Frame} {meth : Method} {c : Code} {H : Heap} {locs : List Loc} {cells slots : Nat} {Q : State → Prop}
variable {pc : Nat} {ls : Array Slot} {rest : List Value} {D : va_G} {own : String} {cc : ByteArray} {maxL : Nat} {A : Nat → Prop} {ws : va_W} {tys : List (ClassId × FieldType)}
abbrev MetK (l : Launch) (y : MethodName) (bytes : ByteArray) (mL : Nat) (rm : Room) (q : Nat) (x : va_E) (As : List Value) (D : va_G) (sz : Nat) (B : State → Prop) (mc ms : Nat) : Prop := Met l y (wsOf y bytes mL none) rm (va_Pc (.ref q :: As) (fun U => U.heap.size = sz ∧ va_P D CLS [(q, x)] U.heap ∧ va_K D CLS [] U ∧ va_D (fun _ => True) [(q, x)] ∧ NK U)) (va_Qv (fun _ : Unit => True) (fun _ t => B t) (va_A [(q, x)] sz)) mc ms (va_A [(q, x)] sz)
theorem g_cK {y : MethodName} {bytes : ByteArray} {mL n index q mc ms : Nat} {x : va_E} {rm : Room} {As st0 : List Value} {B : State → Prop} (hx : p.tables.exec = Jvm.exec) (hb : c.code = cc) (hml : c.maxLocals = maxL) (hown : s.vm.findClass own = some m.cls) (hts : ∀ w ∈ WT, w.before args s = true) (hN : NK s) (hls : ls.size = maxL) (hM : MetK l y bytes mL rm q x As D H.size B mc ms) (hrc : rm.cells = mc ∧ rm.slots = ms) (hname : y.name = "<init>") (h1 : Cond.initialized y.cls ∈ WT) (h2 : Cond.instanceMethod y ∈ WT) (h3 : Cond.code y bytes mL none ∈ WT) (hd : y.cls ≠ "java/lang/invoke/MethodHandle" ∧ y.cls ≠ "java/lang/invoke/VarHandle" ∧ (parseMethodDescriptor y.desc).map (fun d => d.parameters.length) = some n) (hl : Cond.methodLink own index y ∈ WT) (hR : rm.frames + 1 ≤ R.frames ∧ 8 + (mL + 11) + rm.locals ≤ R.locals) (hn : As.length = n) (hst : st0 = As.reverse ++ .ref q :: rest) (hrest : (rest.map fun v => v.category).sum ≤ 8) (hcs : cells + mc ≤ R.cells ∧ slots + ms ≤ R.slots) (hK : va_K D CLS tys s) (hP : va_P D CLS (ws ++ [(q, x)]) H) (hD : va_D A (ws ++ [(q, x)])) (hS : va_S A s.heap H locs) (hA : ∀ q : Nat, s.heap.size ≤ q → A q) (hdg : decode cc pc = .ok (.invokespecial index, 3))
    (kk : ∀ (t : State) (H1 : Heap) (locs1 : List Loc), t.heap = H1 → s.vm.Alike t.vm → B t → (∀ a : Nat, a < H.size → ¬ va_A [(q, x)] H.size a → H1[a]? = H[a]?) → va_S A s.heap H1 locs1 → W p l e R s m args below meth c H1 locs1 (cells + mc) (slots + ms) Q (F0 m (pc + 3) ls rest)) : W p l e R s m args below meth c H locs cells slots Q (F0 m pc ls st0) := by
  have hF := freeL hD hS hA
  have hPc := cutL hP
  have hDc := cutLD hD
  have hKc := hK.sub (tys' := []) [] rfl
  exact va_callv (va_runI (As := As) (rest := rest) ⟨hx, hb, hml, hown, hts⟩ hM (cwI n hts (good_ws h3) rfl hrc.1 hrc.2 (hts _ h1) (hts _ hl) (hts _ h2) hname hd hR) ⟨frameBlindK, fun U hU hW => ⟨rfl, by rw [hU], by rw [hU]; exact hPc, va_K.moved hW.alike hKc, hDc.weaken (fun _ _ _ _ => trivial), NK_warm hN hW⟩⟩ rfl hn hls hst (lv_room hrest) hdg hcs) hS (fun q _ h => hF q h) hF (fun u t H1 locs ht hvm hw hB hz1 hk1 hS => kk t H1 locs ht hvm hB hk1 hS)
theorem g_cKN {y : MethodName} {bytes : ByteArray} {mL n index q mc ms : Nat} {x : va_E} {rm : Room} {As st0 : List Value} {B : State → Prop} {host : String} (hx : p.tables.exec = Jvm.exec) (hb : c.code = cc) (hml : c.maxLocals = maxL) (hown : s.vm.findClass own = some m.cls) (hts : ∀ w ∈ WT, w.before args s = true) (hN : NK s) (hls : ls.size = maxL) (hM : MetK l y bytes mL rm q x As D H.size B mc ms) (hrc : rm.cells = mc ∧ rm.slots = ms) (hname : y.name = "<init>") (h1 : Cond.initialized y.cls ∈ WT) (h2 : Cond.instanceMethod y ∈ WT) (h3 : Cond.code y bytes mL none ∈ WT) (hd : y.cls ≠ "java/lang/invoke/MethodHandle" ∧ y.cls ≠ "java/lang/invoke/VarHandle" ∧ (parseMethodDescriptor y.desc).map (fun d => d.parameters.length) = some n) (hl : (own, index, y, host) ∈ NWq) (hR : rm.frames + 1 ≤ R.frames ∧ 8 + (mL + 11) + rm.locals ≤ R.locals) (hn : As.length = n) (hst : st0 = As.reverse ++ .ref q :: rest) (hrest : (rest.map fun v => v.category).sum ≤ 8) (hcs : cells + mc ≤ R.cells ∧ slots + ms ≤ R.slots) (hK : va_K D CLS tys s) (hP : va_P D CLS (ws ++ [(q, x)]) H) (hD : va_D A (ws ++ [(q, x)])) (hS : va_S A s.heap H locs) (hA : ∀ q : Nat, s.heap.size ≤ q → A q) (hdg : decode cc pc = .ok (.invokespecial index, 3))
    (kk : ∀ (t : State) (H1 : Heap) (locs1 : List Loc), t.heap = H1 → s.vm.Alike t.vm → B t → (∀ a : Nat, a < H.size → ¬ va_A [(q, x)] H.size a → H1[a]? = H[a]?) → va_S A s.heap H1 locs1 → W p l e R s m args below meth c H1 locs1 (cells + mc) (slots + ms) Q (F0 m (pc + 3) ls rest)) : W p l e R s m args below meth c H locs cells slots Q (F0 m pc ls st0) := by
  have hF := freeL hD hS hA
  have hPc := cutL hP
  have hDc := cutLD hD
  have hKc := hK.sub (tys' := []) [] rfl
  exact va_callv (va_runIN (As := As) (rest := rest) ⟨hx, hb, hml, hown, hts⟩ hM ⟨va_cnB n hts (good_ws h3) rfl hrc.1 hrc.2 (hN.1 _ hl) (hts _ h1) hd hR, hname, hts _ h2⟩ ⟨frameBlindK, fun U hU hW => ⟨rfl, by rw [hU], by rw [hU]; exact hPc, va_K.moved hW.alike hKc, hDc.weaken (fun _ _ _ _ => trivial), NK_warm hN hW⟩⟩ rfl hn hls hst (lv_room hrest) hdg hcs) hS (fun q _ h => hF q h) hF (fun u t H1 locs ht hvm hw hB hz1 hk1 hS => kk t H1 locs ht hvm hB hk1 hS)
end CtorRows

theorem dX3_init_0 : decode cX3_init 0 = .ok (.aload_n 0, 1) := by decide +kernel
theorem dX3_init_1 : decode cX3_init 1 = .ok (.invokespecial 3, 3) := by decide +kernel
theorem dX3_init_4 : decode cX3_init 4 = .ok (.aload_n 0, 1) := by decide +kernel
theorem dX3_init_5 : decode cX3_init 5 = .ok (.bipush 96, 2) := by decide +kernel
theorem dX3_init_7 : decode cX3_init 7 = .ok (.newarray .int, 2) := by decide +kernel
theorem dX3_init_9 : decode cX3_init 9 = .ok (.putfield 9, 3) := by decide +kernel
theorem dX3_init_12 : decode cX3_init 12 = .ok (.return_, 1) := by decide +kernel
theorem okd_X3_init : yX3_init.cls ≠ "java/lang/invoke/MethodHandle" ∧ yX3_init.cls ≠ "java/lang/invoke/VarHandle" ∧ (parseMethodDescriptor yX3_init.desc).map (fun d => d.parameters.length) = some 0 := by decide +kernel
abbrev rm_X3_init : Room := { frames := 1, cells := 1, slots := 96, locals := 12 }
set_option maxHeartbeats 4000000 in
set_option maxRecDepth 100000 in
theorem k_X3_init (l : Launch) (dC : Nat → ClassId) (dI : Nat → Nat → Nat) (h0 sz : Nat) : Met l yX3_init (wsOf yX3_init cX3_init 1 none) rm_X3_init (va_Pc [.ref h0] (fun U => U.heap.size = sz ∧ va_P (dC, dI) CLS [(h0, eO 2 [.int 0, .int 0, .int 0, .null])] U.heap ∧ va_K (dC, dI) CLS [] U ∧ va_D (fun _ => True) [(h0, eO 2 [.int 0, .int 0, .int 0, .null])] ∧ NK U)) (va_Qv (fun _ : Unit => True) (fun _ t => ∃ (q1 : Nat) (cA2 : ClassId), va_P (dC, dI) CLS [(h0, eO 2 [.int 0, .int 0, .int 0, .ref q1]), (q1, eI cA2 96 (fun _ => 0))] t.heap ∧ va_K (dC, dI) CLS [(cA2, .int)] t ∧ va_D (va_A [(h0, eO 2 [.int 0, .int 0, .int 0, .null])] sz) [(h0, eO 2 [.int 0, .int 0, .int 0, .ref q1]), (q1, eI cA2 96 (fun _ => 0))]) (va_A [(h0, eO 2 [.int 0, .int 0, .int 0, .null])] sz)) 1 96 (va_A [(h0, eO 2 [.int 0, .int 0, .int 0, .null])] sz) := by
  refine Met.ofW (cc := cX3_init) (maxL := 1) (ret := none) (by decide) rfl ?_
  intro p e s m args below meth c s₁ B hml hv
  obtain ⟨rfl, hsz, hP, hK, hD0, hN⟩ := hv
  have hx := B.exec
  have hb := B.bytes
  have hr := B.returns
  have hts0 := atoms_spec (ws := wsOf yX3_init cX3_init 1 none) B.pre
  have hts : ∀ w ∈ WT, w.before _ s = true := fun w hw => hts0 w (List.mem_cons_of_mem _ hw)
  have hown : s.vm.findClass RX3 = some m.cls := findClass_of_methodNamed B.named
  have hlocks := B.notSynchronized
  have hin : meth.name = "<init>" := (name_of_methodNamed B.named B.method).1
  subst hsz
  have hD := hD0.self (sz := s.heap.size)
  generalize hAe : va_A [(h0, eO 2 [.int 0, .int 0, .int 0, .null])] s.heap.size = A at hD ⊢
  have hA : ∀ q : Nat, s.heap.size ≤ q → A q := fun q h => by rw [← hAe]; exact Or.inr h
  have hS : va_S A s.heap s.heap [] := va_S.rf
  have hl := lv_entry ([.ref h0]) (n := 1) (Nat.le_of_ble_eq_true rfl)
  rw [lg_entry_eq]
  generalize (lg_sl ([.ref h0]) ++ List.replicate (1 - (lg_sl ([.ref h0])).length) Slot.unset).toArray = ls at hl ⊢
  have hl : lv_has ls 1 [(0, .ref h0)] := hl
  have hP : va_P (dC, dI) CLS [(h0, eO 2 [.int 0, .int 0, .int 0, .null])] s.heap := hP
  refine lv_aload_n hx hb dX3_init_0 rfl (lv_at hl 0 rfl) ?_
  refine W.objInit hx hb hown (hts _ mw_111) (hts _ mw_99) (hts _ mw_100) rfl (by rw [hml]; exact hl.1) rfl dX3_init_1 (Nat.le_of_ble_eq_true rfl) (Nat.le_of_ble_eq_true rfl) ?_
  refine W.eq (g2 := F0 m 4 ls []) rfl ?_
  refine lv_aload_n hx hb dX3_init_4 rfl (lv_at hl 0 rfl) ?_
  refine lv_bipush (v := 96) hx hb dX3_init_5 (by decide) ?_
  refine va_newa (atype := .int) (a0 := (96, .inl (fun _ => 0))) (N' := 96) (n := 96) hx hb (hts _ mw_130) rfl hK hP hD hS hA (fun cA => rfl) (by decide) (by decide) (Nat.le_of_ble_eq_true rfl) (Nat.le_of_ble_eq_true rfl) (Nat.le_of_ble_eq_true rfl) dX3_init_7 (fun q1 cA2 H hK hP2 hD2 hS => ?_)
  have hK : va_K (dC, dI) CLS [(cA2, .int)] s := hK
  clear hP hD
  have hP := hP2
  have hD := hD2
  clear hP2 hD2
  refine va_putF (D := (dC, dI)) (ci := 2) (v := .ref q1) (C := RX3) (T := TX3) (N := 4) hx hb hts iwX3 tyX3 tyX3_ok nmX3 hown hK hP hD hS 0 rfl rfl 3 (by decide) (hts _ mw_119) (fun _ h9 => h9) rfl hin rfl (tyX3_ok 3 (by decide)) rfl rfl (Nat.le_of_ble_eq_true rfl) dX3_init_9 (fun H locs hP2 hD2 hS => ?_)
  clear hP hD
  have hP := hP2
  have hD := hD2
  clear hP2 hD2
  refine W.widen (k := 1) (n := 96) (Nat.le_of_ble_eq_true rfl) (Nat.le_of_ble_eq_true rfl) ?_
  exact W.vret hx hb hr (fun t ht hW => ⟨⟨(), rfl, trivial, q1, cA2, by rw [ht]; exact hP, va_K.moved hW.alike hK, hD⟩, hS.F ht⟩) hS.2.2 dX3_init_12
theorem dX6_init_0 : decode cX6_init 0 = .ok (.aload_n 0, 1) := by decide +kernel
theorem dX6_init_1 : decode cX6_init 1 = .ok (.invokespecial 3, 3) := by decide +kernel
theorem dX6_init_4 : decode cX6_init 4 = .ok (.aload_n 0, 1) := by decide +kernel
theorem dX6_init_5 : decode cX6_init 5 = .ok (.iconst (-1), 1) := by decide +kernel
theorem dX6_init_6 : decode cX6_init 6 = .ok (.putfield 11, 3) := by decide +kernel
theorem dX6_init_9 : decode cX6_init 9 = .ok (.aload_n 0, 1) := by decide +kernel
theorem dX6_init_10 : decode cX6_init 10 = .ok (.bipush 24, 2) := by decide +kernel
theorem dX6_init_12 : decode cX6_init 12 = .ok (.newarray .int, 2) := by decide +kernel
theorem dX6_init_14 : decode cX6_init 14 = .ok (.putfield 15, 3) := by decide +kernel
theorem dX6_init_17 : decode cX6_init 17 = .ok (.return_, 1) := by decide +kernel
theorem okd_X6_init : yX6_init.cls ≠ "java/lang/invoke/MethodHandle" ∧ yX6_init.cls ≠ "java/lang/invoke/VarHandle" ∧ (parseMethodDescriptor yX6_init.desc).map (fun d => d.parameters.length) = some 0 := by decide +kernel
abbrev rm_X6_init : Room := { frames := 1, cells := 1, slots := 24, locals := 12 }
set_option maxHeartbeats 4000000 in
set_option maxRecDepth 100000 in
theorem k_X6_init (l : Launch) (dC : Nat → ClassId) (dI : Nat → Nat → Nat) (h0 sz : Nat) : Met l yX6_init (wsOf yX6_init cX6_init 1 none) rm_X6_init (va_Pc [.ref h0] (fun U => U.heap.size = sz ∧ va_P (dC, dI) CLS [(h0, eO 5 [.int 0, .int 0, .null])] U.heap ∧ va_K (dC, dI) CLS [] U ∧ va_D (fun _ => True) [(h0, eO 5 [.int 0, .int 0, .null])] ∧ NK U)) (va_Qv (fun _ : Unit => True) (fun _ t => ∃ (q1 : Nat) (cA2 : ClassId), va_P (dC, dI) CLS [(h0, eO 5 [.int (-1), .int 0, .ref q1]), (q1, eI cA2 24 (fun _ => 0))] t.heap ∧ va_K (dC, dI) CLS [(cA2, .int)] t ∧ va_D (va_A [(h0, eO 5 [.int 0, .int 0, .null])] sz) [(h0, eO 5 [.int (-1), .int 0, .ref q1]), (q1, eI cA2 24 (fun _ => 0))]) (va_A [(h0, eO 5 [.int 0, .int 0, .null])] sz)) 1 24 (va_A [(h0, eO 5 [.int 0, .int 0, .null])] sz) := by
  refine Met.ofW (cc := cX6_init) (maxL := 1) (ret := none) (by decide) rfl ?_
  intro p e s m args below meth c s₁ B hml hv
  obtain ⟨rfl, hsz, hP, hK, hD0, hN⟩ := hv
  have hx := B.exec
  have hb := B.bytes
  have hr := B.returns
  have hts0 := atoms_spec (ws := wsOf yX6_init cX6_init 1 none) B.pre
  have hts : ∀ w ∈ WT, w.before _ s = true := fun w hw => hts0 w (List.mem_cons_of_mem _ hw)
  have hown : s.vm.findClass RX6 = some m.cls := findClass_of_methodNamed B.named
  have hlocks := B.notSynchronized
  have hin : meth.name = "<init>" := (name_of_methodNamed B.named B.method).1
  subst hsz
  have hD := hD0.self (sz := s.heap.size)
  generalize hAe : va_A [(h0, eO 5 [.int 0, .int 0, .null])] s.heap.size = A at hD ⊢
  have hA : ∀ q : Nat, s.heap.size ≤ q → A q := fun q h => by rw [← hAe]; exact Or.inr h
  have hS : va_S A s.heap s.heap [] := va_S.rf
  have hl := lv_entry ([.ref h0]) (n := 1) (Nat.le_of_ble_eq_true rfl)
  rw [lg_entry_eq]
  generalize (lg_sl ([.ref h0]) ++ List.replicate (1 - (lg_sl ([.ref h0])).length) Slot.unset).toArray = ls at hl ⊢
  have hl : lv_has ls 1 [(0, .ref h0)] := hl
  have hP : va_P (dC, dI) CLS [(h0, eO 5 [.int 0, .int 0, .null])] s.heap := hP
  refine lv_aload_n hx hb dX6_init_0 rfl (lv_at hl 0 rfl) ?_
  refine W.objInit hx hb hown (hts _ mw_286) (hts _ mw_99) (hts _ mw_100) rfl (by rw [hml]; exact hl.1) rfl dX6_init_1 (Nat.le_of_ble_eq_true rfl) (Nat.le_of_ble_eq_true rfl) ?_
  refine W.eq (g2 := F0 m 4 ls []) rfl ?_
  refine lv_aload_n hx hb dX6_init_4 rfl (lv_at hl 0 rfl) ?_
  refine lv_iconst (v := -1) hx hb dX6_init_5 (by decide) ?_
  refine va_put (D := (dC, dI)) (ci := 5) (v := .int (-1)) (C := RX6) (T := TX6) (N := 3) hx hb hts iwX6 tyX6 tyX6_ok nmX6 hown hK hP hD hS 0 rfl rfl 0 (by decide) (hts _ mw_287) (fun _ h9 => h9) rfl (tyX6_ok 0 (by decide)) rfl rfl (Nat.le_of_ble_eq_true rfl) dX6_init_6 (fun H locs hP2 hD2 hS => ?_)
  clear hP hD
  have hP := hP2
  have hD := hD2
  clear hP2 hD2
  refine lv_aload_n hx hb dX6_init_9 rfl (lv_at hl 0 rfl) ?_
  refine lv_bipush (v := 24) hx hb dX6_init_10 (by decide) ?_
  refine va_newa (atype := .int) (a0 := (24, .inl (fun _ => 0))) (N' := 24) (n := 24) hx hb (hts _ mw_130) rfl hK hP hD hS hA (fun cA => rfl) (by decide) (by decide) (Nat.le_of_ble_eq_true rfl) (Nat.le_of_ble_eq_true rfl) (Nat.le_of_ble_eq_true rfl) dX6_init_12 (fun q1 cA2 H hK hP2 hD2 hS => ?_)
  have hK : va_K (dC, dI) CLS [(cA2, .int)] s := hK
  clear hP hD
  have hP := hP2
  have hD := hD2
  clear hP2 hD2
  refine va_putF (D := (dC, dI)) (ci := 5) (v := .ref q1) (C := RX6) (T := TX6) (N := 3) hx hb hts iwX6 tyX6 tyX6_ok nmX6 hown hK hP hD hS 0 rfl rfl 2 (by decide) (hts _ mw_291) (fun _ h9 => h9) rfl hin rfl (tyX6_ok 2 (by decide)) rfl rfl (Nat.le_of_ble_eq_true rfl) dX6_init_14 (fun H locs hP2 hD2 hS => ?_)
  clear hP hD
  have hP := hP2
  have hD := hD2
  clear hP2 hD2
  refine W.widen (k := 1) (n := 24) (Nat.le_of_ble_eq_true rfl) (Nat.le_of_ble_eq_true rfl) ?_
  exact W.vret hx hb hr (fun t ht hW => ⟨⟨(), rfl, trivial, q1, cA2, by rw [ht]; exact hP, va_K.moved hW.alike hK, hD⟩, hS.F ht⟩) hS.2.2 dX6_init_17
theorem dX8_init_0 : decode cX8_init 0 = .ok (.aload_n 0, 1) := by decide +kernel
theorem dX8_init_1 : decode cX8_init 1 = .ok (.invokespecial 3, 3) := by decide +kernel
theorem dX8_init_4 : decode cX8_init 4 = .ok (.aload_n 0, 1) := by decide +kernel
theorem dX8_init_5 : decode cX8_init 5 = .ok (.bipush 96, 2) := by decide +kernel
theorem dX8_init_7 : decode cX8_init 7 = .ok (.newarray .int, 2) := by decide +kernel
theorem dX8_init_9 : decode cX8_init 9 = .ok (.putfield 9, 3) := by decide +kernel
theorem dX8_init_12 : decode cX8_init 12 = .ok (.return_, 1) := by decide +kernel
theorem okd_X8_init : yX8_init.cls ≠ "java/lang/invoke/MethodHandle" ∧ yX8_init.cls ≠ "java/lang/invoke/VarHandle" ∧ (parseMethodDescriptor yX8_init.desc).map (fun d => d.parameters.length) = some 0 := by decide +kernel
abbrev rm_X8_init : Room := { frames := 1, cells := 1, slots := 96, locals := 12 }
set_option maxHeartbeats 4000000 in
set_option maxRecDepth 100000 in
theorem k_X8_init (l : Launch) (dC : Nat → ClassId) (dI : Nat → Nat → Nat) (h0 sz : Nat) : Met l yX8_init (wsOf yX8_init cX8_init 1 none) rm_X8_init (va_Pc [.ref h0] (fun U => U.heap.size = sz ∧ va_P (dC, dI) CLS [(h0, eO 7 [.null, .int 0])] U.heap ∧ va_K (dC, dI) CLS [] U ∧ va_D (fun _ => True) [(h0, eO 7 [.null, .int 0])] ∧ NK U)) (va_Qv (fun _ : Unit => True) (fun _ t => ∃ (q1 : Nat) (cA2 : ClassId), va_P (dC, dI) CLS [(h0, eO 7 [.ref q1, .int 0]), (q1, eI cA2 96 (fun _ => 0))] t.heap ∧ va_K (dC, dI) CLS [(cA2, .int)] t ∧ va_D (va_A [(h0, eO 7 [.null, .int 0])] sz) [(h0, eO 7 [.ref q1, .int 0]), (q1, eI cA2 96 (fun _ => 0))]) (va_A [(h0, eO 7 [.null, .int 0])] sz)) 1 96 (va_A [(h0, eO 7 [.null, .int 0])] sz) := by
  refine Met.ofW (cc := cX8_init) (maxL := 1) (ret := none) (by decide) rfl ?_
  intro p e s m args below meth c s₁ B hml hv
  obtain ⟨rfl, hsz, hP, hK, hD0, hN⟩ := hv
  have hx := B.exec
  have hb := B.bytes
  have hr := B.returns
  have hts0 := atoms_spec (ws := wsOf yX8_init cX8_init 1 none) B.pre
  have hts : ∀ w ∈ WT, w.before _ s = true := fun w hw => hts0 w (List.mem_cons_of_mem _ hw)
  have hown : s.vm.findClass RX8 = some m.cls := findClass_of_methodNamed B.named
  have hlocks := B.notSynchronized
  have hin : meth.name = "<init>" := (name_of_methodNamed B.named B.method).1
  subst hsz
  have hD := hD0.self (sz := s.heap.size)
  generalize hAe : va_A [(h0, eO 7 [.null, .int 0])] s.heap.size = A at hD ⊢
  have hA : ∀ q : Nat, s.heap.size ≤ q → A q := fun q h => by rw [← hAe]; exact Or.inr h
  have hS : va_S A s.heap s.heap [] := va_S.rf
  have hl := lv_entry ([.ref h0]) (n := 1) (Nat.le_of_ble_eq_true rfl)
  rw [lg_entry_eq]
  generalize (lg_sl ([.ref h0]) ++ List.replicate (1 - (lg_sl ([.ref h0])).length) Slot.unset).toArray = ls at hl ⊢
  have hl : lv_has ls 1 [(0, .ref h0)] := hl
  have hP : va_P (dC, dI) CLS [(h0, eO 7 [.null, .int 0])] s.heap := hP
  refine lv_aload_n hx hb dX8_init_0 rfl (lv_at hl 0 rfl) ?_
  refine W.objInit hx hb hown (hts _ mw_243) (hts _ mw_99) (hts _ mw_100) rfl (by rw [hml]; exact hl.1) rfl dX8_init_1 (Nat.le_of_ble_eq_true rfl) (Nat.le_of_ble_eq_true rfl) ?_
  refine W.eq (g2 := F0 m 4 ls []) rfl ?_
  refine lv_aload_n hx hb dX8_init_4 rfl (lv_at hl 0 rfl) ?_
  refine lv_bipush (v := 96) hx hb dX8_init_5 (by decide) ?_
  refine va_newa (atype := .int) (a0 := (96, .inl (fun _ => 0))) (N' := 96) (n := 96) hx hb (hts _ mw_130) rfl hK hP hD hS hA (fun cA => rfl) (by decide) (by decide) (Nat.le_of_ble_eq_true rfl) (Nat.le_of_ble_eq_true rfl) (Nat.le_of_ble_eq_true rfl) dX8_init_7 (fun q1 cA2 H hK hP2 hD2 hS => ?_)
  have hK : va_K (dC, dI) CLS [(cA2, .int)] s := hK
  clear hP hD
  have hP := hP2
  have hD := hD2
  clear hP2 hD2
  refine va_putF (D := (dC, dI)) (ci := 7) (v := .ref q1) (C := RX8) (T := TX8) (N := 2) hx hb hts iwX8 tyX8 tyX8_ok nmX8 hown hK hP hD hS 0 rfl rfl 0 (by decide) (hts _ mw_244) (fun _ h9 => h9) rfl hin rfl (tyX8_ok 0 (by decide)) rfl rfl (Nat.le_of_ble_eq_true rfl) dX8_init_9 (fun H locs hP2 hD2 hS => ?_)
  clear hP hD
  have hP := hP2
  have hD := hD2
  clear hP2 hD2
  refine W.widen (k := 1) (n := 96) (Nat.le_of_ble_eq_true rfl) (Nat.le_of_ble_eq_true rfl) ?_
  exact W.vret hx hb hr (fun t ht hW => ⟨⟨(), rfl, trivial, q1, cA2, by rw [ht]; exact hP, va_K.moved hW.alike hK, hD⟩, hS.F ht⟩) hS.2.2 dX8_init_12
theorem dX5_init_0 : decode cX5_init 0 = .ok (.aload_n 0, 1) := by decide +kernel
theorem dX5_init_1 : decode cX5_init 1 = .ok (.invokespecial 3, 3) := by decide +kernel
theorem dX5_init_4 : decode cX5_init 4 = .ok (.aload_n 0, 1) := by decide +kernel
theorem dX5_init_5 : decode cX5_init 5 = .ok (.aload_n 1, 1) := by decide +kernel
theorem dX5_init_6 : decode cX5_init 6 = .ok (.putfield 9, 3) := by decide +kernel
theorem dX5_init_9 : decode cX5_init 9 = .ok (.return_, 1) := by decide +kernel
theorem okd_X5_init : yX5_init.cls ≠ "java/lang/invoke/MethodHandle" ∧ yX5_init.cls ≠ "java/lang/invoke/VarHandle" ∧ (parseMethodDescriptor yX5_init.desc).map (fun d => d.parameters.length) = some 1 := by decide +kernel
abbrev rm_X5_init : Room := { frames := 1, cells := 0, slots := 0, locals := 12 }
set_option maxHeartbeats 4000000 in
set_option maxRecDepth 100000 in
theorem k_X5_init (l : Launch) (dC : Nat → ClassId) (dI : Nat → Nat → Nat) (h0 sz : Nat) (p0 : Nat) : Met l yX5_init (wsOf yX5_init cX5_init 2 none) rm_X5_init (va_Pc [.ref h0, .ref p0] (fun U => U.heap.size = sz ∧ va_P (dC, dI) CLS [(h0, eO 4 [.null, .null, .int 0, .int 0, .int 0, .int 0, .int 0])] U.heap ∧ va_K (dC, dI) CLS [] U ∧ va_D (fun _ => True) [(h0, eO 4 [.null, .null, .int 0, .int 0, .int 0, .int 0, .int 0])] ∧ NK U)) (va_Qv (fun _ : Unit => True) (fun _ t => va_P (dC, dI) CLS [(h0, eO 4 [.ref p0, .null, .int 0, .int 0, .int 0, .int 0, .int 0])] t.heap ∧ va_K (dC, dI) CLS [] t ∧ va_D (va_A [(h0, eO 4 [.null, .null, .int 0, .int 0, .int 0, .int 0, .int 0])] sz) [(h0, eO 4 [.ref p0, .null, .int 0, .int 0, .int 0, .int 0, .int 0])]) (va_A [(h0, eO 4 [.null, .null, .int 0, .int 0, .int 0, .int 0, .int 0])] sz)) 0 0 (va_A [(h0, eO 4 [.null, .null, .int 0, .int 0, .int 0, .int 0, .int 0])] sz) := by
  refine Met.ofW (cc := cX5_init) (maxL := 2) (ret := none) (by decide) rfl ?_
  intro p e s m args below meth c s₁ B hml hv
  obtain ⟨rfl, hsz, hP, hK, hD0, hN⟩ := hv
  have hx := B.exec
  have hb := B.bytes
  have hr := B.returns
  have hts0 := atoms_spec (ws := wsOf yX5_init cX5_init 2 none) B.pre
  have hts : ∀ w ∈ WT, w.before _ s = true := fun w hw => hts0 w (List.mem_cons_of_mem _ hw)
  have hown : s.vm.findClass RX5 = some m.cls := findClass_of_methodNamed B.named
  have hlocks := B.notSynchronized
  have hin : meth.name = "<init>" := (name_of_methodNamed B.named B.method).1
  subst hsz
  have hD := hD0.self (sz := s.heap.size)
  generalize hAe : va_A [(h0, eO 4 [.null, .null, .int 0, .int 0, .int 0, .int 0, .int 0])] s.heap.size = A at hD ⊢
  have hA : ∀ q : Nat, s.heap.size ≤ q → A q := fun q h => by rw [← hAe]; exact Or.inr h
  have hS : va_S A s.heap s.heap [] := va_S.rf
  have hl := lv_entry ([.ref h0, .ref p0]) (n := 2) (Nat.le_of_ble_eq_true rfl)
  rw [lg_entry_eq]
  generalize (lg_sl ([.ref h0, .ref p0]) ++ List.replicate (2 - (lg_sl ([.ref h0, .ref p0])).length) Slot.unset).toArray = ls at hl ⊢
  have hl : lv_has ls 2 [(0, .ref h0), (1, .ref p0)] := hl
  have hP : va_P (dC, dI) CLS [(h0, eO 4 [.null, .null, .int 0, .int 0, .int 0, .int 0, .int 0])] s.heap := hP
  refine lv_aload_n hx hb dX5_init_0 rfl (lv_at hl 0 rfl) ?_
  refine W.objInit hx hb hown (hts _ mw_259) (hts _ mw_99) (hts _ mw_100) rfl (by rw [hml]; exact hl.1) rfl dX5_init_1 (Nat.le_of_ble_eq_true rfl) (Nat.le_of_ble_eq_true rfl) ?_
  refine W.eq (g2 := F0 m 4 ls []) rfl ?_
  refine lv_aload_n hx hb dX5_init_4 rfl (lv_at hl 0 rfl) ?_
  refine lv_aload_n hx hb dX5_init_5 rfl (lv_at hl 1 rfl) ?_
  refine va_putF (D := (dC, dI)) (ci := 4) (v := .ref p0) (C := RX5) (T := TX5) (N := 7) hx hb hts iwX5 tyX5 tyX5_ok nmX5 hown hK hP hD hS 0 rfl rfl 0 (by decide) (hts _ mw_260) (fun _ h9 => h9) rfl hin rfl (tyX5_ok 0 (by decide)) rfl rfl (Nat.le_of_ble_eq_true rfl) dX5_init_6 (fun H locs hP2 hD2 hS => ?_)
  clear hP hD
  have hP := hP2
  have hD := hD2
  clear hP2 hD2
  refine W.widen (k := 0) (n := 0) (Nat.le_of_ble_eq_true rfl) (Nat.le_of_ble_eq_true rfl) ?_
  exact W.vret hx hb hr (fun t ht hW => ⟨⟨(), rfl, trivial, by rw [ht]; exact hP, va_K.moved hW.alike hK, hD⟩, hS.F ht⟩) hS.2.2 dX5_init_9
theorem dX7_init_0 : decode cX7_init 0 = .ok (.aload_n 0, 1) := by decide +kernel
theorem dX7_init_1 : decode cX7_init 1 = .ok (.invokespecial 1, 3) := by decide +kernel
theorem dX7_init_4 : decode cX7_init 4 = .ok (.aload_n 0, 1) := by decide +kernel
theorem dX7_init_5 : decode cX7_init 5 = .ok (.new 7, 3) := by decide +kernel
theorem dX7_init_8 : decode cX7_init 8 = .ok (.dup, 1) := by decide +kernel
theorem dX7_init_9 : decode cX7_init 9 = .ok (.invokespecial 9, 3) := by decide +kernel
theorem dX7_init_12 : decode cX7_init 12 = .ok (.putfield 10, 3) := by decide +kernel
theorem dX7_init_15 : decode cX7_init 15 = .ok (.return_, 1) := by decide +kernel
theorem okd_X7_init : yX7_init.cls ≠ "java/lang/invoke/MethodHandle" ∧ yX7_init.cls ≠ "java/lang/invoke/VarHandle" ∧ (parseMethodDescriptor yX7_init.desc).map (fun d => d.parameters.length) = some 0 := by decide +kernel
abbrev rm_X7_init : Room := { frames := 2, cells := 2, slots := 27, locals := 32 }
set_option maxHeartbeats 4000000 in
set_option maxRecDepth 100000 in
theorem k_X7_init (l : Launch) (dC : Nat → ClassId) (dI : Nat → Nat → Nat) (h0 sz : Nat) : Met l yX7_init (wsOf yX7_init cX7_init 1 none) rm_X7_init (va_Pc [.ref h0] (fun U => U.heap.size = sz ∧ va_P (dC, dI) CLS [(h0, eO 6 [.int 0, .int 0, .int 0, .int 0, .null])] U.heap ∧ va_K (dC, dI) CLS [] U ∧ va_D (fun _ => True) [(h0, eO 6 [.int 0, .int 0, .int 0, .int 0, .null])] ∧ NK U)) (va_Qv (fun _ : Unit => True) (fun _ t => ∃ (q1 : Nat) (q2 : Nat) (cA3 : ClassId), va_P (dC, dI) CLS [(h0, eO 6 [.int 0, .int 0, .int 0, .int 0, .ref q1]), (q1, eO 5 [.int (-1), .int 0, .ref q2]), (q2, eI cA3 24 (fun _ => 0))] t.heap ∧ va_K (dC, dI) CLS [(cA3, .int)] t ∧ va_D (va_A [(h0, eO 6 [.int 0, .int 0, .int 0, .int 0, .null])] sz) [(h0, eO 6 [.int 0, .int 0, .int 0, .int 0, .ref q1]), (q1, eO 5 [.int (-1), .int 0, .ref q2]), (q2, eI cA3 24 (fun _ => 0))]) (va_A [(h0, eO 6 [.int 0, .int 0, .int 0, .int 0, .null])] sz)) 2 27 (va_A [(h0, eO 6 [.int 0, .int 0, .int 0, .int 0, .null])] sz) := by
  refine Met.ofW (cc := cX7_init) (maxL := 1) (ret := none) (by decide) rfl ?_
  intro p e s m args below meth c s₁ B hml hv
  obtain ⟨rfl, hsz, hP, hK, hD0, hN⟩ := hv
  have hx := B.exec
  have hb := B.bytes
  have hr := B.returns
  have hts0 := atoms_spec (ws := wsOf yX7_init cX7_init 1 none) B.pre
  have hts : ∀ w ∈ WT, w.before _ s = true := fun w hw => hts0 w (List.mem_cons_of_mem _ hw)
  have hown : s.vm.findClass RX7 = some m.cls := findClass_of_methodNamed B.named
  have hlocks := B.notSynchronized
  have hin : meth.name = "<init>" := (name_of_methodNamed B.named B.method).1
  subst hsz
  have hD := hD0.self (sz := s.heap.size)
  generalize hAe : va_A [(h0, eO 6 [.int 0, .int 0, .int 0, .int 0, .null])] s.heap.size = A at hD ⊢
  have hA : ∀ q : Nat, s.heap.size ≤ q → A q := fun q h => by rw [← hAe]; exact Or.inr h
  have hS : va_S A s.heap s.heap [] := va_S.rf
  have hl := lv_entry ([.ref h0]) (n := 1) (Nat.le_of_ble_eq_true rfl)
  rw [lg_entry_eq]
  generalize (lg_sl ([.ref h0]) ++ List.replicate (1 - (lg_sl ([.ref h0])).length) Slot.unset).toArray = ls at hl ⊢
  have hl : lv_has ls 1 [(0, .ref h0)] := hl
  have hP : va_P (dC, dI) CLS [(h0, eO 6 [.int 0, .int 0, .int 0, .int 0, .null])] s.heap := hP
  refine lv_aload_n hx hb dX7_init_0 rfl (lv_at hl 0 rfl) ?_
  refine W.objInit hx hb hown (hts _ mw_304) (hts _ mw_99) (hts _ mw_100) rfl (by rw [hml]; exact hl.1) rfl dX7_init_1 (Nat.le_of_ble_eq_true rfl) (Nat.le_of_ble_eq_true rfl) ?_
  refine W.eq (g2 := F0 m 4 ls []) rfl ?_
  refine lv_aload_n hx hb dX7_init_4 rfl (lv_at hl 0 rfl) ?_
  refine va_new (ci := 5) (fs := [.int 0, .int 0, .null]) (C := RX6) (T := TX6) (N := 3) hx hb hts iwX6 tyX6 tyX6_ok hown (hts _ mw_305) (hts _ mw_283) (hts _ mw_81) hK hP hD hS hA rfl (fun j hj => by rcases (show j = 0 ∨ j = 1 ∨ j = 2 by omega) with rfl | rfl | rfl <;> rfl) (Nat.le_of_ble_eq_true rfl) (Nat.le_of_ble_eq_true rfl) dX7_init_5 (fun q1 H hP2 hD2 hS => ?_)
  clear hP hD
  have hP := hP2
  have hD := hD2
  clear hP2 hD2
  refine lv_dup hx hb dX7_init_8 rfl ?_
  have hFc := freeL hD hS hA
  refine g_cKN (host := "RoofWar") (As := []) (rest := [.ref q1, .ref h0]) hx hb hml hown hts hN hl.1 (k_X6_init l dC dI q1 H.size) ⟨rfl, rfl⟩ rfl mw_81 mw_284 mw_285 okd_X6_init (List.mem_of_getElem? (i := 5) rfl) ⟨(Nat.le_of_ble_eq_true rfl), (Nat.le_of_ble_eq_true rfl)⟩ rfl rfl (Nat.le_of_ble_eq_true rfl) ⟨(Nat.le_of_ble_eq_true rfl), (Nat.le_of_ble_eq_true rfl)⟩ hK hP hD hS hA dX7_init_9 (fun t H1 locs ht hvm hB hk1 hS => ?_)
  obtain ⟨q2, cA3, hP1, hK1, hD1⟩ := hB
  rw [ht] at hP1
  have hK1 := va_K.moved hvm.symm hK1
  obtain ⟨hP2, hD2⟩ := joinL hP hD hk1 hFc hP1 hD1
  have hK := hK.app hK1
  clear hFc hP1 hD1 hk1 ht hvm
  generalize H1 = H at hP2 hS ⊢
  have hK : va_K (dC, dI) CLS [(cA3, .int)] s := hK
  clear hP hD
  have hP := hP2
  have hD := hD2
  clear hP2 hD2
  refine va_putF (D := (dC, dI)) (ci := 6) (v := .ref q1) (C := RX7) (T := TX7) (N := 5) hx hb hts iwX7 tyX7 tyX7_ok nmX7 hown hK hP hD hS 0 rfl rfl 4 (by decide) (hts _ mw_310) (fun _ h9 => h9) rfl hin rfl (tyX7_ok 4 (by decide)) rfl rfl (Nat.le_of_ble_eq_true rfl) dX7_init_12 (fun H locs hP2 hD2 hS => ?_)
  clear hP hD
  have hP := hP2
  have hD := hD2
  clear hP2 hD2
  refine W.widen (k := 2) (n := 27) (Nat.le_of_ble_eq_true rfl) (Nat.le_of_ble_eq_true rfl) ?_
  exact W.vret hx hb hr (fun t ht hW => ⟨⟨(), rfl, trivial, q1, q2, cA3, by rw [ht]; exact hP, va_K.moved hW.alike hK, hD⟩, hS.F ht⟩) hS.2.2 dX7_init_15
theorem dX0_init_0 : decode cX0_init 0 = .ok (.aload_n 0, 1) := by decide +kernel
theorem dX0_init_1 : decode cX0_init 1 = .ok (.invokespecial 3, 3) := by decide +kernel
theorem dX0_init_4 : decode cX0_init 4 = .ok (.aload_n 0, 1) := by decide +kernel
theorem dX0_init_5 : decode cX0_init 5 = .ok (.bipush 6, 2) := by decide +kernel
theorem dX0_init_7 : decode cX0_init 7 = .ok (.newarray .int, 2) := by decide +kernel
theorem dX0_init_9 : decode cX0_init 9 = .ok (.putfield 9, 3) := by decide +kernel
theorem dX0_init_12 : decode cX0_init 12 = .ok (.aload_n 0, 1) := by decide +kernel
theorem dX0_init_13 : decode cX0_init 13 = .ok (.bipush 7, 2) := by decide +kernel
theorem dX0_init_15 : decode cX0_init 15 = .ok (.bipush 64, 2) := by decide +kernel
theorem dX0_init_17 : decode cX0_init 17 = .ok (.multianewarray 15 2, 4) := by decide +kernel
theorem dX0_init_21 : decode cX0_init 21 = .ok (.putfield 17, 3) := by decide +kernel
theorem dX0_init_24 : decode cX0_init 24 = .ok (.aload_n 0, 1) := by decide +kernel
theorem dX0_init_25 : decode cX0_init 25 = .ok (.bipush 6, 2) := by decide +kernel
theorem dX0_init_27 : decode cX0_init 27 = .ok (.newarray .int, 2) := by decide +kernel
theorem dX0_init_29 : decode cX0_init 29 = .ok (.putfield 20, 3) := by decide +kernel
theorem dX0_init_32 : decode cX0_init 32 = .ok (.return_, 1) := by decide +kernel
theorem okd_X0_init : yX0_init.cls ≠ "java/lang/invoke/MethodHandle" ∧ yX0_init.cls ≠ "java/lang/invoke/VarHandle" ∧ (parseMethodDescriptor yX0_init.desc).map (fun d => d.parameters.length) = some 0 := by decide +kernel
abbrev rm_X0_init : Room := { frames := 1, cells := 10, slots := 467, locals := 12 }
set_option maxHeartbeats 4000000 in
set_option maxRecDepth 100000 in
theorem k_X0_init (l : Launch) (dC : Nat → ClassId) (dI : Nat → Nat → Nat) (h0 sz : Nat) : Met l yX0_init (wsOf yX0_init cX0_init 1 none) rm_X0_init (va_Pc [.ref h0] (fun U => U.heap.size = sz ∧ va_P (dC, dI) CLS [(h0, eO 0 [.null, .int 0, .null, .null])] U.heap ∧ va_K (dC, dI) CLS [] U ∧ va_D (fun _ => True) [(h0, eO 0 [.null, .int 0, .null, .null])] ∧ NK U)) (va_Qv (fun _ : Unit => True) (fun _ t => ∃ (q1 : Nat) (r5 : Nat → Nat) (q3 : Nat) (q6 : Nat) (cA2 : ClassId) (cA4 : ClassId), va_P (dC, dI) CLS [(h0, eO 0 [.ref q1, .int 0, .ref q3, .ref q6]), (q1, eI cA2 6 (fun _ => 0)), (q3, eQ cA4 7 (fun i => if i < 7 then some (r5 i) else none)), ((r5 0), eI cA2 64 (fun _ => 0)), ((r5 1), eI cA2 64 (fun _ => 0)), ((r5 2), eI cA2 64 (fun _ => 0)), ((r5 3), eI cA2 64 (fun _ => 0)), ((r5 4), eI cA2 64 (fun _ => 0)), ((r5 5), eI cA2 64 (fun _ => 0)), ((r5 6), eI cA2 64 (fun _ => 0)), (q6, eI cA2 6 (fun _ => 0))] t.heap ∧ va_K (dC, dI) CLS [(cA2, .int), (cA4, .array .int)] t ∧ va_D (va_A [(h0, eO 0 [.null, .int 0, .null, .null])] sz) [(h0, eO 0 [.ref q1, .int 0, .ref q3, .ref q6]), (q1, eI cA2 6 (fun _ => 0)), (q3, eQ cA4 7 (fun i => if i < 7 then some (r5 i) else none)), ((r5 0), eI cA2 64 (fun _ => 0)), ((r5 1), eI cA2 64 (fun _ => 0)), ((r5 2), eI cA2 64 (fun _ => 0)), ((r5 3), eI cA2 64 (fun _ => 0)), ((r5 4), eI cA2 64 (fun _ => 0)), ((r5 5), eI cA2 64 (fun _ => 0)), ((r5 6), eI cA2 64 (fun _ => 0)), (q6, eI cA2 6 (fun _ => 0))]) (va_A [(h0, eO 0 [.null, .int 0, .null, .null])] sz)) 10 467 (va_A [(h0, eO 0 [.null, .int 0, .null, .null])] sz) := by
  refine Met.ofW (cc := cX0_init) (maxL := 1) (ret := none) (by decide) rfl ?_
  intro p e s m args below meth c s₁ B hml hv
  obtain ⟨rfl, hsz, hP, hK, hD0, hN⟩ := hv
  have hx := B.exec
  have hb := B.bytes
  have hr := B.returns
  have hts0 := atoms_spec (ws := wsOf yX0_init cX0_init 1 none) B.pre
  have hts : ∀ w ∈ WT, w.before _ s = true := fun w hw => hts0 w (List.mem_cons_of_mem _ hw)
  have hown : s.vm.findClass RX0 = some m.cls := findClass_of_methodNamed B.named
  have hlocks := B.notSynchronized
  have hin : meth.name = "<init>" := (name_of_methodNamed B.named B.method).1
  subst hsz
  have hD := hD0.self (sz := s.heap.size)
  generalize hAe : va_A [(h0, eO 0 [.null, .int 0, .null, .null])] s.heap.size = A at hD ⊢
  have hA : ∀ q : Nat, s.heap.size ≤ q → A q := fun q h => by rw [← hAe]; exact Or.inr h
  have hS : va_S A s.heap s.heap [] := va_S.rf
  have hl := lv_entry ([.ref h0]) (n := 1) (Nat.le_of_ble_eq_true rfl)
  rw [lg_entry_eq]
  generalize (lg_sl ([.ref h0]) ++ List.replicate (1 - (lg_sl ([.ref h0])).length) Slot.unset).toArray = ls at hl ⊢
  have hl : lv_has ls 1 [(0, .ref h0)] := hl
  have hP : va_P (dC, dI) CLS [(h0, eO 0 [.null, .int 0, .null, .null])] s.heap := hP
  refine lv_aload_n hx hb dX0_init_0 rfl (lv_at hl 0 rfl) ?_
  refine W.objInit hx hb hown (hts _ mw_224) (hts _ mw_99) (hts _ mw_100) rfl (by rw [hml]; exact hl.1) rfl dX0_init_1 (Nat.le_of_ble_eq_true rfl) (Nat.le_of_ble_eq_true rfl) ?_
  refine W.eq (g2 := F0 m 4 ls []) rfl ?_
  refine lv_aload_n hx hb dX0_init_4 rfl (lv_at hl 0 rfl) ?_
  refine lv_bipush (v := 6) hx hb dX0_init_5 (by decide) ?_
  refine va_newa (atype := .int) (a0 := (6, .inl (fun _ => 0))) (N' := 6) (n := 6) hx hb (hts _ mw_130) rfl hK hP hD hS hA (fun cA => rfl) (by decide) (by decide) (Nat.le_of_ble_eq_true rfl) (Nat.le_of_ble_eq_true rfl) (Nat.le_of_ble_eq_true rfl) dX0_init_7 (fun q1 cA2 H hK hP2 hD2 hS => ?_)
  have hK : va_K (dC, dI) CLS [(cA2, .int)] s := hK
  clear hP hD
  have hP := hP2
  have hD := hD2
  clear hP2 hD2
  refine va_putF (D := (dC, dI)) (ci := 0) (v := .ref q1) (C := RX0) (T := TX0) (N := 4) hx hb hts iwX0 tyX0 tyX0_ok nmX0 hown hK hP hD hS 0 rfl rfl 0 (by decide) (hts _ mw_226) (fun _ h9 => h9) rfl hin rfl (tyX0_ok 0 (by decide)) rfl rfl (Nat.le_of_ble_eq_true rfl) dX0_init_9 (fun H locs hP2 hD2 hS => ?_)
  clear hP hD
  have hP := hP2
  have hD := hD2
  clear hP2 hD2
  refine lv_aload_n hx hb dX0_init_12 rfl (lv_at hl 0 rfl) ?_
  refine lv_bipush (v := 7) hx hb dX0_init_13 (by decide) ?_
  refine lv_bipush (v := 64) hx hb dX0_init_15 (by decide) ?_
  refine va_mna (X := [(h0, eO 0 [.ref q1, .int 0, .null, .null]), (q1, eI cA2 6 (fun _ => 0))]) (L := []) (f := fun _ => .inl (cA2, 0, .inl (fun _ => 0))) (ty := .int) (cy := cA2) (N' := 7) (K' := 64) (n := 7) (k := 64) (z := (64, .inl (fun _ => 0))) hx hb hown (hts _ mw_225) hN.2.2.2.2 (hts _ mw_130) (hK.2 0 _ rfl).2 hK (by rw [va_pl]; simpa using hP) (by rw [va_pl]; simpa using hD) hS hA (by decide) (by decide) (by decide) (by decide) (Nat.le_of_ble_eq_true rfl) (Nat.le_of_ble_eq_true rfl) (Nat.le_of_ble_eq_true rfl) rfl rfl (Nat.le_of_ble_eq_true rfl) (Nat.le_of_ble_eq_true rfl) (fun c => by show _ = vp_cell c (64, _); simp [Jvm.Free.Multi.innerC, vp_cell, arrV_new, defaultValue]) dX0_init_17 (fun q3 r5 cA4 H hri hrn hK hP2 hD2 hS => ?_)
  have hP : va_P (dC, dI) CLS [(h0, eO 0 [.ref q1, .int 0, .null, .null]), (q1, eI cA2 6 (fun _ => 0)), (q3, eQ cA4 7 (fun i => if i < 7 then some (r5 i) else none)), ((r5 0), eI cA2 64 (fun _ => 0)), ((r5 1), eI cA2 64 (fun _ => 0)), ((r5 2), eI cA2 64 (fun _ => 0)), ((r5 3), eI cA2 64 (fun _ => 0)), ((r5 4), eI cA2 64 (fun _ => 0)), ((r5 5), eI cA2 64 (fun _ => 0)), ((r5 6), eI cA2 64 (fun _ => 0))] H := by simpa [va_pl, vr_up, List.range, List.range.loop] using hP2
  have hD : va_D A [(h0, eO 0 [.ref q1, .int 0, .null, .null]), (q1, eI cA2 6 (fun _ => 0)), (q3, eQ cA4 7 (fun i => if i < 7 then some (r5 i) else none)), ((r5 0), eI cA2 64 (fun _ => 0)), ((r5 1), eI cA2 64 (fun _ => 0)), ((r5 2), eI cA2 64 (fun _ => 0)), ((r5 3), eI cA2 64 (fun _ => 0)), ((r5 4), eI cA2 64 (fun _ => 0)), ((r5 5), eI cA2 64 (fun _ => 0)), ((r5 6), eI cA2 64 (fun _ => 0))] := by simpa [va_pl, vr_up, List.range, List.range.loop] using hD2
  have hK : va_K (dC, dI) CLS [(cA2, .int), (cA4, .array .int)] s := hK
  refine va_putF (D := (dC, dI)) (ci := 0) (v := .ref q3) (C := RX0) (T := TX0) (N := 4) hx hb hts iwX0 tyX0 tyX0_ok nmX0 hown hK hP hD hS 0 rfl rfl 2 (by decide) (hts _ mw_228) (fun _ h9 => h9) rfl hin rfl (tyX0_ok 2 (by decide)) rfl rfl (Nat.le_of_ble_eq_true rfl) dX0_init_21 (fun H locs hP2 hD2 hS => ?_)
  clear hP hD
  have hP := hP2
  have hD := hD2
  clear hP2 hD2
  refine lv_aload_n hx hb dX0_init_24 rfl (lv_at hl 0 rfl) ?_
  refine lv_bipush (v := 6) hx hb dX0_init_25 (by decide) ?_
  refine va_newa (atype := .int) (a0 := (6, .inl (fun _ => 0))) (N' := 6) (n := 6) hx hb (hts _ mw_130) rfl hK hP hD hS hA (fun cA => rfl) (by decide) (by decide) (Nat.le_of_ble_eq_true rfl) (Nat.le_of_ble_eq_true rfl) (Nat.le_of_ble_eq_true rfl) dX0_init_27 (fun q6 cA7 H hK hP2 hD2 hS => ?_)
  obtain rfl : cA2 = cA7 := tysame hK (i := 0) (j := 2) rfl rfl
  have hK := hK.sub (tys' := [(cA2, .int), (cA4, .array .int)]) [0, 1] rfl
  clear hP hD
  have hP := hP2
  have hD := hD2
  clear hP2 hD2
  refine va_putF (D := (dC, dI)) (ci := 0) (v := .ref q6) (C := RX0) (T := TX0) (N := 4) hx hb hts iwX0 tyX0 tyX0_ok nmX0 hown hK hP hD hS 0 rfl rfl 3 (by decide) (hts _ mw_229) (fun _ h9 => h9) rfl hin rfl (tyX0_ok 3 (by decide)) rfl rfl (Nat.le_of_ble_eq_true rfl) dX0_init_29 (fun H locs hP2 hD2 hS => ?_)
  clear hP hD
  have hP := hP2
  have hD := hD2
  clear hP2 hD2
  refine W.widen (k := 10) (n := 467) (Nat.le_of_ble_eq_true rfl) (Nat.le_of_ble_eq_true rfl) ?_
  exact W.vret hx hb hr (fun t ht hW => ⟨⟨(), rfl, trivial, q1, r5, q3, q6, cA2, cA4, by rw [ht]; exact hP, va_K.moved hW.alike hK, hD⟩, hS.F ht⟩) hS.2.2 dX0_init_32
theorem dX1_init_0 : decode cX1_init 0 = .ok (.aload_n 0, 1) := by decide +kernel
theorem dX1_init_1 : decode cX1_init 1 = .ok (.invokespecial 3, 3) := by decide +kernel
theorem dX1_init_4 : decode cX1_init 4 = .ok (.aload_n 0, 1) := by decide +kernel
theorem dX1_init_5 : decode cX1_init 5 = .ok (.bipush 12, 2) := by decide +kernel
theorem dX1_init_7 : decode cX1_init 7 = .ok (.newarray .int, 2) := by decide +kernel
theorem dX1_init_9 : decode cX1_init 9 = .ok (.putfield 9, 3) := by decide +kernel
theorem dX1_init_12 : decode cX1_init 12 = .ok (.aload_n 0, 1) := by decide +kernel
theorem dX1_init_13 : decode cX1_init 13 = .ok (.bipush 12, 2) := by decide +kernel
theorem dX1_init_15 : decode cX1_init 15 = .ok (.newarray .int, 2) := by decide +kernel
theorem dX1_init_17 : decode cX1_init 17 = .ok (.putfield 15, 3) := by decide +kernel
theorem dX1_init_20 : decode cX1_init 20 = .ok (.aload_n 0, 1) := by decide +kernel
theorem dX1_init_21 : decode cX1_init 21 = .ok (.bipush 12, 2) := by decide +kernel
theorem dX1_init_23 : decode cX1_init 23 = .ok (.newarray .int, 2) := by decide +kernel
theorem dX1_init_25 : decode cX1_init 25 = .ok (.putfield 18, 3) := by decide +kernel
theorem dX1_init_28 : decode cX1_init 28 = .ok (.aload_n 0, 1) := by decide +kernel
theorem dX1_init_29 : decode cX1_init 29 = .ok (.bipush 12, 2) := by decide +kernel
theorem dX1_init_31 : decode cX1_init 31 = .ok (.newarray .int, 2) := by decide +kernel
theorem dX1_init_33 : decode cX1_init 33 = .ok (.putfield 21, 3) := by decide +kernel
theorem dX1_init_36 : decode cX1_init 36 = .ok (.aload_n 0, 1) := by decide +kernel
theorem dX1_init_37 : decode cX1_init 37 = .ok (.bipush 12, 2) := by decide +kernel
theorem dX1_init_39 : decode cX1_init 39 = .ok (.newarray .int, 2) := by decide +kernel
theorem dX1_init_41 : decode cX1_init 41 = .ok (.putfield 24, 3) := by decide +kernel
theorem dX1_init_44 : decode cX1_init 44 = .ok (.aload_n 0, 1) := by decide +kernel
theorem dX1_init_45 : decode cX1_init 45 = .ok (.bipush 12, 2) := by decide +kernel
theorem dX1_init_47 : decode cX1_init 47 = .ok (.newarray .int, 2) := by decide +kernel
theorem dX1_init_49 : decode cX1_init 49 = .ok (.putfield 27, 3) := by decide +kernel
theorem dX1_init_52 : decode cX1_init 52 = .ok (.aload_n 0, 1) := by decide +kernel
theorem dX1_init_53 : decode cX1_init 53 = .ok (.bipush 12, 2) := by decide +kernel
theorem dX1_init_55 : decode cX1_init 55 = .ok (.newarray .int, 2) := by decide +kernel
theorem dX1_init_57 : decode cX1_init 57 = .ok (.putfield 30, 3) := by decide +kernel
theorem dX1_init_60 : decode cX1_init 60 = .ok (.aload_n 0, 1) := by decide +kernel
theorem dX1_init_61 : decode cX1_init 61 = .ok (.iconst 2, 1) := by decide +kernel
theorem dX1_init_62 : decode cX1_init 62 = .ok (.newarray .int, 2) := by decide +kernel
theorem dX1_init_64 : decode cX1_init 64 = .ok (.putfield 33, 3) := by decide +kernel
theorem dX1_init_67 : decode cX1_init 67 = .ok (.aload_n 0, 1) := by decide +kernel
theorem dX1_init_68 : decode cX1_init 68 = .ok (.aload_n 1, 1) := by decide +kernel
theorem dX1_init_69 : decode cX1_init 69 = .ok (.putfield 36, 3) := by decide +kernel
theorem dX1_init_72 : decode cX1_init 72 = .ok (.iconst 0, 1) := by decide +kernel
theorem dX1_init_73 : decode cX1_init 73 = .ok (.istore_n 2, 1) := by decide +kernel
theorem dX1_init_74 : decode cX1_init 74 = .ok (.iload_n 2, 1) := by decide +kernel
theorem dX1_init_75 : decode cX1_init 75 = .ok (.bipush 12, 2) := by decide +kernel
theorem dX1_init_77 : decode cX1_init 77 = .ok (.if_icmp .ge 24, 3) := by decide +kernel
theorem dX1_init_80 : decode cX1_init 80 = .ok (.aload_n 0, 1) := by decide +kernel
theorem dX1_init_81 : decode cX1_init 81 = .ok (.getfield 24, 3) := by decide +kernel
theorem dX1_init_84 : decode cX1_init 84 = .ok (.iload_n 2, 1) := by decide +kernel
theorem dX1_init_85 : decode cX1_init 85 = .ok (.iconst 3, 1) := by decide +kernel
theorem dX1_init_86 : decode cX1_init 86 = .ok (.iastore, 1) := by decide +kernel
theorem dX1_init_87 : decode cX1_init 87 = .ok (.aload_n 0, 1) := by decide +kernel
theorem dX1_init_88 : decode cX1_init 88 = .ok (.getfield 30, 3) := by decide +kernel
theorem dX1_init_91 : decode cX1_init 91 = .ok (.iload_n 2, 1) := by decide +kernel
theorem dX1_init_92 : decode cX1_init 92 = .ok (.ldc 40, 2) := by decide +kernel
theorem dX1_init_94 : decode cX1_init 94 = .ok (.iastore, 1) := by decide +kernel
theorem dX1_init_95 : decode cX1_init 95 = .ok (.iinc 2 1, 3) := by decide +kernel
theorem dX1_init_98 : decode cX1_init 98 = .ok (.goto (-24), 3) := by decide +kernel
theorem dX1_init_101 : decode cX1_init 101 = .ok (.aload_n 0, 1) := by decide +kernel
theorem dX1_init_102 : decode cX1_init 102 = .ok (.getfield 33, 3) := by decide +kernel
theorem dX1_init_105 : decode cX1_init 105 = .ok (.iconst 0, 1) := by decide +kernel
theorem dX1_init_106 : decode cX1_init 106 = .ok (.bipush 12, 2) := by decide +kernel
theorem dX1_init_108 : decode cX1_init 108 = .ok (.iastore, 1) := by decide +kernel
theorem dX1_init_109 : decode cX1_init 109 = .ok (.aload_n 0, 1) := by decide +kernel
theorem dX1_init_110 : decode cX1_init 110 = .ok (.getfield 33, 3) := by decide +kernel
theorem dX1_init_113 : decode cX1_init 113 = .ok (.iconst 1, 1) := by decide +kernel
theorem dX1_init_114 : decode cX1_init 114 = .ok (.bipush 12, 2) := by decide +kernel
theorem dX1_init_116 : decode cX1_init 116 = .ok (.iastore, 1) := by decide +kernel
theorem dX1_init_117 : decode cX1_init 117 = .ok (.aload_n 0, 1) := by decide +kernel
theorem dX1_init_118 : decode cX1_init 118 = .ok (.bipush 40, 2) := by decide +kernel
theorem dX1_init_120 : decode cX1_init 120 = .ok (.putfield 41, 3) := by decide +kernel
theorem dX1_init_123 : decode cX1_init 123 = .ok (.aload_n 0, 1) := by decide +kernel
theorem dX1_init_124 : decode cX1_init 124 = .ok (.iconst 1, 1) := by decide +kernel
theorem dX1_init_125 : decode cX1_init 125 = .ok (.putfield 45, 3) := by decide +kernel
theorem dX1_init_128 : decode cX1_init 128 = .ok (.return_, 1) := by decide +kernel
theorem okd_X1_init : yX1_init.cls ≠ "java/lang/invoke/MethodHandle" ∧ yX1_init.cls ≠ "java/lang/invoke/VarHandle" ∧ (parseMethodDescriptor yX1_init.desc).map (fun d => d.parameters.length) = some 1 := by decide +kernel
abbrev rm_X1_init : Room := { frames := 1, cells := 8, slots := 86, locals := 12 }
set_option maxHeartbeats 4000000 in
set_option maxRecDepth 100000 in
theorem sg_X1_init_8 {p : Program} {l : Launch} {e : Env} {s : State} {m : MethodId} {args : Array Value} {below : List Frame} {meth : Method} {c : Code} (dC : Nat → ClassId) (dI : Nat → Nat → Nat) {A : Nat → Prop} (h0 : Nat) (p0 : Nat) (q1 : Nat) (q3 : Nat) (q5 : Nat) (q7 : Nat) (q9 : Nat) (q11 : Nat) (q13 : Nat) (q15 : Nat) (cA2 : ClassId) (hx : p.tables.exec = Jvm.exec) (hb : c.code = cX1_init) (hr : meth.sig.returnType = none) (hts : ∀ w ∈ WT, w.before args s = true) (hown : s.vm.findClass RX1 = some m.cls) (hml : c.maxLocals = 3) (hlocks : meth.locks = false) (hin : meth.name = "<init>") (hN : NK s) (hA : ∀ q : Nat, s.heap.size ≤ q → A q) {H : Heap} {locs : List Loc} {ls : Array Slot} (hK : va_K (dC, dI) CLS [(cA2, .int)] s) (hP : va_P (dC, dI) CLS [(h0, eO 1 [.ref p0, .ref q1, .ref q3, .ref q5, .ref q7, .ref q9, .ref q11, .ref q13, .ref q15, .int 0, .int 0, .int 0, .int 0, .int 0, .int 0, .int 0, .int 0]), (q1, eI cA2 12 (fun _ => 0)), (q3, eI cA2 12 (fun _ => 0)), (q5, eI cA2 12 (fun _ => 0)), (q7, eI cA2 12 (fun _ => 0)), (q9, eI cA2 12 (upd (upd (upd (upd (upd (upd (upd (upd (upd (upd (upd (upd (fun _ => 0) 0 3) 1 3) 2 3) 3 3) 4 3) 5 3) 6 3) 7 3) 8 3) 9 3) 10 3) 11 3)), (q11, eI cA2 12 (fun _ => 0)), (q13, eI cA2 12 (upd (upd (upd (upd (upd (upd (upd (upd (upd (upd (upd (upd (fun _ => 0) 0 (-1000000005)) 1 (-1000000005)) 2 (-1000000005)) 3 (-1000000005)) 4 (-1000000005)) 5 (-1000000005)) 6 (-1000000005)) 7 (-1000000005)) 8 (-1000000005)) 9 (-1000000005)) 10 (-1000000005)) 11 (-1000000005))), (q15, eI cA2 2 (fun _ => 0))] H) (hD : va_D A [(h0, eO 1 [.ref p0, .ref q1, .ref q3, .ref q5, .ref q7, .ref q9, .ref q11, .ref q13, .ref q15, .int 0, .int 0, .int 0, .int 0, .int 0, .int 0, .int 0, .int 0]), (q1, eI cA2 12 (fun _ => 0)), (q3, eI cA2 12 (fun _ => 0)), (q5, eI cA2 12 (fun _ => 0)), (q7, eI cA2 12 (fun _ => 0)), (q9, eI cA2 12 (upd (upd (upd (upd (upd (upd (upd (upd (upd (upd (upd (upd (fun _ => 0) 0 3) 1 3) 2 3) 3 3) 4 3) 5 3) 6 3) 7 3) 8 3) 9 3) 10 3) 11 3)), (q11, eI cA2 12 (fun _ => 0)), (q13, eI cA2 12 (upd (upd (upd (upd (upd (upd (upd (upd (upd (upd (upd (upd (fun _ => 0) 0 (-1000000005)) 1 (-1000000005)) 2 (-1000000005)) 3 (-1000000005)) 4 (-1000000005)) 5 (-1000000005)) 6 (-1000000005)) 7 (-1000000005)) 8 (-1000000005)) 9 (-1000000005)) 10 (-1000000005)) 11 (-1000000005))), (q15, eI cA2 2 (fun _ => 0))]) (hS : va_S A s.heap H locs) (hl : lv_has ls 3 [(2, .int 11), (0, .ref h0), (1, .ref p0)]) : W p l e rm_X1_init s m args below meth c H locs 8 86 (MQ below (va_Qv (fun _ : Unit => True) (fun _ t => ∃ (q1 : Nat) (q3 : Nat) (q5 : Nat) (q7 : Nat) (q9 : Nat) (q11 : Nat) (q13 : Nat) (q15 : Nat) (cA2 : ClassId), va_P (dC, dI) CLS [(h0, eO 1 [.ref p0, .ref q1, .ref q3, .ref q5, .ref q7, .ref q9, .ref q11, .ref q13, .ref q15, .int 0, .int 40, .int 0, .int 0, .int 0, .int 0, .int 1, .int 0]), (q1, eI cA2 12 (fun _ => 0)), (q3, eI cA2 12 (fun _ => 0)), (q5, eI cA2 12 (fun _ => 0)), (q7, eI cA2 12 (fun _ => 0)), (q9, eI cA2 12 (upd (upd (upd (upd (upd (upd (upd (upd (upd (upd (upd (upd (fun _ => 0) 0 3) 1 3) 2 3) 3 3) 4 3) 5 3) 6 3) 7 3) 8 3) 9 3) 10 3) 11 3)), (q11, eI cA2 12 (fun _ => 0)), (q13, eI cA2 12 (upd (upd (upd (upd (upd (upd (upd (upd (upd (upd (upd (upd (fun _ => 0) 0 (-1000000005)) 1 (-1000000005)) 2 (-1000000005)) 3 (-1000000005)) 4 (-1000000005)) 5 (-1000000005)) 6 (-1000000005)) 7 (-1000000005)) 8 (-1000000005)) 9 (-1000000005)) 10 (-1000000005)) 11 (-1000000005))), (q15, eI cA2 2 (upd (upd (fun _ => 0) 0 12) 1 12))] t.heap ∧ va_K (dC, dI) CLS [(cA2, .int)] t ∧ va_D A [(h0, eO 1 [.ref p0, .ref q1, .ref q3, .ref q5, .ref q7, .ref q9, .ref q11, .ref q13, .ref q15, .int 0, .int 40, .int 0, .int 0, .int 0, .int 0, .int 1, .int 0]), (q1, eI cA2 12 (fun _ => 0)), (q3, eI cA2 12 (fun _ => 0)), (q5, eI cA2 12 (fun _ => 0)), (q7, eI cA2 12 (fun _ => 0)), (q9, eI cA2 12 (upd (upd (upd (upd (upd (upd (upd (upd (upd (upd (upd (upd (fun _ => 0) 0 3) 1 3) 2 3) 3 3) 4 3) 5 3) 6 3) 7 3) 8 3) 9 3) 10 3) 11 3)), (q11, eI cA2 12 (fun _ => 0)), (q13, eI cA2 12 (upd (upd (upd (upd (upd (upd (upd (upd (upd (upd (upd (upd (fun _ => 0) 0 (-1000000005)) 1 (-1000000005)) 2 (-1000000005)) 3 (-1000000005)) 4 (-1000000005)) 5 (-1000000005)) 6 (-1000000005)) 7 (-1000000005)) 8 (-1000000005)) 9 (-1000000005)) 10 (-1000000005)) 11 (-1000000005))), (q15, eI cA2 2 (upd (upd (fun _ => 0) 0 12) 1 12))]) A) args s 8 86 A) (F0 m 95 ls []) := by
  refine lv_iinc (v := 12) (lv' := [(2, .int 12), (0, .ref h0), (1, .ref p0)]) hx hb dX1_init_95 hl (k := 0) rfl (by decide) (by decide) rfl (fun ls hl => ?_)
  refine lv_goto (tgt := 74) hx hb dX1_init_98 (by decide) ?_
  refine lv_iload_n hx hb dX1_init_74 rfl (lv_at hl 0 rfl) ?_
  refine lv_bipush (v := 12) hx hb dX1_init_75 (by decide) ?_
  refine lv_icmp_ge (tgt := 101) hx hb dX1_init_77 (by decide) (fun _ => ?_) (fun q => absurd (by decide) q)
  refine lv_aload_n hx hb dX1_init_101 rfl (lv_at hl 1 rfl) ?_
  refine va_get (D := (dC, dI)) (ci := 1) (v := .ref q15) (C := RX1) (T := TX1) (N := 17) hx hb hts iwX1 hown hK hP 0 rfl rfl 8 (by decide) (hts _ mw_164) (fun _ h9 => h9) rfl dX1_init_102 ?_
  refine lv_iconst (v := 0) hx hb dX1_init_105 (by decide) ?_
  refine lv_bipush (v := 12) hx hb dX1_init_106 (by decide) ?_
  refine va_iast (i := 0) (x := 12) hx hb hK hP hD hS 8 0 rfl rfl (by show ¬ (_ ∨ _); decide) dX1_init_108 (fun H locs hP2 hD2 hS => ?_)
  clear hP hD
  have hP := hP2
  have hD := hD2
  clear hP2 hD2
  refine lv_aload_n hx hb dX1_init_109 rfl (lv_at hl 1 rfl) ?_
  refine va_get (D := (dC, dI)) (ci := 1) (v := .ref q15) (C := RX1) (T := TX1) (N := 17) hx hb hts iwX1 hown hK hP 0 rfl rfl 8 (by decide) (hts _ mw_164) (fun _ h9 => h9) rfl dX1_init_110 ?_
  refine lv_iconst (v := 1) hx hb dX1_init_113 (by decide) ?_
  refine lv_bipush (v := 12) hx hb dX1_init_114 (by decide) ?_
  refine va_iast (i := 1) (x := 12) hx hb hK hP hD hS 8 0 rfl rfl (by show ¬ (_ ∨ _); decide) dX1_init_116 (fun H locs hP2 hD2 hS => ?_)
  clear hP hD
  have hP := hP2
  have hD := hD2
  clear hP2 hD2
  refine lv_aload_n hx hb dX1_init_117 rfl (lv_at hl 1 rfl) ?_
  refine lv_bipush (v := 40) hx hb dX1_init_118 (by decide) ?_
  refine va_put (D := (dC, dI)) (ci := 1) (v := .int 40) (C := RX1) (T := TX1) (N := 17) hx hb hts iwX1 tyX1 tyX1_ok nmX1 hown hK hP hD hS 0 rfl rfl 10 (by decide) (hts _ mw_169) (fun _ h9 => h9) rfl (tyX1_ok 10 (by decide)) rfl rfl (Nat.le_of_ble_eq_true rfl) dX1_init_120 (fun H locs hP2 hD2 hS => ?_)
  clear hP hD
  have hP := hP2
  have hD := hD2
  clear hP2 hD2
  refine lv_aload_n hx hb dX1_init_123 rfl (lv_at hl 1 rfl) ?_
  refine lv_iconst (v := 1) hx hb dX1_init_124 (by decide) ?_
  refine va_put (D := (dC, dI)) (ci := 1) (v := .int 1) (C := RX1) (T := TX1) (N := 17) hx hb hts iwX1 tyX1 tyX1_ok nmX1 hown hK hP hD hS 0 rfl rfl 15 (by decide) (hts _ mw_180) (fun _ h9 => h9) rfl (tyX1_ok 15 (by decide)) rfl rfl (Nat.le_of_ble_eq_true rfl) dX1_init_125 (fun H locs hP2 hD2 hS => ?_)
  clear hP hD
  have hP := hP2
  have hD := hD2
  clear hP2 hD2
  refine W.widen (k := 8) (n := 86) (Nat.le_of_ble_eq_true rfl) (Nat.le_of_ble_eq_true rfl) ?_
  exact W.vret hx hb hr (fun t ht hW => ⟨⟨(), rfl, trivial, q1, q3, q5, q7, q9, q11, q13, q15, cA2, by rw [ht]; exact hP, va_K.moved hW.alike hK, hD⟩, hS.F ht⟩) hS.2.2 dX1_init_128
set_option maxHeartbeats 4000000 in
set_option maxRecDepth 100000 in
theorem sg_X1_init_7 {p : Program} {l : Launch} {e : Env} {s : State} {m : MethodId} {args : Array Value} {below : List Frame} {meth : Method} {c : Code} (dC : Nat → ClassId) (dI : Nat → Nat → Nat) {A : Nat → Prop} (h0 : Nat) (p0 : Nat) (q1 : Nat) (q3 : Nat) (q5 : Nat) (q7 : Nat) (q9 : Nat) (q11 : Nat) (q13 : Nat) (q15 : Nat) (cA2 : ClassId) (hx : p.tables.exec = Jvm.exec) (hb : c.code = cX1_init) (hr : meth.sig.returnType = none) (hts : ∀ w ∈ WT, w.before args s = true) (hown : s.vm.findClass RX1 = some m.cls) (hml : c.maxLocals = 3) (hlocks : meth.locks = false) (hin : meth.name = "<init>") (hN : NK s) (hA : ∀ q : Nat, s.heap.size ≤ q → A q) {H : Heap} {locs : List Loc} {ls : Array Slot} (hK : va_K (dC, dI) CLS [(cA2, .int)] s) (hP : va_P (dC, dI) CLS [(h0, eO 1 [.ref p0, .ref q1, .ref q3, .ref q5, .ref q7, .ref q9, .ref q11, .ref q13, .ref q15, .int 0, .int 0, .int 0, .int 0, .int 0, .int 0, .int 0, .int 0]), (q1, eI cA2 12 (fun _ => 0)), (q3, eI cA2 12 (fun _ => 0)), (q5, eI cA2 12 (fun _ => 0)), (q7, eI cA2 12 (fun _ => 0)), (q9, eI cA2 12 (upd (upd (upd (upd (upd (upd (upd (upd (upd (upd (fun _ => 0) 0 3) 1 3) 2 3) 3 3) 4 3) 5 3) 6 3) 7 3) 8 3) 9 3)), (q11, eI cA2 12 (fun _ => 0)), (q13, eI cA2 12 (upd (upd (upd (upd (upd (upd (upd (upd (upd (upd (fun _ => 0) 0 (-1000000005)) 1 (-1000000005)) 2 (-1000000005)) 3 (-1000000005)) 4 (-1000000005)) 5 (-1000000005)) 6 (-1000000005)) 7 (-1000000005)) 8 (-1000000005)) 9 (-1000000005))), (q15, eI cA2 2 (fun _ => 0))] H) (hD : va_D A [(h0, eO 1 [.ref p0, .ref q1, .ref q3, .ref q5, .ref q7, .ref q9, .ref q11, .ref q13, .ref q15, .int 0, .int 0, .int 0, .int 0, .int 0, .int 0, .int 0, .int 0]), (q1, eI cA2 12 (fun _ => 0)), (q3, eI cA2 12 (fun _ => 0)), (q5, eI cA2 12 (fun _ => 0)), (q7, eI cA2 12 (fun _ => 0)), (q9, eI cA2 12 (upd (upd (upd (upd (upd (upd (upd (upd (upd (upd (fun _ => 0) 0 3) 1 3) 2 3) 3 3) 4 3) 5 3) 6 3) 7 3) 8 3) 9 3)), (q11, eI cA2 12 (fun _ => 0)), (q13, eI cA2 12 (upd (upd (upd (upd (upd (upd (upd (upd (upd (upd (fun _ => 0) 0 (-1000000005)) 1 (-1000000005)) 2 (-1000000005)) 3 (-1000000005)) 4 (-1000000005)) 5 (-1000000005)) 6 (-1000000005)) 7 (-1000000005)) 8 (-1000000005)) 9 (-1000000005))), (q15, eI cA2 2 (fun _ => 0))]) (hS : va_S A s.heap H locs) (hl : lv_has ls 3 [(2, .int 9), (0, .ref h0), (1, .ref p0)]) : W p l e rm_X1_init s m args below meth c H locs 8 86 (MQ below (va_Qv (fun _ : Unit => True) (fun _ t => ∃ (q1 : Nat) (q3 : Nat) (q5 : Nat) (q7 : Nat) (q9 : Nat) (q11 : Nat) (q13 : Nat) (q15 : Nat) (cA2 : ClassId), va_P (dC, dI) CLS [(h0, eO 1 [.ref p0, .ref q1, .ref q3, .ref q5, .ref q7, .ref q9, .ref q11, .ref q13, .ref q15, .int 0, .int 40, .int 0, .int 0, .int 0, .int 0, .int 1, .int 0]), (q1, eI cA2 12 (fun _ => 0)), (q3, eI cA2 12 (fun _ => 0)), (q5, eI cA2 12 (fun _ => 0)), (q7, eI cA2 12 (fun _ => 0)), (q9, eI cA2 12 (upd (upd (upd (upd (upd (upd (upd (upd (upd (upd (upd (upd (fun _ => 0) 0 3) 1 3) 2 3) 3 3) 4 3) 5 3) 6 3) 7 3) 8 3) 9 3) 10 3) 11 3)), (q11, eI cA2 12 (fun _ => 0)), (q13, eI cA2 12 (upd (upd (upd (upd (upd (upd (upd (upd (upd (upd (upd (upd (fun _ => 0) 0 (-1000000005)) 1 (-1000000005)) 2 (-1000000005)) 3 (-1000000005)) 4 (-1000000005)) 5 (-1000000005)) 6 (-1000000005)) 7 (-1000000005)) 8 (-1000000005)) 9 (-1000000005)) 10 (-1000000005)) 11 (-1000000005))), (q15, eI cA2 2 (upd (upd (fun _ => 0) 0 12) 1 12))] t.heap ∧ va_K (dC, dI) CLS [(cA2, .int)] t ∧ va_D A [(h0, eO 1 [.ref p0, .ref q1, .ref q3, .ref q5, .ref q7, .ref q9, .ref q11, .ref q13, .ref q15, .int 0, .int 40, .int 0, .int 0, .int 0, .int 0, .int 1, .int 0]), (q1, eI cA2 12 (fun _ => 0)), (q3, eI cA2 12 (fun _ => 0)), (q5, eI cA2 12 (fun _ => 0)), (q7, eI cA2 12 (fun _ => 0)), (q9, eI cA2 12 (upd (upd (upd (upd (upd (upd (upd (upd (upd (upd (upd (upd (fun _ => 0) 0 3) 1 3) 2 3) 3 3) 4 3) 5 3) 6 3) 7 3) 8 3) 9 3) 10 3) 11 3)), (q11, eI cA2 12 (fun _ => 0)), (q13, eI cA2 12 (upd (upd (upd (upd (upd (upd (upd (upd (upd (upd (upd (upd (fun _ => 0) 0 (-1000000005)) 1 (-1000000005)) 2 (-1000000005)) 3 (-1000000005)) 4 (-1000000005)) 5 (-1000000005)) 6 (-1000000005)) 7 (-1000000005)) 8 (-1000000005)) 9 (-1000000005)) 10 (-1000000005)) 11 (-1000000005))), (q15, eI cA2 2 (upd (upd (fun _ => 0) 0 12) 1 12))]) A) args s 8 86 A) (F0 m 95 ls []) := by
  refine lv_iinc (v := 10) (lv' := [(2, .int 10), (0, .ref h0), (1, .ref p0)]) hx hb dX1_init_95 hl (k := 0) rfl (by decide) (by decide) rfl (fun ls hl => ?_)
  refine lv_goto (tgt := 74) hx hb dX1_init_98 (by decide) ?_
  refine lv_iload_n hx hb dX1_init_74 rfl (lv_at hl 0 rfl) ?_
  refine lv_bipush (v := 12) hx hb dX1_init_75 (by decide) ?_
  refine lv_icmp_ge (tgt := 101) hx hb dX1_init_77 (by decide) (fun q => absurd q (by decide)) (fun _ => ?_)
  refine lv_aload_n hx hb dX1_init_80 rfl (lv_at hl 1 rfl) ?_
  refine va_get (D := (dC, dI)) (ci := 1) (v := .ref q9) (C := RX1) (T := TX1) (N := 17) hx hb hts iwX1 hown hK hP 0 rfl rfl 5 (by decide) (hts _ mw_158) (fun _ h9 => h9) rfl dX1_init_81 ?_
  refine lv_iload_n hx hb dX1_init_84 rfl (lv_at hl 0 rfl) ?_
  refine lv_iconst (v := 3) hx hb dX1_init_85 (by decide) ?_
  refine va_iast (i := 10) (x := 3) hx hb hK hP hD hS 5 0 rfl rfl (by show ¬ (_ ∨ _); decide) dX1_init_86 (fun H locs hP2 hD2 hS => ?_)
  clear hP hD
  have hP := hP2
  have hD := hD2
  clear hP2 hD2
  refine lv_aload_n hx hb dX1_init_87 rfl (lv_at hl 1 rfl) ?_
  refine va_get (D := (dC, dI)) (ci := 1) (v := .ref q13) (C := RX1) (T := TX1) (N := 17) hx hb hts iwX1 hown hK hP 0 rfl rfl 7 (by decide) (hts _ mw_162) (fun _ h9 => h9) rfl dX1_init_88 ?_
  refine lv_iload_n hx hb dX1_init_91 rfl (lv_at hl 0 rfl) ?_
  refine lv_ldc (v := -1000000005) hx hb hown (hts _ mw_145) dX1_init_92 ?_
  refine va_iast (i := 10) (x := (-1000000005)) hx hb hK hP hD hS 7 0 rfl rfl (by show ¬ (_ ∨ _); decide) dX1_init_94 (fun H locs hP2 hD2 hS => ?_)
  clear hP hD
  have hP := hP2
  have hD := hD2
  clear hP2 hD2
  refine lv_iinc (v := 11) (lv' := [(2, .int 11), (0, .ref h0), (1, .ref p0)]) hx hb dX1_init_95 hl (k := 0) rfl (by decide) (by decide) rfl (fun ls hl => ?_)
  refine lv_goto (tgt := 74) hx hb dX1_init_98 (by decide) ?_
  refine lv_iload_n hx hb dX1_init_74 rfl (lv_at hl 0 rfl) ?_
  refine lv_bipush (v := 12) hx hb dX1_init_75 (by decide) ?_
  refine lv_icmp_ge (tgt := 101) hx hb dX1_init_77 (by decide) (fun q => absurd q (by decide)) (fun _ => ?_)
  refine lv_aload_n hx hb dX1_init_80 rfl (lv_at hl 1 rfl) ?_
  refine va_get (D := (dC, dI)) (ci := 1) (v := .ref q9) (C := RX1) (T := TX1) (N := 17) hx hb hts iwX1 hown hK hP 0 rfl rfl 5 (by decide) (hts _ mw_158) (fun _ h9 => h9) rfl dX1_init_81 ?_
  refine lv_iload_n hx hb dX1_init_84 rfl (lv_at hl 0 rfl) ?_
  refine lv_iconst (v := 3) hx hb dX1_init_85 (by decide) ?_
  refine va_iast (i := 11) (x := 3) hx hb hK hP hD hS 5 0 rfl rfl (by show ¬ (_ ∨ _); decide) dX1_init_86 (fun H locs hP2 hD2 hS => ?_)
  clear hP hD
  have hP := hP2
  have hD := hD2
  clear hP2 hD2
  refine lv_aload_n hx hb dX1_init_87 rfl (lv_at hl 1 rfl) ?_
  refine va_get (D := (dC, dI)) (ci := 1) (v := .ref q13) (C := RX1) (T := TX1) (N := 17) hx hb hts iwX1 hown hK hP 0 rfl rfl 7 (by decide) (hts _ mw_162) (fun _ h9 => h9) rfl dX1_init_88 ?_
  refine lv_iload_n hx hb dX1_init_91 rfl (lv_at hl 0 rfl) ?_
  refine lv_ldc (v := -1000000005) hx hb hown (hts _ mw_145) dX1_init_92 ?_
  refine va_iast (i := 11) (x := (-1000000005)) hx hb hK hP hD hS 7 0 rfl rfl (by show ¬ (_ ∨ _); decide) dX1_init_94 (fun H locs hP2 hD2 hS => ?_)
  clear hP hD
  have hP := hP2
  have hD := hD2
  clear hP2 hD2
  refine W.widen (k := 8) (n := 86) (Nat.le_of_ble_eq_true rfl) (Nat.le_of_ble_eq_true rfl) ?_
  exact sg_X1_init_8 dC dI h0 p0 q1 q3 q5 q7 q9 q11 q13 q15 cA2 hx hb hr hts hown hml hlocks hin hN hA hK hP hD hS hl
set_option maxHeartbeats 4000000 in
set_option maxRecDepth 100000 in
theorem sg_X1_init_6 {p : Program} {l : Launch} {e : Env} {s : State} {m : MethodId} {args : Array Value} {below : List Frame} {meth : Method} {c : Code} (dC : Nat → ClassId) (dI : Nat → Nat → Nat) {A : Nat → Prop} (h0 : Nat) (p0 : Nat) (q1 : Nat) (q3 : Nat) (q5 : Nat) (q7 : Nat) (q9 : Nat) (q11 : Nat) (q13 : Nat) (q15 : Nat) (cA2 : ClassId) (hx : p.tables.exec = Jvm.exec) (hb : c.code = cX1_init) (hr : meth.sig.returnType = none) (hts : ∀ w ∈ WT, w.before args s = true) (hown : s.vm.findClass RX1 = some m.cls) (hml : c.maxLocals = 3) (hlocks : meth.locks = false) (hin : meth.name = "<init>") (hN : NK s) (hA : ∀ q : Nat, s.heap.size ≤ q → A q) {H : Heap} {locs : List Loc} {ls : Array Slot} (hK : va_K (dC, dI) CLS [(cA2, .int)] s) (hP : va_P (dC, dI) CLS [(h0, eO 1 [.ref p0, .ref q1, .ref q3, .ref q5, .ref q7, .ref q9, .ref q11, .ref q13, .ref q15, .int 0, .int 0, .int 0, .int 0, .int 0, .int 0, .int 0, .int 0]), (q1, eI cA2 12 (fun _ => 0)), (q3, eI cA2 12 (fun _ => 0)), (q5, eI cA2 12 (fun _ => 0)), (q7, eI cA2 12 (fun _ => 0)), (q9, eI cA2 12 (upd (upd (upd (upd (upd (upd (upd (upd (fun _ => 0) 0 3) 1 3) 2 3) 3 3) 4 3) 5 3) 6 3) 7 3)), (q11, eI cA2 12 (fun _ => 0)), (q13, eI cA2 12 (upd (upd (upd (upd (upd (upd (upd (upd (fun _ => 0) 0 (-1000000005)) 1 (-1000000005)) 2 (-1000000005)) 3 (-1000000005)) 4 (-1000000005)) 5 (-1000000005)) 6 (-1000000005)) 7 (-1000000005))), (q15, eI cA2 2 (fun _ => 0))] H) (hD : va_D A [(h0, eO 1 [.ref p0, .ref q1, .ref q3, .ref q5, .ref q7, .ref q9, .ref q11, .ref q13, .ref q15, .int 0, .int 0, .int 0, .int 0, .int 0, .int 0, .int 0, .int 0]), (q1, eI cA2 12 (fun _ => 0)), (q3, eI cA2 12 (fun _ => 0)), (q5, eI cA2 12 (fun _ => 0)), (q7, eI cA2 12 (fun _ => 0)), (q9, eI cA2 12 (upd (upd (upd (upd (upd (upd (upd (upd (fun _ => 0) 0 3) 1 3) 2 3) 3 3) 4 3) 5 3) 6 3) 7 3)), (q11, eI cA2 12 (fun _ => 0)), (q13, eI cA2 12 (upd (upd (upd (upd (upd (upd (upd (upd (fun _ => 0) 0 (-1000000005)) 1 (-1000000005)) 2 (-1000000005)) 3 (-1000000005)) 4 (-1000000005)) 5 (-1000000005)) 6 (-1000000005)) 7 (-1000000005))), (q15, eI cA2 2 (fun _ => 0))]) (hS : va_S A s.heap H locs) (hl : lv_has ls 3 [(2, .int 7), (0, .ref h0), (1, .ref p0)]) : W p l e rm_X1_init s m args below meth c H locs 8 86 (MQ below (va_Qv (fun _ : Unit => True) (fun _ t => ∃ (q1 : Nat) (q3 : Nat) (q5 : Nat) (q7 : Nat) (q9 : Nat) (q11 : Nat) (q13 : Nat) (q15 : Nat) (cA2 : ClassId), va_P (dC, dI) CLS [(h0, eO 1 [.ref p0, .ref q1, .ref q3, .ref q5, .ref q7, .ref q9, .ref q11, .ref q13, .ref q15, .int 0, .int 40, .int 0, .int 0, .int 0, .int 0, .int 1, .int 0]), (q1, eI cA2 12 (fun _ => 0)), (q3, eI cA2 12 (fun _ => 0)), (q5, eI cA2 12 (fun _ => 0)), (q7, eI cA2 12 (fun _ => 0)), (q9, eI cA2 12 (upd (upd (upd (upd (upd (upd (upd (upd (upd (upd (upd (upd (fun _ => 0) 0 3) 1 3) 2 3) 3 3) 4 3) 5 3) 6 3) 7 3) 8 3) 9 3) 10 3) 11 3)), (q11, eI cA2 12 (fun _ => 0)), (q13, eI cA2 12 (upd (upd (upd (upd (upd (upd (upd (upd (upd (upd (upd (upd (fun _ => 0) 0 (-1000000005)) 1 (-1000000005)) 2 (-1000000005)) 3 (-1000000005)) 4 (-1000000005)) 5 (-1000000005)) 6 (-1000000005)) 7 (-1000000005)) 8 (-1000000005)) 9 (-1000000005)) 10 (-1000000005)) 11 (-1000000005))), (q15, eI cA2 2 (upd (upd (fun _ => 0) 0 12) 1 12))] t.heap ∧ va_K (dC, dI) CLS [(cA2, .int)] t ∧ va_D A [(h0, eO 1 [.ref p0, .ref q1, .ref q3, .ref q5, .ref q7, .ref q9, .ref q11, .ref q13, .ref q15, .int 0, .int 40, .int 0, .int 0, .int 0, .int 0, .int 1, .int 0]), (q1, eI cA2 12 (fun _ => 0)), (q3, eI cA2 12 (fun _ => 0)), (q5, eI cA2 12 (fun _ => 0)), (q7, eI cA2 12 (fun _ => 0)), (q9, eI cA2 12 (upd (upd (upd (upd (upd (upd (upd (upd (upd (upd (upd (upd (fun _ => 0) 0 3) 1 3) 2 3) 3 3) 4 3) 5 3) 6 3) 7 3) 8 3) 9 3) 10 3) 11 3)), (q11, eI cA2 12 (fun _ => 0)), (q13, eI cA2 12 (upd (upd (upd (upd (upd (upd (upd (upd (upd (upd (upd (upd (fun _ => 0) 0 (-1000000005)) 1 (-1000000005)) 2 (-1000000005)) 3 (-1000000005)) 4 (-1000000005)) 5 (-1000000005)) 6 (-1000000005)) 7 (-1000000005)) 8 (-1000000005)) 9 (-1000000005)) 10 (-1000000005)) 11 (-1000000005))), (q15, eI cA2 2 (upd (upd (fun _ => 0) 0 12) 1 12))]) A) args s 8 86 A) (F0 m 95 ls []) := by
  refine lv_iinc (v := 8) (lv' := [(2, .int 8), (0, .ref h0), (1, .ref p0)]) hx hb dX1_init_95 hl (k := 0) rfl (by decide) (by decide) rfl (fun ls hl => ?_)
  refine lv_goto (tgt := 74) hx hb dX1_init_98 (by decide) ?_
  refine lv_iload_n hx hb dX1_init_74 rfl (lv_at hl 0 rfl) ?_
  refine lv_bipush (v := 12) hx hb dX1_init_75 (by decide) ?_
  refine lv_icmp_ge (tgt := 101) hx hb dX1_init_77 (by decide) (fun q => absurd q (by decide)) (fun _ => ?_)
  refine lv_aload_n hx hb dX1_init_80 rfl (lv_at hl 1 rfl) ?_
  refine va_get (D := (dC, dI)) (ci := 1) (v := .ref q9) (C := RX1) (T := TX1) (N := 17) hx hb hts iwX1 hown hK hP 0 rfl rfl 5 (by decide) (hts _ mw_158) (fun _ h9 => h9) rfl dX1_init_81 ?_
  refine lv_iload_n hx hb dX1_init_84 rfl (lv_at hl 0 rfl) ?_
  refine lv_iconst (v := 3) hx hb dX1_init_85 (by decide) ?_
  refine va_iast (i := 8) (x := 3) hx hb hK hP hD hS 5 0 rfl rfl (by show ¬ (_ ∨ _); decide) dX1_init_86 (fun H locs hP2 hD2 hS => ?_)
  clear hP hD
  have hP := hP2
  have hD := hD2
  clear hP2 hD2
  refine lv_aload_n hx hb dX1_init_87 rfl (lv_at hl 1 rfl) ?_
  refine va_get (D := (dC, dI)) (ci := 1) (v := .ref q13) (C := RX1) (T := TX1) (N := 17) hx hb hts iwX1 hown hK hP 0 rfl rfl 7 (by decide) (hts _ mw_162) (fun _ h9 => h9) rfl dX1_init_88 ?_
  refine lv_iload_n hx hb dX1_init_91 rfl (lv_at hl 0 rfl) ?_
  refine lv_ldc (v := -1000000005) hx hb hown (hts _ mw_145) dX1_init_92 ?_
  refine va_iast (i := 8) (x := (-1000000005)) hx hb hK hP hD hS 7 0 rfl rfl (by show ¬ (_ ∨ _); decide) dX1_init_94 (fun H locs hP2 hD2 hS => ?_)
  clear hP hD
  have hP := hP2
  have hD := hD2
  clear hP2 hD2
  refine lv_iinc (v := 9) (lv' := [(2, .int 9), (0, .ref h0), (1, .ref p0)]) hx hb dX1_init_95 hl (k := 0) rfl (by decide) (by decide) rfl (fun ls hl => ?_)
  refine lv_goto (tgt := 74) hx hb dX1_init_98 (by decide) ?_
  refine lv_iload_n hx hb dX1_init_74 rfl (lv_at hl 0 rfl) ?_
  refine lv_bipush (v := 12) hx hb dX1_init_75 (by decide) ?_
  refine lv_icmp_ge (tgt := 101) hx hb dX1_init_77 (by decide) (fun q => absurd q (by decide)) (fun _ => ?_)
  refine lv_aload_n hx hb dX1_init_80 rfl (lv_at hl 1 rfl) ?_
  refine va_get (D := (dC, dI)) (ci := 1) (v := .ref q9) (C := RX1) (T := TX1) (N := 17) hx hb hts iwX1 hown hK hP 0 rfl rfl 5 (by decide) (hts _ mw_158) (fun _ h9 => h9) rfl dX1_init_81 ?_
  refine lv_iload_n hx hb dX1_init_84 rfl (lv_at hl 0 rfl) ?_
  refine lv_iconst (v := 3) hx hb dX1_init_85 (by decide) ?_
  refine va_iast (i := 9) (x := 3) hx hb hK hP hD hS 5 0 rfl rfl (by show ¬ (_ ∨ _); decide) dX1_init_86 (fun H locs hP2 hD2 hS => ?_)
  clear hP hD
  have hP := hP2
  have hD := hD2
  clear hP2 hD2
  refine lv_aload_n hx hb dX1_init_87 rfl (lv_at hl 1 rfl) ?_
  refine va_get (D := (dC, dI)) (ci := 1) (v := .ref q13) (C := RX1) (T := TX1) (N := 17) hx hb hts iwX1 hown hK hP 0 rfl rfl 7 (by decide) (hts _ mw_162) (fun _ h9 => h9) rfl dX1_init_88 ?_
  refine lv_iload_n hx hb dX1_init_91 rfl (lv_at hl 0 rfl) ?_
  refine lv_ldc (v := -1000000005) hx hb hown (hts _ mw_145) dX1_init_92 ?_
  refine va_iast (i := 9) (x := (-1000000005)) hx hb hK hP hD hS 7 0 rfl rfl (by show ¬ (_ ∨ _); decide) dX1_init_94 (fun H locs hP2 hD2 hS => ?_)
  clear hP hD
  have hP := hP2
  have hD := hD2
  clear hP2 hD2
  refine W.widen (k := 8) (n := 86) (Nat.le_of_ble_eq_true rfl) (Nat.le_of_ble_eq_true rfl) ?_
  exact sg_X1_init_7 dC dI h0 p0 q1 q3 q5 q7 q9 q11 q13 q15 cA2 hx hb hr hts hown hml hlocks hin hN hA hK hP hD hS hl
set_option maxHeartbeats 4000000 in
set_option maxRecDepth 100000 in
theorem sg_X1_init_5 {p : Program} {l : Launch} {e : Env} {s : State} {m : MethodId} {args : Array Value} {below : List Frame} {meth : Method} {c : Code} (dC : Nat → ClassId) (dI : Nat → Nat → Nat) {A : Nat → Prop} (h0 : Nat) (p0 : Nat) (q1 : Nat) (q3 : Nat) (q5 : Nat) (q7 : Nat) (q9 : Nat) (q11 : Nat) (q13 : Nat) (q15 : Nat) (cA2 : ClassId) (hx : p.tables.exec = Jvm.exec) (hb : c.code = cX1_init) (hr : meth.sig.returnType = none) (hts : ∀ w ∈ WT, w.before args s = true) (hown : s.vm.findClass RX1 = some m.cls) (hml : c.maxLocals = 3) (hlocks : meth.locks = false) (hin : meth.name = "<init>") (hN : NK s) (hA : ∀ q : Nat, s.heap.size ≤ q → A q) {H : Heap} {locs : List Loc} {ls : Array Slot} (hK : va_K (dC, dI) CLS [(cA2, .int)] s) (hP : va_P (dC, dI) CLS [(h0, eO 1 [.ref p0, .ref q1, .ref q3, .ref q5, .ref q7, .ref q9, .ref q11, .ref q13, .ref q15, .int 0, .int 0, .int 0, .int 0, .int 0, .int 0, .int 0, .int 0]), (q1, eI cA2 12 (fun _ => 0)), (q3, eI cA2 12 (fun _ => 0)), (q5, eI cA2 12 (fun _ => 0)), (q7, eI cA2 12 (fun _ => 0)), (q9, eI cA2 12 (upd (upd (upd (upd (upd (upd (fun _ => 0) 0 3) 1 3) 2 3) 3 3) 4 3) 5 3)), (q11, eI cA2 12 (fun _ => 0)), (q13, eI cA2 12 (upd (upd (upd (upd (upd (upd (fun _ => 0) 0 (-1000000005)) 1 (-1000000005)) 2 (-1000000005)) 3 (-1000000005)) 4 (-1000000005)) 5 (-1000000005))), (q15, eI cA2 2 (fun _ => 0))] H) (hD : va_D A [(h0, eO 1 [.ref p0, .ref q1, .ref q3, .ref q5, .ref q7, .ref q9, .ref q11, .ref q13, .ref q15, .int 0, .int 0, .int 0, .int 0, .int 0, .int 0, .int 0, .int 0]), (q1, eI cA2 12 (fun _ => 0)), (q3, eI cA2 12 (fun _ => 0)), (q5, eI cA2 12 (fun _ => 0)), (q7, eI cA2 12 (fun _ => 0)), (q9, eI cA2 12 (upd (upd (upd (upd (upd (upd (fun _ => 0) 0 3) 1 3) 2 3) 3 3) 4 3) 5 3)), (q11, eI cA2 12 (fun _ => 0)), (q13, eI cA2 12 (upd (upd (upd (upd (upd (upd (fun _ => 0) 0 (-1000000005)) 1 (-1000000005)) 2 (-1000000005)) 3 (-1000000005)) 4 (-1000000005)) 5 (-1000000005))), (q15, eI cA2 2 (fun _ => 0))]) (hS : va_S A s.heap H locs) (hl : lv_has ls 3 [(2, .int 5), (0, .ref h0), (1, .ref p0)]) : W p l e rm_X1_init s m args below meth c H locs 8 86 (MQ below (va_Qv (fun _ : Unit => True) (fun _ t => ∃ (q1 : Nat) (q3 : Nat) (q5 : Nat) (q7 : Nat) (q9 : Nat) (q11 : Nat) (q13 : Nat) (q15 : Nat) (cA2 : ClassId), va_P (dC, dI) CLS [(h0, eO 1 [.ref p0, .ref q1, .ref q3, .ref q5, .ref q7, .ref q9, .ref q11, .ref q13, .ref q15, .int 0, .int 40, .int 0, .int 0, .int 0, .int 0, .int 1, .int 0]), (q1, eI cA2 12 (fun _ => 0)), (q3, eI cA2 12 (fun _ => 0)), (q5, eI cA2 12 (fun _ => 0)), (q7, eI cA2 12 (fun _ => 0)), (q9, eI cA2 12 (upd (upd (upd (upd (upd (upd (upd (upd (upd (upd (upd (upd (fun _ => 0) 0 3) 1 3) 2 3) 3 3) 4 3) 5 3) 6 3) 7 3) 8 3) 9 3) 10 3) 11 3)), (q11, eI cA2 12 (fun _ => 0)), (q13, eI cA2 12 (upd (upd (upd (upd (upd (upd (upd (upd (upd (upd (upd (upd (fun _ => 0) 0 (-1000000005)) 1 (-1000000005)) 2 (-1000000005)) 3 (-1000000005)) 4 (-1000000005)) 5 (-1000000005)) 6 (-1000000005)) 7 (-1000000005)) 8 (-1000000005)) 9 (-1000000005)) 10 (-1000000005)) 11 (-1000000005))), (q15, eI cA2 2 (upd (upd (fun _ => 0) 0 12) 1 12))] t.heap ∧ va_K (dC, dI) CLS [(cA2, .int)] t ∧ va_D A [(h0, eO 1 [.ref p0, .ref q1, .ref q3, .ref q5, .ref q7, .ref q9, .ref q11, .ref q13, .ref q15, .int 0, .int 40, .int 0, .int 0, .int 0, .int 0, .int 1, .int 0]), (q1, eI cA2 12 (fun _ => 0)), (q3, eI cA2 12 (fun _ => 0)), (q5, eI cA2 12 (fun _ => 0)), (q7, eI cA2 12 (fun _ => 0)), (q9, eI cA2 12 (upd (upd (upd (upd (upd (upd (upd (upd (upd (upd (upd (upd (fun _ => 0) 0 3) 1 3) 2 3) 3 3) 4 3) 5 3) 6 3) 7 3) 8 3) 9 3) 10 3) 11 3)), (q11, eI cA2 12 (fun _ => 0)), (q13, eI cA2 12 (upd (upd (upd (upd (upd (upd (upd (upd (upd (upd (upd (upd (fun _ => 0) 0 (-1000000005)) 1 (-1000000005)) 2 (-1000000005)) 3 (-1000000005)) 4 (-1000000005)) 5 (-1000000005)) 6 (-1000000005)) 7 (-1000000005)) 8 (-1000000005)) 9 (-1000000005)) 10 (-1000000005)) 11 (-1000000005))), (q15, eI cA2 2 (upd (upd (fun _ => 0) 0 12) 1 12))]) A) args s 8 86 A) (F0 m 95 ls []) := by
  refine lv_iinc (v := 6) (lv' := [(2, .int 6), (0, .ref h0), (1, .ref p0)]) hx hb dX1_init_95 hl (k := 0) rfl (by decide) (by decide) rfl (fun ls hl => ?_)
  refine lv_goto (tgt := 74) hx hb dX1_init_98 (by decide) ?_
  refine lv_iload_n hx hb dX1_init_74 rfl (lv_at hl 0 rfl) ?_
  refine lv_bipush (v := 12) hx hb dX1_init_75 (by decide) ?_
  refine lv_icmp_ge (tgt := 101) hx hb dX1_init_77 (by decide) (fun q => absurd q (by decide)) (fun _ => ?_)
  refine lv_aload_n hx hb dX1_init_80 rfl (lv_at hl 1 rfl) ?_
  refine va_get (D := (dC, dI)) (ci := 1) (v := .ref q9) (C := RX1) (T := TX1) (N := 17) hx hb hts iwX1 hown hK hP 0 rfl rfl 5 (by decide) (hts _ mw_158) (fun _ h9 => h9) rfl dX1_init_81 ?_
  refine lv_iload_n hx hb dX1_init_84 rfl (lv_at hl 0 rfl) ?_
  refine lv_iconst (v := 3) hx hb dX1_init_85 (by decide) ?_
  refine va_iast (i := 6) (x := 3) hx hb hK hP hD hS 5 0 rfl rfl (by show ¬ (_ ∨ _); decide) dX1_init_86 (fun H locs hP2 hD2 hS => ?_)
  clear hP hD
  have hP := hP2
  have hD := hD2
  clear hP2 hD2
  refine lv_aload_n hx hb dX1_init_87 rfl (lv_at hl 1 rfl) ?_
  refine va_get (D := (dC, dI)) (ci := 1) (v := .ref q13) (C := RX1) (T := TX1) (N := 17) hx hb hts iwX1 hown hK hP 0 rfl rfl 7 (by decide) (hts _ mw_162) (fun _ h9 => h9) rfl dX1_init_88 ?_
  refine lv_iload_n hx hb dX1_init_91 rfl (lv_at hl 0 rfl) ?_
  refine lv_ldc (v := -1000000005) hx hb hown (hts _ mw_145) dX1_init_92 ?_
  refine va_iast (i := 6) (x := (-1000000005)) hx hb hK hP hD hS 7 0 rfl rfl (by show ¬ (_ ∨ _); decide) dX1_init_94 (fun H locs hP2 hD2 hS => ?_)
  clear hP hD
  have hP := hP2
  have hD := hD2
  clear hP2 hD2
  refine lv_iinc (v := 7) (lv' := [(2, .int 7), (0, .ref h0), (1, .ref p0)]) hx hb dX1_init_95 hl (k := 0) rfl (by decide) (by decide) rfl (fun ls hl => ?_)
  refine lv_goto (tgt := 74) hx hb dX1_init_98 (by decide) ?_
  refine lv_iload_n hx hb dX1_init_74 rfl (lv_at hl 0 rfl) ?_
  refine lv_bipush (v := 12) hx hb dX1_init_75 (by decide) ?_
  refine lv_icmp_ge (tgt := 101) hx hb dX1_init_77 (by decide) (fun q => absurd q (by decide)) (fun _ => ?_)
  refine lv_aload_n hx hb dX1_init_80 rfl (lv_at hl 1 rfl) ?_
  refine va_get (D := (dC, dI)) (ci := 1) (v := .ref q9) (C := RX1) (T := TX1) (N := 17) hx hb hts iwX1 hown hK hP 0 rfl rfl 5 (by decide) (hts _ mw_158) (fun _ h9 => h9) rfl dX1_init_81 ?_
  refine lv_iload_n hx hb dX1_init_84 rfl (lv_at hl 0 rfl) ?_
  refine lv_iconst (v := 3) hx hb dX1_init_85 (by decide) ?_
  refine va_iast (i := 7) (x := 3) hx hb hK hP hD hS 5 0 rfl rfl (by show ¬ (_ ∨ _); decide) dX1_init_86 (fun H locs hP2 hD2 hS => ?_)
  clear hP hD
  have hP := hP2
  have hD := hD2
  clear hP2 hD2
  refine lv_aload_n hx hb dX1_init_87 rfl (lv_at hl 1 rfl) ?_
  refine va_get (D := (dC, dI)) (ci := 1) (v := .ref q13) (C := RX1) (T := TX1) (N := 17) hx hb hts iwX1 hown hK hP 0 rfl rfl 7 (by decide) (hts _ mw_162) (fun _ h9 => h9) rfl dX1_init_88 ?_
  refine lv_iload_n hx hb dX1_init_91 rfl (lv_at hl 0 rfl) ?_
  refine lv_ldc (v := -1000000005) hx hb hown (hts _ mw_145) dX1_init_92 ?_
  refine va_iast (i := 7) (x := (-1000000005)) hx hb hK hP hD hS 7 0 rfl rfl (by show ¬ (_ ∨ _); decide) dX1_init_94 (fun H locs hP2 hD2 hS => ?_)
  clear hP hD
  have hP := hP2
  have hD := hD2
  clear hP2 hD2
  refine W.widen (k := 8) (n := 86) (Nat.le_of_ble_eq_true rfl) (Nat.le_of_ble_eq_true rfl) ?_
  exact sg_X1_init_6 dC dI h0 p0 q1 q3 q5 q7 q9 q11 q13 q15 cA2 hx hb hr hts hown hml hlocks hin hN hA hK hP hD hS hl
set_option maxHeartbeats 4000000 in
set_option maxRecDepth 100000 in
theorem sg_X1_init_4 {p : Program} {l : Launch} {e : Env} {s : State} {m : MethodId} {args : Array Value} {below : List Frame} {meth : Method} {c : Code} (dC : Nat → ClassId) (dI : Nat → Nat → Nat) {A : Nat → Prop} (h0 : Nat) (p0 : Nat) (q1 : Nat) (q3 : Nat) (q5 : Nat) (q7 : Nat) (q9 : Nat) (q11 : Nat) (q13 : Nat) (q15 : Nat) (cA2 : ClassId) (hx : p.tables.exec = Jvm.exec) (hb : c.code = cX1_init) (hr : meth.sig.returnType = none) (hts : ∀ w ∈ WT, w.before args s = true) (hown : s.vm.findClass RX1 = some m.cls) (hml : c.maxLocals = 3) (hlocks : meth.locks = false) (hin : meth.name = "<init>") (hN : NK s) (hA : ∀ q : Nat, s.heap.size ≤ q → A q) {H : Heap} {locs : List Loc} {ls : Array Slot} (hK : va_K (dC, dI) CLS [(cA2, .int)] s) (hP : va_P (dC, dI) CLS [(h0, eO 1 [.ref p0, .ref q1, .ref q3, .ref q5, .ref q7, .ref q9, .ref q11, .ref q13, .ref q15, .int 0, .int 0, .int 0, .int 0, .int 0, .int 0, .int 0, .int 0]), (q1, eI cA2 12 (fun _ => 0)), (q3, eI cA2 12 (fun _ => 0)), (q5, eI cA2 12 (fun _ => 0)), (q7, eI cA2 12 (fun _ => 0)), (q9, eI cA2 12 (upd (upd (upd (upd (fun _ => 0) 0 3) 1 3) 2 3) 3 3)), (q11, eI cA2 12 (fun _ => 0)), (q13, eI cA2 12 (upd (upd (upd (upd (fun _ => 0) 0 (-1000000005)) 1 (-1000000005)) 2 (-1000000005)) 3 (-1000000005))), (q15, eI cA2 2 (fun _ => 0))] H) (hD : va_D A [(h0, eO 1 [.ref p0, .ref q1, .ref q3, .ref q5, .ref q7, .ref q9, .ref q11, .ref q13, .ref q15, .int 0, .int 0, .int 0, .int 0, .int 0, .int 0, .int 0, .int 0]), (q1, eI cA2 12 (fun _ => 0)), (q3, eI cA2 12 (fun _ => 0)), (q5, eI cA2 12 (fun _ => 0)), (q7, eI cA2 12 (fun _ => 0)), (q9, eI cA2 12 (upd (upd (upd (upd (fun _ => 0) 0 3) 1 3) 2 3) 3 3)), (q11, eI cA2 12 (fun _ => 0)), (q13, eI cA2 12 (upd (upd (upd (upd (fun _ => 0) 0 (-1000000005)) 1 (-1000000005)) 2 (-1000000005)) 3 (-1000000005))), (q15, eI cA2 2 (fun _ => 0))]) (hS : va_S A s.heap H locs) (hl : lv_has ls 3 [(2, .int 3), (0, .ref h0), (1, .ref p0)]) : W p l e rm_X1_init s m args below meth c H locs 8 86 (MQ below (va_Qv (fun _ : Unit => True) (fun _ t => ∃ (q1 : Nat) (q3 : Nat) (q5 : Nat) (q7 : Nat) (q9 : Nat) (q11 : Nat) (q13 : Nat) (q15 : Nat) (cA2 : ClassId), va_P (dC, dI) CLS [(h0, eO 1 [.ref p0, .ref q1, .ref q3, .ref q5, .ref q7, .ref q9, .ref q11, .ref q13, .ref q15, .int 0, .int 40, .int 0, .int 0, .int 0, .int 0, .int 1, .int 0]), (q1, eI cA2 12 (fun _ => 0)), (q3, eI cA2 12 (fun _ => 0)), (q5, eI cA2 12 (fun _ => 0)), (q7, eI cA2 12 (fun _ => 0)), (q9, eI cA2 12 (upd (upd (upd (upd (upd (upd (upd (upd (upd (upd (upd (upd (fun _ => 0) 0 3) 1 3) 2 3) 3 3) 4 3) 5 3) 6 3) 7 3) 8 3) 9 3) 10 3) 11 3)), (q11, eI cA2 12 (fun _ => 0)), (q13, eI cA2 12 (upd (upd (upd (upd (upd (upd (upd (upd (upd (upd (upd (upd (fun _ => 0) 0 (-1000000005)) 1 (-1000000005)) 2 (-1000000005)) 3 (-1000000005)) 4 (-1000000005)) 5 (-1000000005)) 6 (-1000000005)) 7 (-1000000005)) 8 (-1000000005)) 9 (-1000000005)) 10 (-1000000005)) 11 (-1000000005))), (q15, eI cA2 2 (upd (upd (fun _ => 0) 0 12) 1 12))] t.heap ∧ va_K (dC, dI) CLS [(cA2, .int)] t ∧ va_D A [(h0, eO 1 [.ref p0, .ref q1, .ref q3, .ref q5, .ref q7, .ref q9, .ref q11, .ref q13, .ref q15, .int 0, .int 40, .int 0, .int 0, .int 0, .int 0, .int 1, .int 0]), (q1, eI cA2 12 (fun _ => 0)), (q3, eI cA2 12 (fun _ => 0)), (q5, eI cA2 12 (fun _ => 0)), (q7, eI cA2 12 (fun _ => 0)), (q9, eI cA2 12 (upd (upd (upd (upd (upd (upd (upd (upd (upd (upd (upd (upd (fun _ => 0) 0 3) 1 3) 2 3) 3 3) 4 3) 5 3) 6 3) 7 3) 8 3) 9 3) 10 3) 11 3)), (q11, eI cA2 12 (fun _ => 0)), (q13, eI cA2 12 (upd (upd (upd (upd (upd (upd (upd (upd (upd (upd (upd (upd (fun _ => 0) 0 (-1000000005)) 1 (-1000000005)) 2 (-1000000005)) 3 (-1000000005)) 4 (-1000000005)) 5 (-1000000005)) 6 (-1000000005)) 7 (-1000000005)) 8 (-1000000005)) 9 (-1000000005)) 10 (-1000000005)) 11 (-1000000005))), (q15, eI cA2 2 (upd (upd (fun _ => 0) 0 12) 1 12))]) A) args s 8 86 A) (F0 m 95 ls []) := by
  refine lv_iinc (v := 4) (lv' := [(2, .int 4), (0, .ref h0), (1, .ref p0)]) hx hb dX1_init_95 hl (k := 0) rfl (by decide) (by decide) rfl (fun ls hl => ?_)
  refine lv_goto (tgt := 74) hx hb dX1_init_98 (by decide) ?_
  refine lv_iload_n hx hb dX1_init_74 rfl (lv_at hl 0 rfl) ?_
  refine lv_bipush (v := 12) hx hb dX1_init_75 (by decide) ?_
  refine lv_icmp_ge (tgt := 101) hx hb dX1_init_77 (by decide) (fun q => absurd q (by decide)) (fun _ => ?_)
  refine lv_aload_n hx hb dX1_init_80 rfl (lv_at hl 1 rfl) ?_
  refine va_get (D := (dC, dI)) (ci := 1) (v := .ref q9) (C := RX1) (T := TX1) (N := 17) hx hb hts iwX1 hown hK hP 0 rfl rfl 5 (by decide) (hts _ mw_158) (fun _ h9 => h9) rfl dX1_init_81 ?_
  refine lv_iload_n hx hb dX1_init_84 rfl (lv_at hl 0 rfl) ?_
  refine lv_iconst (v := 3) hx hb dX1_init_85 (by decide) ?_
  refine va_iast (i := 4) (x := 3) hx hb hK hP hD hS 5 0 rfl rfl (by show ¬ (_ ∨ _); decide) dX1_init_86 (fun H locs hP2 hD2 hS => ?_)
  clear hP hD
  have hP := hP2
  have hD := hD2
  clear hP2 hD2
  refine lv_aload_n hx hb dX1_init_87 rfl (lv_at hl 1 rfl) ?_
  refine va_get (D := (dC, dI)) (ci := 1) (v := .ref q13) (C := RX1) (T := TX1) (N := 17) hx hb hts iwX1 hown hK hP 0 rfl rfl 7 (by decide) (hts _ mw_162) (fun _ h9 => h9) rfl dX1_init_88 ?_
  refine lv_iload_n hx hb dX1_init_91 rfl (lv_at hl 0 rfl) ?_
  refine lv_ldc (v := -1000000005) hx hb hown (hts _ mw_145) dX1_init_92 ?_
  refine va_iast (i := 4) (x := (-1000000005)) hx hb hK hP hD hS 7 0 rfl rfl (by show ¬ (_ ∨ _); decide) dX1_init_94 (fun H locs hP2 hD2 hS => ?_)
  clear hP hD
  have hP := hP2
  have hD := hD2
  clear hP2 hD2
  refine lv_iinc (v := 5) (lv' := [(2, .int 5), (0, .ref h0), (1, .ref p0)]) hx hb dX1_init_95 hl (k := 0) rfl (by decide) (by decide) rfl (fun ls hl => ?_)
  refine lv_goto (tgt := 74) hx hb dX1_init_98 (by decide) ?_
  refine lv_iload_n hx hb dX1_init_74 rfl (lv_at hl 0 rfl) ?_
  refine lv_bipush (v := 12) hx hb dX1_init_75 (by decide) ?_
  refine lv_icmp_ge (tgt := 101) hx hb dX1_init_77 (by decide) (fun q => absurd q (by decide)) (fun _ => ?_)
  refine lv_aload_n hx hb dX1_init_80 rfl (lv_at hl 1 rfl) ?_
  refine va_get (D := (dC, dI)) (ci := 1) (v := .ref q9) (C := RX1) (T := TX1) (N := 17) hx hb hts iwX1 hown hK hP 0 rfl rfl 5 (by decide) (hts _ mw_158) (fun _ h9 => h9) rfl dX1_init_81 ?_
  refine lv_iload_n hx hb dX1_init_84 rfl (lv_at hl 0 rfl) ?_
  refine lv_iconst (v := 3) hx hb dX1_init_85 (by decide) ?_
  refine va_iast (i := 5) (x := 3) hx hb hK hP hD hS 5 0 rfl rfl (by show ¬ (_ ∨ _); decide) dX1_init_86 (fun H locs hP2 hD2 hS => ?_)
  clear hP hD
  have hP := hP2
  have hD := hD2
  clear hP2 hD2
  refine lv_aload_n hx hb dX1_init_87 rfl (lv_at hl 1 rfl) ?_
  refine va_get (D := (dC, dI)) (ci := 1) (v := .ref q13) (C := RX1) (T := TX1) (N := 17) hx hb hts iwX1 hown hK hP 0 rfl rfl 7 (by decide) (hts _ mw_162) (fun _ h9 => h9) rfl dX1_init_88 ?_
  refine lv_iload_n hx hb dX1_init_91 rfl (lv_at hl 0 rfl) ?_
  refine lv_ldc (v := -1000000005) hx hb hown (hts _ mw_145) dX1_init_92 ?_
  refine va_iast (i := 5) (x := (-1000000005)) hx hb hK hP hD hS 7 0 rfl rfl (by show ¬ (_ ∨ _); decide) dX1_init_94 (fun H locs hP2 hD2 hS => ?_)
  clear hP hD
  have hP := hP2
  have hD := hD2
  clear hP2 hD2
  refine W.widen (k := 8) (n := 86) (Nat.le_of_ble_eq_true rfl) (Nat.le_of_ble_eq_true rfl) ?_
  exact sg_X1_init_5 dC dI h0 p0 q1 q3 q5 q7 q9 q11 q13 q15 cA2 hx hb hr hts hown hml hlocks hin hN hA hK hP hD hS hl
set_option maxHeartbeats 4000000 in
set_option maxRecDepth 100000 in
theorem sg_X1_init_3 {p : Program} {l : Launch} {e : Env} {s : State} {m : MethodId} {args : Array Value} {below : List Frame} {meth : Method} {c : Code} (dC : Nat → ClassId) (dI : Nat → Nat → Nat) {A : Nat → Prop} (h0 : Nat) (p0 : Nat) (q1 : Nat) (q3 : Nat) (q5 : Nat) (q7 : Nat) (q9 : Nat) (q11 : Nat) (q13 : Nat) (q15 : Nat) (cA2 : ClassId) (hx : p.tables.exec = Jvm.exec) (hb : c.code = cX1_init) (hr : meth.sig.returnType = none) (hts : ∀ w ∈ WT, w.before args s = true) (hown : s.vm.findClass RX1 = some m.cls) (hml : c.maxLocals = 3) (hlocks : meth.locks = false) (hin : meth.name = "<init>") (hN : NK s) (hA : ∀ q : Nat, s.heap.size ≤ q → A q) {H : Heap} {locs : List Loc} {ls : Array Slot} (hK : va_K (dC, dI) CLS [(cA2, .int)] s) (hP : va_P (dC, dI) CLS [(h0, eO 1 [.ref p0, .ref q1, .ref q3, .ref q5, .ref q7, .ref q9, .ref q11, .ref q13, .ref q15, .int 0, .int 0, .int 0, .int 0, .int 0, .int 0, .int 0, .int 0]), (q1, eI cA2 12 (fun _ => 0)), (q3, eI cA2 12 (fun _ => 0)), (q5, eI cA2 12 (fun _ => 0)), (q7, eI cA2 12 (fun _ => 0)), (q9, eI cA2 12 (upd (upd (fun _ => 0) 0 3) 1 3)), (q11, eI cA2 12 (fun _ => 0)), (q13, eI cA2 12 (upd (upd (fun _ => 0) 0 (-1000000005)) 1 (-1000000005))), (q15, eI cA2 2 (fun _ => 0))] H) (hD : va_D A [(h0, eO 1 [.ref p0, .ref q1, .ref q3, .ref q5, .ref q7, .ref q9, .ref q11, .ref q13, .ref q15, .int 0, .int 0, .int 0, .int 0, .int 0, .int 0, .int 0, .int 0]), (q1, eI cA2 12 (fun _ => 0)), (q3, eI cA2 12 (fun _ => 0)), (q5, eI cA2 12 (fun _ => 0)), (q7, eI cA2 12 (fun _ => 0)), (q9, eI cA2 12 (upd (upd (fun _ => 0) 0 3) 1 3)), (q11, eI cA2 12 (fun _ => 0)), (q13, eI cA2 12 (upd (upd (fun _ => 0) 0 (-1000000005)) 1 (-1000000005))), (q15, eI cA2 2 (fun _ => 0))]) (hS : va_S A s.heap H locs) (hl : lv_has ls 3 [(2, .int 1), (0, .ref h0), (1, .ref p0)]) : W p l e rm_X1_init s m args below meth c H locs 8 86 (MQ below (va_Qv (fun _ : Unit => True) (fun _ t => ∃ (q1 : Nat) (q3 : Nat) (q5 : Nat) (q7 : Nat) (q9 : Nat) (q11 : Nat) (q13 : Nat) (q15 : Nat) (cA2 : ClassId), va_P (dC, dI) CLS [(h0, eO 1 [.ref p0, .ref q1, .ref q3, .ref q5, .ref q7, .ref q9, .ref q11, .ref q13, .ref q15, .int 0, .int 40, .int 0, .int 0, .int 0, .int 0, .int 1, .int 0]), (q1, eI cA2 12 (fun _ => 0)), (q3, eI cA2 12 (fun _ => 0)), (q5, eI cA2 12 (fun _ => 0)), (q7, eI cA2 12 (fun _ => 0)), (q9, eI cA2 12 (upd (upd (upd (upd (upd (upd (upd (upd (upd (upd (upd (upd (fun _ => 0) 0 3) 1 3) 2 3) 3 3) 4 3) 5 3) 6 3) 7 3) 8 3) 9 3) 10 3) 11 3)), (q11, eI cA2 12 (fun _ => 0)), (q13, eI cA2 12 (upd (upd (upd (upd (upd (upd (upd (upd (upd (upd (upd (upd (fun _ => 0) 0 (-1000000005)) 1 (-1000000005)) 2 (-1000000005)) 3 (-1000000005)) 4 (-1000000005)) 5 (-1000000005)) 6 (-1000000005)) 7 (-1000000005)) 8 (-1000000005)) 9 (-1000000005)) 10 (-1000000005)) 11 (-1000000005))), (q15, eI cA2 2 (upd (upd (fun _ => 0) 0 12) 1 12))] t.heap ∧ va_K (dC, dI) CLS [(cA2, .int)] t ∧ va_D A [(h0, eO 1 [.ref p0, .ref q1, .ref q3, .ref q5, .ref q7, .ref q9, .ref q11, .ref q13, .ref q15, .int 0, .int 40, .int 0, .int 0, .int 0, .int 0, .int 1, .int 0]), (q1, eI cA2 12 (fun _ => 0)), (q3, eI cA2 12 (fun _ => 0)), (q5, eI cA2 12 (fun _ => 0)), (q7, eI cA2 12 (fun _ => 0)), (q9, eI cA2 12 (upd (upd (upd (upd (upd (upd (upd (upd (upd (upd (upd (upd (fun _ => 0) 0 3) 1 3) 2 3) 3 3) 4 3) 5 3) 6 3) 7 3) 8 3) 9 3) 10 3) 11 3)), (q11, eI cA2 12 (fun _ => 0)), (q13, eI cA2 12 (upd (upd (upd (upd (upd (upd (upd (upd (upd (upd (upd (upd (fun _ => 0) 0 (-1000000005)) 1 (-1000000005)) 2 (-1000000005)) 3 (-1000000005)) 4 (-1000000005)) 5 (-1000000005)) 6 (-1000000005)) 7 (-1000000005)) 8 (-1000000005)) 9 (-1000000005)) 10 (-1000000005)) 11 (-1000000005))), (q15, eI cA2 2 (upd (upd (fun _ => 0) 0 12) 1 12))]) A) args s 8 86 A) (F0 m 95 ls []) := by
  refine lv_iinc (v := 2) (lv' := [(2, .int 2), (0, .ref h0), (1, .ref p0)]) hx hb dX1_init_95 hl (k := 0) rfl (by decide) (by decide) rfl (fun ls hl => ?_)
  refine lv_goto (tgt := 74) hx hb dX1_init_98 (by decide) ?_
  refine lv_iload_n hx hb dX1_init_74 rfl (lv_at hl 0 rfl) ?_
  refine lv_bipush (v := 12) hx hb dX1_init_75 (by decide) ?_
  refine lv_icmp_ge (tgt := 101) hx hb dX1_init_77 (by decide) (fun q => absurd q (by decide)) (fun _ => ?_)
  refine lv_aload_n hx hb dX1_init_80 rfl (lv_at hl 1 rfl) ?_
  refine va_get (D := (dC, dI)) (ci := 1) (v := .ref q9) (C := RX1) (T := TX1) (N := 17) hx hb hts iwX1 hown hK hP 0 rfl rfl 5 (by decide) (hts _ mw_158) (fun _ h9 => h9) rfl dX1_init_81 ?_
  refine lv_iload_n hx hb dX1_init_84 rfl (lv_at hl 0 rfl) ?_
  refine lv_iconst (v := 3) hx hb dX1_init_85 (by decide) ?_
  refine va_iast (i := 2) (x := 3) hx hb hK hP hD hS 5 0 rfl rfl (by show ¬ (_ ∨ _); decide) dX1_init_86 (fun H locs hP2 hD2 hS => ?_)
  clear hP hD
  have hP := hP2
  have hD := hD2
  clear hP2 hD2
  refine lv_aload_n hx hb dX1_init_87 rfl (lv_at hl 1 rfl) ?_
  refine va_get (D := (dC, dI)) (ci := 1) (v := .ref q13) (C := RX1) (T := TX1) (N := 17) hx hb hts iwX1 hown hK hP 0 rfl rfl 7 (by decide) (hts _ mw_162) (fun _ h9 => h9) rfl dX1_init_88 ?_
  refine lv_iload_n hx hb dX1_init_91 rfl (lv_at hl 0 rfl) ?_
  refine lv_ldc (v := -1000000005) hx hb hown (hts _ mw_145) dX1_init_92 ?_
  refine va_iast (i := 2) (x := (-1000000005)) hx hb hK hP hD hS 7 0 rfl rfl (by show ¬ (_ ∨ _); decide) dX1_init_94 (fun H locs hP2 hD2 hS => ?_)
  clear hP hD
  have hP := hP2
  have hD := hD2
  clear hP2 hD2
  refine lv_iinc (v := 3) (lv' := [(2, .int 3), (0, .ref h0), (1, .ref p0)]) hx hb dX1_init_95 hl (k := 0) rfl (by decide) (by decide) rfl (fun ls hl => ?_)
  refine lv_goto (tgt := 74) hx hb dX1_init_98 (by decide) ?_
  refine lv_iload_n hx hb dX1_init_74 rfl (lv_at hl 0 rfl) ?_
  refine lv_bipush (v := 12) hx hb dX1_init_75 (by decide) ?_
  refine lv_icmp_ge (tgt := 101) hx hb dX1_init_77 (by decide) (fun q => absurd q (by decide)) (fun _ => ?_)
  refine lv_aload_n hx hb dX1_init_80 rfl (lv_at hl 1 rfl) ?_
  refine va_get (D := (dC, dI)) (ci := 1) (v := .ref q9) (C := RX1) (T := TX1) (N := 17) hx hb hts iwX1 hown hK hP 0 rfl rfl 5 (by decide) (hts _ mw_158) (fun _ h9 => h9) rfl dX1_init_81 ?_
  refine lv_iload_n hx hb dX1_init_84 rfl (lv_at hl 0 rfl) ?_
  refine lv_iconst (v := 3) hx hb dX1_init_85 (by decide) ?_
  refine va_iast (i := 3) (x := 3) hx hb hK hP hD hS 5 0 rfl rfl (by show ¬ (_ ∨ _); decide) dX1_init_86 (fun H locs hP2 hD2 hS => ?_)
  clear hP hD
  have hP := hP2
  have hD := hD2
  clear hP2 hD2
  refine lv_aload_n hx hb dX1_init_87 rfl (lv_at hl 1 rfl) ?_
  refine va_get (D := (dC, dI)) (ci := 1) (v := .ref q13) (C := RX1) (T := TX1) (N := 17) hx hb hts iwX1 hown hK hP 0 rfl rfl 7 (by decide) (hts _ mw_162) (fun _ h9 => h9) rfl dX1_init_88 ?_
  refine lv_iload_n hx hb dX1_init_91 rfl (lv_at hl 0 rfl) ?_
  refine lv_ldc (v := -1000000005) hx hb hown (hts _ mw_145) dX1_init_92 ?_
  refine va_iast (i := 3) (x := (-1000000005)) hx hb hK hP hD hS 7 0 rfl rfl (by show ¬ (_ ∨ _); decide) dX1_init_94 (fun H locs hP2 hD2 hS => ?_)
  clear hP hD
  have hP := hP2
  have hD := hD2
  clear hP2 hD2
  refine W.widen (k := 8) (n := 86) (Nat.le_of_ble_eq_true rfl) (Nat.le_of_ble_eq_true rfl) ?_
  exact sg_X1_init_4 dC dI h0 p0 q1 q3 q5 q7 q9 q11 q13 q15 cA2 hx hb hr hts hown hml hlocks hin hN hA hK hP hD hS hl
set_option maxHeartbeats 4000000 in
set_option maxRecDepth 100000 in
theorem sg_X1_init_2 {p : Program} {l : Launch} {e : Env} {s : State} {m : MethodId} {args : Array Value} {below : List Frame} {meth : Method} {c : Code} (dC : Nat → ClassId) (dI : Nat → Nat → Nat) {A : Nat → Prop} (h0 : Nat) (p0 : Nat) (q1 : Nat) (q3 : Nat) (q5 : Nat) (q7 : Nat) (q9 : Nat) (q11 : Nat) (q13 : Nat) (q15 : Nat) (cA2 : ClassId) (hx : p.tables.exec = Jvm.exec) (hb : c.code = cX1_init) (hr : meth.sig.returnType = none) (hts : ∀ w ∈ WT, w.before args s = true) (hown : s.vm.findClass RX1 = some m.cls) (hml : c.maxLocals = 3) (hlocks : meth.locks = false) (hin : meth.name = "<init>") (hN : NK s) (hA : ∀ q : Nat, s.heap.size ≤ q → A q) {H : Heap} {locs : List Loc} {ls : Array Slot} (hK : va_K (dC, dI) CLS [(cA2, .int)] s) (hP : va_P (dC, dI) CLS [(h0, eO 1 [.null, .ref q1, .ref q3, .ref q5, .ref q7, .ref q9, .ref q11, .ref q13, .null, .int 0, .int 0, .int 0, .int 0, .int 0, .int 0, .int 0, .int 0]), (q1, eI cA2 12 (fun _ => 0)), (q3, eI cA2 12 (fun _ => 0)), (q5, eI cA2 12 (fun _ => 0)), (q7, eI cA2 12 (fun _ => 0)), (q9, eI cA2 12 (fun _ => 0)), (q11, eI cA2 12 (fun _ => 0)), (q13, eI cA2 12 (fun _ => 0)), (q15, eI cA2 2 (fun _ => 0))] H) (hD : va_D A [(h0, eO 1 [.null, .ref q1, .ref q3, .ref q5, .ref q7, .ref q9, .ref q11, .ref q13, .null, .int 0, .int 0, .int 0, .int 0, .int 0, .int 0, .int 0, .int 0]), (q1, eI cA2 12 (fun _ => 0)), (q3, eI cA2 12 (fun _ => 0)), (q5, eI cA2 12 (fun _ => 0)), (q7, eI cA2 12 (fun _ => 0)), (q9, eI cA2 12 (fun _ => 0)), (q11, eI cA2 12 (fun _ => 0)), (q13, eI cA2 12 (fun _ => 0)), (q15, eI cA2 2 (fun _ => 0))]) (hS : va_S A s.heap H locs) (hl : lv_has ls 3 [(0, .ref h0), (1, .ref p0)]) : W p l e rm_X1_init s m args below meth c H locs 8 86 (MQ below (va_Qv (fun _ : Unit => True) (fun _ t => ∃ (q1 : Nat) (q3 : Nat) (q5 : Nat) (q7 : Nat) (q9 : Nat) (q11 : Nat) (q13 : Nat) (q15 : Nat) (cA2 : ClassId), va_P (dC, dI) CLS [(h0, eO 1 [.ref p0, .ref q1, .ref q3, .ref q5, .ref q7, .ref q9, .ref q11, .ref q13, .ref q15, .int 0, .int 40, .int 0, .int 0, .int 0, .int 0, .int 1, .int 0]), (q1, eI cA2 12 (fun _ => 0)), (q3, eI cA2 12 (fun _ => 0)), (q5, eI cA2 12 (fun _ => 0)), (q7, eI cA2 12 (fun _ => 0)), (q9, eI cA2 12 (upd (upd (upd (upd (upd (upd (upd (upd (upd (upd (upd (upd (fun _ => 0) 0 3) 1 3) 2 3) 3 3) 4 3) 5 3) 6 3) 7 3) 8 3) 9 3) 10 3) 11 3)), (q11, eI cA2 12 (fun _ => 0)), (q13, eI cA2 12 (upd (upd (upd (upd (upd (upd (upd (upd (upd (upd (upd (upd (fun _ => 0) 0 (-1000000005)) 1 (-1000000005)) 2 (-1000000005)) 3 (-1000000005)) 4 (-1000000005)) 5 (-1000000005)) 6 (-1000000005)) 7 (-1000000005)) 8 (-1000000005)) 9 (-1000000005)) 10 (-1000000005)) 11 (-1000000005))), (q15, eI cA2 2 (upd (upd (fun _ => 0) 0 12) 1 12))] t.heap ∧ va_K (dC, dI) CLS [(cA2, .int)] t ∧ va_D A [(h0, eO 1 [.ref p0, .ref q1, .ref q3, .ref q5, .ref q7, .ref q9, .ref q11, .ref q13, .ref q15, .int 0, .int 40, .int 0, .int 0, .int 0, .int 0, .int 1, .int 0]), (q1, eI cA2 12 (fun _ => 0)), (q3, eI cA2 12 (fun _ => 0)), (q5, eI cA2 12 (fun _ => 0)), (q7, eI cA2 12 (fun _ => 0)), (q9, eI cA2 12 (upd (upd (upd (upd (upd (upd (upd (upd (upd (upd (upd (upd (fun _ => 0) 0 3) 1 3) 2 3) 3 3) 4 3) 5 3) 6 3) 7 3) 8 3) 9 3) 10 3) 11 3)), (q11, eI cA2 12 (fun _ => 0)), (q13, eI cA2 12 (upd (upd (upd (upd (upd (upd (upd (upd (upd (upd (upd (upd (fun _ => 0) 0 (-1000000005)) 1 (-1000000005)) 2 (-1000000005)) 3 (-1000000005)) 4 (-1000000005)) 5 (-1000000005)) 6 (-1000000005)) 7 (-1000000005)) 8 (-1000000005)) 9 (-1000000005)) 10 (-1000000005)) 11 (-1000000005))), (q15, eI cA2 2 (upd (upd (fun _ => 0) 0 12) 1 12))]) A) args s 8 86 A) (F0 m 64 ls [.ref q15, .ref h0]) := by
  refine va_putF (D := (dC, dI)) (ci := 1) (v := .ref q15) (C := RX1) (T := TX1) (N := 17) hx hb hts iwX1 tyX1 tyX1_ok nmX1 hown hK hP hD hS 0 rfl rfl 8 (by decide) (hts _ mw_164) (fun _ h9 => h9) rfl hin rfl (tyX1_ok 8 (by decide)) rfl rfl (Nat.le_of_ble_eq_true rfl) dX1_init_64 (fun H locs hP2 hD2 hS => ?_)
  clear hP hD
  have hP := hP2
  have hD := hD2
  clear hP2 hD2
  refine lv_aload_n hx hb dX1_init_67 rfl (lv_at hl 0 rfl) ?_
  refine lv_aload_n hx hb dX1_init_68 rfl (lv_at hl 1 rfl) ?_
  refine va_putF (D := (dC, dI)) (ci := 1) (v := .ref p0) (C := RX1) (T := TX1) (N := 17) hx hb hts iwX1 tyX1 tyX1_ok nmX1 hown hK hP hD hS 0 rfl rfl 0 (by decide) (hts _ mw_146) (fun _ h9 => h9) rfl hin rfl (tyX1_ok 0 (by decide)) rfl rfl (Nat.le_of_ble_eq_true rfl) dX1_init_69 (fun H locs hP2 hD2 hS => ?_)
  clear hP hD
  have hP := hP2
  have hD := hD2
  clear hP2 hD2
  refine lv_iconst (v := 0) hx hb dX1_init_72 (by decide) ?_
  refine lv_istore_n (lv' := [(2, .int 0), (0, .ref h0), (1, .ref p0)]) hx hb dX1_init_73 rfl hl (by decide) rfl (fun ls hl => ?_)
  refine lv_iload_n hx hb dX1_init_74 rfl (lv_at hl 0 rfl) ?_
  refine lv_bipush (v := 12) hx hb dX1_init_75 (by decide) ?_
  refine lv_icmp_ge (tgt := 101) hx hb dX1_init_77 (by decide) (fun q => absurd q (by decide)) (fun _ => ?_)
  refine lv_aload_n hx hb dX1_init_80 rfl (lv_at hl 1 rfl) ?_
  refine va_get (D := (dC, dI)) (ci := 1) (v := .ref q9) (C := RX1) (T := TX1) (N := 17) hx hb hts iwX1 hown hK hP 0 rfl rfl 5 (by decide) (hts _ mw_158) (fun _ h9 => h9) rfl dX1_init_81 ?_
  refine lv_iload_n hx hb dX1_init_84 rfl (lv_at hl 0 rfl) ?_
  refine lv_iconst (v := 3) hx hb dX1_init_85 (by decide) ?_
  refine va_iast (i := 0) (x := 3) hx hb hK hP hD hS 5 0 rfl rfl (by show ¬ (_ ∨ _); decide) dX1_init_86 (fun H locs hP2 hD2 hS => ?_)
  clear hP hD
  have hP := hP2
  have hD := hD2
  clear hP2 hD2
  refine lv_aload_n hx hb dX1_init_87 rfl (lv_at hl 1 rfl) ?_
  refine va_get (D := (dC, dI)) (ci := 1) (v := .ref q13) (C := RX1) (T := TX1) (N := 17) hx hb hts iwX1 hown hK hP 0 rfl rfl 7 (by decide) (hts _ mw_162) (fun _ h9 => h9) rfl dX1_init_88 ?_
  refine lv_iload_n hx hb dX1_init_91 rfl (lv_at hl 0 rfl) ?_
  refine lv_ldc (v := -1000000005) hx hb hown (hts _ mw_145) dX1_init_92 ?_
  refine va_iast (i := 0) (x := (-1000000005)) hx hb hK hP hD hS 7 0 rfl rfl (by show ¬ (_ ∨ _); decide) dX1_init_94 (fun H locs hP2 hD2 hS => ?_)
  clear hP hD
  have hP := hP2
  have hD := hD2
  clear hP2 hD2
  refine lv_iinc (v := 1) (lv' := [(2, .int 1), (0, .ref h0), (1, .ref p0)]) hx hb dX1_init_95 hl (k := 0) rfl (by decide) (by decide) rfl (fun ls hl => ?_)
  refine lv_goto (tgt := 74) hx hb dX1_init_98 (by decide) ?_
  refine lv_iload_n hx hb dX1_init_74 rfl (lv_at hl 0 rfl) ?_
  refine lv_bipush (v := 12) hx hb dX1_init_75 (by decide) ?_
  refine lv_icmp_ge (tgt := 101) hx hb dX1_init_77 (by decide) (fun q => absurd q (by decide)) (fun _ => ?_)
  refine lv_aload_n hx hb dX1_init_80 rfl (lv_at hl 1 rfl) ?_
  refine va_get (D := (dC, dI)) (ci := 1) (v := .ref q9) (C := RX1) (T := TX1) (N := 17) hx hb hts iwX1 hown hK hP 0 rfl rfl 5 (by decide) (hts _ mw_158) (fun _ h9 => h9) rfl dX1_init_81 ?_
  refine lv_iload_n hx hb dX1_init_84 rfl (lv_at hl 0 rfl) ?_
  refine lv_iconst (v := 3) hx hb dX1_init_85 (by decide) ?_
  refine va_iast (i := 1) (x := 3) hx hb hK hP hD hS 5 0 rfl rfl (by show ¬ (_ ∨ _); decide) dX1_init_86 (fun H locs hP2 hD2 hS => ?_)
  clear hP hD
  have hP := hP2
  have hD := hD2
  clear hP2 hD2
  refine lv_aload_n hx hb dX1_init_87 rfl (lv_at hl 1 rfl) ?_
  refine va_get (D := (dC, dI)) (ci := 1) (v := .ref q13) (C := RX1) (T := TX1) (N := 17) hx hb hts iwX1 hown hK hP 0 rfl rfl 7 (by decide) (hts _ mw_162) (fun _ h9 => h9) rfl dX1_init_88 ?_
  refine lv_iload_n hx hb dX1_init_91 rfl (lv_at hl 0 rfl) ?_
  refine lv_ldc (v := -1000000005) hx hb hown (hts _ mw_145) dX1_init_92 ?_
  refine va_iast (i := 1) (x := (-1000000005)) hx hb hK hP hD hS 7 0 rfl rfl (by show ¬ (_ ∨ _); decide) dX1_init_94 (fun H locs hP2 hD2 hS => ?_)
  clear hP hD
  have hP := hP2
  have hD := hD2
  clear hP2 hD2
  refine W.widen (k := 8) (n := 86) (Nat.le_of_ble_eq_true rfl) (Nat.le_of_ble_eq_true rfl) ?_
  exact sg_X1_init_3 dC dI h0 p0 q1 q3 q5 q7 q9 q11 q13 q15 cA2 hx hb hr hts hown hml hlocks hin hN hA hK hP hD hS hl
set_option maxHeartbeats 4000000 in
set_option maxRecDepth 100000 in
theorem sg_X1_init_1 {p : Program} {l : Launch} {e : Env} {s : State} {m : MethodId} {args : Array Value} {below : List Frame} {meth : Method} {c : Code} (dC : Nat → ClassId) (dI : Nat → Nat → Nat) {A : Nat → Prop} (h0 : Nat) (p0 : Nat) (q1 : Nat) (q3 : Nat) (q5 : Nat) (q7 : Nat) (cA2 : ClassId) (hx : p.tables.exec = Jvm.exec) (hb : c.code = cX1_init) (hr : meth.sig.returnType = none) (hts : ∀ w ∈ WT, w.before args s = true) (hown : s.vm.findClass RX1 = some m.cls) (hml : c.maxLocals = 3) (hlocks : meth.locks = false) (hin : meth.name = "<init>") (hN : NK s) (hA : ∀ q : Nat, s.heap.size ≤ q → A q) {H : Heap} {locs : List Loc} {ls : Array Slot} (hK : va_K (dC, dI) CLS [(cA2, .int)] s) (hP : va_P (dC, dI) CLS [(h0, eO 1 [.null, .ref q1, .ref q3, .ref q5, .null, .null, .null, .null, .null, .int 0, .int 0, .int 0, .int 0, .int 0, .int 0, .int 0, .int 0]), (q1, eI cA2 12 (fun _ => 0)), (q3, eI cA2 12 (fun _ => 0)), (q5, eI cA2 12 (fun _ => 0)), (q7, eI cA2 12 (fun _ => 0))] H) (hD : va_D A [(h0, eO 1 [.null, .ref q1, .ref q3, .ref q5, .null, .null, .null, .null, .null, .int 0, .int 0, .int 0, .int 0, .int 0, .int 0, .int 0, .int 0]), (q1, eI cA2 12 (fun _ => 0)), (q3, eI cA2 12 (fun _ => 0)), (q5, eI cA2 12 (fun _ => 0)), (q7, eI cA2 12 (fun _ => 0))]) (hS : va_S A s.heap H locs) (hl : lv_has ls 3 [(0, .ref h0), (1, .ref p0)]) : W p l e rm_X1_init s m args below meth c H locs 4 48 (MQ below (va_Qv (fun _ : Unit => True) (fun _ t => ∃ (q1 : Nat) (q3 : Nat) (q5 : Nat) (q7 : Nat) (q9 : Nat) (q11 : Nat) (q13 : Nat) (q15 : Nat) (cA2 : ClassId), va_P (dC, dI) CLS [(h0, eO 1 [.ref p0, .ref q1, .ref q3, .ref q5, .ref q7, .ref q9, .ref q11, .ref q13, .ref q15, .int 0, .int 40, .int 0, .int 0, .int 0, .int 0, .int 1, .int 0]), (q1, eI cA2 12 (fun _ => 0)), (q3, eI cA2 12 (fun _ => 0)), (q5, eI cA2 12 (fun _ => 0)), (q7, eI cA2 12 (fun _ => 0)), (q9, eI cA2 12 (upd (upd (upd (upd (upd (upd (upd (upd (upd (upd (upd (upd (fun _ => 0) 0 3) 1 3) 2 3) 3 3) 4 3) 5 3) 6 3) 7 3) 8 3) 9 3) 10 3) 11 3)), (q11, eI cA2 12 (fun _ => 0)), (q13, eI cA2 12 (upd (upd (upd (upd (upd (upd (upd (upd (upd (upd (upd (upd (fun _ => 0) 0 (-1000000005)) 1 (-1000000005)) 2 (-1000000005)) 3 (-1000000005)) 4 (-1000000005)) 5 (-1000000005)) 6 (-1000000005)) 7 (-1000000005)) 8 (-1000000005)) 9 (-1000000005)) 10 (-1000000005)) 11 (-1000000005))), (q15, eI cA2 2 (upd (upd (fun _ => 0) 0 12) 1 12))] t.heap ∧ va_K (dC, dI) CLS [(cA2, .int)] t ∧ va_D A [(h0, eO 1 [.ref p0, .ref q1, .ref q3, .ref q5, .ref q7, .ref q9, .ref q11, .ref q13, .ref q15, .int 0, .int 40, .int 0, .int 0, .int 0, .int 0, .int 1, .int 0]), (q1, eI cA2 12 (fun _ => 0)), (q3, eI cA2 12 (fun _ => 0)), (q5, eI cA2 12 (fun _ => 0)), (q7, eI cA2 12 (fun _ => 0)), (q9, eI cA2 12 (upd (upd (upd (upd (upd (upd (upd (upd (upd (upd (upd (upd (fun _ => 0) 0 3) 1 3) 2 3) 3 3) 4 3) 5 3) 6 3) 7 3) 8 3) 9 3) 10 3) 11 3)), (q11, eI cA2 12 (fun _ => 0)), (q13, eI cA2 12 (upd (upd (upd (upd (upd (upd (upd (upd (upd (upd (upd (upd (fun _ => 0) 0 (-1000000005)) 1 (-1000000005)) 2 (-1000000005)) 3 (-1000000005)) 4 (-1000000005)) 5 (-1000000005)) 6 (-1000000005)) 7 (-1000000005)) 8 (-1000000005)) 9 (-1000000005)) 10 (-1000000005)) 11 (-1000000005))), (q15, eI cA2 2 (upd (upd (fun _ => 0) 0 12) 1 12))]) A) args s 8 86 A) (F0 m 33 ls [.ref q7, .ref h0]) := by
  refine va_putF (D := (dC, dI)) (ci := 1) (v := .ref q7) (C := RX1) (T := TX1) (N := 17) hx hb hts iwX1 tyX1 tyX1_ok nmX1 hown hK hP hD hS 0 rfl rfl 4 (by decide) (hts _ mw_155) (fun _ h9 => h9) rfl hin rfl (tyX1_ok 4 (by decide)) rfl rfl (Nat.le_of_ble_eq_true rfl) dX1_init_33 (fun H locs hP2 hD2 hS => ?_)
  clear hP hD
  have hP := hP2
  have hD := hD2
  clear hP2 hD2
  refine lv_aload_n hx hb dX1_init_36 rfl (lv_at hl 0 rfl) ?_
  refine lv_bipush (v := 12) hx hb dX1_init_37 (by decide) ?_
  refine va_newa (atype := .int) (a0 := (12, .inl (fun _ => 0))) (N' := 12) (n := 12) hx hb (hts _ mw_130) rfl hK hP hD hS hA (fun cA => rfl) (by decide) (by decide) (Nat.le_of_ble_eq_true rfl) (Nat.le_of_ble_eq_true rfl) (Nat.le_of_ble_eq_true rfl) dX1_init_39 (fun q9 cA10 H hK hP2 hD2 hS => ?_)
  obtain rfl : cA2 = cA10 := tysame hK (i := 0) (j := 1) rfl rfl
  have hK := hK.sub (tys' := [(cA2, .int)]) [0] rfl
  clear hP hD
  have hP := hP2
  have hD := hD2
  clear hP2 hD2
  refine va_putF (D := (dC, dI)) (ci := 1) (v := .ref q9) (C := RX1) (T := TX1) (N := 17) hx hb hts iwX1 tyX1 tyX1_ok nmX1 hown hK hP hD hS 0 rfl rfl 5 (by decide) (hts _ mw_158) (fun _ h9 => h9) rfl hin rfl (tyX1_ok 5 (by decide)) rfl rfl (Nat.le_of_ble_eq_true rfl) dX1_init_41 (fun H locs hP2 hD2 hS => ?_)
  clear hP hD
  have hP := hP2
  have hD := hD2
  clear hP2 hD2
  refine lv_aload_n hx hb dX1_init_44 rfl (lv_at hl 0 rfl) ?_
  refine lv_bipush (v := 12) hx hb dX1_init_45 (by decide) ?_
  refine va_newa (atype := .int) (a0 := (12, .inl (fun _ => 0))) (N' := 12) (n := 12) hx hb (hts _ mw_130) rfl hK hP hD hS hA (fun cA => rfl) (by decide) (by decide) (Nat.le_of_ble_eq_true rfl) (Nat.le_of_ble_eq_true rfl) (Nat.le_of_ble_eq_true rfl) dX1_init_47 (fun q11 cA12 H hK hP2 hD2 hS => ?_)
  obtain rfl : cA2 = cA12 := tysame hK (i := 0) (j := 1) rfl rfl
  have hK := hK.sub (tys' := [(cA2, .int)]) [0] rfl
  clear hP hD
  have hP := hP2
  have hD := hD2
  clear hP2 hD2
  refine va_putF (D := (dC, dI)) (ci := 1) (v := .ref q11) (C := RX1) (T := TX1) (N := 17) hx hb hts iwX1 tyX1 tyX1_ok nmX1 hown hK hP hD hS 0 rfl rfl 6 (by decide) (hts _ mw_160) (fun _ h9 => h9) rfl hin rfl (tyX1_ok 6 (by decide)) rfl rfl (Nat.le_of_ble_eq_true rfl) dX1_init_49 (fun H locs hP2 hD2 hS => ?_)
  clear hP hD
  have hP := hP2
  have hD := hD2
  clear hP2 hD2
  refine lv_aload_n hx hb dX1_init_52 rfl (lv_at hl 0 rfl) ?_
  refine lv_bipush (v := 12) hx hb dX1_init_53 (by decide) ?_
  refine va_newa (atype := .int) (a0 := (12, .inl (fun _ => 0))) (N' := 12) (n := 12) hx hb (hts _ mw_130) rfl hK hP hD hS hA (fun cA => rfl) (by decide) (by decide) (Nat.le_of_ble_eq_true rfl) (Nat.le_of_ble_eq_true rfl) (Nat.le_of_ble_eq_true rfl) dX1_init_55 (fun q13 cA14 H hK hP2 hD2 hS => ?_)
  obtain rfl : cA2 = cA14 := tysame hK (i := 0) (j := 1) rfl rfl
  have hK := hK.sub (tys' := [(cA2, .int)]) [0] rfl
  clear hP hD
  have hP := hP2
  have hD := hD2
  clear hP2 hD2
  refine va_putF (D := (dC, dI)) (ci := 1) (v := .ref q13) (C := RX1) (T := TX1) (N := 17) hx hb hts iwX1 tyX1 tyX1_ok nmX1 hown hK hP hD hS 0 rfl rfl 7 (by decide) (hts _ mw_162) (fun _ h9 => h9) rfl hin rfl (tyX1_ok 7 (by decide)) rfl rfl (Nat.le_of_ble_eq_true rfl) dX1_init_57 (fun H locs hP2 hD2 hS => ?_)
  clear hP hD
  have hP := hP2
  have hD := hD2
  clear hP2 hD2
  refine lv_aload_n hx hb dX1_init_60 rfl (lv_at hl 0 rfl) ?_
  refine lv_iconst (v := 2) hx hb dX1_init_61 (by decide) ?_
  refine va_newa (atype := .int) (a0 := (2, .inl (fun _ => 0))) (N' := 2) (n := 2) hx hb (hts _ mw_130) rfl hK hP hD hS hA (fun cA => rfl) (by decide) (by decide) (Nat.le_of_ble_eq_true rfl) (Nat.le_of_ble_eq_true rfl) (Nat.le_of_ble_eq_true rfl) dX1_init_62 (fun q15 cA16 H hK hP2 hD2 hS => ?_)
  obtain rfl : cA2 = cA16 := tysame hK (i := 0) (j := 1) rfl rfl
  have hK := hK.sub (tys' := [(cA2, .int)]) [0] rfl
  clear hP hD
  have hP := hP2
  have hD := hD2
  clear hP2 hD2
  refine W.widen (k := 8) (n := 86) (Nat.le_of_ble_eq_true rfl) (Nat.le_of_ble_eq_true rfl) ?_
  exact sg_X1_init_2 dC dI h0 p0 q1 q3 q5 q7 q9 q11 q13 q15 cA2 hx hb hr hts hown hml hlocks hin hN hA hK hP hD hS hl
set_option maxHeartbeats 4000000 in
set_option maxRecDepth 100000 in
theorem k_X1_init (l : Launch) (dC : Nat → ClassId) (dI : Nat → Nat → Nat) (h0 sz : Nat) (p0 : Nat) : Met l yX1_init (wsOf yX1_init cX1_init 3 none) rm_X1_init (va_Pc [.ref h0, .ref p0] (fun U => U.heap.size = sz ∧ va_P (dC, dI) CLS [(h0, eO 1 [.null, .null, .null, .null, .null, .null, .null, .null, .null, .int 0, .int 0, .int 0, .int 0, .int 0, .int 0, .int 0, .int 0])] U.heap ∧ va_K (dC, dI) CLS [] U ∧ va_D (fun _ => True) [(h0, eO 1 [.null, .null, .null, .null, .null, .null, .null, .null, .null, .int 0, .int 0, .int 0, .int 0, .int 0, .int 0, .int 0, .int 0])] ∧ NK U)) (va_Qv (fun _ : Unit => True) (fun _ t => ∃ (q1 : Nat) (q3 : Nat) (q5 : Nat) (q7 : Nat) (q9 : Nat) (q11 : Nat) (q13 : Nat) (q15 : Nat) (cA2 : ClassId), va_P (dC, dI) CLS [(h0, eO 1 [.ref p0, .ref q1, .ref q3, .ref q5, .ref q7, .ref q9, .ref q11, .ref q13, .ref q15, .int 0, .int 40, .int 0, .int 0, .int 0, .int 0, .int 1, .int 0]), (q1, eI cA2 12 (fun _ => 0)), (q3, eI cA2 12 (fun _ => 0)), (q5, eI cA2 12 (fun _ => 0)), (q7, eI cA2 12 (fun _ => 0)), (q9, eI cA2 12 (upd (upd (upd (upd (upd (upd (upd (upd (upd (upd (upd (upd (fun _ => 0) 0 3) 1 3) 2 3) 3 3) 4 3) 5 3) 6 3) 7 3) 8 3) 9 3) 10 3) 11 3)), (q11, eI cA2 12 (fun _ => 0)), (q13, eI cA2 12 (upd (upd (upd (upd (upd (upd (upd (upd (upd (upd (upd (upd (fun _ => 0) 0 (-1000000005)) 1 (-1000000005)) 2 (-1000000005)) 3 (-1000000005)) 4 (-1000000005)) 5 (-1000000005)) 6 (-1000000005)) 7 (-1000000005)) 8 (-1000000005)) 9 (-1000000005)) 10 (-1000000005)) 11 (-1000000005))), (q15, eI cA2 2 (upd (upd (fun _ => 0) 0 12) 1 12))] t.heap ∧ va_K (dC, dI) CLS [(cA2, .int)] t ∧ va_D (va_A [(h0, eO 1 [.null, .null, .null, .null, .null, .null, .null, .null, .null, .int 0, .int 0, .int 0, .int 0, .int 0, .int 0, .int 0, .int 0])] sz) [(h0, eO 1 [.ref p0, .ref q1, .ref q3, .ref q5, .ref q7, .ref q9, .ref q11, .ref q13, .ref q15, .int 0, .int 40, .int 0, .int 0, .int 0, .int 0, .int 1, .int 0]), (q1, eI cA2 12 (fun _ => 0)), (q3, eI cA2 12 (fun _ => 0)), (q5, eI cA2 12 (fun _ => 0)), (q7, eI cA2 12 (fun _ => 0)), (q9, eI cA2 12 (upd (upd (upd (upd (upd (upd (upd (upd (upd (upd (upd (upd (fun _ => 0) 0 3) 1 3) 2 3) 3 3) 4 3) 5 3) 6 3) 7 3) 8 3) 9 3) 10 3) 11 3)), (q11, eI cA2 12 (fun _ => 0)), (q13, eI cA2 12 (upd (upd (upd (upd (upd (upd (upd (upd (upd (upd (upd (upd (fun _ => 0) 0 (-1000000005)) 1 (-1000000005)) 2 (-1000000005)) 3 (-1000000005)) 4 (-1000000005)) 5 (-1000000005)) 6 (-1000000005)) 7 (-1000000005)) 8 (-1000000005)) 9 (-1000000005)) 10 (-1000000005)) 11 (-1000000005))), (q15, eI cA2 2 (upd (upd (fun _ => 0) 0 12) 1 12))]) (va_A [(h0, eO 1 [.null, .null, .null, .null, .null, .null, .null, .null, .null, .int 0, .int 0, .int 0, .int 0, .int 0, .int 0, .int 0, .int 0])] sz)) 8 86 (va_A [(h0, eO 1 [.null, .null, .null, .null, .null, .null, .null, .null, .null, .int 0, .int 0, .int 0, .int 0, .int 0, .int 0, .int 0, .int 0])] sz) := by
  refine Met.ofW (cc := cX1_init) (maxL := 3) (ret := none) (by decide) rfl ?_
  intro p e s m args below meth c s₁ B hml hv
  obtain ⟨rfl, hsz, hP, hK, hD0, hN⟩ := hv
  have hx := B.exec
  have hb := B.bytes
  have hr := B.returns
  have hts0 := atoms_spec (ws := wsOf yX1_init cX1_init 3 none) B.pre
  have hts : ∀ w ∈ WT, w.before _ s = true := fun w hw => hts0 w (List.mem_cons_of_mem _ hw)
  have hown : s.vm.findClass RX1 = some m.cls := findClass_of_methodNamed B.named
  have hlocks := B.notSynchronized
  have hin : meth.name = "<init>" := (name_of_methodNamed B.named B.method).1
  subst hsz
  have hD := hD0.self (sz := s.heap.size)
  generalize hAe : va_A [(h0, eO 1 [.null, .null, .null, .null, .null, .null, .null, .null, .null, .int 0, .int 0, .int 0, .int 0, .int 0, .int 0, .int 0, .int 0])] s.heap.size = A at hD ⊢
  have hA : ∀ q : Nat, s.heap.size ≤ q → A q := fun q h => by rw [← hAe]; exact Or.inr h
  have hS : va_S A s.heap s.heap [] := va_S.rf
  have hl := lv_entry ([.ref h0, .ref p0]) (n := 3) (Nat.le_of_ble_eq_true rfl)
  rw [lg_entry_eq]
  generalize (lg_sl ([.ref h0, .ref p0]) ++ List.replicate (3 - (lg_sl ([.ref h0, .ref p0])).length) Slot.unset).toArray = ls at hl ⊢
  have hl : lv_has ls 3 [(0, .ref h0), (1, .ref p0)] := hl
  have hP : va_P (dC, dI) CLS [(h0, eO 1 [.null, .null, .null, .null, .null, .null, .null, .null, .null, .int 0, .int 0, .int 0, .int 0, .int 0, .int 0, .int 0, .int 0])] s.heap := hP
  refine lv_aload_n hx hb dX1_init_0 rfl (lv_at hl 0 rfl) ?_
  refine W.objInit hx hb hown (hts _ mw_144) (hts _ mw_99) (hts _ mw_100) rfl (by rw [hml]; exact hl.1) rfl dX1_init_1 (Nat.le_of_ble_eq_true rfl) (Nat.le_of_ble_eq_true rfl) ?_
  refine W.eq (g2 := F0 m 4 ls []) rfl ?_
  refine lv_aload_n hx hb dX1_init_4 rfl (lv_at hl 0 rfl) ?_
  refine lv_bipush (v := 12) hx hb dX1_init_5 (by decide) ?_
  refine va_newa (atype := .int) (a0 := (12, .inl (fun _ => 0))) (N' := 12) (n := 12) hx hb (hts _ mw_130) rfl hK hP hD hS hA (fun cA => rfl) (by decide) (by decide) (Nat.le_of_ble_eq_true rfl) (Nat.le_of_ble_eq_true rfl) (Nat.le_of_ble_eq_true rfl) dX1_init_7 (fun q1 cA2 H hK hP2 hD2 hS => ?_)
  have hK : va_K (dC, dI) CLS [(cA2, .int)] s := hK
  clear hP hD
  have hP := hP2
  have hD := hD2
  clear hP2 hD2
  refine va_putF (D := (dC, dI)) (ci := 1) (v := .ref q1) (C := RX1) (T := TX1) (N := 17) hx hb hts iwX1 tyX1 tyX1_ok nmX1 hown hK hP hD hS 0 rfl rfl 1 (by decide) (hts _ mw_147) (fun _ h9 => h9) rfl hin rfl (tyX1_ok 1 (by decide)) rfl rfl (Nat.le_of_ble_eq_true rfl) dX1_init_9 (fun H locs hP2 hD2 hS => ?_)
  clear hP hD
  have hP := hP2
  have hD := hD2
  clear hP2 hD2
  refine lv_aload_n hx hb dX1_init_12 rfl (lv_at hl 0 rfl) ?_
  refine lv_bipush (v := 12) hx hb dX1_init_13 (by decide) ?_
  refine va_newa (atype := .int) (a0 := (12, .inl (fun _ => 0))) (N' := 12) (n := 12) hx hb (hts _ mw_130) rfl hK hP hD hS hA (fun cA => rfl) (by decide) (by decide) (Nat.le_of_ble_eq_true rfl) (Nat.le_of_ble_eq_true rfl) (Nat.le_of_ble_eq_true rfl) dX1_init_15 (fun q3 cA4 H hK hP2 hD2 hS => ?_)
  obtain rfl : cA2 = cA4 := tysame hK (i := 0) (j := 1) rfl rfl
  have hK := hK.sub (tys' := [(cA2, .int)]) [0] rfl
  clear hP hD
  have hP := hP2
  have hD := hD2
  clear hP2 hD2
  refine va_putF (D := (dC, dI)) (ci := 1) (v := .ref q3) (C := RX1) (T := TX1) (N := 17) hx hb hts iwX1 tyX1 tyX1_ok nmX1 hown hK hP hD hS 0 rfl rfl 2 (by decide) (hts _ mw_149) (fun _ h9 => h9) rfl hin rfl (tyX1_ok 2 (by decide)) rfl rfl (Nat.le_of_ble_eq_true rfl) dX1_init_17 (fun H locs hP2 hD2 hS => ?_)
  clear hP hD
  have hP := hP2
  have hD := hD2
  clear hP2 hD2
  refine lv_aload_n hx hb dX1_init_20 rfl (lv_at hl 0 rfl) ?_
  refine lv_bipush (v := 12) hx hb dX1_init_21 (by decide) ?_
  refine va_newa (atype := .int) (a0 := (12, .inl (fun _ => 0))) (N' := 12) (n := 12) hx hb (hts _ mw_130) rfl hK hP hD hS hA (fun cA => rfl) (by decide) (by decide) (Nat.le_of_ble_eq_true rfl) (Nat.le_of_ble_eq_true rfl) (Nat.le_of_ble_eq_true rfl) dX1_init_23 (fun q5 cA6 H hK hP2 hD2 hS => ?_)
  obtain rfl : cA2 = cA6 := tysame hK (i := 0) (j := 1) rfl rfl
  have hK := hK.sub (tys' := [(cA2, .int)]) [0] rfl
  clear hP hD
  have hP := hP2
  have hD := hD2
  clear hP2 hD2
  refine va_putF (D := (dC, dI)) (ci := 1) (v := .ref q5) (C := RX1) (T := TX1) (N := 17) hx hb hts iwX1 tyX1 tyX1_ok nmX1 hown hK hP hD hS 0 rfl rfl 3 (by decide) (hts _ mw_152) (fun _ h9 => h9) rfl hin rfl (tyX1_ok 3 (by decide)) rfl rfl (Nat.le_of_ble_eq_true rfl) dX1_init_25 (fun H locs hP2 hD2 hS => ?_)
  clear hP hD
  have hP := hP2
  have hD := hD2
  clear hP2 hD2
  refine lv_aload_n hx hb dX1_init_28 rfl (lv_at hl 0 rfl) ?_
  refine lv_bipush (v := 12) hx hb dX1_init_29 (by decide) ?_
  refine va_newa (atype := .int) (a0 := (12, .inl (fun _ => 0))) (N' := 12) (n := 12) hx hb (hts _ mw_130) rfl hK hP hD hS hA (fun cA => rfl) (by decide) (by decide) (Nat.le_of_ble_eq_true rfl) (Nat.le_of_ble_eq_true rfl) (Nat.le_of_ble_eq_true rfl) dX1_init_31 (fun q7 cA8 H hK hP2 hD2 hS => ?_)
  obtain rfl : cA2 = cA8 := tysame hK (i := 0) (j := 1) rfl rfl
  have hK := hK.sub (tys' := [(cA2, .int)]) [0] rfl
  clear hP hD
  have hP := hP2
  have hD := hD2
  clear hP2 hD2
  refine W.widen (k := 4) (n := 48) (Nat.le_of_ble_eq_true rfl) (Nat.le_of_ble_eq_true rfl) ?_
  exact sg_X1_init_1 dC dI h0 p0 q1 q3 q5 q7 cA2 hx hb hr hts hown hml hlocks hin hN hA hK hP hD hS hl
theorem dX4_init_0 : decode cX4_init 0 = .ok (.aload_n 0, 1) := by decide +kernel
theorem dX4_init_1 : decode cX4_init 1 = .ok (.invokespecial 3, 3) := by decide +kernel
theorem dX4_init_4 : decode cX4_init 4 = .ok (.aload_n 0, 1) := by decide +kernel
theorem dX4_init_5 : decode cX4_init 5 = .ok (.bipush 15, 2) := by decide +kernel
theorem dX4_init_7 : decode cX4_init 7 = .ok (.anewarray 9, 3) := by decide +kernel
theorem dX4_init_10 : decode cX4_init 10 = .ok (.putfield 11, 3) := by decide +kernel
theorem dX4_init_13 : decode cX4_init 13 = .ok (.aload_n 0, 1) := by decide +kernel
theorem dX4_init_14 : decode cX4_init 14 = .ok (.bipush 96, 2) := by decide +kernel
theorem dX4_init_16 : decode cX4_init 16 = .ok (.newarray .int, 2) := by decide +kernel
theorem dX4_init_18 : decode cX4_init 18 = .ok (.putfield 17, 3) := by decide +kernel
theorem dX4_init_21 : decode cX4_init 21 = .ok (.iconst 0, 1) := by decide +kernel
theorem dX4_init_22 : decode cX4_init 22 = .ok (.istore_n 1, 1) := by decide +kernel
theorem dX4_init_23 : decode cX4_init 23 = .ok (.iload_n 1, 1) := by decide +kernel
theorem dX4_init_24 : decode cX4_init 24 = .ok (.bipush 14, 2) := by decide +kernel
theorem dX4_init_26 : decode cX4_init 26 = .ok (.if_icmp .gt 22, 3) := by decide +kernel
theorem dX4_init_29 : decode cX4_init 29 = .ok (.aload_n 0, 1) := by decide +kernel
theorem dX4_init_30 : decode cX4_init 30 = .ok (.getfield 11, 3) := by decide +kernel
theorem dX4_init_33 : decode cX4_init 33 = .ok (.iload_n 1, 1) := by decide +kernel
theorem dX4_init_34 : decode cX4_init 34 = .ok (.new 9, 3) := by decide +kernel
theorem dX4_init_37 : decode cX4_init 37 = .ok (.dup, 1) := by decide +kernel
theorem dX4_init_38 : decode cX4_init 38 = .ok (.invokespecial 21, 3) := by decide +kernel
theorem dX4_init_41 : decode cX4_init 41 = .ok (.aastore, 1) := by decide +kernel
theorem dX4_init_42 : decode cX4_init 42 = .ok (.iinc 1 1, 3) := by decide +kernel
theorem dX4_init_45 : decode cX4_init 45 = .ok (.goto (-22), 3) := by decide +kernel
theorem dX4_init_48 : decode cX4_init 48 = .ok (.return_, 1) := by decide +kernel
theorem okd_X4_init : yX4_init.cls ≠ "java/lang/invoke/MethodHandle" ∧ yX4_init.cls ≠ "java/lang/invoke/VarHandle" ∧ (parseMethodDescriptor yX4_init.desc).map (fun d => d.parameters.length) = some 0 := by decide +kernel
abbrev rm_X4_init : Room := { frames := 2, cells := 32, slots := 1611, locals := 32 }
set_option maxHeartbeats 4000000 in
set_option maxRecDepth 100000 in
theorem sg_X4_init_15 {p : Program} {l : Launch} {e : Env} {s : State} {m : MethodId} {args : Array Value} {below : List Frame} {meth : Method} {c : Code} (dC : Nat → ClassId) (dI : Nat → Nat → Nat) {A : Nat → Prop} (h0 : Nat) (q1 : Nat) (q3 : Nat) (q5 : Nat) (q6 : Nat) (q8 : Nat) (q9 : Nat) (q11 : Nat) (q12 : Nat) (q14 : Nat) (q15 : Nat) (q17 : Nat) (q18 : Nat) (q20 : Nat) (q21 : Nat) (q23 : Nat) (q24 : Nat) (q26 : Nat) (q27 : Nat) (q29 : Nat) (q30 : Nat) (q32 : Nat) (q33 : Nat) (q35 : Nat) (q36 : Nat) (q38 : Nat) (q39 : Nat) (q41 : Nat) (q42 : Nat) (q44 : Nat) (q45 : Nat) (q47 : Nat) (q48 : Nat) (cA2 : ClassId) (cA4 : ClassId) (hx : p.tables.exec = Jvm.exec) (hb : c.code = cX4_init) (hr : meth.sig.returnType = none) (hts : ∀ w ∈ WT, w.before args s = true) (hown : s.vm.findClass RX4 = some m.cls) (hml : c.maxLocals = 2) (hlocks : meth.locks = false) (hin : meth.name = "<init>") (hN : NK s) (hA : ∀ q : Nat, s.heap.size ≤ q → A q) {H : Heap} {locs : List Loc} {ls : Array Slot} (hK : va_K (dC, dI) CLS [(cA2, .object "RoofWar$Law"), (cA4, .int)] s) (hP : va_P (dC, dI) CLS [(h0, eO 3 [.ref q1, .ref q3]), (q1, eQ cA2 15 (va_up (va_up (va_up (va_up (va_up (va_up (va_up (va_up (va_up (va_up (va_up (va_up (va_up (va_up (fun _ => none) 0 (some q5)) 1 (some q8)) 2 (some q11)) 3 (some q14)) 4 (some q17)) 5 (some q20)) 6 (some q23)) 7 (some q26)) 8 (some q29)) 9 (some q32)) 10 (some q35)) 11 (some q38)) 12 (some q41)) 13 (some q44))), (q3, eI cA4 96 (fun _ => 0)), (q5, eO 2 [.int 0, .int 0, .int 0, .ref q6]), (q6, eI cA4 96 (fun _ => 0)), (q8, eO 2 [.int 0, .int 0, .int 0, .ref q9]), (q9, eI cA4 96 (fun _ => 0)), (q11, eO 2 [.int 0, .int 0, .int 0, .ref q12]), (q12, eI cA4 96 (fun _ => 0)), (q14, eO 2 [.int 0, .int 0, .int 0, .ref q15]), (q15, eI cA4 96 (fun _ => 0)), (q17, eO 2 [.int 0, .int 0, .int 0, .ref q18]), (q18, eI cA4 96 (fun _ => 0)), (q20, eO 2 [.int 0, .int 0, .int 0, .ref q21]), (q21, eI cA4 96 (fun _ => 0)), (q23, eO 2 [.int 0, .int 0, .int 0, .ref q24]), (q24, eI cA4 96 (fun _ => 0)), (q26, eO 2 [.int 0, .int 0, .int 0, .ref q27]), (q27, eI cA4 96 (fun _ => 0)), (q29, eO 2 [.int 0, .int 0, .int 0, .ref q30]), (q30, eI cA4 96 (fun _ => 0)), (q32, eO 2 [.int 0, .int 0, .int 0, .ref q33]), (q33, eI cA4 96 (fun _ => 0)), (q35, eO 2 [.int 0, .int 0, .int 0, .ref q36]), (q36, eI cA4 96 (fun _ => 0)), (q38, eO 2 [.int 0, .int 0, .int 0, .ref q39]), (q39, eI cA4 96 (fun _ => 0)), (q41, eO 2 [.int 0, .int 0, .int 0, .ref q42]), (q42, eI cA4 96 (fun _ => 0)), (q44, eO 2 [.int 0, .int 0, .int 0, .ref q45]), (q45, eI cA4 96 (fun _ => 0)), (q47, eO 2 [.int 0, .int 0, .int 0, .ref q48]), (q48, eI cA4 96 (fun _ => 0))] H) (hD : va_D A [(h0, eO 3 [.ref q1, .ref q3]), (q1, eQ cA2 15 (va_up (va_up (va_up (va_up (va_up (va_up (va_up (va_up (va_up (va_up (va_up (va_up (va_up (va_up (fun _ => none) 0 (some q5)) 1 (some q8)) 2 (some q11)) 3 (some q14)) 4 (some q17)) 5 (some q20)) 6 (some q23)) 7 (some q26)) 8 (some q29)) 9 (some q32)) 10 (some q35)) 11 (some q38)) 12 (some q41)) 13 (some q44))), (q3, eI cA4 96 (fun _ => 0)), (q5, eO 2 [.int 0, .int 0, .int 0, .ref q6]), (q6, eI cA4 96 (fun _ => 0)), (q8, eO 2 [.int 0, .int 0, .int 0, .ref q9]), (q9, eI cA4 96 (fun _ => 0)), (q11, eO 2 [.int 0, .int 0, .int 0, .ref q12]), (q12, eI cA4 96 (fun _ => 0)), (q14, eO 2 [.int 0, .int 0, .int 0, .ref q15]), (q15, eI cA4 96 (fun _ => 0)), (q17, eO 2 [.int 0, .int 0, .int 0, .ref q18]), (q18, eI cA4 96 (fun _ => 0)), (q20, eO 2 [.int 0, .int 0, .int 0, .ref q21]), (q21, eI cA4 96 (fun _ => 0)), (q23, eO 2 [.int 0, .int 0, .int 0, .ref q24]), (q24, eI cA4 96 (fun _ => 0)), (q26, eO 2 [.int 0, .int 0, .int 0, .ref q27]), (q27, eI cA4 96 (fun _ => 0)), (q29, eO 2 [.int 0, .int 0, .int 0, .ref q30]), (q30, eI cA4 96 (fun _ => 0)), (q32, eO 2 [.int 0, .int 0, .int 0, .ref q33]), (q33, eI cA4 96 (fun _ => 0)), (q35, eO 2 [.int 0, .int 0, .int 0, .ref q36]), (q36, eI cA4 96 (fun _ => 0)), (q38, eO 2 [.int 0, .int 0, .int 0, .ref q39]), (q39, eI cA4 96 (fun _ => 0)), (q41, eO 2 [.int 0, .int 0, .int 0, .ref q42]), (q42, eI cA4 96 (fun _ => 0)), (q44, eO 2 [.int 0, .int 0, .int 0, .ref q45]), (q45, eI cA4 96 (fun _ => 0)), (q47, eO 2 [.int 0, .int 0, .int 0, .ref q48]), (q48, eI cA4 96 (fun _ => 0))]) (hS : va_S A s.heap H locs) (hl : lv_has ls 2 [(1, .int 14), (0, .ref h0)]) : W p l e rm_X4_init s m args below meth c H locs 32 1611 (MQ below (va_Qv (fun _ : Unit => True) (fun _ t => ∃ (q1 : Nat) (q3 : Nat) (q5 : Nat) (q6 : Nat) (q8 : Nat) (q9 : Nat) (q11 : Nat) (q12 : Nat) (q14 : Nat) (q15 : Nat) (q17 : Nat) (q18 : Nat) (q20 : Nat) (q21 : Nat) (q23 : Nat) (q24 : Nat) (q26 : Nat) (q27 : Nat) (q29 : Nat) (q30 : Nat) (q32 : Nat) (q33 : Nat) (q35 : Nat) (q36 : Nat) (q38 : Nat) (q39 : Nat) (q41 : Nat) (q42 : Nat) (q44 : Nat) (q45 : Nat) (q47 : Nat) (q48 : Nat) (cA2 : ClassId) (cA4 : ClassId), va_P (dC, dI) CLS [(h0, eO 3 [.ref q1, .ref q3]), (q1, eQ cA2 15 (va_up (va_up (va_up (va_up (va_up (va_up (va_up (va_up (va_up (va_up (va_up (va_up (va_up (va_up (va_up (fun _ => none) 0 (some q5)) 1 (some q8)) 2 (some q11)) 3 (some q14)) 4 (some q17)) 5 (some q20)) 6 (some q23)) 7 (some q26)) 8 (some q29)) 9 (some q32)) 10 (some q35)) 11 (some q38)) 12 (some q41)) 13 (some q44)) 14 (some q47))), (q3, eI cA4 96 (fun _ => 0)), (q5, eO 2 [.int 0, .int 0, .int 0, .ref q6]), (q6, eI cA4 96 (fun _ => 0)), (q8, eO 2 [.int 0, .int 0, .int 0, .ref q9]), (q9, eI cA4 96 (fun _ => 0)), (q11, eO 2 [.int 0, .int 0, .int 0, .ref q12]), (q12, eI cA4 96 (fun _ => 0)), (q14, eO 2 [.int 0, .int 0, .int 0, .ref q15]), (q15, eI cA4 96 (fun _ => 0)), (q17, eO 2 [.int 0, .int 0, .int 0, .ref q18]), (q18, eI cA4 96 (fun _ => 0)), (q20, eO 2 [.int 0, .int 0, .int 0, .ref q21]), (q21, eI cA4 96 (fun _ => 0)), (q23, eO 2 [.int 0, .int 0, .int 0, .ref q24]), (q24, eI cA4 96 (fun _ => 0)), (q26, eO 2 [.int 0, .int 0, .int 0, .ref q27]), (q27, eI cA4 96 (fun _ => 0)), (q29, eO 2 [.int 0, .int 0, .int 0, .ref q30]), (q30, eI cA4 96 (fun _ => 0)), (q32, eO 2 [.int 0, .int 0, .int 0, .ref q33]), (q33, eI cA4 96 (fun _ => 0)), (q35, eO 2 [.int 0, .int 0, .int 0, .ref q36]), (q36, eI cA4 96 (fun _ => 0)), (q38, eO 2 [.int 0, .int 0, .int 0, .ref q39]), (q39, eI cA4 96 (fun _ => 0)), (q41, eO 2 [.int 0, .int 0, .int 0, .ref q42]), (q42, eI cA4 96 (fun _ => 0)), (q44, eO 2 [.int 0, .int 0, .int 0, .ref q45]), (q45, eI cA4 96 (fun _ => 0)), (q47, eO 2 [.int 0, .int 0, .int 0, .ref q48]), (q48, eI cA4 96 (fun _ => 0))] t.heap ∧ va_K (dC, dI) CLS [(cA2, .object "RoofWar$Law"), (cA4, .int)] t ∧ va_D A [(h0, eO 3 [.ref q1, .ref q3]), (q1, eQ cA2 15 (va_up (va_up (va_up (va_up (va_up (va_up (va_up (va_up (va_up (va_up (va_up (va_up (va_up (va_up (va_up (fun _ => none) 0 (some q5)) 1 (some q8)) 2 (some q11)) 3 (some q14)) 4 (some q17)) 5 (some q20)) 6 (some q23)) 7 (some q26)) 8 (some q29)) 9 (some q32)) 10 (some q35)) 11 (some q38)) 12 (some q41)) 13 (some q44)) 14 (some q47))), (q3, eI cA4 96 (fun _ => 0)), (q5, eO 2 [.int 0, .int 0, .int 0, .ref q6]), (q6, eI cA4 96 (fun _ => 0)), (q8, eO 2 [.int 0, .int 0, .int 0, .ref q9]), (q9, eI cA4 96 (fun _ => 0)), (q11, eO 2 [.int 0, .int 0, .int 0, .ref q12]), (q12, eI cA4 96 (fun _ => 0)), (q14, eO 2 [.int 0, .int 0, .int 0, .ref q15]), (q15, eI cA4 96 (fun _ => 0)), (q17, eO 2 [.int 0, .int 0, .int 0, .ref q18]), (q18, eI cA4 96 (fun _ => 0)), (q20, eO 2 [.int 0, .int 0, .int 0, .ref q21]), (q21, eI cA4 96 (fun _ => 0)), (q23, eO 2 [.int 0, .int 0, .int 0, .ref q24]), (q24, eI cA4 96 (fun _ => 0)), (q26, eO 2 [.int 0, .int 0, .int 0, .ref q27]), (q27, eI cA4 96 (fun _ => 0)), (q29, eO 2 [.int 0, .int 0, .int 0, .ref q30]), (q30, eI cA4 96 (fun _ => 0)), (q32, eO 2 [.int 0, .int 0, .int 0, .ref q33]), (q33, eI cA4 96 (fun _ => 0)), (q35, eO 2 [.int 0, .int 0, .int 0, .ref q36]), (q36, eI cA4 96 (fun _ => 0)), (q38, eO 2 [.int 0, .int 0, .int 0, .ref q39]), (q39, eI cA4 96 (fun _ => 0)), (q41, eO 2 [.int 0, .int 0, .int 0, .ref q42]), (q42, eI cA4 96 (fun _ => 0)), (q44, eO 2 [.int 0, .int 0, .int 0, .ref q45]), (q45, eI cA4 96 (fun _ => 0)), (q47, eO 2 [.int 0, .int 0, .int 0, .ref q48]), (q48, eI cA4 96 (fun _ => 0))]) A) args s 32 1611 A) (F0 m 41 ls [.ref q47, .int 14, .ref q1]) := by
  refine va_astq (i := 14) hx hb hK hP hD hS 1 0 31 2 rfl rfl rfl rfl (by show ¬ (_ ∨ _); decide) dX4_init_41 (fun H locs hP2 hD2 hS => ?_)
  clear hP hD
  have hP := hP2
  have hD := hD2
  clear hP2 hD2
  refine lv_iinc (v := 15) (lv' := [(1, .int 15), (0, .ref h0)]) hx hb dX4_init_42 hl (k := 0) rfl (by decide) (by decide) rfl (fun ls hl => ?_)
  refine lv_goto (tgt := 23) hx hb dX4_init_45 (by decide) ?_
  refine lv_iload_n hx hb dX4_init_23 rfl (lv_at hl 0 rfl) ?_
  refine lv_bipush (v := 14) hx hb dX4_init_24 (by decide) ?_
  refine lv_icmp_gt (tgt := 48) hx hb dX4_init_26 (by decide) (fun _ => ?_) (fun q => absurd (by decide) q)
  refine W.widen (k := 32) (n := 1611) (Nat.le_of_ble_eq_true rfl) (Nat.le_of_ble_eq_true rfl) ?_
  exact W.vret hx hb hr (fun t ht hW => ⟨⟨(), rfl, trivial, q1, q3, q5, q6, q8, q9, q11, q12, q14, q15, q17, q18, q20, q21, q23, q24, q26, q27, q29, q30, q32, q33, q35, q36, q38, q39, q41, q42, q44, q45, q47, q48, cA2, cA4, by rw [ht]; exact hP, va_K.moved hW.alike hK, hD⟩, hS.F ht⟩) hS.2.2 dX4_init_48
set_option maxHeartbeats 4000000 in
set_option maxRecDepth 100000 in
theorem sg_X4_init_14 {p : Program} {l : Launch} {e : Env} {s : State} {m : MethodId} {args : Array Value} {below : List Frame} {meth : Method} {c : Code} (dC : Nat → ClassId) (dI : Nat → Nat → Nat) {A : Nat → Prop} (h0 : Nat) (q1 : Nat) (q3 : Nat) (q5 : Nat) (q6 : Nat) (q8 : Nat) (q9 : Nat) (q11 : Nat) (q12 : Nat) (q14 : Nat) (q15 : Nat) (q17 : Nat) (q18 : Nat) (q20 : Nat) (q21 : Nat) (q23 : Nat) (q24 : Nat) (q26 : Nat) (q27 : Nat) (q29 : Nat) (q30 : Nat) (q32 : Nat) (q33 : Nat) (q35 : Nat) (q36 : Nat) (q38 : Nat) (q39 : Nat) (q41 : Nat) (q42 : Nat) (q44 : Nat) (q45 : Nat) (cA2 : ClassId) (cA4 : ClassId) (hx : p.tables.exec = Jvm.exec) (hb : c.code = cX4_init) (hr : meth.sig.returnType = none) (hts : ∀ w ∈ WT, w.before args s = true) (hown : s.vm.findClass RX4 = some m.cls) (hml : c.maxLocals = 2) (hlocks : meth.locks = false) (hin : meth.name = "<init>") (hN : NK s) (hA : ∀ q : Nat, s.heap.size ≤ q → A q) {H : Heap} {locs : List Loc} {ls : Array Slot} (hK : va_K (dC, dI) CLS [(cA2, .object "RoofWar$Law"), (cA4, .int)] s) (hP : va_P (dC, dI) CLS [(h0, eO 3 [.ref q1, .ref q3]), (q1, eQ cA2 15 (va_up (va_up (va_up (va_up (va_up (va_up (va_up (va_up (va_up (va_up (va_up (va_up (va_up (fun _ => none) 0 (some q5)) 1 (some q8)) 2 (some q11)) 3 (some q14)) 4 (some q17)) 5 (some q20)) 6 (some q23)) 7 (some q26)) 8 (some q29)) 9 (some q32)) 10 (some q35)) 11 (some q38)) 12 (some q41))), (q3, eI cA4 96 (fun _ => 0)), (q5, eO 2 [.int 0, .int 0, .int 0, .ref q6]), (q6, eI cA4 96 (fun _ => 0)), (q8, eO 2 [.int 0, .int 0, .int 0, .ref q9]), (q9, eI cA4 96 (fun _ => 0)), (q11, eO 2 [.int 0, .int 0, .int 0, .ref q12]), (q12, eI cA4 96 (fun _ => 0)), (q14, eO 2 [.int 0, .int 0, .int 0, .ref q15]), (q15, eI cA4 96 (fun _ => 0)), (q17, eO 2 [.int 0, .int 0, .int 0, .ref q18]), (q18, eI cA4 96 (fun _ => 0)), (q20, eO 2 [.int 0, .int 0, .int 0, .ref q21]), (q21, eI cA4 96 (fun _ => 0)), (q23, eO 2 [.int 0, .int 0, .int 0, .ref q24]), (q24, eI cA4 96 (fun _ => 0)), (q26, eO 2 [.int 0, .int 0, .int 0, .ref q27]), (q27, eI cA4 96 (fun _ => 0)), (q29, eO 2 [.int 0, .int 0, .int 0, .ref q30]), (q30, eI cA4 96 (fun _ => 0)), (q32, eO 2 [.int 0, .int 0, .int 0, .ref q33]), (q33, eI cA4 96 (fun _ => 0)), (q35, eO 2 [.int 0, .int 0, .int 0, .ref q36]), (q36, eI cA4 96 (fun _ => 0)), (q38, eO 2 [.int 0, .int 0, .int 0, .ref q39]), (q39, eI cA4 96 (fun _ => 0)), (q41, eO 2 [.int 0, .int 0, .int 0, .ref q42]), (q42, eI cA4 96 (fun _ => 0)), (q44, eO 2 [.int 0, .int 0, .int 0, .ref q45]), (q45, eI cA4 96 (fun _ => 0))] H) (hD : va_D A [(h0, eO 3 [.ref q1, .ref q3]), (q1, eQ cA2 15 (va_up (va_up (va_up (va_up (va_up (va_up (va_up (va_up (va_up (va_up (va_up (va_up (va_up (fun _ => none) 0 (some q5)) 1 (some q8)) 2 (some q11)) 3 (some q14)) 4 (some q17)) 5 (some q20)) 6 (some q23)) 7 (some q26)) 8 (some q29)) 9 (some q32)) 10 (some q35)) 11 (some q38)) 12 (some q41))), (q3, eI cA4 96 (fun _ => 0)), (q5, eO 2 [.int 0, .int 0, .int 0, .ref q6]), (q6, eI cA4 96 (fun _ => 0)), (q8, eO 2 [.int 0, .int 0, .int 0, .ref q9]), (q9, eI cA4 96 (fun _ => 0)), (q11, eO 2 [.int 0, .int 0, .int 0, .ref q12]), (q12, eI cA4 96 (fun _ => 0)), (q14, eO 2 [.int 0, .int 0, .int 0, .ref q15]), (q15, eI cA4 96 (fun _ => 0)), (q17, eO 2 [.int 0, .int 0, .int 0, .ref q18]), (q18, eI cA4 96 (fun _ => 0)), (q20, eO 2 [.int 0, .int 0, .int 0, .ref q21]), (q21, eI cA4 96 (fun _ => 0)), (q23, eO 2 [.int 0, .int 0, .int 0, .ref q24]), (q24, eI cA4 96 (fun _ => 0)), (q26, eO 2 [.int 0, .int 0, .int 0, .ref q27]), (q27, eI cA4 96 (fun _ => 0)), (q29, eO 2 [.int 0, .int 0, .int 0, .ref q30]), (q30, eI cA4 96 (fun _ => 0)), (q32, eO 2 [.int 0, .int 0, .int 0, .ref q33]), (q33, eI cA4 96 (fun _ => 0)), (q35, eO 2 [.int 0, .int 0, .int 0, .ref q36]), (q36, eI cA4 96 (fun _ => 0)), (q38, eO 2 [.int 0, .int 0, .int 0, .ref q39]), (q39, eI cA4 96 (fun _ => 0)), (q41, eO 2 [.int 0, .int 0, .int 0, .ref q42]), (q42, eI cA4 96 (fun _ => 0)), (q44, eO 2 [.int 0, .int 0, .int 0, .ref q45]), (q45, eI cA4 96 (fun _ => 0))]) (hS : va_S A s.heap H locs) (hl : lv_has ls 2 [(1, .int 13), (0, .ref h0)]) : W p l e rm_X4_init s m args below meth c H locs 30 1511 (MQ below (va_Qv (fun _ : Unit => True) (fun _ t => ∃ (q1 : Nat) (q3 : Nat) (q5 : Nat) (q6 : Nat) (q8 : Nat) (q9 : Nat) (q11 : Nat) (q12 : Nat) (q14 : Nat) (q15 : Nat) (q17 : Nat) (q18 : Nat) (q20 : Nat) (q21 : Nat) (q23 : Nat) (q24 : Nat) (q26 : Nat) (q27 : Nat) (q29 : Nat) (q30 : Nat) (q32 : Nat) (q33 : Nat) (q35 : Nat) (q36 : Nat) (q38 : Nat) (q39 : Nat) (q41 : Nat) (q42 : Nat) (q44 : Nat) (q45 : Nat) (q47 : Nat) (q48 : Nat) (cA2 : ClassId) (cA4 : ClassId), va_P (dC, dI) CLS [(h0, eO 3 [.ref q1, .ref q3]), (q1, eQ cA2 15 (va_up (va_up (va_up (va_up (va_up (va_up (va_up (va_up (va_up (va_up (va_up (va_up (va_up (va_up (va_up (fun _ => none) 0 (some q5)) 1 (some q8)) 2 (some q11)) 3 (some q14)) 4 (some q17)) 5 (some q20)) 6 (some q23)) 7 (some q26)) 8 (some q29)) 9 (some q32)) 10 (some q35)) 11 (some q38)) 12 (some q41)) 13 (some q44)) 14 (some q47))), (q3, eI cA4 96 (fun _ => 0)), (q5, eO 2 [.int 0, .int 0, .int 0, .ref q6]), (q6, eI cA4 96 (fun _ => 0)), (q8, eO 2 [.int 0, .int 0, .int 0, .ref q9]), (q9, eI cA4 96 (fun _ => 0)), (q11, eO 2 [.int 0, .int 0, .int 0, .ref q12]), (q12, eI cA4 96 (fun _ => 0)), (q14, eO 2 [.int 0, .int 0, .int 0, .ref q15]), (q15, eI cA4 96 (fun _ => 0)), (q17, eO 2 [.int 0, .int 0, .int 0, .ref q18]), (q18, eI cA4 96 (fun _ => 0)), (q20, eO 2 [.int 0, .int 0, .int 0, .ref q21]), (q21, eI cA4 96 (fun _ => 0)), (q23, eO 2 [.int 0, .int 0, .int 0, .ref q24]), (q24, eI cA4 96 (fun _ => 0)), (q26, eO 2 [.int 0, .int 0, .int 0, .ref q27]), (q27, eI cA4 96 (fun _ => 0)), (q29, eO 2 [.int 0, .int 0, .int 0, .ref q30]), (q30, eI cA4 96 (fun _ => 0)), (q32, eO 2 [.int 0, .int 0, .int 0, .ref q33]), (q33, eI cA4 96 (fun _ => 0)), (q35, eO 2 [.int 0, .int 0, .int 0, .ref q36]), (q36, eI cA4 96 (fun _ => 0)), (q38, eO 2 [.int 0, .int 0, .int 0, .ref q39]), (q39, eI cA4 96 (fun _ => 0)), (q41, eO 2 [.int 0, .int 0, .int 0, .ref q42]), (q42, eI cA4 96 (fun _ => 0)), (q44, eO 2 [.int 0, .int 0, .int 0, .ref q45]), (q45, eI cA4 96 (fun _ => 0)), (q47, eO 2 [.int 0, .int 0, .int 0, .ref q48]), (q48, eI cA4 96 (fun _ => 0))] t.heap ∧ va_K (dC, dI) CLS [(cA2, .object "RoofWar$Law"), (cA4, .int)] t ∧ va_D A [(h0, eO 3 [.ref q1, .ref q3]), (q1, eQ cA2 15 (va_up (va_up (va_up (va_up (va_up (va_up (va_up (va_up (va_up (va_up (va_up (va_up (va_up (va_up (va_up (fun _ => none) 0 (some q5)) 1 (some q8)) 2 (some q11)) 3 (some q14)) 4 (some q17)) 5 (some q20)) 6 (some q23)) 7 (some q26)) 8 (some q29)) 9 (some q32)) 10 (some q35)) 11 (some q38)) 12 (some q41)) 13 (some q44)) 14 (some q47))), (q3, eI cA4 96 (fun _ => 0)), (q5, eO 2 [.int 0, .int 0, .int 0, .ref q6]), (q6, eI cA4 96 (fun _ => 0)), (q8, eO 2 [.int 0, .int 0, .int 0, .ref q9]), (q9, eI cA4 96 (fun _ => 0)), (q11, eO 2 [.int 0, .int 0, .int 0, .ref q12]), (q12, eI cA4 96 (fun _ => 0)), (q14, eO 2 [.int 0, .int 0, .int 0, .ref q15]), (q15, eI cA4 96 (fun _ => 0)), (q17, eO 2 [.int 0, .int 0, .int 0, .ref q18]), (q18, eI cA4 96 (fun _ => 0)), (q20, eO 2 [.int 0, .int 0, .int 0, .ref q21]), (q21, eI cA4 96 (fun _ => 0)), (q23, eO 2 [.int 0, .int 0, .int 0, .ref q24]), (q24, eI cA4 96 (fun _ => 0)), (q26, eO 2 [.int 0, .int 0, .int 0, .ref q27]), (q27, eI cA4 96 (fun _ => 0)), (q29, eO 2 [.int 0, .int 0, .int 0, .ref q30]), (q30, eI cA4 96 (fun _ => 0)), (q32, eO 2 [.int 0, .int 0, .int 0, .ref q33]), (q33, eI cA4 96 (fun _ => 0)), (q35, eO 2 [.int 0, .int 0, .int 0, .ref q36]), (q36, eI cA4 96 (fun _ => 0)), (q38, eO 2 [.int 0, .int 0, .int 0, .ref q39]), (q39, eI cA4 96 (fun _ => 0)), (q41, eO 2 [.int 0, .int 0, .int 0, .ref q42]), (q42, eI cA4 96 (fun _ => 0)), (q44, eO 2 [.int 0, .int 0, .int 0, .ref q45]), (q45, eI cA4 96 (fun _ => 0)), (q47, eO 2 [.int 0, .int 0, .int 0, .ref q48]), (q48, eI cA4 96 (fun _ => 0))]) A) args s 32 1611 A) (F0 m 41 ls [.ref q44, .int 13, .ref q1]) := by
  refine va_astq (i := 13) hx hb hK hP hD hS 1 0 29 2 rfl rfl rfl rfl (by show ¬ (_ ∨ _); decide) dX4_init_41 (fun H locs hP2 hD2 hS => ?_)
  clear hP hD
  have hP := hP2
  have hD := hD2
  clear hP2 hD2
  refine lv_iinc (v := 14) (lv' := [(1, .int 14), (0, .ref h0)]) hx hb dX4_init_42 hl (k := 0) rfl (by decide) (by decide) rfl (fun ls hl => ?_)
  refine lv_goto (tgt := 23) hx hb dX4_init_45 (by decide) ?_
  refine lv_iload_n hx hb dX4_init_23 rfl (lv_at hl 0 rfl) ?_
  refine lv_bipush (v := 14) hx hb dX4_init_24 (by decide) ?_
  refine lv_icmp_gt (tgt := 48) hx hb dX4_init_26 (by decide) (fun q => absurd q (by decide)) (fun _ => ?_)
  refine lv_aload_n hx hb dX4_init_29 rfl (lv_at hl 1 rfl) ?_
  refine va_get (D := (dC, dI)) (ci := 3) (v := .ref q1) (C := RX4) (T := TX4) (N := 2) hx hb hts iwX4 hown hK hP 0 rfl rfl 0 (by decide) (hts _ mw_131) (fun _ h9 => h9) rfl dX4_init_30 ?_
  refine lv_iload_n hx hb dX4_init_33 rfl (lv_at hl 0 rfl) ?_
  refine va_new (ci := 2) (fs := [.int 0, .int 0, .int 0, .null]) (C := RX3) (T := TX3) (N := 4) hx hb hts iwX3 tyX3 tyX3_ok hown (hts _ mw_107) (hts _ mw_108) (hts _ mw_76) hK hP hD hS hA rfl (fun j hj => by rcases (show j = 0 ∨ j = 1 ∨ j = 2 ∨ j = 3 by omega) with rfl | rfl | rfl | rfl <;> rfl) (Nat.le_of_ble_eq_true rfl) (Nat.le_of_ble_eq_true rfl) dX4_init_34 (fun q47 H hP2 hD2 hS => ?_)
  clear hP hD
  have hP := hP2
  have hD := hD2
  clear hP2 hD2
  refine lv_dup hx hb dX4_init_37 rfl ?_
  have hFc := freeL hD hS hA
  refine g_cKN (host := "RoofWar") (As := []) (rest := [.ref q47, .int 14, .ref q1]) hx hb hml hown hts hN hl.1 (k_X3_init l dC dI q47 H.size) ⟨rfl, rfl⟩ rfl mw_76 mw_109 mw_110 okd_X3_init (List.mem_of_getElem? (i := 0) rfl) ⟨(Nat.le_of_ble_eq_true rfl), (Nat.le_of_ble_eq_true rfl)⟩ rfl rfl (Nat.le_of_ble_eq_true rfl) ⟨(Nat.le_of_ble_eq_true rfl), (Nat.le_of_ble_eq_true rfl)⟩ hK hP hD hS hA dX4_init_38 (fun t H1 locs ht hvm hB hk1 hS => ?_)
  obtain ⟨q48, cA49, hP1, hK1, hD1⟩ := hB
  rw [ht] at hP1
  have hK1 := va_K.moved hvm.symm hK1
  obtain ⟨hP2, hD2⟩ := joinL hP hD hk1 hFc hP1 hD1
  have hK := hK.app hK1
  clear hFc hP1 hD1 hk1 ht hvm
  generalize H1 = H at hP2 hS ⊢
  obtain rfl : cA4 = cA49 := tysame hK (i := 1) (j := 2) rfl rfl
  have hK := hK.sub (tys' := [(cA2, .object "RoofWar$Law"), (cA4, .int)]) [0, 1] rfl
  clear hP hD
  have hP := hP2
  have hD := hD2
  clear hP2 hD2
  refine W.widen (k := 32) (n := 1611) (Nat.le_of_ble_eq_true rfl) (Nat.le_of_ble_eq_true rfl) ?_
  exact sg_X4_init_15 dC dI h0 q1 q3 q5 q6 q8 q9 q11 q12 q14 q15 q17 q18 q20 q21 q23 q24 q26 q27 q29 q30 q32 q33 q35 q36 q38 q39 q41 q42 q44 q45 q47 q48 cA2 cA4 hx hb hr hts hown hml hlocks hin hN hA hK hP hD hS hl
set_option maxHeartbeats 4000000 in
set_option maxRecDepth 100000 in
theorem sg_X4_init_13 {p : Program} {l : Launch} {e : Env} {s : State} {m : MethodId} {args : Array Value} {below : List Frame} {meth : Method} {c : Code} (dC : Nat → ClassId) (dI : Nat → Nat → Nat) {A : Nat → Prop} (h0 : Nat) (q1 : Nat) (q3 : Nat) (q5 : Nat) (q6 : Nat) (q8 : Nat) (q9 : Nat) (q11 : Nat) (q12 : Nat) (q14 : Nat) (q15 : Nat) (q17 : Nat) (q18 : Nat) (q20 : Nat) (q21 : Nat) (q23 : Nat) (q24 : Nat) (q26 : Nat) (q27 : Nat) (q29 : Nat) (q30 : Nat) (q32 : Nat) (q33 : Nat) (q35 : Nat) (q36 : Nat) (q38 : Nat) (q39 : Nat) (q41 : Nat) (q42 : Nat) (cA2 : ClassId) (cA4 : ClassId) (hx : p.tables.exec = Jvm.exec) (hb : c.code = cX4_init) (hr : meth.sig.returnType = none) (hts : ∀ w ∈ WT, w.before args s = true) (hown : s.vm.findClass RX4 = some m.cls) (hml : c.maxLocals = 2) (hlocks : meth.locks = false) (hin : meth.name = "<init>") (hN : NK s) (hA : ∀ q : Nat, s.heap.size ≤ q → A q) {H : Heap} {locs : List Loc} {ls : Array Slot} (hK : va_K (dC, dI) CLS [(cA2, .object "RoofWar$Law"), (cA4, .int)] s) (hP : va_P (dC, dI) CLS [(h0, eO 3 [.ref q1, .ref q3]), (q1, eQ cA2 15 (va_up (va_up (va_up (va_up (va_up (va_up (va_up (va_up (va_up (va_up (va_up (va_up (fun _ => none) 0 (some q5)) 1 (some q8)) 2 (some q11)) 3 (some q14)) 4 (some q17)) 5 (some q20)) 6 (some q23)) 7 (some q26)) 8 (some q29)) 9 (some q32)) 10 (some q35)) 11 (some q38))), (q3, eI cA4 96 (fun _ => 0)), (q5, eO 2 [.int 0, .int 0, .int 0, .ref q6]), (q6, eI cA4 96 (fun _ => 0)), (q8, eO 2 [.int 0, .int 0, .int 0, .ref q9]), (q9, eI cA4 96 (fun _ => 0)), (q11, eO 2 [.int 0, .int 0, .int 0, .ref q12]), (q12, eI cA4 96 (fun _ => 0)), (q14, eO 2 [.int 0, .int 0, .int 0, .ref q15]), (q15, eI cA4 96 (fun _ => 0)), (q17, eO 2 [.int 0, .int 0, .int 0, .ref q18]), (q18, eI cA4 96 (fun _ => 0)), (q20, eO 2 [.int 0, .int 0, .int 0, .ref q21]), (q21, eI cA4 96 (fun _ => 0)), (q23, eO 2 [.int 0, .int 0, .int 0, .ref q24]), (q24, eI cA4 96 (fun _ => 0)), (q26, eO 2 [.int 0, .int 0, .int 0, .ref q27]), (q27, eI cA4 96 (fun _ => 0)), (q29, eO 2 [.int 0, .int 0, .int 0, .ref q30]), (q30, eI cA4 96 (fun _ => 0)), (q32, eO 2 [.int 0, .int 0, .int 0, .ref q33]), (q33, eI cA4 96 (fun _ => 0)), (q35, eO 2 [.int 0, .int 0, .int 0, .ref q36]), (q36, eI cA4 96 (fun _ => 0)), (q38, eO 2 [.int 0, .int 0, .int 0, .ref q39]), (q39, eI cA4 96 (fun _ => 0)), (q41, eO 2 [.int 0, .int 0, .int 0, .ref q42]), (q42, eI cA4 96 (fun _ => 0))] H) (hD : va_D A [(h0, eO 3 [.ref q1, .ref q3]), (q1, eQ cA2 15 (va_up (va_up (va_up (va_up (va_up (va_up (va_up (va_up (va_up (va_up (va_up (va_up (fun _ => none) 0 (some q5)) 1 (some q8)) 2 (some q11)) 3 (some q14)) 4 (some q17)) 5 (some q20)) 6 (some q23)) 7 (some q26)) 8 (some q29)) 9 (some q32)) 10 (some q35)) 11 (some q38))), (q3, eI cA4 96 (fun _ => 0)), (q5, eO 2 [.int 0, .int 0, .int 0, .ref q6]), (q6, eI cA4 96 (fun _ => 0)), (q8, eO 2 [.int 0, .int 0, .int 0, .ref q9]), (q9, eI cA4 96 (fun _ => 0)), (q11, eO 2 [.int 0, .int 0, .int 0, .ref q12]), (q12, eI cA4 96 (fun _ => 0)), (q14, eO 2 [.int 0, .int 0, .int 0, .ref q15]), (q15, eI cA4 96 (fun _ => 0)), (q17, eO 2 [.int 0, .int 0, .int 0, .ref q18]), (q18, eI cA4 96 (fun _ => 0)), (q20, eO 2 [.int 0, .int 0, .int 0, .ref q21]), (q21, eI cA4 96 (fun _ => 0)), (q23, eO 2 [.int 0, .int 0, .int 0, .ref q24]), (q24, eI cA4 96 (fun _ => 0)), (q26, eO 2 [.int 0, .int 0, .int 0, .ref q27]), (q27, eI cA4 96 (fun _ => 0)), (q29, eO 2 [.int 0, .int 0, .int 0, .ref q30]), (q30, eI cA4 96 (fun _ => 0)), (q32, eO 2 [.int 0, .int 0, .int 0, .ref q33]), (q33, eI cA4 96 (fun _ => 0)), (q35, eO 2 [.int 0, .int 0, .int 0, .ref q36]), (q36, eI cA4 96 (fun _ => 0)), (q38, eO 2 [.int 0, .int 0, .int 0, .ref q39]), (q39, eI cA4 96 (fun _ => 0)), (q41, eO 2 [.int 0, .int 0, .int 0, .ref q42]), (q42, eI cA4 96 (fun _ => 0))]) (hS : va_S A s.heap H locs) (hl : lv_has ls 2 [(1, .int 12), (0, .ref h0)]) : W p l e rm_X4_init s m args below meth c H locs 28 1411 (MQ below (va_Qv (fun _ : Unit => True) (fun _ t => ∃ (q1 : Nat) (q3 : Nat) (q5 : Nat) (q6 : Nat) (q8 : Nat) (q9 : Nat) (q11 : Nat) (q12 : Nat) (q14 : Nat) (q15 : Nat) (q17 : Nat) (q18 : Nat) (q20 : Nat) (q21 : Nat) (q23 : Nat) (q24 : Nat) (q26 : Nat) (q27 : Nat) (q29 : Nat) (q30 : Nat) (q32 : Nat) (q33 : Nat) (q35 : Nat) (q36 : Nat) (q38 : Nat) (q39 : Nat) (q41 : Nat) (q42 : Nat) (q44 : Nat) (q45 : Nat) (q47 : Nat) (q48 : Nat) (cA2 : ClassId) (cA4 : ClassId), va_P (dC, dI) CLS [(h0, eO 3 [.ref q1, .ref q3]), (q1, eQ cA2 15 (va_up (va_up (va_up (va_up (va_up (va_up (va_up (va_up (va_up (va_up (va_up (va_up (va_up (va_up (va_up (fun _ => none) 0 (some q5)) 1 (some q8)) 2 (some q11)) 3 (some q14)) 4 (some q17)) 5 (some q20)) 6 (some q23)) 7 (some q26)) 8 (some q29)) 9 (some q32)) 10 (some q35)) 11 (some q38)) 12 (some q41)) 13 (some q44)) 14 (some q47))), (q3, eI cA4 96 (fun _ => 0)), (q5, eO 2 [.int 0, .int 0, .int 0, .ref q6]), (q6, eI cA4 96 (fun _ => 0)), (q8, eO 2 [.int 0, .int 0, .int 0, .ref q9]), (q9, eI cA4 96 (fun _ => 0)), (q11, eO 2 [.int 0, .int 0, .int 0, .ref q12]), (q12, eI cA4 96 (fun _ => 0)), (q14, eO 2 [.int 0, .int 0, .int 0, .ref q15]), (q15, eI cA4 96 (fun _ => 0)), (q17, eO 2 [.int 0, .int 0, .int 0, .ref q18]), (q18, eI cA4 96 (fun _ => 0)), (q20, eO 2 [.int 0, .int 0, .int 0, .ref q21]), (q21, eI cA4 96 (fun _ => 0)), (q23, eO 2 [.int 0, .int 0, .int 0, .ref q24]), (q24, eI cA4 96 (fun _ => 0)), (q26, eO 2 [.int 0, .int 0, .int 0, .ref q27]), (q27, eI cA4 96 (fun _ => 0)), (q29, eO 2 [.int 0, .int 0, .int 0, .ref q30]), (q30, eI cA4 96 (fun _ => 0)), (q32, eO 2 [.int 0, .int 0, .int 0, .ref q33]), (q33, eI cA4 96 (fun _ => 0)), (q35, eO 2 [.int 0, .int 0, .int 0, .ref q36]), (q36, eI cA4 96 (fun _ => 0)), (q38, eO 2 [.int 0, .int 0, .int 0, .ref q39]), (q39, eI cA4 96 (fun _ => 0)), (q41, eO 2 [.int 0, .int 0, .int 0, .ref q42]), (q42, eI cA4 96 (fun _ => 0)), (q44, eO 2 [.int 0, .int 0, .int 0, .ref q45]), (q45, eI cA4 96 (fun _ => 0)), (q47, eO 2 [.int 0, .int 0, .int 0, .ref q48]), (q48, eI cA4 96 (fun _ => 0))] t.heap ∧ va_K (dC, dI) CLS [(cA2, .object "RoofWar$Law"), (cA4, .int)] t ∧ va_D A [(h0, eO 3 [.ref q1, .ref q3]), (q1, eQ cA2 15 (va_up (va_up (va_up (va_up (va_up (va_up (va_up (va_up (va_up (va_up (va_up (va_up (va_up (va_up (va_up (fun _ => none) 0 (some q5)) 1 (some q8)) 2 (some q11)) 3 (some q14)) 4 (some q17)) 5 (some q20)) 6 (some q23)) 7 (some q26)) 8 (some q29)) 9 (some q32)) 10 (some q35)) 11 (some q38)) 12 (some q41)) 13 (some q44)) 14 (some q47))), (q3, eI cA4 96 (fun _ => 0)), (q5, eO 2 [.int 0, .int 0, .int 0, .ref q6]), (q6, eI cA4 96 (fun _ => 0)), (q8, eO 2 [.int 0, .int 0, .int 0, .ref q9]), (q9, eI cA4 96 (fun _ => 0)), (q11, eO 2 [.int 0, .int 0, .int 0, .ref q12]), (q12, eI cA4 96 (fun _ => 0)), (q14, eO 2 [.int 0, .int 0, .int 0, .ref q15]), (q15, eI cA4 96 (fun _ => 0)), (q17, eO 2 [.int 0, .int 0, .int 0, .ref q18]), (q18, eI cA4 96 (fun _ => 0)), (q20, eO 2 [.int 0, .int 0, .int 0, .ref q21]), (q21, eI cA4 96 (fun _ => 0)), (q23, eO 2 [.int 0, .int 0, .int 0, .ref q24]), (q24, eI cA4 96 (fun _ => 0)), (q26, eO 2 [.int 0, .int 0, .int 0, .ref q27]), (q27, eI cA4 96 (fun _ => 0)), (q29, eO 2 [.int 0, .int 0, .int 0, .ref q30]), (q30, eI cA4 96 (fun _ => 0)), (q32, eO 2 [.int 0, .int 0, .int 0, .ref q33]), (q33, eI cA4 96 (fun _ => 0)), (q35, eO 2 [.int 0, .int 0, .int 0, .ref q36]), (q36, eI cA4 96 (fun _ => 0)), (q38, eO 2 [.int 0, .int 0, .int 0, .ref q39]), (q39, eI cA4 96 (fun _ => 0)), (q41, eO 2 [.int 0, .int 0, .int 0, .ref q42]), (q42, eI cA4 96 (fun _ => 0)), (q44, eO 2 [.int 0, .int 0, .int 0, .ref q45]), (q45, eI cA4 96 (fun _ => 0)), (q47, eO 2 [.int 0, .int 0, .int 0, .ref q48]), (q48, eI cA4 96 (fun _ => 0))]) A) args s 32 1611 A) (F0 m 41 ls [.ref q41, .int 12, .ref q1]) := by
  refine va_astq (i := 12) hx hb hK hP hD hS 1 0 27 2 rfl rfl rfl rfl (by show ¬ (_ ∨ _); decide) dX4_init_41 (fun H locs hP2 hD2 hS => ?_)
  clear hP hD
  have hP := hP2
  have hD := hD2
  clear hP2 hD2
  refine lv_iinc (v := 13) (lv' := [(1, .int 13), (0, .ref h0)]) hx hb dX4_init_42 hl (k := 0) rfl (by decide) (by decide) rfl (fun ls hl => ?_)
  refine lv_goto (tgt := 23) hx hb dX4_init_45 (by decide) ?_
  refine lv_iload_n hx hb dX4_init_23 rfl (lv_at hl 0 rfl) ?_
  refine lv_bipush (v := 14) hx hb dX4_init_24 (by decide) ?_
  refine lv_icmp_gt (tgt := 48) hx hb dX4_init_26 (by decide) (fun q => absurd q (by decide)) (fun _ => ?_)
  refine lv_aload_n hx hb dX4_init_29 rfl (lv_at hl 1 rfl) ?_
  refine va_get (D := (dC, dI)) (ci := 3) (v := .ref q1) (C := RX4) (T := TX4) (N := 2) hx hb hts iwX4 hown hK hP 0 rfl rfl 0 (by decide) (hts _ mw_131) (fun _ h9 => h9) rfl dX4_init_30 ?_
  refine lv_iload_n hx hb dX4_init_33 rfl (lv_at hl 0 rfl) ?_
  refine va_new (ci := 2) (fs := [.int 0, .int 0, .int 0, .null]) (C := RX3) (T := TX3) (N := 4) hx hb hts iwX3 tyX3 tyX3_ok hown (hts _ mw_107) (hts _ mw_108) (hts _ mw_76) hK hP hD hS hA rfl (fun j hj => by rcases (show j = 0 ∨ j = 1 ∨ j = 2 ∨ j = 3 by omega) with rfl | rfl | rfl | rfl <;> rfl) (Nat.le_of_ble_eq_true rfl) (Nat.le_of_ble_eq_true rfl) dX4_init_34 (fun q44 H hP2 hD2 hS => ?_)
  clear hP hD
  have hP := hP2
  have hD := hD2
  clear hP2 hD2
  refine lv_dup hx hb dX4_init_37 rfl ?_
  have hFc := freeL hD hS hA
  refine g_cKN (host := "RoofWar") (As := []) (rest := [.ref q44, .int 13, .ref q1]) hx hb hml hown hts hN hl.1 (k_X3_init l dC dI q44 H.size) ⟨rfl, rfl⟩ rfl mw_76 mw_109 mw_110 okd_X3_init (List.mem_of_getElem? (i := 0) rfl) ⟨(Nat.le_of_ble_eq_true rfl), (Nat.le_of_ble_eq_true rfl)⟩ rfl rfl (Nat.le_of_ble_eq_true rfl) ⟨(Nat.le_of_ble_eq_true rfl), (Nat.le_of_ble_eq_true rfl)⟩ hK hP hD hS hA dX4_init_38 (fun t H1 locs ht hvm hB hk1 hS => ?_)
  obtain ⟨q45, cA46, hP1, hK1, hD1⟩ := hB
  rw [ht] at hP1
  have hK1 := va_K.moved hvm.symm hK1
  obtain ⟨hP2, hD2⟩ := joinL hP hD hk1 hFc hP1 hD1
  have hK := hK.app hK1
  clear hFc hP1 hD1 hk1 ht hvm
  generalize H1 = H at hP2 hS ⊢
  obtain rfl : cA4 = cA46 := tysame hK (i := 1) (j := 2) rfl rfl
  have hK := hK.sub (tys' := [(cA2, .object "RoofWar$Law"), (cA4, .int)]) [0, 1] rfl
  clear hP hD
  have hP := hP2
  have hD := hD2
  clear hP2 hD2
  refine W.widen (k := 30) (n := 1511) (Nat.le_of_ble_eq_true rfl) (Nat.le_of_ble_eq_true rfl) ?_
  exact sg_X4_init_14 dC dI h0 q1 q3 q5 q6 q8 q9 q11 q12 q14 q15 q17 q18 q20 q21 q23 q24 q26 q27 q29 q30 q32 q33 q35 q36 q38 q39 q41 q42 q44 q45 cA2 cA4 hx hb hr hts hown hml hlocks hin hN hA hK hP hD hS hl
set_option maxHeartbeats 4000000 in
set_option maxRecDepth 100000 in
theorem sg_X4_init_12 {p : Program} {l : Launch} {e : Env} {s : State} {m : MethodId} {args : Array Value} {below : List Frame} {meth : Method} {c : Code} (dC : Nat → ClassId) (dI : Nat → Nat → Nat) {A : Nat → Prop} (h0 : Nat) (q1 : Nat) (q3 : Nat) (q5 : Nat) (q6 : Nat) (q8 : Nat) (q9 : Nat) (q11 : Nat) (q12 : Nat) (q14 : Nat) (q15 : Nat) (q17 : Nat) (q18 : Nat) (q20 : Nat) (q21 : Nat) (q23 : Nat) (q24 : Nat) (q26 : Nat) (q27 : Nat) (q29 : Nat) (q30 : Nat) (q32 : Nat) (q33 : Nat) (q35 : Nat) (q36 : Nat) (q38 : Nat) (q39 : Nat) (cA2 : ClassId) (cA4 : ClassId) (hx : p.tables.exec = Jvm.exec) (hb : c.code = cX4_init) (hr : meth.sig.returnType = none) (hts : ∀ w ∈ WT, w.before args s = true) (hown : s.vm.findClass RX4 = some m.cls) (hml : c.maxLocals = 2) (hlocks : meth.locks = false) (hin : meth.name = "<init>") (hN : NK s) (hA : ∀ q : Nat, s.heap.size ≤ q → A q) {H : Heap} {locs : List Loc} {ls : Array Slot} (hK : va_K (dC, dI) CLS [(cA2, .object "RoofWar$Law"), (cA4, .int)] s) (hP : va_P (dC, dI) CLS [(h0, eO 3 [.ref q1, .ref q3]), (q1, eQ cA2 15 (va_up (va_up (va_up (va_up (va_up (va_up (va_up (va_up (va_up (va_up (va_up (fun _ => none) 0 (some q5)) 1 (some q8)) 2 (some q11)) 3 (some q14)) 4 (some q17)) 5 (some q20)) 6 (some q23)) 7 (some q26)) 8 (some q29)) 9 (some q32)) 10 (some q35))), (q3, eI cA4 96 (fun _ => 0)), (q5, eO 2 [.int 0, .int 0, .int 0, .ref q6]), (q6, eI cA4 96 (fun _ => 0)), (q8, eO 2 [.int 0, .int 0, .int 0, .ref q9]), (q9, eI cA4 96 (fun _ => 0)), (q11, eO 2 [.int 0, .int 0, .int 0, .ref q12]), (q12, eI cA4 96 (fun _ => 0)), (q14, eO 2 [.int 0, .int 0, .int 0, .ref q15]), (q15, eI cA4 96 (fun _ => 0)), (q17, eO 2 [.int 0, .int 0, .int 0, .ref q18]), (q18, eI cA4 96 (fun _ => 0)), (q20, eO 2 [.int 0, .int 0, .int 0, .ref q21]), (q21, eI cA4 96 (fun _ => 0)), (q23, eO 2 [.int 0, .int 0, .int 0, .ref q24]), (q24, eI cA4 96 (fun _ => 0)), (q26, eO 2 [.int 0, .int 0, .int 0, .ref q27]), (q27, eI cA4 96 (fun _ => 0)), (q29, eO 2 [.int 0, .int 0, .int 0, .ref q30]), (q30, eI cA4 96 (fun _ => 0)), (q32, eO 2 [.int 0, .int 0, .int 0, .ref q33]), (q33, eI cA4 96 (fun _ => 0)), (q35, eO 2 [.int 0, .int 0, .int 0, .ref q36]), (q36, eI cA4 96 (fun _ => 0)), (q38, eO 2 [.int 0, .int 0, .int 0, .ref q39]), (q39, eI cA4 96 (fun _ => 0))] H) (hD : va_D A [(h0, eO 3 [.ref q1, .ref q3]), (q1, eQ cA2 15 (va_up (va_up (va_up (va_up (va_up (va_up (va_up (va_up (va_up (va_up (va_up (fun _ => none) 0 (some q5)) 1 (some q8)) 2 (some q11)) 3 (some q14)) 4 (some q17)) 5 (some q20)) 6 (some q23)) 7 (some q26)) 8 (some q29)) 9 (some q32)) 10 (some q35))), (q3, eI cA4 96 (fun _ => 0)), (q5, eO 2 [.int 0, .int 0, .int 0, .ref q6]), (q6, eI cA4 96 (fun _ => 0)), (q8, eO 2 [.int 0, .int 0, .int 0, .ref q9]), (q9, eI cA4 96 (fun _ => 0)), (q11, eO 2 [.int 0, .int 0, .int 0, .ref q12]), (q12, eI cA4 96 (fun _ => 0)), (q14, eO 2 [.int 0, .int 0, .int 0, .ref q15]), (q15, eI cA4 96 (fun _ => 0)), (q17, eO 2 [.int 0, .int 0, .int 0, .ref q18]), (q18, eI cA4 96 (fun _ => 0)), (q20, eO 2 [.int 0, .int 0, .int 0, .ref q21]), (q21, eI cA4 96 (fun _ => 0)), (q23, eO 2 [.int 0, .int 0, .int 0, .ref q24]), (q24, eI cA4 96 (fun _ => 0)), (q26, eO 2 [.int 0, .int 0, .int 0, .ref q27]), (q27, eI cA4 96 (fun _ => 0)), (q29, eO 2 [.int 0, .int 0, .int 0, .ref q30]), (q30, eI cA4 96 (fun _ => 0)), (q32, eO 2 [.int 0, .int 0, .int 0, .ref q33]), (q33, eI cA4 96 (fun _ => 0)), (q35, eO 2 [.int 0, .int 0, .int 0, .ref q36]), (q36, eI cA4 96 (fun _ => 0)), (q38, eO 2 [.int 0, .int 0, .int 0, .ref q39]), (q39, eI cA4 96 (fun _ => 0))]) (hS : va_S A s.heap H locs) (hl : lv_has ls 2 [(1, .int 11), (0, .ref h0)]) : W p l e rm_X4_init s m args below meth c H locs 26 1311 (MQ below (va_Qv (fun _ : Unit => True) (fun _ t => ∃ (q1 : Nat) (q3 : Nat) (q5 : Nat) (q6 : Nat) (q8 : Nat) (q9 : Nat) (q11 : Nat) (q12 : Nat) (q14 : Nat) (q15 : Nat) (q17 : Nat) (q18 : Nat) (q20 : Nat) (q21 : Nat) (q23 : Nat) (q24 : Nat) (q26 : Nat) (q27 : Nat) (q29 : Nat) (q30 : Nat) (q32 : Nat) (q33 : Nat) (q35 : Nat) (q36 : Nat) (q38 : Nat) (q39 : Nat) (q41 : Nat) (q42 : Nat) (q44 : Nat) (q45 : Nat) (q47 : Nat) (q48 : Nat) (cA2 : ClassId) (cA4 : ClassId), va_P (dC, dI) CLS [(h0, eO 3 [.ref q1, .ref q3]), (q1, eQ cA2 15 (va_up (va_up (va_up (va_up (va_up (va_up (va_up (va_up (va_up (va_up (va_up (va_up (va_up (va_up (va_up (fun _ => none) 0 (some q5)) 1 (some q8)) 2 (some q11)) 3 (some q14)) 4 (some q17)) 5 (some q20)) 6 (some q23)) 7 (some q26)) 8 (some q29)) 9 (some q32)) 10 (some q35)) 11 (some q38)) 12 (some q41)) 13 (some q44)) 14 (some q47))), (q3, eI cA4 96 (fun _ => 0)), (q5, eO 2 [.int 0, .int 0, .int 0, .ref q6]), (q6, eI cA4 96 (fun _ => 0)), (q8, eO 2 [.int 0, .int 0, .int 0, .ref q9]), (q9, eI cA4 96 (fun _ => 0)), (q11, eO 2 [.int 0, .int 0, .int 0, .ref q12]), (q12, eI cA4 96 (fun _ => 0)), (q14, eO 2 [.int 0, .int 0, .int 0, .ref q15]), (q15, eI cA4 96 (fun _ => 0)), (q17, eO 2 [.int 0, .int 0, .int 0, .ref q18]), (q18, eI cA4 96 (fun _ => 0)), (q20, eO 2 [.int 0, .int 0, .int 0, .ref q21]), (q21, eI cA4 96 (fun _ => 0)), (q23, eO 2 [.int 0, .int 0, .int 0, .ref q24]), (q24, eI cA4 96 (fun _ => 0)), (q26, eO 2 [.int 0, .int 0, .int 0, .ref q27]), (q27, eI cA4 96 (fun _ => 0)), (q29, eO 2 [.int 0, .int 0, .int 0, .ref q30]), (q30, eI cA4 96 (fun _ => 0)), (q32, eO 2 [.int 0, .int 0, .int 0, .ref q33]), (q33, eI cA4 96 (fun _ => 0)), (q35, eO 2 [.int 0, .int 0, .int 0, .ref q36]), (q36, eI cA4 96 (fun _ => 0)), (q38, eO 2 [.int 0, .int 0, .int 0, .ref q39]), (q39, eI cA4 96 (fun _ => 0)), (q41, eO 2 [.int 0, .int 0, .int 0, .ref q42]), (q42, eI cA4 96 (fun _ => 0)), (q44, eO 2 [.int 0, .int 0, .int 0, .ref q45]), (q45, eI cA4 96 (fun _ => 0)), (q47, eO 2 [.int 0, .int 0, .int 0, .ref q48]), (q48, eI cA4 96 (fun _ => 0))] t.heap ∧ va_K (dC, dI) CLS [(cA2, .object "RoofWar$Law"), (cA4, .int)] t ∧ va_D A [(h0, eO 3 [.ref q1, .ref q3]), (q1, eQ cA2 15 (va_up (va_up (va_up (va_up (va_up (va_up (va_up (va_up (va_up (va_up (va_up (va_up (va_up (va_up (va_up (fun _ => none) 0 (some q5)) 1 (some q8)) 2 (some q11)) 3 (some q14)) 4 (some q17)) 5 (some q20)) 6 (some q23)) 7 (some q26)) 8 (some q29)) 9 (some q32)) 10 (some q35)) 11 (some q38)) 12 (some q41)) 13 (some q44)) 14 (some q47))), (q3, eI cA4 96 (fun _ => 0)), (q5, eO 2 [.int 0, .int 0, .int 0, .ref q6]), (q6, eI cA4 96 (fun _ => 0)), (q8, eO 2 [.int 0, .int 0, .int 0, .ref q9]), (q9, eI cA4 96 (fun _ => 0)), (q11, eO 2 [.int 0, .int 0, .int 0, .ref q12]), (q12, eI cA4 96 (fun _ => 0)), (q14, eO 2 [.int 0, .int 0, .int 0, .ref q15]), (q15, eI cA4 96 (fun _ => 0)), (q17, eO 2 [.int 0, .int 0, .int 0, .ref q18]), (q18, eI cA4 96 (fun _ => 0)), (q20, eO 2 [.int 0, .int 0, .int 0, .ref q21]), (q21, eI cA4 96 (fun _ => 0)), (q23, eO 2 [.int 0, .int 0, .int 0, .ref q24]), (q24, eI cA4 96 (fun _ => 0)), (q26, eO 2 [.int 0, .int 0, .int 0, .ref q27]), (q27, eI cA4 96 (fun _ => 0)), (q29, eO 2 [.int 0, .int 0, .int 0, .ref q30]), (q30, eI cA4 96 (fun _ => 0)), (q32, eO 2 [.int 0, .int 0, .int 0, .ref q33]), (q33, eI cA4 96 (fun _ => 0)), (q35, eO 2 [.int 0, .int 0, .int 0, .ref q36]), (q36, eI cA4 96 (fun _ => 0)), (q38, eO 2 [.int 0, .int 0, .int 0, .ref q39]), (q39, eI cA4 96 (fun _ => 0)), (q41, eO 2 [.int 0, .int 0, .int 0, .ref q42]), (q42, eI cA4 96 (fun _ => 0)), (q44, eO 2 [.int 0, .int 0, .int 0, .ref q45]), (q45, eI cA4 96 (fun _ => 0)), (q47, eO 2 [.int 0, .int 0, .int 0, .ref q48]), (q48, eI cA4 96 (fun _ => 0))]) A) args s 32 1611 A) (F0 m 41 ls [.ref q38, .int 11, .ref q1]) := by
  refine va_astq (i := 11) hx hb hK hP hD hS 1 0 25 2 rfl rfl rfl rfl (by show ¬ (_ ∨ _); decide) dX4_init_41 (fun H locs hP2 hD2 hS => ?_)
  clear hP hD
  have hP := hP2
  have hD := hD2
  clear hP2 hD2
  refine lv_iinc (v := 12) (lv' := [(1, .int 12), (0, .ref h0)]) hx hb dX4_init_42 hl (k := 0) rfl (by decide) (by decide) rfl (fun ls hl => ?_)
  refine lv_goto (tgt := 23) hx hb dX4_init_45 (by decide) ?_
  refine lv_iload_n hx hb dX4_init_23 rfl (lv_at hl 0 rfl) ?_
  refine lv_bipush (v := 14) hx hb dX4_init_24 (by decide) ?_
  refine lv_icmp_gt (tgt := 48) hx hb dX4_init_26 (by decide) (fun q => absurd q (by decide)) (fun _ => ?_)
  refine lv_aload_n hx hb dX4_init_29 rfl (lv_at hl 1 rfl) ?_
  refine va_get (D := (dC, dI)) (ci := 3) (v := .ref q1) (C := RX4) (T := TX4) (N := 2) hx hb hts iwX4 hown hK hP 0 rfl rfl 0 (by decide) (hts _ mw_131) (fun _ h9 => h9) rfl dX4_init_30 ?_
  refine lv_iload_n hx hb dX4_init_33 rfl (lv_at hl 0 rfl) ?_
  refine va_new (ci := 2) (fs := [.int 0, .int 0, .int 0, .null]) (C := RX3) (T := TX3) (N := 4) hx hb hts iwX3 tyX3 tyX3_ok hown (hts _ mw_107) (hts _ mw_108) (hts _ mw_76) hK hP hD hS hA rfl (fun j hj => by rcases (show j = 0 ∨ j = 1 ∨ j = 2 ∨ j = 3 by omega) with rfl | rfl | rfl | rfl <;> rfl) (Nat.le_of_ble_eq_true rfl) (Nat.le_of_ble_eq_true rfl) dX4_init_34 (fun q41 H hP2 hD2 hS => ?_)
  clear hP hD
  have hP := hP2
  have hD := hD2
  clear hP2 hD2
  refine lv_dup hx hb dX4_init_37 rfl ?_
  have hFc := freeL hD hS hA
  refine g_cKN (host := "RoofWar") (As := []) (rest := [.ref q41, .int 12, .ref q1]) hx hb hml hown hts hN hl.1 (k_X3_init l dC dI q41 H.size) ⟨rfl, rfl⟩ rfl mw_76 mw_109 mw_110 okd_X3_init (List.mem_of_getElem? (i := 0) rfl) ⟨(Nat.le_of_ble_eq_true rfl), (Nat.le_of_ble_eq_true rfl)⟩ rfl rfl (Nat.le_of_ble_eq_true rfl) ⟨(Nat.le_of_ble_eq_true rfl), (Nat.le_of_ble_eq_true rfl)⟩ hK hP hD hS hA dX4_init_38 (fun t H1 locs ht hvm hB hk1 hS => ?_)
  obtain ⟨q42, cA43, hP1, hK1, hD1⟩ := hB
  rw [ht] at hP1
  have hK1 := va_K.moved hvm.symm hK1
  obtain ⟨hP2, hD2⟩ := joinL hP hD hk1 hFc hP1 hD1
  have hK := hK.app hK1
  clear hFc hP1 hD1 hk1 ht hvm
  generalize H1 = H at hP2 hS ⊢
  obtain rfl : cA4 = cA43 := tysame hK (i := 1) (j := 2) rfl rfl
  have hK := hK.sub (tys' := [(cA2, .object "RoofWar$Law"), (cA4, .int)]) [0, 1] rfl
  clear hP hD
  have hP := hP2
  have hD := hD2
  clear hP2 hD2
  refine W.widen (k := 28) (n := 1411) (Nat.le_of_ble_eq_true rfl) (Nat.le_of_ble_eq_true rfl) ?_
  exact sg_X4_init_13 dC dI h0 q1 q3 q5 q6 q8 q9 q11 q12 q14 q15 q17 q18 q20 q21 q23 q24 q26 q27 q29 q30 q32 q33 q35 q36 q38 q39 q41 q42 cA2 cA4 hx hb hr hts hown hml hlocks hin hN hA hK hP hD hS hl
set_option maxHeartbeats 4000000 in
set_option maxRecDepth 100000 in
theorem sg_X4_init_11 {p : Program} {l : Launch} {e : Env} {s : State} {m : MethodId} {args : Array Value} {below : List Frame} {meth : Method} {c : Code} (dC : Nat → ClassId) (dI : Nat → Nat → Nat) {A : Nat → Prop} (h0 : Nat) (q1 : Nat) (q3 : Nat) (q5 : Nat) (q6 : Nat) (q8 : Nat) (q9 : Nat) (q11 : Nat) (q12 : Nat) (q14 : Nat) (q15 : Nat) (q17 : Nat) (q18 : Nat) (q20 : Nat) (q21 : Nat) (q23 : Nat) (q24 : Nat) (q26 : Nat) (q27 : Nat) (q29 : Nat) (q30 : Nat) (q32 : Nat) (q33 : Nat) (q35 : Nat) (q36 : Nat) (cA2 : ClassId) (cA4 : ClassId) (hx : p.tables.exec = Jvm.exec) (hb : c.code = cX4_init) (hr : meth.sig.returnType = none) (hts : ∀ w ∈ WT, w.before args s = true) (hown : s.vm.findClass RX4 = some m.cls) (hml : c.maxLocals = 2) (hlocks : meth.locks = false) (hin : meth.name = "<init>") (hN : NK s) (hA : ∀ q : Nat, s.heap.size ≤ q → A q) {H : Heap} {locs : List Loc} {ls : Array Slot} (hK : va_K (dC, dI) CLS [(cA2, .object "RoofWar$Law"), (cA4, .int)] s) (hP : va_P (dC, dI) CLS [(h0, eO 3 [.ref q1, .ref q3]), (q1, eQ cA2 15 (va_up (va_up (va_up (va_up (va_up (va_up (va_up (va_up (va_up (va_up (fun _ => none) 0 (some q5)) 1 (some q8)) 2 (some q11)) 3 (some q14)) 4 (some q17)) 5 (some q20)) 6 (some q23)) 7 (some q26)) 8 (some q29)) 9 (some q32))), (q3, eI cA4 96 (fun _ => 0)), (q5, eO 2 [.int 0, .int 0, .int 0, .ref q6]), (q6, eI cA4 96 (fun _ => 0)), (q8, eO 2 [.int 0, .int 0, .int 0, .ref q9]), (q9, eI cA4 96 (fun _ => 0)), (q11, eO 2 [.int 0, .int 0, .int 0, .ref q12]), (q12, eI cA4 96 (fun _ => 0)), (q14, eO 2 [.int 0, .int 0, .int 0, .ref q15]), (q15, eI cA4 96 (fun _ => 0)), (q17, eO 2 [.int 0, .int 0, .int 0, .ref q18]), (q18, eI cA4 96 (fun _ => 0)), (q20, eO 2 [.int 0, .int 0, .int 0, .ref q21]), (q21, eI cA4 96 (fun _ => 0)), (q23, eO 2 [.int 0, .int 0, .int 0, .ref q24]), (q24, eI cA4 96 (fun _ => 0)), (q26, eO 2 [.int 0, .int 0, .int 0, .ref q27]), (q27, eI cA4 96 (fun _ => 0)), (q29, eO 2 [.int 0, .int 0, .int 0, .ref q30]), (q30, eI cA4 96 (fun _ => 0)), (q32, eO 2 [.int 0, .int 0, .int 0, .ref q33]), (q33, eI cA4 96 (fun _ => 0)), (q35, eO 2 [.int 0, .int 0, .int 0, .ref q36]), (q36, eI cA4 96 (fun _ => 0))] H) (hD : va_D A [(h0, eO 3 [.ref q1, .ref q3]), (q1, eQ cA2 15 (va_up (va_up (va_up (va_up (va_up (va_up (va_up (va_up (va_up (va_up (fun _ => none) 0 (some q5)) 1 (some q8)) 2 (some q11)) 3 (some q14)) 4 (some q17)) 5 (some q20)) 6 (some q23)) 7 (some q26)) 8 (some q29)) 9 (some q32))), (q3, eI cA4 96 (fun _ => 0)), (q5, eO 2 [.int 0, .int 0, .int 0, .ref q6]), (q6, eI cA4 96 (fun _ => 0)), (q8, eO 2 [.int 0, .int 0, .int 0, .ref q9]), (q9, eI cA4 96 (fun _ => 0)), (q11, eO 2 [.int 0, .int 0, .int 0, .ref q12]), (q12, eI cA4 96 (fun _ => 0)), (q14, eO 2 [.int 0, .int 0, .int 0, .ref q15]), (q15, eI cA4 96 (fun _ => 0)), (q17, eO 2 [.int 0, .int 0, .int 0, .ref q18]), (q18, eI cA4 96 (fun _ => 0)), (q20, eO 2 [.int 0, .int 0, .int 0, .ref q21]), (q21, eI cA4 96 (fun _ => 0)), (q23, eO 2 [.int 0, .int 0, .int 0, .ref q24]), (q24, eI cA4 96 (fun _ => 0)), (q26, eO 2 [.int 0, .int 0, .int 0, .ref q27]), (q27, eI cA4 96 (fun _ => 0)), (q29, eO 2 [.int 0, .int 0, .int 0, .ref q30]), (q30, eI cA4 96 (fun _ => 0)), (q32, eO 2 [.int 0, .int 0, .int 0, .ref q33]), (q33, eI cA4 96 (fun _ => 0)), (q35, eO 2 [.int 0, .int 0, .int 0, .ref q36]), (q36, eI cA4 96 (fun _ => 0))]) (hS : va_S A s.heap H locs) (hl : lv_has ls 2 [(1, .int 10), (0, .ref h0)]) : W p l e rm_X4_init s m args below meth c H locs 24 1211 (MQ below (va_Qv (fun _ : Unit => True) (fun _ t => ∃ (q1 : Nat) (q3 : Nat) (q5 : Nat) (q6 : Nat) (q8 : Nat) (q9 : Nat) (q11 : Nat) (q12 : Nat) (q14 : Nat) (q15 : Nat) (q17 : Nat) (q18 : Nat) (q20 : Nat) (q21 : Nat) (q23 : Nat) (q24 : Nat) (q26 : Nat) (q27 : Nat) (q29 : Nat) (q30 : Nat) (q32 : Nat) (q33 : Nat) (q35 : Nat) (q36 : Nat) (q38 : Nat) (q39 : Nat) (q41 : Nat) (q42 : Nat) (q44 : Nat) (q45 : Nat) (q47 : Nat) (q48 : Nat) (cA2 : ClassId) (cA4 : ClassId), va_P (dC, dI) CLS [(h0, eO 3 [.ref q1, .ref q3]), (q1, eQ cA2 15 (va_up (va_up (va_up (va_up (va_up (va_up (va_up (va_up (va_up (va_up (va_up (va_up (va_up (va_up (va_up (fun _ => none) 0 (some q5)) 1 (some q8)) 2 (some q11)) 3 (some q14)) 4 (some q17)) 5 (some q20)) 6 (some q23)) 7 (some q26)) 8 (some q29)) 9 (some q32)) 10 (some q35)) 11 (some q38)) 12 (some q41)) 13 (some q44)) 14 (some q47))), (q3, eI cA4 96 (fun _ => 0)), (q5, eO 2 [.int 0, .int 0, .int 0, .ref q6]), (q6, eI cA4 96 (fun _ => 0)), (q8, eO 2 [.int 0, .int 0, .int 0, .ref q9]), (q9, eI cA4 96 (fun _ => 0)), (q11, eO 2 [.int 0, .int 0, .int 0, .ref q12]), (q12, eI cA4 96 (fun _ => 0)), (q14, eO 2 [.int 0, .int 0, .int 0, .ref q15]), (q15, eI cA4 96 (fun _ => 0)), (q17, eO 2 [.int 0, .int 0, .int 0, .ref q18]), (q18, eI cA4 96 (fun _ => 0)), (q20, eO 2 [.int 0, .int 0, .int 0, .ref q21]), (q21, eI cA4 96 (fun _ => 0)), (q23, eO 2 [.int 0, .int 0, .int 0, .ref q24]), (q24, eI cA4 96 (fun _ => 0)), (q26, eO 2 [.int 0, .int 0, .int 0, .ref q27]), (q27, eI cA4 96 (fun _ => 0)), (q29, eO 2 [.int 0, .int 0, .int 0, .ref q30]), (q30, eI cA4 96 (fun _ => 0)), (q32, eO 2 [.int 0, .int 0, .int 0, .ref q33]), (q33, eI cA4 96 (fun _ => 0)), (q35, eO 2 [.int 0, .int 0, .int 0, .ref q36]), (q36, eI cA4 96 (fun _ => 0)), (q38, eO 2 [.int 0, .int 0, .int 0, .ref q39]), (q39, eI cA4 96 (fun _ => 0)), (q41, eO 2 [.int 0, .int 0, .int 0, .ref q42]), (q42, eI cA4 96 (fun _ => 0)), (q44, eO 2 [.int 0, .int 0, .int 0, .ref q45]), (q45, eI cA4 96 (fun _ => 0)), (q47, eO 2 [.int 0, .int 0, .int 0, .ref q48]), (q48, eI cA4 96 (fun _ => 0))] t.heap ∧ va_K (dC, dI) CLS [(cA2, .object "RoofWar$Law"), (cA4, .int)] t ∧ va_D A [(h0, eO 3 [.ref q1, .ref q3]), (q1, eQ cA2 15 (va_up (va_up (va_up (va_up (va_up (va_up (va_up (va_up (va_up (va_up (va_up (va_up (va_up (va_up (va_up (fun _ => none) 0 (some q5)) 1 (some q8)) 2 (some q11)) 3 (some q14)) 4 (some q17)) 5 (some q20)) 6 (some q23)) 7 (some q26)) 8 (some q29)) 9 (some q32)) 10 (some q35)) 11 (some q38)) 12 (some q41)) 13 (some q44)) 14 (some q47))), (q3, eI cA4 96 (fun _ => 0)), (q5, eO 2 [.int 0, .int 0, .int 0, .ref q6]), (q6, eI cA4 96 (fun _ => 0)), (q8, eO 2 [.int 0, .int 0, .int 0, .ref q9]), (q9, eI cA4 96 (fun _ => 0)), (q11, eO 2 [.int 0, .int 0, .int 0, .ref q12]), (q12, eI cA4 96 (fun _ => 0)), (q14, eO 2 [.int 0, .int 0, .int 0, .ref q15]), (q15, eI cA4 96 (fun _ => 0)), (q17, eO 2 [.int 0, .int 0, .int 0, .ref q18]), (q18, eI cA4 96 (fun _ => 0)), (q20, eO 2 [.int 0, .int 0, .int 0, .ref q21]), (q21, eI cA4 96 (fun _ => 0)), (q23, eO 2 [.int 0, .int 0, .int 0, .ref q24]), (q24, eI cA4 96 (fun _ => 0)), (q26, eO 2 [.int 0, .int 0, .int 0, .ref q27]), (q27, eI cA4 96 (fun _ => 0)), (q29, eO 2 [.int 0, .int 0, .int 0, .ref q30]), (q30, eI cA4 96 (fun _ => 0)), (q32, eO 2 [.int 0, .int 0, .int 0, .ref q33]), (q33, eI cA4 96 (fun _ => 0)), (q35, eO 2 [.int 0, .int 0, .int 0, .ref q36]), (q36, eI cA4 96 (fun _ => 0)), (q38, eO 2 [.int 0, .int 0, .int 0, .ref q39]), (q39, eI cA4 96 (fun _ => 0)), (q41, eO 2 [.int 0, .int 0, .int 0, .ref q42]), (q42, eI cA4 96 (fun _ => 0)), (q44, eO 2 [.int 0, .int 0, .int 0, .ref q45]), (q45, eI cA4 96 (fun _ => 0)), (q47, eO 2 [.int 0, .int 0, .int 0, .ref q48]), (q48, eI cA4 96 (fun _ => 0))]) A) args s 32 1611 A) (F0 m 41 ls [.ref q35, .int 10, .ref q1]) := by
  refine va_astq (i := 10) hx hb hK hP hD hS 1 0 23 2 rfl rfl rfl rfl (by show ¬ (_ ∨ _); decide) dX4_init_41 (fun H locs hP2 hD2 hS => ?_)
  clear hP hD
  have hP := hP2
  have hD := hD2
  clear hP2 hD2
  refine lv_iinc (v := 11) (lv' := [(1, .int 11), (0, .ref h0)]) hx hb dX4_init_42 hl (k := 0) rfl (by decide) (by decide) rfl (fun ls hl => ?_)
  refine lv_goto (tgt := 23) hx hb dX4_init_45 (by decide) ?_
  refine lv_iload_n hx hb dX4_init_23 rfl (lv_at hl 0 rfl) ?_
  refine lv_bipush (v := 14) hx hb dX4_init_24 (by decide) ?_
  refine lv_icmp_gt (tgt := 48) hx hb dX4_init_26 (by decide) (fun q => absurd q (by decide)) (fun _ => ?_)
  refine lv_aload_n hx hb dX4_init_29 rfl (lv_at hl 1 rfl) ?_
  refine va_get (D := (dC, dI)) (ci := 3) (v := .ref q1) (C := RX4) (T := TX4) (N := 2) hx hb hts iwX4 hown hK hP 0 rfl rfl 0 (by decide) (hts _ mw_131) (fun _ h9 => h9) rfl dX4_init_30 ?_
  refine lv_iload_n hx hb dX4_init_33 rfl (lv_at hl 0 rfl) ?_
  refine va_new (ci := 2) (fs := [.int 0, .int 0, .int 0, .null]) (C := RX3) (T := TX3) (N := 4) hx hb hts iwX3 tyX3 tyX3_ok hown (hts _ mw_107) (hts _ mw_108) (hts _ mw_76) hK hP hD hS hA rfl (fun j hj => by rcases (show j = 0 ∨ j = 1 ∨ j = 2 ∨ j = 3 by omega) with rfl | rfl | rfl | rfl <;> rfl) (Nat.le_of_ble_eq_true rfl) (Nat.le_of_ble_eq_true rfl) dX4_init_34 (fun q38 H hP2 hD2 hS => ?_)
  clear hP hD
  have hP := hP2
  have hD := hD2
  clear hP2 hD2
  refine lv_dup hx hb dX4_init_37 rfl ?_
  have hFc := freeL hD hS hA
  refine g_cKN (host := "RoofWar") (As := []) (rest := [.ref q38, .int 11, .ref q1]) hx hb hml hown hts hN hl.1 (k_X3_init l dC dI q38 H.size) ⟨rfl, rfl⟩ rfl mw_76 mw_109 mw_110 okd_X3_init (List.mem_of_getElem? (i := 0) rfl) ⟨(Nat.le_of_ble_eq_true rfl), (Nat.le_of_ble_eq_true rfl)⟩ rfl rfl (Nat.le_of_ble_eq_true rfl) ⟨(Nat.le_of_ble_eq_true rfl), (Nat.le_of_ble_eq_true rfl)⟩ hK hP hD hS hA dX4_init_38 (fun t H1 locs ht hvm hB hk1 hS => ?_)
  obtain ⟨q39, cA40, hP1, hK1, hD1⟩ := hB
  rw [ht] at hP1
  have hK1 := va_K.moved hvm.symm hK1
  obtain ⟨hP2, hD2⟩ := joinL hP hD hk1 hFc hP1 hD1
  have hK := hK.app hK1
  clear hFc hP1 hD1 hk1 ht hvm
  generalize H1 = H at hP2 hS ⊢
  obtain rfl : cA4 = cA40 := tysame hK (i := 1) (j := 2) rfl rfl
  have hK := hK.sub (tys' := [(cA2, .object "RoofWar$Law"), (cA4, .int)]) [0, 1] rfl
  clear hP hD
  have hP := hP2
  have hD := hD2
  clear hP2 hD2
  refine W.widen (k := 26) (n := 1311) (Nat.le_of_ble_eq_true rfl) (Nat.le_of_ble_eq_true rfl) ?_
  exact sg_X4_init_12 dC dI h0 q1 q3 q5 q6 q8 q9 q11 q12 q14 q15 q17 q18 q20 q21 q23 q24 q26 q27 q29 q30 q32 q33 q35 q36 q38 q39 cA2 cA4 hx hb hr hts hown hml hlocks hin hN hA hK hP hD hS hl
set_option maxHeartbeats 4000000 in
set_option maxRecDepth 100000 in
theorem sg_X4_init_10 {p : Program} {l : Launch} {e : Env} {s : State} {m : MethodId} {args : Array Value} {below : List Frame} {meth : Method} {c : Code} (dC : Nat → ClassId) (dI : Nat → Nat → Nat) {A : Nat → Prop} (h0 : Nat) (q1 : Nat) (q3 : Nat) (q5 : Nat) (q6 : Nat) (q8 : Nat) (q9 : Nat) (q11 : Nat) (q12 : Nat) (q14 : Nat) (q15 : Nat) (q17 : Nat) (q18 : Nat) (q20 : Nat) (q21 : Nat) (q23 : Nat) (q24 : Nat) (q26 : Nat) (q27 : Nat) (q29 : Nat) (q30 : Nat) (q32 : Nat) (q33 : Nat) (cA2 : ClassId) (cA4 : ClassId) (hx : p.tables.exec = Jvm.exec) (hb : c.code = cX4_init) (hr : meth.sig.returnType = none) (hts : ∀ w ∈ WT, w.before args s = true) (hown : s.vm.findClass RX4 = some m.cls) (hml : c.maxLocals = 2) (hlocks : meth.locks = false) (hin : meth.name = "<init>") (hN : NK s) (hA : ∀ q : Nat, s.heap.size ≤ q → A q) {H : Heap} {locs : List Loc} {ls : Array Slot} (hK : va_K (dC, dI) CLS [(cA2, .object "RoofWar$Law"), (cA4, .int)] s) (hP : va_P (dC, dI) CLS [(h0, eO 3 [.ref q1, .ref q3]), (q1, eQ cA2 15 (va_up (va_up (va_up (va_up (va_up (va_up (va_up (va_up (va_up (fun _ => none) 0 (some q5)) 1 (some q8)) 2 (some q11)) 3 (some q14)) 4 (some q17)) 5 (some q20)) 6 (some q23)) 7 (some q26)) 8 (some q29))), (q3, eI cA4 96 (fun _ => 0)), (q5, eO 2 [.int 0, .int 0, .int 0, .ref q6]), (q6, eI cA4 96 (fun _ => 0)), (q8, eO 2 [.int 0, .int 0, .int 0, .ref q9]), (q9, eI cA4 96 (fun _ => 0)), (q11, eO 2 [.int 0, .int 0, .int 0, .ref q12]), (q12, eI cA4 96 (fun _ => 0)), (q14, eO 2 [.int 0, .int 0, .int 0, .ref q15]), (q15, eI cA4 96 (fun _ => 0)), (q17, eO 2 [.int 0, .int 0, .int 0, .ref q18]), (q18, eI cA4 96 (fun _ => 0)), (q20, eO 2 [.int 0, .int 0, .int 0, .ref q21]), (q21, eI cA4 96 (fun _ => 0)), (q23, eO 2 [.int 0, .int 0, .int 0, .ref q24]), (q24, eI cA4 96 (fun _ => 0)), (q26, eO 2 [.int 0, .int 0, .int 0, .ref q27]), (q27, eI cA4 96 (fun _ => 0)), (q29, eO 2 [.int 0, .int 0, .int 0, .ref q30]), (q30, eI cA4 96 (fun _ => 0)), (q32, eO 2 [.int 0, .int 0, .int 0, .ref q33]), (q33, eI cA4 96 (fun _ => 0))] H) (hD : va_D A [(h0, eO 3 [.ref q1, .ref q3]), (q1, eQ cA2 15 (va_up (va_up (va_up (va_up (va_up (va_up (va_up (va_up (va_up (fun _ => none) 0 (some q5)) 1 (some q8)) 2 (some q11)) 3 (some q14)) 4 (some q17)) 5 (some q20)) 6 (some q23)) 7 (some q26)) 8 (some q29))), (q3, eI cA4 96 (fun _ => 0)), (q5, eO 2 [.int 0, .int 0, .int 0, .ref q6]), (q6, eI cA4 96 (fun _ => 0)), (q8, eO 2 [.int 0, .int 0, .int 0, .ref q9]), (q9, eI cA4 96 (fun _ => 0)), (q11, eO 2 [.int 0, .int 0, .int 0, .ref q12]), (q12, eI cA4 96 (fun _ => 0)), (q14, eO 2 [.int 0, .int 0, .int 0, .ref q15]), (q15, eI cA4 96 (fun _ => 0)), (q17, eO 2 [.int 0, .int 0, .int 0, .ref q18]), (q18, eI cA4 96 (fun _ => 0)), (q20, eO 2 [.int 0, .int 0, .int 0, .ref q21]), (q21, eI cA4 96 (fun _ => 0)), (q23, eO 2 [.int 0, .int 0, .int 0, .ref q24]), (q24, eI cA4 96 (fun _ => 0)), (q26, eO 2 [.int 0, .int 0, .int 0, .ref q27]), (q27, eI cA4 96 (fun _ => 0)), (q29, eO 2 [.int 0, .int 0, .int 0, .ref q30]), (q30, eI cA4 96 (fun _ => 0)), (q32, eO 2 [.int 0, .int 0, .int 0, .ref q33]), (q33, eI cA4 96 (fun _ => 0))]) (hS : va_S A s.heap H locs) (hl : lv_has ls 2 [(1, .int 9), (0, .ref h0)]) : W p l e rm_X4_init s m args below meth c H locs 22 1111 (MQ below (va_Qv (fun _ : Unit => True) (fun _ t => ∃ (q1 : Nat) (q3 : Nat) (q5 : Nat) (q6 : Nat) (q8 : Nat) (q9 : Nat) (q11 : Nat) (q12 : Nat) (q14 : Nat) (q15 : Nat) (q17 : Nat) (q18 : Nat) (q20 : Nat) (q21 : Nat) (q23 : Nat) (q24 : Nat) (q26 : Nat) (q27 : Nat) (q29 : Nat) (q30 : Nat) (q32 : Nat) (q33 : Nat) (q35 : Nat) (q36 : Nat) (q38 : Nat) (q39 : Nat) (q41 : Nat) (q42 : Nat) (q44 : Nat) (q45 : Nat) (q47 : Nat) (q48 : Nat) (cA2 : ClassId) (cA4 : ClassId), va_P (dC, dI) CLS [(h0, eO 3 [.ref q1, .ref q3]), (q1, eQ cA2 15 (va_up (va_up (va_up (va_up (va_up (va_up (va_up (va_up (va_up (va_up (va_up (va_up (va_up (va_up (va_up (fun _ => none) 0 (some q5)) 1 (some q8)) 2 (some q11)) 3 (some q14)) 4 (some q17)) 5 (some q20)) 6 (some q23)) 7 (some q26)) 8 (some q29)) 9 (some q32)) 10 (some q35)) 11 (some q38)) 12 (some q41)) 13 (some q44)) 14 (some q47))), (q3, eI cA4 96 (fun _ => 0)), (q5, eO 2 [.int 0, .int 0, .int 0, .ref q6]), (q6, eI cA4 96 (fun _ => 0)), (q8, eO 2 [.int 0, .int 0, .int 0, .ref q9]), (q9, eI cA4 96 (fun _ => 0)), (q11, eO 2 [.int 0, .int 0, .int 0, .ref q12]), (q12, eI cA4 96 (fun _ => 0)), (q14, eO 2 [.int 0, .int 0, .int 0, .ref q15]), (q15, eI cA4 96 (fun _ => 0)), (q17, eO 2 [.int 0, .int 0, .int 0, .ref q18]), (q18, eI cA4 96 (fun _ => 0)), (q20, eO 2 [.int 0, .int 0, .int 0, .ref q21]), (q21, eI cA4 96 (fun _ => 0)), (q23, eO 2 [.int 0, .int 0, .int 0, .ref q24]), (q24, eI cA4 96 (fun _ => 0)), (q26, eO 2 [.int 0, .int 0, .int 0, .ref q27]), (q27, eI cA4 96 (fun _ => 0)), (q29, eO 2 [.int 0, .int 0, .int 0, .ref q30]), (q30, eI cA4 96 (fun _ => 0)), (q32, eO 2 [.int 0, .int 0, .int 0, .ref q33]), (q33, eI cA4 96 (fun _ => 0)), (q35, eO 2 [.int 0, .int 0, .int 0, .ref q36]), (q36, eI cA4 96 (fun _ => 0)), (q38, eO 2 [.int 0, .int 0, .int 0, .ref q39]), (q39, eI cA4 96 (fun _ => 0)), (q41, eO 2 [.int 0, .int 0, .int 0, .ref q42]), (q42, eI cA4 96 (fun _ => 0)), (q44, eO 2 [.int 0, .int 0, .int 0, .ref q45]), (q45, eI cA4 96 (fun _ => 0)), (q47, eO 2 [.int 0, .int 0, .int 0, .ref q48]), (q48, eI cA4 96 (fun _ => 0))] t.heap ∧ va_K (dC, dI) CLS [(cA2, .object "RoofWar$Law"), (cA4, .int)] t ∧ va_D A [(h0, eO 3 [.ref q1, .ref q3]), (q1, eQ cA2 15 (va_up (va_up (va_up (va_up (va_up (va_up (va_up (va_up (va_up (va_up (va_up (va_up (va_up (va_up (va_up (fun _ => none) 0 (some q5)) 1 (some q8)) 2 (some q11)) 3 (some q14)) 4 (some q17)) 5 (some q20)) 6 (some q23)) 7 (some q26)) 8 (some q29)) 9 (some q32)) 10 (some q35)) 11 (some q38)) 12 (some q41)) 13 (some q44)) 14 (some q47))), (q3, eI cA4 96 (fun _ => 0)), (q5, eO 2 [.int 0, .int 0, .int 0, .ref q6]), (q6, eI cA4 96 (fun _ => 0)), (q8, eO 2 [.int 0, .int 0, .int 0, .ref q9]), (q9, eI cA4 96 (fun _ => 0)), (q11, eO 2 [.int 0, .int 0, .int 0, .ref q12]), (q12, eI cA4 96 (fun _ => 0)), (q14, eO 2 [.int 0, .int 0, .int 0, .ref q15]), (q15, eI cA4 96 (fun _ => 0)), (q17, eO 2 [.int 0, .int 0, .int 0, .ref q18]), (q18, eI cA4 96 (fun _ => 0)), (q20, eO 2 [.int 0, .int 0, .int 0, .ref q21]), (q21, eI cA4 96 (fun _ => 0)), (q23, eO 2 [.int 0, .int 0, .int 0, .ref q24]), (q24, eI cA4 96 (fun _ => 0)), (q26, eO 2 [.int 0, .int 0, .int 0, .ref q27]), (q27, eI cA4 96 (fun _ => 0)), (q29, eO 2 [.int 0, .int 0, .int 0, .ref q30]), (q30, eI cA4 96 (fun _ => 0)), (q32, eO 2 [.int 0, .int 0, .int 0, .ref q33]), (q33, eI cA4 96 (fun _ => 0)), (q35, eO 2 [.int 0, .int 0, .int 0, .ref q36]), (q36, eI cA4 96 (fun _ => 0)), (q38, eO 2 [.int 0, .int 0, .int 0, .ref q39]), (q39, eI cA4 96 (fun _ => 0)), (q41, eO 2 [.int 0, .int 0, .int 0, .ref q42]), (q42, eI cA4 96 (fun _ => 0)), (q44, eO 2 [.int 0, .int 0, .int 0, .ref q45]), (q45, eI cA4 96 (fun _ => 0)), (q47, eO 2 [.int 0, .int 0, .int 0, .ref q48]), (q48, eI cA4 96 (fun _ => 0))]) A) args s 32 1611 A) (F0 m 41 ls [.ref q32, .int 9, .ref q1]) := by
  refine va_astq (i := 9) hx hb hK hP hD hS 1 0 21 2 rfl rfl rfl rfl (by show ¬ (_ ∨ _); decide) dX4_init_41 (fun H locs hP2 hD2 hS => ?_)
  clear hP hD
  have hP := hP2
  have hD := hD2
  clear hP2 hD2
  refine lv_iinc (v := 10) (lv' := [(1, .int 10), (0, .ref h0)]) hx hb dX4_init_42 hl (k := 0) rfl (by decide) (by decide) rfl (fun ls hl => ?_)
  refine lv_goto (tgt := 23) hx hb dX4_init_45 (by decide) ?_
  refine lv_iload_n hx hb dX4_init_23 rfl (lv_at hl 0 rfl) ?_
  refine lv_bipush (v := 14) hx hb dX4_init_24 (by decide) ?_
  refine lv_icmp_gt (tgt := 48) hx hb dX4_init_26 (by decide) (fun q => absurd q (by decide)) (fun _ => ?_)
  refine lv_aload_n hx hb dX4_init_29 rfl (lv_at hl 1 rfl) ?_
  refine va_get (D := (dC, dI)) (ci := 3) (v := .ref q1) (C := RX4) (T := TX4) (N := 2) hx hb hts iwX4 hown hK hP 0 rfl rfl 0 (by decide) (hts _ mw_131) (fun _ h9 => h9) rfl dX4_init_30 ?_
  refine lv_iload_n hx hb dX4_init_33 rfl (lv_at hl 0 rfl) ?_
  refine va_new (ci := 2) (fs := [.int 0, .int 0, .int 0, .null]) (C := RX3) (T := TX3) (N := 4) hx hb hts iwX3 tyX3 tyX3_ok hown (hts _ mw_107) (hts _ mw_108) (hts _ mw_76) hK hP hD hS hA rfl (fun j hj => by rcases (show j = 0 ∨ j = 1 ∨ j = 2 ∨ j = 3 by omega) with rfl | rfl | rfl | rfl <;> rfl) (Nat.le_of_ble_eq_true rfl) (Nat.le_of_ble_eq_true rfl) dX4_init_34 (fun q35 H hP2 hD2 hS => ?_)
  clear hP hD
  have hP := hP2
  have hD := hD2
  clear hP2 hD2
  refine lv_dup hx hb dX4_init_37 rfl ?_
  have hFc := freeL hD hS hA
  refine g_cKN (host := "RoofWar") (As := []) (rest := [.ref q35, .int 10, .ref q1]) hx hb hml hown hts hN hl.1 (k_X3_init l dC dI q35 H.size) ⟨rfl, rfl⟩ rfl mw_76 mw_109 mw_110 okd_X3_init (List.mem_of_getElem? (i := 0) rfl) ⟨(Nat.le_of_ble_eq_true rfl), (Nat.le_of_ble_eq_true rfl)⟩ rfl rfl (Nat.le_of_ble_eq_true rfl) ⟨(Nat.le_of_ble_eq_true rfl), (Nat.le_of_ble_eq_true rfl)⟩ hK hP hD hS hA dX4_init_38 (fun t H1 locs ht hvm hB hk1 hS => ?_)
  obtain ⟨q36, cA37, hP1, hK1, hD1⟩ := hB
  rw [ht] at hP1
  have hK1 := va_K.moved hvm.symm hK1
  obtain ⟨hP2, hD2⟩ := joinL hP hD hk1 hFc hP1 hD1
  have hK := hK.app hK1
  clear hFc hP1 hD1 hk1 ht hvm
  generalize H1 = H at hP2 hS ⊢
  obtain rfl : cA4 = cA37 := tysame hK (i := 1) (j := 2) rfl rfl
  have hK := hK.sub (tys' := [(cA2, .object "RoofWar$Law"), (cA4, .int)]) [0, 1] rfl
  clear hP hD
  have hP := hP2
  have hD := hD2
  clear hP2 hD2
  refine W.widen (k := 24) (n := 1211) (Nat.le_of_ble_eq_true rfl) (Nat.le_of_ble_eq_true rfl) ?_
  exact sg_X4_init_11 dC dI h0 q1 q3 q5 q6 q8 q9 q11 q12 q14 q15 q17 q18 q20 q21 q23 q24 q26 q27 q29 q30 q32 q33 q35 q36 cA2 cA4 hx hb hr hts hown hml hlocks hin hN hA hK hP hD hS hl
set_option maxHeartbeats 4000000 in
set_option maxRecDepth 100000 in
theorem sg_X4_init_9 {p : Program} {l : Launch} {e : Env} {s : State} {m : MethodId} {args : Array Value} {below : List Frame} {meth : Method} {c : Code} (dC : Nat → ClassId) (dI : Nat → Nat → Nat) {A : Nat → Prop} (h0 : Nat) (q1 : Nat) (q3 : Nat) (q5 : Nat) (q6 : Nat) (q8 : Nat) (q9 : Nat) (q11 : Nat) (q12 : Nat) (q14 : Nat) (q15 : Nat) (q17 : Nat) (q18 : Nat) (q20 : Nat) (q21 : Nat) (q23 : Nat) (q24 : Nat) (q26 : Nat) (q27 : Nat) (q29 : Nat) (q30 : Nat) (cA2 : ClassId) (cA4 : ClassId) (hx : p.tables.exec = Jvm.exec) (hb : c.code = cX4_init) (hr : meth.sig.returnType = none) (hts : ∀ w ∈ WT, w.before args s = true) (hown : s.vm.findClass RX4 = some m.cls) (hml : c.maxLocals = 2) (hlocks : meth.locks = false) (hin : meth.name = "<init>") (hN : NK s) (hA : ∀ q : Nat, s.heap.size ≤ q → A q) {H : Heap} {locs : List Loc} {ls : Array Slot} (hK : va_K (dC, dI) CLS [(cA2, .object "RoofWar$Law"), (cA4, .int)] s) (hP : va_P (dC, dI) CLS [(h0, eO 3 [.ref q1, .ref q3]), (q1, eQ cA2 15 (va_up (va_up (va_up (va_up (va_up (va_up (va_up (va_up (fun _ => none) 0 (some q5)) 1 (some q8)) 2 (some q11)) 3 (some q14)) 4 (some q17)) 5 (some q20)) 6 (some q23)) 7 (some q26))), (q3, eI cA4 96 (fun _ => 0)), (q5, eO 2 [.int 0, .int 0, .int 0, .ref q6]), (q6, eI cA4 96 (fun _ => 0)), (q8, eO 2 [.int 0, .int 0, .int 0, .ref q9]), (q9, eI cA4 96 (fun _ => 0)), (q11, eO 2 [.int 0, .int 0, .int 0, .ref q12]), (q12, eI cA4 96 (fun _ => 0)), (q14, eO 2 [.int 0, .int 0, .int 0, .ref q15]), (q15, eI cA4 96 (fun _ => 0)), (q17, eO 2 [.int 0, .int 0, .int 0, .ref q18]), (q18, eI cA4 96 (fun _ => 0)), (q20, eO 2 [.int 0, .int 0, .int 0, .ref q21]), (q21, eI cA4 96 (fun _ => 0)), (q23, eO 2 [.int 0, .int 0, .int 0, .ref q24]), (q24, eI cA4 96 (fun _ => 0)), (q26, eO 2 [.int 0, .int 0, .int 0, .ref q27]), (q27, eI cA4 96 (fun _ => 0)), (q29, eO 2 [.int 0, .int 0, .int 0, .ref q30]), (q30, eI cA4 96 (fun _ => 0))] H) (hD : va_D A [(h0, eO 3 [.ref q1, .ref q3]), (q1, eQ cA2 15 (va_up (va_up (va_up (va_up (va_up (va_up (va_up (va_up (fun _ => none) 0 (some q5)) 1 (some q8)) 2 (some q11)) 3 (some q14)) 4 (some q17)) 5 (some q20)) 6 (some q23)) 7 (some q26))), (q3, eI cA4 96 (fun _ => 0)), (q5, eO 2 [.int 0, .int 0, .int 0, .ref q6]), (q6, eI cA4 96 (fun _ => 0)), (q8, eO 2 [.int 0, .int 0, .int 0, .ref q9]), (q9, eI cA4 96 (fun _ => 0)), (q11, eO 2 [.int 0, .int 0, .int 0, .ref q12]), (q12, eI cA4 96 (fun _ => 0)), (q14, eO 2 [.int 0, .int 0, .int 0, .ref q15]), (q15, eI cA4 96 (fun _ => 0)), (q17, eO 2 [.int 0, .int 0, .int 0, .ref q18]), (q18, eI cA4 96 (fun _ => 0)), (q20, eO 2 [.int 0, .int 0, .int 0, .ref q21]), (q21, eI cA4 96 (fun _ => 0)), (q23, eO 2 [.int 0, .int 0, .int 0, .ref q24]), (q24, eI cA4 96 (fun _ => 0)), (q26, eO 2 [.int 0, .int 0, .int 0, .ref q27]), (q27, eI cA4 96 (fun _ => 0)), (q29, eO 2 [.int 0, .int 0, .int 0, .ref q30]), (q30, eI cA4 96 (fun _ => 0))]) (hS : va_S A s.heap H locs) (hl : lv_has ls 2 [(1, .int 8), (0, .ref h0)]) : W p l e rm_X4_init s m args below meth c H locs 20 1011 (MQ below (va_Qv (fun _ : Unit => True) (fun _ t => ∃ (q1 : Nat) (q3 : Nat) (q5 : Nat) (q6 : Nat) (q8 : Nat) (q9 : Nat) (q11 : Nat) (q12 : Nat) (q14 : Nat) (q15 : Nat) (q17 : Nat) (q18 : Nat) (q20 : Nat) (q21 : Nat) (q23 : Nat) (q24 : Nat) (q26 : Nat) (q27 : Nat) (q29 : Nat) (q30 : Nat) (q32 : Nat) (q33 : Nat) (q35 : Nat) (q36 : Nat) (q38 : Nat) (q39 : Nat) (q41 : Nat) (q42 : Nat) (q44 : Nat) (q45 : Nat) (q47 : Nat) (q48 : Nat) (cA2 : ClassId) (cA4 : ClassId), va_P (dC, dI) CLS [(h0, eO 3 [.ref q1, .ref q3]), (q1, eQ cA2 15 (va_up (va_up (va_up (va_up (va_up (va_up (va_up (va_up (va_up (va_up (va_up (va_up (va_up (va_up (va_up (fun _ => none) 0 (some q5)) 1 (some q8)) 2 (some q11)) 3 (some q14)) 4 (some q17)) 5 (some q20)) 6 (some q23)) 7 (some q26)) 8 (some q29)) 9 (some q32)) 10 (some q35)) 11 (some q38)) 12 (some q41)) 13 (some q44)) 14 (some q47))), (q3, eI cA4 96 (fun _ => 0)), (q5, eO 2 [.int 0, .int 0, .int 0, .ref q6]), (q6, eI cA4 96 (fun _ => 0)), (q8, eO 2 [.int 0, .int 0, .int 0, .ref q9]), (q9, eI cA4 96 (fun _ => 0)), (q11, eO 2 [.int 0, .int 0, .int 0, .ref q12]), (q12, eI cA4 96 (fun _ => 0)), (q14, eO 2 [.int 0, .int 0, .int 0, .ref q15]), (q15, eI cA4 96 (fun _ => 0)), (q17, eO 2 [.int 0, .int 0, .int 0, .ref q18]), (q18, eI cA4 96 (fun _ => 0)), (q20, eO 2 [.int 0, .int 0, .int 0, .ref q21]), (q21, eI cA4 96 (fun _ => 0)), (q23, eO 2 [.int 0, .int 0, .int 0, .ref q24]), (q24, eI cA4 96 (fun _ => 0)), (q26, eO 2 [.int 0, .int 0, .int 0, .ref q27]), (q27, eI cA4 96 (fun _ => 0)), (q29, eO 2 [.int 0, .int 0, .int 0, .ref q30]), (q30, eI cA4 96 (fun _ => 0)), (q32, eO 2 [.int 0, .int 0, .int 0, .ref q33]), (q33, eI cA4 96 (fun _ => 0)), (q35, eO 2 [.int 0, .int 0, .int 0, .ref q36]), (q36, eI cA4 96 (fun _ => 0)), (q38, eO 2 [.int 0, .int 0, .int 0, .ref q39]), (q39, eI cA4 96 (fun _ => 0)), (q41, eO 2 [.int 0, .int 0, .int 0, .ref q42]), (q42, eI cA4 96 (fun _ => 0)), (q44, eO 2 [.int 0, .int 0, .int 0, .ref q45]), (q45, eI cA4 96 (fun _ => 0)), (q47, eO 2 [.int 0, .int 0, .int 0, .ref q48]), (q48, eI cA4 96 (fun _ => 0))] t.heap ∧ va_K (dC, dI) CLS [(cA2, .object "RoofWar$Law"), (cA4, .int)] t ∧ va_D A [(h0, eO 3 [.ref q1, .ref q3]), (q1, eQ cA2 15 (va_up (va_up (va_up (va_up (va_up (va_up (va_up (va_up (va_up (va_up (va_up (va_up (va_up (va_up (va_up (fun _ => none) 0 (some q5)) 1 (some q8)) 2 (some q11)) 3 (some q14)) 4 (some q17)) 5 (some q20)) 6 (some q23)) 7 (some q26)) 8 (some q29)) 9 (some q32)) 10 (some q35)) 11 (some q38)) 12 (some q41)) 13 (some q44)) 14 (some q47))), (q3, eI cA4 96 (fun _ => 0)), (q5, eO 2 [.int 0, .int 0, .int 0, .ref q6]), (q6, eI cA4 96 (fun _ => 0)), (q8, eO 2 [.int 0, .int 0, .int 0, .ref q9]), (q9, eI cA4 96 (fun _ => 0)), (q11, eO 2 [.int 0, .int 0, .int 0, .ref q12]), (q12, eI cA4 96 (fun _ => 0)), (q14, eO 2 [.int 0, .int 0, .int 0, .ref q15]), (q15, eI cA4 96 (fun _ => 0)), (q17, eO 2 [.int 0, .int 0, .int 0, .ref q18]), (q18, eI cA4 96 (fun _ => 0)), (q20, eO 2 [.int 0, .int 0, .int 0, .ref q21]), (q21, eI cA4 96 (fun _ => 0)), (q23, eO 2 [.int 0, .int 0, .int 0, .ref q24]), (q24, eI cA4 96 (fun _ => 0)), (q26, eO 2 [.int 0, .int 0, .int 0, .ref q27]), (q27, eI cA4 96 (fun _ => 0)), (q29, eO 2 [.int 0, .int 0, .int 0, .ref q30]), (q30, eI cA4 96 (fun _ => 0)), (q32, eO 2 [.int 0, .int 0, .int 0, .ref q33]), (q33, eI cA4 96 (fun _ => 0)), (q35, eO 2 [.int 0, .int 0, .int 0, .ref q36]), (q36, eI cA4 96 (fun _ => 0)), (q38, eO 2 [.int 0, .int 0, .int 0, .ref q39]), (q39, eI cA4 96 (fun _ => 0)), (q41, eO 2 [.int 0, .int 0, .int 0, .ref q42]), (q42, eI cA4 96 (fun _ => 0)), (q44, eO 2 [.int 0, .int 0, .int 0, .ref q45]), (q45, eI cA4 96 (fun _ => 0)), (q47, eO 2 [.int 0, .int 0, .int 0, .ref q48]), (q48, eI cA4 96 (fun _ => 0))]) A) args s 32 1611 A) (F0 m 41 ls [.ref q29, .int 8, .ref q1]) := by
  refine va_astq (i := 8) hx hb hK hP hD hS 1 0 19 2 rfl rfl rfl rfl (by show ¬ (_ ∨ _); decide) dX4_init_41 (fun H locs hP2 hD2 hS => ?_)
  clear hP hD
  have hP := hP2
  have hD := hD2
  clear hP2 hD2
  refine lv_iinc (v := 9) (lv' := [(1, .int 9), (0, .ref h0)]) hx hb dX4_init_42 hl (k := 0) rfl (by decide) (by decide) rfl (fun ls hl => ?_)
  refine lv_goto (tgt := 23) hx hb dX4_init_45 (by decide) ?_
  refine lv_iload_n hx hb dX4_init_23 rfl (lv_at hl 0 rfl) ?_
  refine lv_bipush (v := 14) hx hb dX4_init_24 (by decide) ?_
  refine lv_icmp_gt (tgt := 48) hx hb dX4_init_26 (by decide) (fun q => absurd q (by decide)) (fun _ => ?_)
  refine lv_aload_n hx hb dX4_init_29 rfl (lv_at hl 1 rfl) ?_
  refine va_get (D := (dC, dI)) (ci := 3) (v := .ref q1) (C := RX4) (T := TX4) (N := 2) hx hb hts iwX4 hown hK hP 0 rfl rfl 0 (by decide) (hts _ mw_131) (fun _ h9 => h9) rfl dX4_init_30 ?_
  refine lv_iload_n hx hb dX4_init_33 rfl (lv_at hl 0 rfl) ?_
  refine va_new (ci := 2) (fs := [.int 0, .int 0, .int 0, .null]) (C := RX3) (T := TX3) (N := 4) hx hb hts iwX3 tyX3 tyX3_ok hown (hts _ mw_107) (hts _ mw_108) (hts _ mw_76) hK hP hD hS hA rfl (fun j hj => by rcases (show j = 0 ∨ j = 1 ∨ j = 2 ∨ j = 3 by omega) with rfl | rfl | rfl | rfl <;> rfl) (Nat.le_of_ble_eq_true rfl) (Nat.le_of_ble_eq_true rfl) dX4_init_34 (fun q32 H hP2 hD2 hS => ?_)
  clear hP hD
  have hP := hP2
  have hD := hD2
  clear hP2 hD2
  refine lv_dup hx hb dX4_init_37 rfl ?_
  have hFc := freeL hD hS hA
  refine g_cKN (host := "RoofWar") (As := []) (rest := [.ref q32, .int 9, .ref q1]) hx hb hml hown hts hN hl.1 (k_X3_init l dC dI q32 H.size) ⟨rfl, rfl⟩ rfl mw_76 mw_109 mw_110 okd_X3_init (List.mem_of_getElem? (i := 0) rfl) ⟨(Nat.le_of_ble_eq_true rfl), (Nat.le_of_ble_eq_true rfl)⟩ rfl rfl (Nat.le_of_ble_eq_true rfl) ⟨(Nat.le_of_ble_eq_true rfl), (Nat.le_of_ble_eq_true rfl)⟩ hK hP hD hS hA dX4_init_38 (fun t H1 locs ht hvm hB hk1 hS => ?_)
  obtain ⟨q33, cA34, hP1, hK1, hD1⟩ := hB
  rw [ht] at hP1
  have hK1 := va_K.moved hvm.symm hK1
  obtain ⟨hP2, hD2⟩ := joinL hP hD hk1 hFc hP1 hD1
  have hK := hK.app hK1
  clear hFc hP1 hD1 hk1 ht hvm
  generalize H1 = H at hP2 hS ⊢
  obtain rfl : cA4 = cA34 := tysame hK (i := 1) (j := 2) rfl rfl
  have hK := hK.sub (tys' := [(cA2, .object "RoofWar$Law"), (cA4, .int)]) [0, 1] rfl
  clear hP hD
  have hP := hP2
  have hD := hD2
  clear hP2 hD2
  refine W.widen (k := 22) (n := 1111) (Nat.le_of_ble_eq_true rfl) (Nat.le_of_ble_eq_true rfl) ?_
  exact sg_X4_init_10 dC dI h0 q1 q3 q5 q6 q8 q9 q11 q12 q14 q15 q17 q18 q20 q21 q23 q24 q26 q27 q29 q30 q32 q33 cA2 cA4 hx hb hr hts hown hml hlocks hin hN hA hK hP hD hS hl
set_option maxHeartbeats 4000000 in
set_option maxRecDepth 100000 in
theorem sg_X4_init_8 {p : Program} {l : Launch} {e : Env} {s : State} {m : MethodId} {args : Array Value} {below : List Frame} {meth : Method} {c : Code} (dC : Nat → ClassId) (dI : Nat → Nat → Nat) {A : Nat → Prop} (h0 : Nat) (q1 : Nat) (q3 : Nat) (q5 : Nat) (q6 : Nat) (q8 : Nat) (q9 : Nat) (q11 : Nat) (q12 : Nat) (q14 : Nat) (q15 : Nat) (q17 : Nat) (q18 : Nat) (q20 : Nat) (q21 : Nat) (q23 : Nat) (q24 : Nat) (q26 : Nat) (q27 : Nat) (cA2 : ClassId) (cA4 : ClassId) (hx : p.tables.exec = Jvm.exec) (hb : c.code = cX4_init) (hr : meth.sig.returnType = none) (hts : ∀ w ∈ WT, w.before args s = true) (hown : s.vm.findClass RX4 = some m.cls) (hml : c.maxLocals = 2) (hlocks : meth.locks = false) (hin : meth.name = "<init>") (hN : NK s) (hA : ∀ q : Nat, s.heap.size ≤ q → A q) {H : Heap} {locs : List Loc} {ls : Array Slot} (hK : va_K (dC, dI) CLS [(cA2, .object "RoofWar$Law"), (cA4, .int)] s) (hP : va_P (dC, dI) CLS [(h0, eO 3 [.ref q1, .ref q3]), (q1, eQ cA2 15 (va_up (va_up (va_up (va_up (va_up (va_up (va_up (fun _ => none) 0 (some q5)) 1 (some q8)) 2 (some q11)) 3 (some q14)) 4 (some q17)) 5 (some q20)) 6 (some q23))), (q3, eI cA4 96 (fun _ => 0)), (q5, eO 2 [.int 0, .int 0, .int 0, .ref q6]), (q6, eI cA4 96 (fun _ => 0)), (q8, eO 2 [.int 0, .int 0, .int 0, .ref q9]), (q9, eI cA4 96 (fun _ => 0)), (q11, eO 2 [.int 0, .int 0, .int 0, .ref q12]), (q12, eI cA4 96 (fun _ => 0)), (q14, eO 2 [.int 0, .int 0, .int 0, .ref q15]), (q15, eI cA4 96 (fun _ => 0)), (q17, eO 2 [.int 0, .int 0, .int 0, .ref q18]), (q18, eI cA4 96 (fun _ => 0)), (q20, eO 2 [.int 0, .int 0, .int 0, .ref q21]), (q21, eI cA4 96 (fun _ => 0)), (q23, eO 2 [.int 0, .int 0, .int 0, .ref q24]), (q24, eI cA4 96 (fun _ => 0)), (q26, eO 2 [.int 0, .int 0, .int 0, .ref q27]), (q27, eI cA4 96 (fun _ => 0))] H) (hD : va_D A [(h0, eO 3 [.ref q1, .ref q3]), (q1, eQ cA2 15 (va_up (va_up (va_up (va_up (va_up (va_up (va_up (fun _ => none) 0 (some q5)) 1 (some q8)) 2 (some q11)) 3 (some q14)) 4 (some q17)) 5 (some q20)) 6 (some q23))), (q3, eI cA4 96 (fun _ => 0)), (q5, eO 2 [.int 0, .int 0, .int 0, .ref q6]), (q6, eI cA4 96 (fun _ => 0)), (q8, eO 2 [.int 0, .int 0, .int 0, .ref q9]), (q9, eI cA4 96 (fun _ => 0)), (q11, eO 2 [.int 0, .int 0, .int 0, .ref q12]), (q12, eI cA4 96 (fun _ => 0)), (q14, eO 2 [.int 0, .int 0, .int 0, .ref q15]), (q15, eI cA4 96 (fun _ => 0)), (q17, eO 2 [.int 0, .int 0, .int 0, .ref q18]), (q18, eI cA4 96 (fun _ => 0)), (q20, eO 2 [.int 0, .int 0, .int 0, .ref q21]), (q21, eI cA4 96 (fun _ => 0)), (q23, eO 2 [.int 0, .int 0, .int 0, .ref q24]), (q24, eI cA4 96 (fun _ => 0)), (q26, eO 2 [.int 0, .int 0, .int 0, .ref q27]), (q27, eI cA4 96 (fun _ => 0))]) (hS : va_S A s.heap H locs) (hl : lv_has ls 2 [(1, .int 7), (0, .ref h0)]) : W p l e rm_X4_init s m args below meth c H locs 18 911 (MQ below (va_Qv (fun _ : Unit => True) (fun _ t => ∃ (q1 : Nat) (q3 : Nat) (q5 : Nat) (q6 : Nat) (q8 : Nat) (q9 : Nat) (q11 : Nat) (q12 : Nat) (q14 : Nat) (q15 : Nat) (q17 : Nat) (q18 : Nat) (q20 : Nat) (q21 : Nat) (q23 : Nat) (q24 : Nat) (q26 : Nat) (q27 : Nat) (q29 : Nat) (q30 : Nat) (q32 : Nat) (q33 : Nat) (q35 : Nat) (q36 : Nat) (q38 : Nat) (q39 : Nat) (q41 : Nat) (q42 : Nat) (q44 : Nat) (q45 : Nat) (q47 : Nat) (q48 : Nat) (cA2 : ClassId) (cA4 : ClassId), va_P (dC, dI) CLS [(h0, eO 3 [.ref q1, .ref q3]), (q1, eQ cA2 15 (va_up (va_up (va_up (va_up (va_up (va_up (va_up (va_up (va_up (va_up (va_up (va_up (va_up (va_up (va_up (fun _ => none) 0 (some q5)) 1 (some q8)) 2 (some q11)) 3 (some q14)) 4 (some q17)) 5 (some q20)) 6 (some q23)) 7 (some q26)) 8 (some q29)) 9 (some q32)) 10 (some q35)) 11 (some q38)) 12 (some q41)) 13 (some q44)) 14 (some q47))), (q3, eI cA4 96 (fun _ => 0)), (q5, eO 2 [.int 0, .int 0, .int 0, .ref q6]), (q6, eI cA4 96 (fun _ => 0)), (q8, eO 2 [.int 0, .int 0, .int 0, .ref q9]), (q9, eI cA4 96 (fun _ => 0)), (q11, eO 2 [.int 0, .int 0, .int 0, .ref q12]), (q12, eI cA4 96 (fun _ => 0)), (q14, eO 2 [.int 0, .int 0, .int 0, .ref q15]), (q15, eI cA4 96 (fun _ => 0)), (q17, eO 2 [.int 0, .int 0, .int 0, .ref q18]), (q18, eI cA4 96 (fun _ => 0)), (q20, eO 2 [.int 0, .int 0, .int 0, .ref q21]), (q21, eI cA4 96 (fun _ => 0)), (q23, eO 2 [.int 0, .int 0, .int 0, .ref q24]), (q24, eI cA4 96 (fun _ => 0)), (q26, eO 2 [.int 0, .int 0, .int 0, .ref q27]), (q27, eI cA4 96 (fun _ => 0)), (q29, eO 2 [.int 0, .int 0, .int 0, .ref q30]), (q30, eI cA4 96 (fun _ => 0)), (q32, eO 2 [.int 0, .int 0, .int 0, .ref q33]), (q33, eI cA4 96 (fun _ => 0)), (q35, eO 2 [.int 0, .int 0, .int 0, .ref q36]), (q36, eI cA4 96 (fun _ => 0)), (q38, eO 2 [.int 0, .int 0, .int 0, .ref q39]), (q39, eI cA4 96 (fun _ => 0)), (q41, eO 2 [.int 0, .int 0, .int 0, .ref q42]), (q42, eI cA4 96 (fun _ => 0)), (q44, eO 2 [.int 0, .int 0, .int 0, .ref q45]), (q45, eI cA4 96 (fun _ => 0)), (q47, eO 2 [.int 0, .int 0, .int 0, .ref q48]), (q48, eI cA4 96 (fun _ => 0))] t.heap ∧ va_K (dC, dI) CLS [(cA2, .object "RoofWar$Law"), (cA4, .int)] t ∧ va_D A [(h0, eO 3 [.ref q1, .ref q3]), (q1, eQ cA2 15 (va_up (va_up (va_up (va_up (va_up (va_up (va_up (va_up (va_up (va_up (va_up (va_up (va_up (va_up (va_up (fun _ => none) 0 (some q5)) 1 (some q8)) 2 (some q11)) 3 (some q14)) 4 (some q17)) 5 (some q20)) 6 (some q23)) 7 (some q26)) 8 (some q29)) 9 (some q32)) 10 (some q35)) 11 (some q38)) 12 (some q41)) 13 (some q44)) 14 (some q47))), (q3, eI cA4 96 (fun _ => 0)), (q5, eO 2 [.int 0, .int 0, .int 0, .ref q6]), (q6, eI cA4 96 (fun _ => 0)), (q8, eO 2 [.int 0, .int 0, .int 0, .ref q9]), (q9, eI cA4 96 (fun _ => 0)), (q11, eO 2 [.int 0, .int 0, .int 0, .ref q12]), (q12, eI cA4 96 (fun _ => 0)), (q14, eO 2 [.int 0, .int 0, .int 0, .ref q15]), (q15, eI cA4 96 (fun _ => 0)), (q17, eO 2 [.int 0, .int 0, .int 0, .ref q18]), (q18, eI cA4 96 (fun _ => 0)), (q20, eO 2 [.int 0, .int 0, .int 0, .ref q21]), (q21, eI cA4 96 (fun _ => 0)), (q23, eO 2 [.int 0, .int 0, .int 0, .ref q24]), (q24, eI cA4 96 (fun _ => 0)), (q26, eO 2 [.int 0, .int 0, .int 0, .ref q27]), (q27, eI cA4 96 (fun _ => 0)), (q29, eO 2 [.int 0, .int 0, .int 0, .ref q30]), (q30, eI cA4 96 (fun _ => 0)), (q32, eO 2 [.int 0, .int 0, .int 0, .ref q33]), (q33, eI cA4 96 (fun _ => 0)), (q35, eO 2 [.int 0, .int 0, .int 0, .ref q36]), (q36, eI cA4 96 (fun _ => 0)), (q38, eO 2 [.int 0, .int 0, .int 0, .ref q39]), (q39, eI cA4 96 (fun _ => 0)), (q41, eO 2 [.int 0, .int 0, .int 0, .ref q42]), (q42, eI cA4 96 (fun _ => 0)), (q44, eO 2 [.int 0, .int 0, .int 0, .ref q45]), (q45, eI cA4 96 (fun _ => 0)), (q47, eO 2 [.int 0, .int 0, .int 0, .ref q48]), (q48, eI cA4 96 (fun _ => 0))]) A) args s 32 1611 A) (F0 m 41 ls [.ref q26, .int 7, .ref q1]) := by
  refine va_astq (i := 7) hx hb hK hP hD hS 1 0 17 2 rfl rfl rfl rfl (by show ¬ (_ ∨ _); decide) dX4_init_41 (fun H locs hP2 hD2 hS => ?_)
  clear hP hD
  have hP := hP2
  have hD := hD2
  clear hP2 hD2
  refine lv_iinc (v := 8) (lv' := [(1, .int 8), (0, .ref h0)]) hx hb dX4_init_42 hl (k := 0) rfl (by decide) (by decide) rfl (fun ls hl => ?_)
  refine lv_goto (tgt := 23) hx hb dX4_init_45 (by decide) ?_
  refine lv_iload_n hx hb dX4_init_23 rfl (lv_at hl 0 rfl) ?_
  refine lv_bipush (v := 14) hx hb dX4_init_24 (by decide) ?_
  refine lv_icmp_gt (tgt := 48) hx hb dX4_init_26 (by decide) (fun q => absurd q (by decide)) (fun _ => ?_)
  refine lv_aload_n hx hb dX4_init_29 rfl (lv_at hl 1 rfl) ?_
  refine va_get (D := (dC, dI)) (ci := 3) (v := .ref q1) (C := RX4) (T := TX4) (N := 2) hx hb hts iwX4 hown hK hP 0 rfl rfl 0 (by decide) (hts _ mw_131) (fun _ h9 => h9) rfl dX4_init_30 ?_
  refine lv_iload_n hx hb dX4_init_33 rfl (lv_at hl 0 rfl) ?_
  refine va_new (ci := 2) (fs := [.int 0, .int 0, .int 0, .null]) (C := RX3) (T := TX3) (N := 4) hx hb hts iwX3 tyX3 tyX3_ok hown (hts _ mw_107) (hts _ mw_108) (hts _ mw_76) hK hP hD hS hA rfl (fun j hj => by rcases (show j = 0 ∨ j = 1 ∨ j = 2 ∨ j = 3 by omega) with rfl | rfl | rfl | rfl <;> rfl) (Nat.le_of_ble_eq_true rfl) (Nat.le_of_ble_eq_true rfl) dX4_init_34 (fun q29 H hP2 hD2 hS => ?_)
  clear hP hD
  have hP := hP2
  have hD := hD2
  clear hP2 hD2
  refine lv_dup hx hb dX4_init_37 rfl ?_
  have hFc := freeL hD hS hA
  refine g_cKN (host := "RoofWar") (As := []) (rest := [.ref q29, .int 8, .ref q1]) hx hb hml hown hts hN hl.1 (k_X3_init l dC dI q29 H.size) ⟨rfl, rfl⟩ rfl mw_76 mw_109 mw_110 okd_X3_init (List.mem_of_getElem? (i := 0) rfl) ⟨(Nat.le_of_ble_eq_true rfl), (Nat.le_of_ble_eq_true rfl)⟩ rfl rfl (Nat.le_of_ble_eq_true rfl) ⟨(Nat.le_of_ble_eq_true rfl), (Nat.le_of_ble_eq_true rfl)⟩ hK hP hD hS hA dX4_init_38 (fun t H1 locs ht hvm hB hk1 hS => ?_)
  obtain ⟨q30, cA31, hP1, hK1, hD1⟩ := hB
  rw [ht] at hP1
  have hK1 := va_K.moved hvm.symm hK1
  obtain ⟨hP2, hD2⟩ := joinL hP hD hk1 hFc hP1 hD1
  have hK := hK.app hK1
  clear hFc hP1 hD1 hk1 ht hvm
  generalize H1 = H at hP2 hS ⊢
  obtain rfl : cA4 = cA31 := tysame hK (i := 1) (j := 2) rfl rfl
  have hK := hK.sub (tys' := [(cA2, .object "RoofWar$Law"), (cA4, .int)]) [0, 1] rfl
  clear hP hD
  have hP := hP2
  have hD := hD2
  clear hP2 hD2
  refine W.widen (k := 20) (n := 1011) (Nat.le_of_ble_eq_true rfl) (Nat.le_of_ble_eq_true rfl) ?_
  exact sg_X4_init_9 dC dI h0 q1 q3 q5 q6 q8 q9 q11 q12 q14 q15 q17 q18 q20 q21 q23 q24 q26 q27 q29 q30 cA2 cA4 hx hb hr hts hown hml hlocks hin hN hA hK hP hD hS hl
set_option maxHeartbeats 4000000 in
set_option maxRecDepth 100000 in
theorem sg_X4_init_7 {p : Program} {l : Launch} {e : Env} {s : State} {m : MethodId} {args : Array Value} {below : List Frame} {meth : Method} {c : Code} (dC : Nat → ClassId) (dI : Nat → Nat → Nat) {A : Nat → Prop} (h0 : Nat) (q1 : Nat) (q3 : Nat) (q5 : Nat) (q6 : Nat) (q8 : Nat) (q9 : Nat) (q11 : Nat) (q12 : Nat) (q14 : Nat) (q15 : Nat) (q17 : Nat) (q18 : Nat) (q20 : Nat) (q21 : Nat) (q23 : Nat) (q24 : Nat) (cA2 : ClassId) (cA4 : ClassId) (hx : p.tables.exec = Jvm.exec) (hb : c.code = cX4_init) (hr : meth.sig.returnType = none) (hts : ∀ w ∈ WT, w.before args s = true) (hown : s.vm.findClass RX4 = some m.cls) (hml : c.maxLocals = 2) (hlocks : meth.locks = false) (hin : meth.name = "<init>") (hN : NK s) (hA : ∀ q : Nat, s.heap.size ≤ q → A q) {H : Heap} {locs : List Loc} {ls : Array Slot} (hK : va_K (dC, dI) CLS [(cA2, .object "RoofWar$Law"), (cA4, .int)] s) (hP : va_P (dC, dI) CLS [(h0, eO 3 [.ref q1, .ref q3]), (q1, eQ cA2 15 (va_up (va_up (va_up (va_up (va_up (va_up (fun _ => none) 0 (some q5)) 1 (some q8)) 2 (some q11)) 3 (some q14)) 4 (some q17)) 5 (some q20))), (q3, eI cA4 96 (fun _ => 0)), (q5, eO 2 [.int 0, .int 0, .int 0, .ref q6]), (q6, eI cA4 96 (fun _ => 0)), (q8, eO 2 [.int 0, .int 0, .int 0, .ref q9]), (q9, eI cA4 96 (fun _ => 0)), (q11, eO 2 [.int 0, .int 0, .int 0, .ref q12]), (q12, eI cA4 96 (fun _ => 0)), (q14, eO 2 [.int 0, .int 0, .int 0, .ref q15]), (q15, eI cA4 96 (fun _ => 0)), (q17, eO 2 [.int 0, .int 0, .int 0, .ref q18]), (q18, eI cA4 96 (fun _ => 0)), (q20, eO 2 [.int 0, .int 0, .int 0, .ref q21]), (q21, eI cA4 96 (fun _ => 0)), (q23, eO 2 [.int 0, .int 0, .int 0, .ref q24]), (q24, eI cA4 96 (fun _ => 0))] H) (hD : va_D A [(h0, eO 3 [.ref q1, .ref q3]), (q1, eQ cA2 15 (va_up (va_up (va_up (va_up (va_up (va_up (fun _ => none) 0 (some q5)) 1 (some q8)) 2 (some q11)) 3 (some q14)) 4 (some q17)) 5 (some q20))), (q3, eI cA4 96 (fun _ => 0)), (q5, eO 2 [.int 0, .int 0, .int 0, .ref q6]), (q6, eI cA4 96 (fun _ => 0)), (q8, eO 2 [.int 0, .int 0, .int 0, .ref q9]), (q9, eI cA4 96 (fun _ => 0)), (q11, eO 2 [.int 0, .int 0, .int 0, .ref q12]), (q12, eI cA4 96 (fun _ => 0)), (q14, eO 2 [.int 0, .int 0, .int 0, .ref q15]), (q15, eI cA4 96 (fun _ => 0)), (q17, eO 2 [.int 0, .int 0, .int 0, .ref q18]), (q18, eI cA4 96 (fun _ => 0)), (q20, eO 2 [.int 0, .int 0, .int 0, .ref q21]), (q21, eI cA4 96 (fun _ => 0)), (q23, eO 2 [.int 0, .int 0, .int 0, .ref q24]), (q24, eI cA4 96 (fun _ => 0))]) (hS : va_S A s.heap H locs) (hl : lv_has ls 2 [(1, .int 6), (0, .ref h0)]) : W p l e rm_X4_init s m args below meth c H locs 16 811 (MQ below (va_Qv (fun _ : Unit => True) (fun _ t => ∃ (q1 : Nat) (q3 : Nat) (q5 : Nat) (q6 : Nat) (q8 : Nat) (q9 : Nat) (q11 : Nat) (q12 : Nat) (q14 : Nat) (q15 : Nat) (q17 : Nat) (q18 : Nat) (q20 : Nat) (q21 : Nat) (q23 : Nat) (q24 : Nat) (q26 : Nat) (q27 : Nat) (q29 : Nat) (q30 : Nat) (q32 : Nat) (q33 : Nat) (q35 : Nat) (q36 : Nat) (q38 : Nat) (q39 : Nat) (q41 : Nat) (q42 : Nat) (q44 : Nat) (q45 : Nat) (q47 : Nat) (q48 : Nat) (cA2 : ClassId) (cA4 : ClassId), va_P (dC, dI) CLS [(h0, eO 3 [.ref q1, .ref q3]), (q1, eQ cA2 15 (va_up (va_up (va_up (va_up (va_up (va_up (va_up (va_up (va_up (va_up (va_up (va_up (va_up (va_up (va_up (fun _ => none) 0 (some q5)) 1 (some q8)) 2 (some q11)) 3 (some q14)) 4 (some q17)) 5 (some q20)) 6 (some q23)) 7 (some q26)) 8 (some q29)) 9 (some q32)) 10 (some q35)) 11 (some q38)) 12 (some q41)) 13 (some q44)) 14 (some q47))), (q3, eI cA4 96 (fun _ => 0)), (q5, eO 2 [.int 0, .int 0, .int 0, .ref q6]), (q6, eI cA4 96 (fun _ => 0)), (q8, eO 2 [.int 0, .int 0, .int 0, .ref q9]), (q9, eI cA4 96 (fun _ => 0)), (q11, eO 2 [.int 0, .int 0, .int 0, .ref q12]), (q12, eI cA4 96 (fun _ => 0)), (q14, eO 2 [.int 0, .int 0, .int 0, .ref q15]), (q15, eI cA4 96 (fun _ => 0)), (q17, eO 2 [.int 0, .int 0, .int 0, .ref q18]), (q18, eI cA4 96 (fun _ => 0)), (q20, eO 2 [.int 0, .int 0, .int 0, .ref q21]), (q21, eI cA4 96 (fun _ => 0)), (q23, eO 2 [.int 0, .int 0, .int 0, .ref q24]), (q24, eI cA4 96 (fun _ => 0)), (q26, eO 2 [.int 0, .int 0, .int 0, .ref q27]), (q27, eI cA4 96 (fun _ => 0)), (q29, eO 2 [.int 0, .int 0, .int 0, .ref q30]), (q30, eI cA4 96 (fun _ => 0)), (q32, eO 2 [.int 0, .int 0, .int 0, .ref q33]), (q33, eI cA4 96 (fun _ => 0)), (q35, eO 2 [.int 0, .int 0, .int 0, .ref q36]), (q36, eI cA4 96 (fun _ => 0)), (q38, eO 2 [.int 0, .int 0, .int 0, .ref q39]), (q39, eI cA4 96 (fun _ => 0)), (q41, eO 2 [.int 0, .int 0, .int 0, .ref q42]), (q42, eI cA4 96 (fun _ => 0)), (q44, eO 2 [.int 0, .int 0, .int 0, .ref q45]), (q45, eI cA4 96 (fun _ => 0)), (q47, eO 2 [.int 0, .int 0, .int 0, .ref q48]), (q48, eI cA4 96 (fun _ => 0))] t.heap ∧ va_K (dC, dI) CLS [(cA2, .object "RoofWar$Law"), (cA4, .int)] t ∧ va_D A [(h0, eO 3 [.ref q1, .ref q3]), (q1, eQ cA2 15 (va_up (va_up (va_up (va_up (va_up (va_up (va_up (va_up (va_up (va_up (va_up (va_up (va_up (va_up (va_up (fun _ => none) 0 (some q5)) 1 (some q8)) 2 (some q11)) 3 (some q14)) 4 (some q17)) 5 (some q20)) 6 (some q23)) 7 (some q26)) 8 (some q29)) 9 (some q32)) 10 (some q35)) 11 (some q38)) 12 (some q41)) 13 (some q44)) 14 (some q47))), (q3, eI cA4 96 (fun _ => 0)), (q5, eO 2 [.int 0, .int 0, .int 0, .ref q6]), (q6, eI cA4 96 (fun _ => 0)), (q8, eO 2 [.int 0, .int 0, .int 0, .ref q9]), (q9, eI cA4 96 (fun _ => 0)), (q11, eO 2 [.int 0, .int 0, .int 0, .ref q12]), (q12, eI cA4 96 (fun _ => 0)), (q14, eO 2 [.int 0, .int 0, .int 0, .ref q15]), (q15, eI cA4 96 (fun _ => 0)), (q17, eO 2 [.int 0, .int 0, .int 0, .ref q18]), (q18, eI cA4 96 (fun _ => 0)), (q20, eO 2 [.int 0, .int 0, .int 0, .ref q21]), (q21, eI cA4 96 (fun _ => 0)), (q23, eO 2 [.int 0, .int 0, .int 0, .ref q24]), (q24, eI cA4 96 (fun _ => 0)), (q26, eO 2 [.int 0, .int 0, .int 0, .ref q27]), (q27, eI cA4 96 (fun _ => 0)), (q29, eO 2 [.int 0, .int 0, .int 0, .ref q30]), (q30, eI cA4 96 (fun _ => 0)), (q32, eO 2 [.int 0, .int 0, .int 0, .ref q33]), (q33, eI cA4 96 (fun _ => 0)), (q35, eO 2 [.int 0, .int 0, .int 0, .ref q36]), (q36, eI cA4 96 (fun _ => 0)), (q38, eO 2 [.int 0, .int 0, .int 0, .ref q39]), (q39, eI cA4 96 (fun _ => 0)), (q41, eO 2 [.int 0, .int 0, .int 0, .ref q42]), (q42, eI cA4 96 (fun _ => 0)), (q44, eO 2 [.int 0, .int 0, .int 0, .ref q45]), (q45, eI cA4 96 (fun _ => 0)), (q47, eO 2 [.int 0, .int 0, .int 0, .ref q48]), (q48, eI cA4 96 (fun _ => 0))]) A) args s 32 1611 A) (F0 m 41 ls [.ref q23, .int 6, .ref q1]) := by
  refine va_astq (i := 6) hx hb hK hP hD hS 1 0 15 2 rfl rfl rfl rfl (by show ¬ (_ ∨ _); decide) dX4_init_41 (fun H locs hP2 hD2 hS => ?_)
  clear hP hD
  have hP := hP2
  have hD := hD2
  clear hP2 hD2
  refine lv_iinc (v := 7) (lv' := [(1, .int 7), (0, .ref h0)]) hx hb dX4_init_42 hl (k := 0) rfl (by decide) (by decide) rfl (fun ls hl => ?_)
  refine lv_goto (tgt := 23) hx hb dX4_init_45 (by decide) ?_
  refine lv_iload_n hx hb dX4_init_23 rfl (lv_at hl 0 rfl) ?_
  refine lv_bipush (v := 14) hx hb dX4_init_24 (by decide) ?_
  refine lv_icmp_gt (tgt := 48) hx hb dX4_init_26 (by decide) (fun q => absurd q (by decide)) (fun _ => ?_)
  refine lv_aload_n hx hb dX4_init_29 rfl (lv_at hl 1 rfl) ?_
  refine va_get (D := (dC, dI)) (ci := 3) (v := .ref q1) (C := RX4) (T := TX4) (N := 2) hx hb hts iwX4 hown hK hP 0 rfl rfl 0 (by decide) (hts _ mw_131) (fun _ h9 => h9) rfl dX4_init_30 ?_
  refine lv_iload_n hx hb dX4_init_33 rfl (lv_at hl 0 rfl) ?_
  refine va_new (ci := 2) (fs := [.int 0, .int 0, .int 0, .null]) (C := RX3) (T := TX3) (N := 4) hx hb hts iwX3 tyX3 tyX3_ok hown (hts _ mw_107) (hts _ mw_108) (hts _ mw_76) hK hP hD hS hA rfl (fun j hj => by rcases (show j = 0 ∨ j = 1 ∨ j = 2 ∨ j = 3 by omega) with rfl | rfl | rfl | rfl <;> rfl) (Nat.le_of_ble_eq_true rfl) (Nat.le_of_ble_eq_true rfl) dX4_init_34 (fun q26 H hP2 hD2 hS => ?_)
  clear hP hD
  have hP := hP2
  have hD := hD2
  clear hP2 hD2
  refine lv_dup hx hb dX4_init_37 rfl ?_
  have hFc := freeL hD hS hA
  refine g_cKN (host := "RoofWar") (As := []) (rest := [.ref q26, .int 7, .ref q1]) hx hb hml hown hts hN hl.1 (k_X3_init l dC dI q26 H.size) ⟨rfl, rfl⟩ rfl mw_76 mw_109 mw_110 okd_X3_init (List.mem_of_getElem? (i := 0) rfl) ⟨(Nat.le_of_ble_eq_true rfl), (Nat.le_of_ble_eq_true rfl)⟩ rfl rfl (Nat.le_of_ble_eq_true rfl) ⟨(Nat.le_of_ble_eq_true rfl), (Nat.le_of_ble_eq_true rfl)⟩ hK hP hD hS hA dX4_init_38 (fun t H1 locs ht hvm hB hk1 hS => ?_)
  obtain ⟨q27, cA28, hP1, hK1, hD1⟩ := hB
  rw [ht] at hP1
  have hK1 := va_K.moved hvm.symm hK1
  obtain ⟨hP2, hD2⟩ := joinL hP hD hk1 hFc hP1 hD1
  have hK := hK.app hK1
  clear hFc hP1 hD1 hk1 ht hvm
  generalize H1 = H at hP2 hS ⊢
  obtain rfl : cA4 = cA28 := tysame hK (i := 1) (j := 2) rfl rfl
  have hK := hK.sub (tys' := [(cA2, .object "RoofWar$Law"), (cA4, .int)]) [0, 1] rfl
  clear hP hD
  have hP := hP2
  have hD := hD2
  clear hP2 hD2
  refine W.widen (k := 18) (n := 911) (Nat.le_of_ble_eq_true rfl) (Nat.le_of_ble_eq_true rfl) ?_
  exact sg_X4_init_8 dC dI h0 q1 q3 q5 q6 q8 q9 q11 q12 q14 q15 q17 q18 q20 q21 q23 q24 q26 q27 cA2 cA4 hx hb hr hts hown hml hlocks hin hN hA hK hP hD hS hl
set_option maxHeartbeats 4000000 in
set_option maxRecDepth 100000 in
theorem sg_X4_init_6 {p : Program} {l : Launch} {e : Env} {s : State} {m : MethodId} {args : Array Value} {below : List Frame} {meth : Method} {c : Code} (dC : Nat → ClassId) (dI : Nat → Nat → Nat) {A : Nat → Prop} (h0 : Nat) (q1 : Nat) (q3 : Nat) (q5 : Nat) (q6 : Nat) (q8 : Nat) (q9 : Nat) (q11 : Nat) (q12 : Nat) (q14 : Nat) (q15 : Nat) (q17 : Nat) (q18 : Nat) (q20 : Nat) (q21 : Nat) (cA2 : ClassId) (cA4 : ClassId) (hx : p.tables.exec = Jvm.exec) (hb : c.code = cX4_init) (hr : meth.sig.returnType = none) (hts : ∀ w ∈ WT, w.before args s = true) (hown : s.vm.findClass RX4 = some m.cls) (hml : c.maxLocals = 2) (hlocks : meth.locks = false) (hin : meth.name = "<init>") (hN : NK s) (hA : ∀ q : Nat, s.heap.size ≤ q → A q) {H : Heap} {locs : List Loc} {ls : Array Slot} (hK : va_K (dC, dI) CLS [(cA2, .object "RoofWar$Law"), (cA4, .int)] s) (hP : va_P (dC, dI) CLS [(h0, eO 3 [.ref q1, .ref q3]), (q1, eQ cA2 15 (va_up (va_up (va_up (va_up (va_up (fun _ => none) 0 (some q5)) 1 (some q8)) 2 (some q11)) 3 (some q14)) 4 (some q17))), (q3, eI cA4 96 (fun _ => 0)), (q5, eO 2 [.int 0, .int 0, .int 0, .ref q6]), (q6, eI cA4 96 (fun _ => 0)), (q8, eO 2 [.int 0, .int 0, .int 0, .ref q9]), (q9, eI cA4 96 (fun _ => 0)), (q11, eO 2 [.int 0, .int 0, .int 0, .ref q12]), (q12, eI cA4 96 (fun _ => 0)), (q14, eO 2 [.int 0, .int 0, .int 0, .ref q15]), (q15, eI cA4 96 (fun _ => 0)), (q17, eO 2 [.int 0, .int 0, .int 0, .ref q18]), (q18, eI cA4 96 (fun _ => 0)), (q20, eO 2 [.int 0, .int 0, .int 0, .ref q21]), (q21, eI cA4 96 (fun _ => 0))] H) (hD : va_D A [(h0, eO 3 [.ref q1, .ref q3]), (q1, eQ cA2 15 (va_up (va_up (va_up (va_up (va_up (fun _ => none) 0 (some q5)) 1 (some q8)) 2 (some q11)) 3 (some q14)) 4 (some q17))), (q3, eI cA4 96 (fun _ => 0)), (q5, eO 2 [.int 0, .int 0, .int 0, .ref q6]), (q6, eI cA4 96 (fun _ => 0)), (q8, eO 2 [.int 0, .int 0, .int 0, .ref q9]), (q9, eI cA4 96 (fun _ => 0)), (q11, eO 2 [.int 0, .int 0, .int 0, .ref q12]), (q12, eI cA4 96 (fun _ => 0)), (q14, eO 2 [.int 0, .int 0, .int 0, .ref q15]), (q15, eI cA4 96 (fun _ => 0)), (q17, eO 2 [.int 0, .int 0, .int 0, .ref q18]), (q18, eI cA4 96 (fun _ => 0)), (q20, eO 2 [.int 0, .int 0, .int 0, .ref q21]), (q21, eI cA4 96 (fun _ => 0))]) (hS : va_S A s.heap H locs) (hl : lv_has ls 2 [(1, .int 5), (0, .ref h0)]) : W p l e rm_X4_init s m args below meth c H locs 14 711 (MQ below (va_Qv (fun _ : Unit => True) (fun _ t => ∃ (q1 : Nat) (q3 : Nat) (q5 : Nat) (q6 : Nat) (q8 : Nat) (q9 : Nat) (q11 : Nat) (q12 : Nat) (q14 : Nat) (q15 : Nat) (q17 : Nat) (q18 : Nat) (q20 : Nat) (q21 : Nat) (q23 : Nat) (q24 : Nat) (q26 : Nat) (q27 : Nat) (q29 : Nat) (q30 : Nat) (q32 : Nat) (q33 : Nat) (q35 : Nat) (q36 : Nat) (q38 : Nat) (q39 : Nat) (q41 : Nat) (q42 : Nat) (q44 : Nat) (q45 : Nat) (q47 : Nat) (q48 : Nat) (cA2 : ClassId) (cA4 : ClassId), va_P (dC, dI) CLS [(h0, eO 3 [.ref q1, .ref q3]), (q1, eQ cA2 15 (va_up (va_up (va_up (va_up (va_up (va_up (va_up (va_up (va_up (va_up (va_up (va_up (va_up (va_up (va_up (fun _ => none) 0 (some q5)) 1 (some q8)) 2 (some q11)) 3 (some q14)) 4 (some q17)) 5 (some q20)) 6 (some q23)) 7 (some q26)) 8 (some q29)) 9 (some q32)) 10 (some q35)) 11 (some q38)) 12 (some q41)) 13 (some q44)) 14 (some q47))), (q3, eI cA4 96 (fun _ => 0)), (q5, eO 2 [.int 0, .int 0, .int 0, .ref q6]), (q6, eI cA4 96 (fun _ => 0)), (q8, eO 2 [.int 0, .int 0, .int 0, .ref q9]), (q9, eI cA4 96 (fun _ => 0)), (q11, eO 2 [.int 0, .int 0, .int 0, .ref q12]), (q12, eI cA4 96 (fun _ => 0)), (q14, eO 2 [.int 0, .int 0, .int 0, .ref q15]), (q15, eI cA4 96 (fun _ => 0)), (q17, eO 2 [.int 0, .int 0, .int 0, .ref q18]), (q18, eI cA4 96 (fun _ => 0)), (q20, eO 2 [.int 0, .int 0, .int 0, .ref q21]), (q21, eI cA4 96 (fun _ => 0)), (q23, eO 2 [.int 0, .int 0, .int 0, .ref q24]), (q24, eI cA4 96 (fun _ => 0)), (q26, eO 2 [.int 0, .int 0, .int 0, .ref q27]), (q27, eI cA4 96 (fun _ => 0)), (q29, eO 2 [.int 0, .int 0, .int 0, .ref q30]), (q30, eI cA4 96 (fun _ => 0)), (q32, eO 2 [.int 0, .int 0, .int 0, .ref q33]), (q33, eI cA4 96 (fun _ => 0)), (q35, eO 2 [.int 0, .int 0, .int 0, .ref q36]), (q36, eI cA4 96 (fun _ => 0)), (q38, eO 2 [.int 0, .int 0, .int 0, .ref q39]), (q39, eI cA4 96 (fun _ => 0)), (q41, eO 2 [.int 0, .int 0, .int 0, .ref q42]), (q42, eI cA4 96 (fun _ => 0)), (q44, eO 2 [.int 0, .int 0, .int 0, .ref q45]), (q45, eI cA4 96 (fun _ => 0)), (q47, eO 2 [.int 0, .int 0, .int 0, .ref q48]), (q48, eI cA4 96 (fun _ => 0))] t.heap ∧ va_K (dC, dI) CLS [(cA2, .object "RoofWar$Law"), (cA4, .int)] t ∧ va_D A [(h0, eO 3 [.ref q1, .ref q3]), (q1, eQ cA2 15 (va_up (va_up (va_up (va_up (va_up (va_up (va_up (va_up (va_up (va_up (va_up (va_up (va_up (va_up (va_up (fun _ => none) 0 (some q5)) 1 (some q8)) 2 (some q11)) 3 (some q14)) 4 (some q17)) 5 (some q20)) 6 (some q23)) 7 (some q26)) 8 (some q29)) 9 (some q32)) 10 (some q35)) 11 (some q38)) 12 (some q41)) 13 (some q44)) 14 (some q47))), (q3, eI cA4 96 (fun _ => 0)), (q5, eO 2 [.int 0, .int 0, .int 0, .ref q6]), (q6, eI cA4 96 (fun _ => 0)), (q8, eO 2 [.int 0, .int 0, .int 0, .ref q9]), (q9, eI cA4 96 (fun _ => 0)), (q11, eO 2 [.int 0, .int 0, .int 0, .ref q12]), (q12, eI cA4 96 (fun _ => 0)), (q14, eO 2 [.int 0, .int 0, .int 0, .ref q15]), (q15, eI cA4 96 (fun _ => 0)), (q17, eO 2 [.int 0, .int 0, .int 0, .ref q18]), (q18, eI cA4 96 (fun _ => 0)), (q20, eO 2 [.int 0, .int 0, .int 0, .ref q21]), (q21, eI cA4 96 (fun _ => 0)), (q23, eO 2 [.int 0, .int 0, .int 0, .ref q24]), (q24, eI cA4 96 (fun _ => 0)), (q26, eO 2 [.int 0, .int 0, .int 0, .ref q27]), (q27, eI cA4 96 (fun _ => 0)), (q29, eO 2 [.int 0, .int 0, .int 0, .ref q30]), (q30, eI cA4 96 (fun _ => 0)), (q32, eO 2 [.int 0, .int 0, .int 0, .ref q33]), (q33, eI cA4 96 (fun _ => 0)), (q35, eO 2 [.int 0, .int 0, .int 0, .ref q36]), (q36, eI cA4 96 (fun _ => 0)), (q38, eO 2 [.int 0, .int 0, .int 0, .ref q39]), (q39, eI cA4 96 (fun _ => 0)), (q41, eO 2 [.int 0, .int 0, .int 0, .ref q42]), (q42, eI cA4 96 (fun _ => 0)), (q44, eO 2 [.int 0, .int 0, .int 0, .ref q45]), (q45, eI cA4 96 (fun _ => 0)), (q47, eO 2 [.int 0, .int 0, .int 0, .ref q48]), (q48, eI cA4 96 (fun _ => 0))]) A) args s 32 1611 A) (F0 m 41 ls [.ref q20, .int 5, .ref q1]) := by
  refine va_astq (i := 5) hx hb hK hP hD hS 1 0 13 2 rfl rfl rfl rfl (by show ¬ (_ ∨ _); decide) dX4_init_41 (fun H locs hP2 hD2 hS => ?_)
  clear hP hD
  have hP := hP2
  have hD := hD2
  clear hP2 hD2
  refine lv_iinc (v := 6) (lv' := [(1, .int 6), (0, .ref h0)]) hx hb dX4_init_42 hl (k := 0) rfl (by decide) (by decide) rfl (fun ls hl => ?_)
  refine lv_goto (tgt := 23) hx hb dX4_init_45 (by decide) ?_
  refine lv_iload_n hx hb dX4_init_23 rfl (lv_at hl 0 rfl) ?_
  refine lv_bipush (v := 14) hx hb dX4_init_24 (by decide) ?_
  refine lv_icmp_gt (tgt := 48) hx hb dX4_init_26 (by decide) (fun q => absurd q (by decide)) (fun _ => ?_)
  refine lv_aload_n hx hb dX4_init_29 rfl (lv_at hl 1 rfl) ?_
  refine va_get (D := (dC, dI)) (ci := 3) (v := .ref q1) (C := RX4) (T := TX4) (N := 2) hx hb hts iwX4 hown hK hP 0 rfl rfl 0 (by decide) (hts _ mw_131) (fun _ h9 => h9) rfl dX4_init_30 ?_
  refine lv_iload_n hx hb dX4_init_33 rfl (lv_at hl 0 rfl) ?_
  refine va_new (ci := 2) (fs := [.int 0, .int 0, .int 0, .null]) (C := RX3) (T := TX3) (N := 4) hx hb hts iwX3 tyX3 tyX3_ok hown (hts _ mw_107) (hts _ mw_108) (hts _ mw_76) hK hP hD hS hA rfl (fun j hj => by rcases (show j = 0 ∨ j = 1 ∨ j = 2 ∨ j = 3 by omega) with rfl | rfl | rfl | rfl <;> rfl) (Nat.le_of_ble_eq_true rfl) (Nat.le_of_ble_eq_true rfl) dX4_init_34 (fun q23 H hP2 hD2 hS => ?_)
  clear hP hD
  have hP := hP2
  have hD := hD2
  clear hP2 hD2
  refine lv_dup hx hb dX4_init_37 rfl ?_
  have hFc := freeL hD hS hA
  refine g_cKN (host := "RoofWar") (As := []) (rest := [.ref q23, .int 6, .ref q1]) hx hb hml hown hts hN hl.1 (k_X3_init l dC dI q23 H.size) ⟨rfl, rfl⟩ rfl mw_76 mw_109 mw_110 okd_X3_init (List.mem_of_getElem? (i := 0) rfl) ⟨(Nat.le_of_ble_eq_true rfl), (Nat.le_of_ble_eq_true rfl)⟩ rfl rfl (Nat.le_of_ble_eq_true rfl) ⟨(Nat.le_of_ble_eq_true rfl), (Nat.le_of_ble_eq_true rfl)⟩ hK hP hD hS hA dX4_init_38 (fun t H1 locs ht hvm hB hk1 hS => ?_)
  obtain ⟨q24, cA25, hP1, hK1, hD1⟩ := hB
  rw [ht] at hP1
  have hK1 := va_K.moved hvm.symm hK1
  obtain ⟨hP2, hD2⟩ := joinL hP hD hk1 hFc hP1 hD1
  have hK := hK.app hK1
  clear hFc hP1 hD1 hk1 ht hvm
  generalize H1 = H at hP2 hS ⊢
  obtain rfl : cA4 = cA25 := tysame hK (i := 1) (j := 2) rfl rfl
  have hK := hK.sub (tys' := [(cA2, .object "RoofWar$Law"), (cA4, .int)]) [0, 1] rfl
  clear hP hD
  have hP := hP2
  have hD := hD2
  clear hP2 hD2
  refine W.widen (k := 16) (n := 811) (Nat.le_of_ble_eq_true rfl) (Nat.le_of_ble_eq_true rfl) ?_
  exact sg_X4_init_7 dC dI h0 q1 q3 q5 q6 q8 q9 q11 q12 q14 q15 q17 q18 q20 q21 q23 q24 cA2 cA4 hx hb hr hts hown hml hlocks hin hN hA hK hP hD hS hl
set_option maxHeartbeats 4000000 in
set_option maxRecDepth 100000 in
theorem sg_X4_init_5 {p : Program} {l : Launch} {e : Env} {s : State} {m : MethodId} {args : Array Value} {below : List Frame} {meth : Method} {c : Code} (dC : Nat → ClassId) (dI : Nat → Nat → Nat) {A : Nat → Prop} (h0 : Nat) (q1 : Nat) (q3 : Nat) (q5 : Nat) (q6 : Nat) (q8 : Nat) (q9 : Nat) (q11 : Nat) (q12 : Nat) (q14 : Nat) (q15 : Nat) (q17 : Nat) (q18 : Nat) (cA2 : ClassId) (cA4 : ClassId) (hx : p.tables.exec = Jvm.exec) (hb : c.code = cX4_init) (hr : meth.sig.returnType = none) (hts : ∀ w ∈ WT, w.before args s = true) (hown : s.vm.findClass RX4 = some m.cls) (hml : c.maxLocals = 2) (hlocks : meth.locks = false) (hin : meth.name = "<init>") (hN : NK s) (hA : ∀ q : Nat, s.heap.size ≤ q → A q) {H : Heap} {locs : List Loc} {ls : Array Slot} (hK : va_K (dC, dI) CLS [(cA2, .object "RoofWar$Law"), (cA4, .int)] s) (hP : va_P (dC, dI) CLS [(h0, eO 3 [.ref q1, .ref q3]), (q1, eQ cA2 15 (va_up (va_up (va_up (va_up (fun _ => none) 0 (some q5)) 1 (some q8)) 2 (some q11)) 3 (some q14))), (q3, eI cA4 96 (fun _ => 0)), (q5, eO 2 [.int 0, .int 0, .int 0, .ref q6]), (q6, eI cA4 96 (fun _ => 0)), (q8, eO 2 [.int 0, .int 0, .int 0, .ref q9]), (q9, eI cA4 96 (fun _ => 0)), (q11, eO 2 [.int 0, .int 0, .int 0, .ref q12]), (q12, eI cA4 96 (fun _ => 0)), (q14, eO 2 [.int 0, .int 0, .int 0, .ref q15]), (q15, eI cA4 96 (fun _ => 0)), (q17, eO 2 [.int 0, .int 0, .int 0, .ref q18]), (q18, eI cA4 96 (fun _ => 0))] H) (hD : va_D A [(h0, eO 3 [.ref q1, .ref q3]), (q1, eQ cA2 15 (va_up (va_up (va_up (va_up (fun _ => none) 0 (some q5)) 1 (some q8)) 2 (some q11)) 3 (some q14))), (q3, eI cA4 96 (fun _ => 0)), (q5, eO 2 [.int 0, .int 0, .int 0, .ref q6]), (q6, eI cA4 96 (fun _ => 0)), (q8, eO 2 [.int 0, .int 0, .int 0, .ref q9]), (q9, eI cA4 96 (fun _ => 0)), (q11, eO 2 [.int 0, .int 0, .int 0, .ref q12]), (q12, eI cA4 96 (fun _ => 0)), (q14, eO 2 [.int 0, .int 0, .int 0, .ref q15]), (q15, eI cA4 96 (fun _ => 0)), (q17, eO 2 [.int 0, .int 0, .int 0, .ref q18]), (q18, eI cA4 96 (fun _ => 0))]) (hS : va_S A s.heap H locs) (hl : lv_has ls 2 [(1, .int 4), (0, .ref h0)]) : W p l e rm_X4_init s m args below meth c H locs 12 611 (MQ below (va_Qv (fun _ : Unit => True) (fun _ t => ∃ (q1 : Nat) (q3 : Nat) (q5 : Nat) (q6 : Nat) (q8 : Nat) (q9 : Nat) (q11 : Nat) (q12 : Nat) (q14 : Nat) (q15 : Nat) (q17 : Nat) (q18 : Nat) (q20 : Nat) (q21 : Nat) (q23 : Nat) (q24 : Nat) (q26 : Nat) (q27 : Nat) (q29 : Nat) (q30 : Nat) (q32 : Nat) (q33 : Nat) (q35 : Nat) (q36 : Nat) (q38 : Nat) (q39 : Nat) (q41 : Nat) (q42 : Nat) (q44 : Nat) (q45 : Nat) (q47 : Nat) (q48 : Nat) (cA2 : ClassId) (cA4 : ClassId), va_P (dC, dI) CLS [(h0, eO 3 [.ref q1, .ref q3]), (q1, eQ cA2 15 (va_up (va_up (va_up (va_up (va_up (va_up (va_up (va_up (va_up (va_up (va_up (va_up (va_up (va_up (va_up (fun _ => none) 0 (some q5)) 1 (some q8)) 2 (some q11)) 3 (some q14)) 4 (some q17)) 5 (some q20)) 6 (some q23)) 7 (some q26)) 8 (some q29)) 9 (some q32)) 10 (some q35)) 11 (some q38)) 12 (some q41)) 13 (some q44)) 14 (some q47))), (q3, eI cA4 96 (fun _ => 0)), (q5, eO 2 [.int 0, .int 0, .int 0, .ref q6]), (q6, eI cA4 96 (fun _ => 0)), (q8, eO 2 [.int 0, .int 0, .int 0, .ref q9]), (q9, eI cA4 96 (fun _ => 0)), (q11, eO 2 [.int 0, .int 0, .int 0, .ref q12]), (q12, eI cA4 96 (fun _ => 0)), (q14, eO 2 [.int 0, .int 0, .int 0, .ref q15]), (q15, eI cA4 96 (fun _ => 0)), (q17, eO 2 [.int 0, .int 0, .int 0, .ref q18]), (q18, eI cA4 96 (fun _ => 0)), (q20, eO 2 [.int 0, .int 0, .int 0, .ref q21]), (q21, eI cA4 96 (fun _ => 0)), (q23, eO 2 [.int 0, .int 0, .int 0, .ref q24]), (q24, eI cA4 96 (fun _ => 0)), (q26, eO 2 [.int 0, .int 0, .int 0, .ref q27]), (q27, eI cA4 96 (fun _ => 0)), (q29, eO 2 [.int 0, .int 0, .int 0, .ref q30]), (q30, eI cA4 96 (fun _ => 0)), (q32, eO 2 [.int 0, .int 0, .int 0, .ref q33]), (q33, eI cA4 96 (fun _ => 0)), (q35, eO 2 [.int 0, .int 0, .int 0, .ref q36]), (q36, eI cA4 96 (fun _ => 0)), (q38, eO 2 [.int 0, .int 0, .int 0, .ref q39]), (q39, eI cA4 96 (fun _ => 0)), (q41, eO 2 [.int 0, .int 0, .int 0, .ref q42]), (q42, eI cA4 96 (fun _ => 0)), (q44, eO 2 [.int 0, .int 0, .int 0, .ref q45]), (q45, eI cA4 96 (fun _ => 0)), (q47, eO 2 [.int 0, .int 0, .int 0, .ref q48]), (q48, eI cA4 96 (fun _ => 0))] t.heap ∧ va_K (dC, dI) CLS [(cA2, .object "RoofWar$Law"), (cA4, .int)] t ∧ va_D A [(h0, eO 3 [.ref q1, .ref q3]), (q1, eQ cA2 15 (va_up (va_up (va_up (va_up (va_up (va_up (va_up (va_up (va_up (va_up (va_up (va_up (va_up (va_up (va_up (fun _ => none) 0 (some q5)) 1 (some q8)) 2 (some q11)) 3 (some q14)) 4 (some q17)) 5 (some q20)) 6 (some q23)) 7 (some q26)) 8 (some q29)) 9 (some q32)) 10 (some q35)) 11 (some q38)) 12 (some q41)) 13 (some q44)) 14 (some q47))), (q3, eI cA4 96 (fun _ => 0)), (q5, eO 2 [.int 0, .int 0, .int 0, .ref q6]), (q6, eI cA4 96 (fun _ => 0)), (q8, eO 2 [.int 0, .int 0, .int 0, .ref q9]), (q9, eI cA4 96 (fun _ => 0)), (q11, eO 2 [.int 0, .int 0, .int 0, .ref q12]), (q12, eI cA4 96 (fun _ => 0)), (q14, eO 2 [.int 0, .int 0, .int 0, .ref q15]), (q15, eI cA4 96 (fun _ => 0)), (q17, eO 2 [.int 0, .int 0, .int 0, .ref q18]), (q18, eI cA4 96 (fun _ => 0)), (q20, eO 2 [.int 0, .int 0, .int 0, .ref q21]), (q21, eI cA4 96 (fun _ => 0)), (q23, eO 2 [.int 0, .int 0, .int 0, .ref q24]), (q24, eI cA4 96 (fun _ => 0)), (q26, eO 2 [.int 0, .int 0, .int 0, .ref q27]), (q27, eI cA4 96 (fun _ => 0)), (q29, eO 2 [.int 0, .int 0, .int 0, .ref q30]), (q30, eI cA4 96 (fun _ => 0)), (q32, eO 2 [.int 0, .int 0, .int 0, .ref q33]), (q33, eI cA4 96 (fun _ => 0)), (q35, eO 2 [.int 0, .int 0, .int 0, .ref q36]), (q36, eI cA4 96 (fun _ => 0)), (q38, eO 2 [.int 0, .int 0, .int 0, .ref q39]), (q39, eI cA4 96 (fun _ => 0)), (q41, eO 2 [.int 0, .int 0, .int 0, .ref q42]), (q42, eI cA4 96 (fun _ => 0)), (q44, eO 2 [.int 0, .int 0, .int 0, .ref q45]), (q45, eI cA4 96 (fun _ => 0)), (q47, eO 2 [.int 0, .int 0, .int 0, .ref q48]), (q48, eI cA4 96 (fun _ => 0))]) A) args s 32 1611 A) (F0 m 41 ls [.ref q17, .int 4, .ref q1]) := by
  refine va_astq (i := 4) hx hb hK hP hD hS 1 0 11 2 rfl rfl rfl rfl (by show ¬ (_ ∨ _); decide) dX4_init_41 (fun H locs hP2 hD2 hS => ?_)
  clear hP hD
  have hP := hP2
  have hD := hD2
  clear hP2 hD2
  refine lv_iinc (v := 5) (lv' := [(1, .int 5), (0, .ref h0)]) hx hb dX4_init_42 hl (k := 0) rfl (by decide) (by decide) rfl (fun ls hl => ?_)
  refine lv_goto (tgt := 23) hx hb dX4_init_45 (by decide) ?_
  refine lv_iload_n hx hb dX4_init_23 rfl (lv_at hl 0 rfl) ?_
  refine lv_bipush (v := 14) hx hb dX4_init_24 (by decide) ?_
  refine lv_icmp_gt (tgt := 48) hx hb dX4_init_26 (by decide) (fun q => absurd q (by decide)) (fun _ => ?_)
  refine lv_aload_n hx hb dX4_init_29 rfl (lv_at hl 1 rfl) ?_
  refine va_get (D := (dC, dI)) (ci := 3) (v := .ref q1) (C := RX4) (T := TX4) (N := 2) hx hb hts iwX4 hown hK hP 0 rfl rfl 0 (by decide) (hts _ mw_131) (fun _ h9 => h9) rfl dX4_init_30 ?_
  refine lv_iload_n hx hb dX4_init_33 rfl (lv_at hl 0 rfl) ?_
  refine va_new (ci := 2) (fs := [.int 0, .int 0, .int 0, .null]) (C := RX3) (T := TX3) (N := 4) hx hb hts iwX3 tyX3 tyX3_ok hown (hts _ mw_107) (hts _ mw_108) (hts _ mw_76) hK hP hD hS hA rfl (fun j hj => by rcases (show j = 0 ∨ j = 1 ∨ j = 2 ∨ j = 3 by omega) with rfl | rfl | rfl | rfl <;> rfl) (Nat.le_of_ble_eq_true rfl) (Nat.le_of_ble_eq_true rfl) dX4_init_34 (fun q20 H hP2 hD2 hS => ?_)
  clear hP hD
  have hP := hP2
  have hD := hD2
  clear hP2 hD2
  refine lv_dup hx hb dX4_init_37 rfl ?_
  have hFc := freeL hD hS hA
  refine g_cKN (host := "RoofWar") (As := []) (rest := [.ref q20, .int 5, .ref q1]) hx hb hml hown hts hN hl.1 (k_X3_init l dC dI q20 H.size) ⟨rfl, rfl⟩ rfl mw_76 mw_109 mw_110 okd_X3_init (List.mem_of_getElem? (i := 0) rfl) ⟨(Nat.le_of_ble_eq_true rfl), (Nat.le_of_ble_eq_true rfl)⟩ rfl rfl (Nat.le_of_ble_eq_true rfl) ⟨(Nat.le_of_ble_eq_true rfl), (Nat.le_of_ble_eq_true rfl)⟩ hK hP hD hS hA dX4_init_38 (fun t H1 locs ht hvm hB hk1 hS => ?_)
  obtain ⟨q21, cA22, hP1, hK1, hD1⟩ := hB
  rw [ht] at hP1
  have hK1 := va_K.moved hvm.symm hK1
  obtain ⟨hP2, hD2⟩ := joinL hP hD hk1 hFc hP1 hD1
  have hK := hK.app hK1
  clear hFc hP1 hD1 hk1 ht hvm
  generalize H1 = H at hP2 hS ⊢
  obtain rfl : cA4 = cA22 := tysame hK (i := 1) (j := 2) rfl rfl
  have hK := hK.sub (tys' := [(cA2, .object "RoofWar$Law"), (cA4, .int)]) [0, 1] rfl
  clear hP hD
  have hP := hP2
  have hD := hD2
  clear hP2 hD2
  refine W.widen (k := 14) (n := 711) (Nat.le_of_ble_eq_true rfl) (Nat.le_of_ble_eq_true rfl) ?_
  exact sg_X4_init_6 dC dI h0 q1 q3 q5 q6 q8 q9 q11 q12 q14 q15 q17 q18 q20 q21 cA2 cA4 hx hb hr hts hown hml hlocks hin hN hA hK hP hD hS hl
set_option maxHeartbeats 4000000 in
set_option maxRecDepth 100000 in
theorem sg_X4_init_4 {p : Program} {l : Launch} {e : Env} {s : State} {m : MethodId} {args : Array Value} {below : List Frame} {meth : Method} {c : Code} (dC : Nat → ClassId) (dI : Nat → Nat → Nat) {A : Nat → Prop} (h0 : Nat) (q1 : Nat) (q3 : Nat) (q5 : Nat) (q6 : Nat) (q8 : Nat) (q9 : Nat) (q11 : Nat) (q12 : Nat) (q14 : Nat) (q15 : Nat) (cA2 : ClassId) (cA4 : ClassId) (hx : p.tables.exec = Jvm.exec) (hb : c.code = cX4_init) (hr : meth.sig.returnType = none) (hts : ∀ w ∈ WT, w.before args s = true) (hown : s.vm.findClass RX4 = some m.cls) (hml : c.maxLocals = 2) (hlocks : meth.locks = false) (hin : meth.name = "<init>") (hN : NK s) (hA : ∀ q : Nat, s.heap.size ≤ q → A q) {H : Heap} {locs : List Loc} {ls : Array Slot} (hK : va_K (dC, dI) CLS [(cA2, .object "RoofWar$Law"), (cA4, .int)] s) (hP : va_P (dC, dI) CLS [(h0, eO 3 [.ref q1, .ref q3]), (q1, eQ cA2 15 (va_up (va_up (va_up (fun _ => none) 0 (some q5)) 1 (some q8)) 2 (some q11))), (q3, eI cA4 96 (fun _ => 0)), (q5, eO 2 [.int 0, .int 0, .int 0, .ref q6]), (q6, eI cA4 96 (fun _ => 0)), (q8, eO 2 [.int 0, .int 0, .int 0, .ref q9]), (q9, eI cA4 96 (fun _ => 0)), (q11, eO 2 [.int 0, .int 0, .int 0, .ref q12]), (q12, eI cA4 96 (fun _ => 0)), (q14, eO 2 [.int 0, .int 0, .int 0, .ref q15]), (q15, eI cA4 96 (fun _ => 0))] H) (hD : va_D A [(h0, eO 3 [.ref q1, .ref q3]), (q1, eQ cA2 15 (va_up (va_up (va_up (fun _ => none) 0 (some q5)) 1 (some q8)) 2 (some q11))), (q3, eI cA4 96 (fun _ => 0)), (q5, eO 2 [.int 0, .int 0, .int 0, .ref q6]), (q6, eI cA4 96 (fun _ => 0)), (q8, eO 2 [.int 0, .int 0, .int 0, .ref q9]), (q9, eI cA4 96 (fun _ => 0)), (q11, eO 2 [.int 0, .int 0, .int 0, .ref q12]), (q12, eI cA4 96 (fun _ => 0)), (q14, eO 2 [.int 0, .int 0, .int 0, .ref q15]), (q15, eI cA4 96 (fun _ => 0))]) (hS : va_S A s.heap H locs) (hl : lv_has ls 2 [(1, .int 3), (0, .ref h0)]) : W p l e rm_X4_init s m args below meth c H locs 10 511 (MQ below (va_Qv (fun _ : Unit => True) (fun _ t => ∃ (q1 : Nat) (q3 : Nat) (q5 : Nat) (q6 : Nat) (q8 : Nat) (q9 : Nat) (q11 : Nat) (q12 : Nat) (q14 : Nat) (q15 : Nat) (q17 : Nat) (q18 : Nat) (q20 : Nat) (q21 : Nat) (q23 : Nat) (q24 : Nat) (q26 : Nat) (q27 : Nat) (q29 : Nat) (q30 : Nat) (q32 : Nat) (q33 : Nat) (q35 : Nat) (q36 : Nat) (q38 : Nat) (q39 : Nat) (q41 : Nat) (q42 : Nat) (q44 : Nat) (q45 : Nat) (q47 : Nat) (q48 : Nat) (cA2 : ClassId) (cA4 : ClassId), va_P (dC, dI) CLS [(h0, eO 3 [.ref q1, .ref q3]), (q1, eQ cA2 15 (va_up (va_up (va_up (va_up (va_up (va_up (va_up (va_up (va_up (va_up (va_up (va_up (va_up (va_up (va_up (fun _ => none) 0 (some q5)) 1 (some q8)) 2 (some q11)) 3 (some q14)) 4 (some q17)) 5 (some q20)) 6 (some q23)) 7 (some q26)) 8 (some q29)) 9 (some q32)) 10 (some q35)) 11 (some q38)) 12 (some q41)) 13 (some q44)) 14 (some q47))), (q3, eI cA4 96 (fun _ => 0)), (q5, eO 2 [.int 0, .int 0, .int 0, .ref q6]), (q6, eI cA4 96 (fun _ => 0)), (q8, eO 2 [.int 0, .int 0, .int 0, .ref q9]), (q9, eI cA4 96 (fun _ => 0)), (q11, eO 2 [.int 0, .int 0, .int 0, .ref q12]), (q12, eI cA4 96 (fun _ => 0)), (q14, eO 2 [.int 0, .int 0, .int 0, .ref q15]), (q15, eI cA4 96 (fun _ => 0)), (q17, eO 2 [.int 0, .int 0, .int 0, .ref q18]), (q18, eI cA4 96 (fun _ => 0)), (q20, eO 2 [.int 0, .int 0, .int 0, .ref q21]), (q21, eI cA4 96 (fun _ => 0)), (q23, eO 2 [.int 0, .int 0, .int 0, .ref q24]), (q24, eI cA4 96 (fun _ => 0)), (q26, eO 2 [.int 0, .int 0, .int 0, .ref q27]), (q27, eI cA4 96 (fun _ => 0)), (q29, eO 2 [.int 0, .int 0, .int 0, .ref q30]), (q30, eI cA4 96 (fun _ => 0)), (q32, eO 2 [.int 0, .int 0, .int 0, .ref q33]), (q33, eI cA4 96 (fun _ => 0)), (q35, eO 2 [.int 0, .int 0, .int 0, .ref q36]), (q36, eI cA4 96 (fun _ => 0)), (q38, eO 2 [.int 0, .int 0, .int 0, .ref q39]), (q39, eI cA4 96 (fun _ => 0)), (q41, eO 2 [.int 0, .int 0, .int 0, .ref q42]), (q42, eI cA4 96 (fun _ => 0)), (q44, eO 2 [.int 0, .int 0, .int 0, .ref q45]), (q45, eI cA4 96 (fun _ => 0)), (q47, eO 2 [.int 0, .int 0, .int 0, .ref q48]), (q48, eI cA4 96 (fun _ => 0))] t.heap ∧ va_K (dC, dI) CLS [(cA2, .object "RoofWar$Law"), (cA4, .int)] t ∧ va_D A [(h0, eO 3 [.ref q1, .ref q3]), (q1, eQ cA2 15 (va_up (va_up (va_up (va_up (va_up (va_up (va_up (va_up (va_up (va_up (va_up (va_up (va_up (va_up (va_up (fun _ => none) 0 (some q5)) 1 (some q8)) 2 (some q11)) 3 (some q14)) 4 (some q17)) 5 (some q20)) 6 (some q23)) 7 (some q26)) 8 (some q29)) 9 (some q32)) 10 (some q35)) 11 (some q38)) 12 (some q41)) 13 (some q44)) 14 (some q47))), (q3, eI cA4 96 (fun _ => 0)), (q5, eO 2 [.int 0, .int 0, .int 0, .ref q6]), (q6, eI cA4 96 (fun _ => 0)), (q8, eO 2 [.int 0, .int 0, .int 0, .ref q9]), (q9, eI cA4 96 (fun _ => 0)), (q11, eO 2 [.int 0, .int 0, .int 0, .ref q12]), (q12, eI cA4 96 (fun _ => 0)), (q14, eO 2 [.int 0, .int 0, .int 0, .ref q15]), (q15, eI cA4 96 (fun _ => 0)), (q17, eO 2 [.int 0, .int 0, .int 0, .ref q18]), (q18, eI cA4 96 (fun _ => 0)), (q20, eO 2 [.int 0, .int 0, .int 0, .ref q21]), (q21, eI cA4 96 (fun _ => 0)), (q23, eO 2 [.int 0, .int 0, .int 0, .ref q24]), (q24, eI cA4 96 (fun _ => 0)), (q26, eO 2 [.int 0, .int 0, .int 0, .ref q27]), (q27, eI cA4 96 (fun _ => 0)), (q29, eO 2 [.int 0, .int 0, .int 0, .ref q30]), (q30, eI cA4 96 (fun _ => 0)), (q32, eO 2 [.int 0, .int 0, .int 0, .ref q33]), (q33, eI cA4 96 (fun _ => 0)), (q35, eO 2 [.int 0, .int 0, .int 0, .ref q36]), (q36, eI cA4 96 (fun _ => 0)), (q38, eO 2 [.int 0, .int 0, .int 0, .ref q39]), (q39, eI cA4 96 (fun _ => 0)), (q41, eO 2 [.int 0, .int 0, .int 0, .ref q42]), (q42, eI cA4 96 (fun _ => 0)), (q44, eO 2 [.int 0, .int 0, .int 0, .ref q45]), (q45, eI cA4 96 (fun _ => 0)), (q47, eO 2 [.int 0, .int 0, .int 0, .ref q48]), (q48, eI cA4 96 (fun _ => 0))]) A) args s 32 1611 A) (F0 m 41 ls [.ref q14, .int 3, .ref q1]) := by
  refine va_astq (i := 3) hx hb hK hP hD hS 1 0 9 2 rfl rfl rfl rfl (by show ¬ (_ ∨ _); decide) dX4_init_41 (fun H locs hP2 hD2 hS => ?_)
  clear hP hD
  have hP := hP2
  have hD := hD2
  clear hP2 hD2
  refine lv_iinc (v := 4) (lv' := [(1, .int 4), (0, .ref h0)]) hx hb dX4_init_42 hl (k := 0) rfl (by decide) (by decide) rfl (fun ls hl => ?_)
  refine lv_goto (tgt := 23) hx hb dX4_init_45 (by decide) ?_
  refine lv_iload_n hx hb dX4_init_23 rfl (lv_at hl 0 rfl) ?_
  refine lv_bipush (v := 14) hx hb dX4_init_24 (by decide) ?_
  refine lv_icmp_gt (tgt := 48) hx hb dX4_init_26 (by decide) (fun q => absurd q (by decide)) (fun _ => ?_)
  refine lv_aload_n hx hb dX4_init_29 rfl (lv_at hl 1 rfl) ?_
  refine va_get (D := (dC, dI)) (ci := 3) (v := .ref q1) (C := RX4) (T := TX4) (N := 2) hx hb hts iwX4 hown hK hP 0 rfl rfl 0 (by decide) (hts _ mw_131) (fun _ h9 => h9) rfl dX4_init_30 ?_
  refine lv_iload_n hx hb dX4_init_33 rfl (lv_at hl 0 rfl) ?_
  refine va_new (ci := 2) (fs := [.int 0, .int 0, .int 0, .null]) (C := RX3) (T := TX3) (N := 4) hx hb hts iwX3 tyX3 tyX3_ok hown (hts _ mw_107) (hts _ mw_108) (hts _ mw_76) hK hP hD hS hA rfl (fun j hj => by rcases (show j = 0 ∨ j = 1 ∨ j = 2 ∨ j = 3 by omega) with rfl | rfl | rfl | rfl <;> rfl) (Nat.le_of_ble_eq_true rfl) (Nat.le_of_ble_eq_true rfl) dX4_init_34 (fun q17 H hP2 hD2 hS => ?_)
  clear hP hD
  have hP := hP2
  have hD := hD2
  clear hP2 hD2
  refine lv_dup hx hb dX4_init_37 rfl ?_
  have hFc := freeL hD hS hA
  refine g_cKN (host := "RoofWar") (As := []) (rest := [.ref q17, .int 4, .ref q1]) hx hb hml hown hts hN hl.1 (k_X3_init l dC dI q17 H.size) ⟨rfl, rfl⟩ rfl mw_76 mw_109 mw_110 okd_X3_init (List.mem_of_getElem? (i := 0) rfl) ⟨(Nat.le_of_ble_eq_true rfl), (Nat.le_of_ble_eq_true rfl)⟩ rfl rfl (Nat.le_of_ble_eq_true rfl) ⟨(Nat.le_of_ble_eq_true rfl), (Nat.le_of_ble_eq_true rfl)⟩ hK hP hD hS hA dX4_init_38 (fun t H1 locs ht hvm hB hk1 hS => ?_)
  obtain ⟨q18, cA19, hP1, hK1, hD1⟩ := hB
  rw [ht] at hP1
  have hK1 := va_K.moved hvm.symm hK1
  obtain ⟨hP2, hD2⟩ := joinL hP hD hk1 hFc hP1 hD1
  have hK := hK.app hK1
  clear hFc hP1 hD1 hk1 ht hvm
  generalize H1 = H at hP2 hS ⊢
  obtain rfl : cA4 = cA19 := tysame hK (i := 1) (j := 2) rfl rfl
  have hK := hK.sub (tys' := [(cA2, .object "RoofWar$Law"), (cA4, .int)]) [0, 1] rfl
  clear hP hD
  have hP := hP2
  have hD := hD2
  clear hP2 hD2
  refine W.widen (k := 12) (n := 611) (Nat.le_of_ble_eq_true rfl) (Nat.le_of_ble_eq_true rfl) ?_
  exact sg_X4_init_5 dC dI h0 q1 q3 q5 q6 q8 q9 q11 q12 q14 q15 q17 q18 cA2 cA4 hx hb hr hts hown hml hlocks hin hN hA hK hP hD hS hl
set_option maxHeartbeats 4000000 in
set_option maxRecDepth 100000 in
theorem sg_X4_init_3 {p : Program} {l : Launch} {e : Env} {s : State} {m : MethodId} {args : Array Value} {below : List Frame} {meth : Method} {c : Code} (dC : Nat → ClassId) (dI : Nat → Nat → Nat) {A : Nat → Prop} (h0 : Nat) (q1 : Nat) (q3 : Nat) (q5 : Nat) (q6 : Nat) (q8 : Nat) (q9 : Nat) (q11 : Nat) (q12 : Nat) (cA2 : ClassId) (cA4 : ClassId) (hx : p.tables.exec = Jvm.exec) (hb : c.code = cX4_init) (hr : meth.sig.returnType = none) (hts : ∀ w ∈ WT, w.before args s = true) (hown : s.vm.findClass RX4 = some m.cls) (hml : c.maxLocals = 2) (hlocks : meth.locks = false) (hin : meth.name = "<init>") (hN : NK s) (hA : ∀ q : Nat, s.heap.size ≤ q → A q) {H : Heap} {locs : List Loc} {ls : Array Slot} (hK : va_K (dC, dI) CLS [(cA2, .object "RoofWar$Law"), (cA4, .int)] s) (hP : va_P (dC, dI) CLS [(h0, eO 3 [.ref q1, .ref q3]), (q1, eQ cA2 15 (va_up (va_up (fun _ => none) 0 (some q5)) 1 (some q8))), (q3, eI cA4 96 (fun _ => 0)), (q5, eO 2 [.int 0, .int 0, .int 0, .ref q6]), (q6, eI cA4 96 (fun _ => 0)), (q8, eO 2 [.int 0, .int 0, .int 0, .ref q9]), (q9, eI cA4 96 (fun _ => 0)), (q11, eO 2 [.int 0, .int 0, .int 0, .ref q12]), (q12, eI cA4 96 (fun _ => 0))] H) (hD : va_D A [(h0, eO 3 [.ref q1, .ref q3]), (q1, eQ cA2 15 (va_up (va_up (fun _ => none) 0 (some q5)) 1 (some q8))), (q3, eI cA4 96 (fun _ => 0)), (q5, eO 2 [.int 0, .int 0, .int 0, .ref q6]), (q6, eI cA4 96 (fun _ => 0)), (q8, eO 2 [.int 0, .int 0, .int 0, .ref q9]), (q9, eI cA4 96 (fun _ => 0)), (q11, eO 2 [.int 0, .int 0, .int 0, .ref q12]), (q12, eI cA4 96 (fun _ => 0))]) (hS : va_S A s.heap H locs) (hl : lv_has ls 2 [(1, .int 2), (0, .ref h0)]) : W p l e rm_X4_init s m args below meth c H locs 8 411 (MQ below (va_Qv (fun _ : Unit => True) (fun _ t => ∃ (q1 : Nat) (q3 : Nat) (q5 : Nat) (q6 : Nat) (q8 : Nat) (q9 : Nat) (q11 : Nat) (q12 : Nat) (q14 : Nat) (q15 : Nat) (q17 : Nat) (q18 : Nat) (q20 : Nat) (q21 : Nat) (q23 : Nat) (q24 : Nat) (q26 : Nat) (q27 : Nat) (q29 : Nat) (q30 : Nat) (q32 : Nat) (q33 : Nat) (q35 : Nat) (q36 : Nat) (q38 : Nat) (q39 : Nat) (q41 : Nat) (q42 : Nat) (q44 : Nat) (q45 : Nat) (q47 : Nat) (q48 : Nat) (cA2 : ClassId) (cA4 : ClassId), va_P (dC, dI) CLS [(h0, eO 3 [.ref q1, .ref q3]), (q1, eQ cA2 15 (va_up (va_up (va_up (va_up (va_up (va_up (va_up (va_up (va_up (va_up (va_up (va_up (va_up (va_up (va_up (fun _ => none) 0 (some q5)) 1 (some q8)) 2 (some q11)) 3 (some q14)) 4 (some q17)) 5 (some q20)) 6 (some q23)) 7 (some q26)) 8 (some q29)) 9 (some q32)) 10 (some q35)) 11 (some q38)) 12 (some q41)) 13 (some q44)) 14 (some q47))), (q3, eI cA4 96 (fun _ => 0)), (q5, eO 2 [.int 0, .int 0, .int 0, .ref q6]), (q6, eI cA4 96 (fun _ => 0)), (q8, eO 2 [.int 0, .int 0, .int 0, .ref q9]), (q9, eI cA4 96 (fun _ => 0)), (q11, eO 2 [.int 0, .int 0, .int 0, .ref q12]), (q12, eI cA4 96 (fun _ => 0)), (q14, eO 2 [.int 0, .int 0, .int 0, .ref q15]), (q15, eI cA4 96 (fun _ => 0)), (q17, eO 2 [.int 0, .int 0, .int 0, .ref q18]), (q18, eI cA4 96 (fun _ => 0)), (q20, eO 2 [.int 0, .int 0, .int 0, .ref q21]), (q21, eI cA4 96 (fun _ => 0)), (q23, eO 2 [.int 0, .int 0, .int 0, .ref q24]), (q24, eI cA4 96 (fun _ => 0)), (q26, eO 2 [.int 0, .int 0, .int 0, .ref q27]), (q27, eI cA4 96 (fun _ => 0)), (q29, eO 2 [.int 0, .int 0, .int 0, .ref q30]), (q30, eI cA4 96 (fun _ => 0)), (q32, eO 2 [.int 0, .int 0, .int 0, .ref q33]), (q33, eI cA4 96 (fun _ => 0)), (q35, eO 2 [.int 0, .int 0, .int 0, .ref q36]), (q36, eI cA4 96 (fun _ => 0)), (q38, eO 2 [.int 0, .int 0, .int 0, .ref q39]), (q39, eI cA4 96 (fun _ => 0)), (q41, eO 2 [.int 0, .int 0, .int 0, .ref q42]), (q42, eI cA4 96 (fun _ => 0)), (q44, eO 2 [.int 0, .int 0, .int 0, .ref q45]), (q45, eI cA4 96 (fun _ => 0)), (q47, eO 2 [.int 0, .int 0, .int 0, .ref q48]), (q48, eI cA4 96 (fun _ => 0))] t.heap ∧ va_K (dC, dI) CLS [(cA2, .object "RoofWar$Law"), (cA4, .int)] t ∧ va_D A [(h0, eO 3 [.ref q1, .ref q3]), (q1, eQ cA2 15 (va_up (va_up (va_up (va_up (va_up (va_up (va_up (va_up (va_up (va_up (va_up (va_up (va_up (va_up (va_up (fun _ => none) 0 (some q5)) 1 (some q8)) 2 (some q11)) 3 (some q14)) 4 (some q17)) 5 (some q20)) 6 (some q23)) 7 (some q26)) 8 (some q29)) 9 (some q32)) 10 (some q35)) 11 (some q38)) 12 (some q41)) 13 (some q44)) 14 (some q47))), (q3, eI cA4 96 (fun _ => 0)), (q5, eO 2 [.int 0, .int 0, .int 0, .ref q6]), (q6, eI cA4 96 (fun _ => 0)), (q8, eO 2 [.int 0, .int 0, .int 0, .ref q9]), (q9, eI cA4 96 (fun _ => 0)), (q11, eO 2 [.int 0, .int 0, .int 0, .ref q12]), (q12, eI cA4 96 (fun _ => 0)), (q14, eO 2 [.int 0, .int 0, .int 0, .ref q15]), (q15, eI cA4 96 (fun _ => 0)), (q17, eO 2 [.int 0, .int 0, .int 0, .ref q18]), (q18, eI cA4 96 (fun _ => 0)), (q20, eO 2 [.int 0, .int 0, .int 0, .ref q21]), (q21, eI cA4 96 (fun _ => 0)), (q23, eO 2 [.int 0, .int 0, .int 0, .ref q24]), (q24, eI cA4 96 (fun _ => 0)), (q26, eO 2 [.int 0, .int 0, .int 0, .ref q27]), (q27, eI cA4 96 (fun _ => 0)), (q29, eO 2 [.int 0, .int 0, .int 0, .ref q30]), (q30, eI cA4 96 (fun _ => 0)), (q32, eO 2 [.int 0, .int 0, .int 0, .ref q33]), (q33, eI cA4 96 (fun _ => 0)), (q35, eO 2 [.int 0, .int 0, .int 0, .ref q36]), (q36, eI cA4 96 (fun _ => 0)), (q38, eO 2 [.int 0, .int 0, .int 0, .ref q39]), (q39, eI cA4 96 (fun _ => 0)), (q41, eO 2 [.int 0, .int 0, .int 0, .ref q42]), (q42, eI cA4 96 (fun _ => 0)), (q44, eO 2 [.int 0, .int 0, .int 0, .ref q45]), (q45, eI cA4 96 (fun _ => 0)), (q47, eO 2 [.int 0, .int 0, .int 0, .ref q48]), (q48, eI cA4 96 (fun _ => 0))]) A) args s 32 1611 A) (F0 m 41 ls [.ref q11, .int 2, .ref q1]) := by
  refine va_astq (i := 2) hx hb hK hP hD hS 1 0 7 2 rfl rfl rfl rfl (by show ¬ (_ ∨ _); decide) dX4_init_41 (fun H locs hP2 hD2 hS => ?_)
  clear hP hD
  have hP := hP2
  have hD := hD2
  clear hP2 hD2
  refine lv_iinc (v := 3) (lv' := [(1, .int 3), (0, .ref h0)]) hx hb dX4_init_42 hl (k := 0) rfl (by decide) (by decide) rfl (fun ls hl => ?_)
  refine lv_goto (tgt := 23) hx hb dX4_init_45 (by decide) ?_
  refine lv_iload_n hx hb dX4_init_23 rfl (lv_at hl 0 rfl) ?_
  refine lv_bipush (v := 14) hx hb dX4_init_24 (by decide) ?_
  refine lv_icmp_gt (tgt := 48) hx hb dX4_init_26 (by decide) (fun q => absurd q (by decide)) (fun _ => ?_)
  refine lv_aload_n hx hb dX4_init_29 rfl (lv_at hl 1 rfl) ?_
  refine va_get (D := (dC, dI)) (ci := 3) (v := .ref q1) (C := RX4) (T := TX4) (N := 2) hx hb hts iwX4 hown hK hP 0 rfl rfl 0 (by decide) (hts _ mw_131) (fun _ h9 => h9) rfl dX4_init_30 ?_
  refine lv_iload_n hx hb dX4_init_33 rfl (lv_at hl 0 rfl) ?_
  refine va_new (ci := 2) (fs := [.int 0, .int 0, .int 0, .null]) (C := RX3) (T := TX3) (N := 4) hx hb hts iwX3 tyX3 tyX3_ok hown (hts _ mw_107) (hts _ mw_108) (hts _ mw_76) hK hP hD hS hA rfl (fun j hj => by rcases (show j = 0 ∨ j = 1 ∨ j = 2 ∨ j = 3 by omega) with rfl | rfl | rfl | rfl <;> rfl) (Nat.le_of_ble_eq_true rfl) (Nat.le_of_ble_eq_true rfl) dX4_init_34 (fun q14 H hP2 hD2 hS => ?_)
  clear hP hD
  have hP := hP2
  have hD := hD2
  clear hP2 hD2
  refine lv_dup hx hb dX4_init_37 rfl ?_
  have hFc := freeL hD hS hA
  refine g_cKN (host := "RoofWar") (As := []) (rest := [.ref q14, .int 3, .ref q1]) hx hb hml hown hts hN hl.1 (k_X3_init l dC dI q14 H.size) ⟨rfl, rfl⟩ rfl mw_76 mw_109 mw_110 okd_X3_init (List.mem_of_getElem? (i := 0) rfl) ⟨(Nat.le_of_ble_eq_true rfl), (Nat.le_of_ble_eq_true rfl)⟩ rfl rfl (Nat.le_of_ble_eq_true rfl) ⟨(Nat.le_of_ble_eq_true rfl), (Nat.le_of_ble_eq_true rfl)⟩ hK hP hD hS hA dX4_init_38 (fun t H1 locs ht hvm hB hk1 hS => ?_)
  obtain ⟨q15, cA16, hP1, hK1, hD1⟩ := hB
  rw [ht] at hP1
  have hK1 := va_K.moved hvm.symm hK1
  obtain ⟨hP2, hD2⟩ := joinL hP hD hk1 hFc hP1 hD1
  have hK := hK.app hK1
  clear hFc hP1 hD1 hk1 ht hvm
  generalize H1 = H at hP2 hS ⊢
  obtain rfl : cA4 = cA16 := tysame hK (i := 1) (j := 2) rfl rfl
  have hK := hK.sub (tys' := [(cA2, .object "RoofWar$Law"), (cA4, .int)]) [0, 1] rfl
  clear hP hD
  have hP := hP2
  have hD := hD2
  clear hP2 hD2
  refine W.widen (k := 10) (n := 511) (Nat.le_of_ble_eq_true rfl) (Nat.le_of_ble_eq_true rfl) ?_
  exact sg_X4_init_4 dC dI h0 q1 q3 q5 q6 q8 q9 q11 q12 q14 q15 cA2 cA4 hx hb hr hts hown hml hlocks hin hN hA hK hP hD hS hl
set_option maxHeartbeats 4000000 in
set_option maxRecDepth 100000 in
theorem sg_X4_init_2 {p : Program} {l : Launch} {e : Env} {s : State} {m : MethodId} {args : Array Value} {below : List Frame} {meth : Method} {c : Code} (dC : Nat → ClassId) (dI : Nat → Nat → Nat) {A : Nat → Prop} (h0 : Nat) (q1 : Nat) (q3 : Nat) (q5 : Nat) (q6 : Nat) (q8 : Nat) (q9 : Nat) (cA2 : ClassId) (cA4 : ClassId) (hx : p.tables.exec = Jvm.exec) (hb : c.code = cX4_init) (hr : meth.sig.returnType = none) (hts : ∀ w ∈ WT, w.before args s = true) (hown : s.vm.findClass RX4 = some m.cls) (hml : c.maxLocals = 2) (hlocks : meth.locks = false) (hin : meth.name = "<init>") (hN : NK s) (hA : ∀ q : Nat, s.heap.size ≤ q → A q) {H : Heap} {locs : List Loc} {ls : Array Slot} (hK : va_K (dC, dI) CLS [(cA2, .object "RoofWar$Law"), (cA4, .int)] s) (hP : va_P (dC, dI) CLS [(h0, eO 3 [.ref q1, .ref q3]), (q1, eQ cA2 15 (va_up (fun _ => none) 0 (some q5))), (q3, eI cA4 96 (fun _ => 0)), (q5, eO 2 [.int 0, .int 0, .int 0, .ref q6]), (q6, eI cA4 96 (fun _ => 0)), (q8, eO 2 [.int 0, .int 0, .int 0, .ref q9]), (q9, eI cA4 96 (fun _ => 0))] H) (hD : va_D A [(h0, eO 3 [.ref q1, .ref q3]), (q1, eQ cA2 15 (va_up (fun _ => none) 0 (some q5))), (q3, eI cA4 96 (fun _ => 0)), (q5, eO 2 [.int 0, .int 0, .int 0, .ref q6]), (q6, eI cA4 96 (fun _ => 0)), (q8, eO 2 [.int 0, .int 0, .int 0, .ref q9]), (q9, eI cA4 96 (fun _ => 0))]) (hS : va_S A s.heap H locs) (hl : lv_has ls 2 [(1, .int 1), (0, .ref h0)]) : W p l e rm_X4_init s m args below meth c H locs 6 311 (MQ below (va_Qv (fun _ : Unit => True) (fun _ t => ∃ (q1 : Nat) (q3 : Nat) (q5 : Nat) (q6 : Nat) (q8 : Nat) (q9 : Nat) (q11 : Nat) (q12 : Nat) (q14 : Nat) (q15 : Nat) (q17 : Nat) (q18 : Nat) (q20 : Nat) (q21 : Nat) (q23 : Nat) (q24 : Nat) (q26 : Nat) (q27 : Nat) (q29 : Nat) (q30 : Nat) (q32 : Nat) (q33 : Nat) (q35 : Nat) (q36 : Nat) (q38 : Nat) (q39 : Nat) (q41 : Nat) (q42 : Nat) (q44 : Nat) (q45 : Nat) (q47 : Nat) (q48 : Nat) (cA2 : ClassId) (cA4 : ClassId), va_P (dC, dI) CLS [(h0, eO 3 [.ref q1, .ref q3]), (q1, eQ cA2 15 (va_up (va_up (va_up (va_up (va_up (va_up (va_up (va_up (va_up (va_up (va_up (va_up (va_up (va_up (va_up (fun _ => none) 0 (some q5)) 1 (some q8)) 2 (some q11)) 3 (some q14)) 4 (some q17)) 5 (some q20)) 6 (some q23)) 7 (some q26)) 8 (some q29)) 9 (some q32)) 10 (some q35)) 11 (some q38)) 12 (some q41)) 13 (some q44)) 14 (some q47))), (q3, eI cA4 96 (fun _ => 0)), (q5, eO 2 [.int 0, .int 0, .int 0, .ref q6]), (q6, eI cA4 96 (fun _ => 0)), (q8, eO 2 [.int 0, .int 0, .int 0, .ref q9]), (q9, eI cA4 96 (fun _ => 0)), (q11, eO 2 [.int 0, .int 0, .int 0, .ref q12]), (q12, eI cA4 96 (fun _ => 0)), (q14, eO 2 [.int 0, .int 0, .int 0, .ref q15]), (q15, eI cA4 96 (fun _ => 0)), (q17, eO 2 [.int 0, .int 0, .int 0, .ref q18]), (q18, eI cA4 96 (fun _ => 0)), (q20, eO 2 [.int 0, .int 0, .int 0, .ref q21]), (q21, eI cA4 96 (fun _ => 0)), (q23, eO 2 [.int 0, .int 0, .int 0, .ref q24]), (q24, eI cA4 96 (fun _ => 0)), (q26, eO 2 [.int 0, .int 0, .int 0, .ref q27]), (q27, eI cA4 96 (fun _ => 0)), (q29, eO 2 [.int 0, .int 0, .int 0, .ref q30]), (q30, eI cA4 96 (fun _ => 0)), (q32, eO 2 [.int 0, .int 0, .int 0, .ref q33]), (q33, eI cA4 96 (fun _ => 0)), (q35, eO 2 [.int 0, .int 0, .int 0, .ref q36]), (q36, eI cA4 96 (fun _ => 0)), (q38, eO 2 [.int 0, .int 0, .int 0, .ref q39]), (q39, eI cA4 96 (fun _ => 0)), (q41, eO 2 [.int 0, .int 0, .int 0, .ref q42]), (q42, eI cA4 96 (fun _ => 0)), (q44, eO 2 [.int 0, .int 0, .int 0, .ref q45]), (q45, eI cA4 96 (fun _ => 0)), (q47, eO 2 [.int 0, .int 0, .int 0, .ref q48]), (q48, eI cA4 96 (fun _ => 0))] t.heap ∧ va_K (dC, dI) CLS [(cA2, .object "RoofWar$Law"), (cA4, .int)] t ∧ va_D A [(h0, eO 3 [.ref q1, .ref q3]), (q1, eQ cA2 15 (va_up (va_up (va_up (va_up (va_up (va_up (va_up (va_up (va_up (va_up (va_up (va_up (va_up (va_up (va_up (fun _ => none) 0 (some q5)) 1 (some q8)) 2 (some q11)) 3 (some q14)) 4 (some q17)) 5 (some q20)) 6 (some q23)) 7 (some q26)) 8 (some q29)) 9 (some q32)) 10 (some q35)) 11 (some q38)) 12 (some q41)) 13 (some q44)) 14 (some q47))), (q3, eI cA4 96 (fun _ => 0)), (q5, eO 2 [.int 0, .int 0, .int 0, .ref q6]), (q6, eI cA4 96 (fun _ => 0)), (q8, eO 2 [.int 0, .int 0, .int 0, .ref q9]), (q9, eI cA4 96 (fun _ => 0)), (q11, eO 2 [.int 0, .int 0, .int 0, .ref q12]), (q12, eI cA4 96 (fun _ => 0)), (q14, eO 2 [.int 0, .int 0, .int 0, .ref q15]), (q15, eI cA4 96 (fun _ => 0)), (q17, eO 2 [.int 0, .int 0, .int 0, .ref q18]), (q18, eI cA4 96 (fun _ => 0)), (q20, eO 2 [.int 0, .int 0, .int 0, .ref q21]), (q21, eI cA4 96 (fun _ => 0)), (q23, eO 2 [.int 0, .int 0, .int 0, .ref q24]), (q24, eI cA4 96 (fun _ => 0)), (q26, eO 2 [.int 0, .int 0, .int 0, .ref q27]), (q27, eI cA4 96 (fun _ => 0)), (q29, eO 2 [.int 0, .int 0, .int 0, .ref q30]), (q30, eI cA4 96 (fun _ => 0)), (q32, eO 2 [.int 0, .int 0, .int 0, .ref q33]), (q33, eI cA4 96 (fun _ => 0)), (q35, eO 2 [.int 0, .int 0, .int 0, .ref q36]), (q36, eI cA4 96 (fun _ => 0)), (q38, eO 2 [.int 0, .int 0, .int 0, .ref q39]), (q39, eI cA4 96 (fun _ => 0)), (q41, eO 2 [.int 0, .int 0, .int 0, .ref q42]), (q42, eI cA4 96 (fun _ => 0)), (q44, eO 2 [.int 0, .int 0, .int 0, .ref q45]), (q45, eI cA4 96 (fun _ => 0)), (q47, eO 2 [.int 0, .int 0, .int 0, .ref q48]), (q48, eI cA4 96 (fun _ => 0))]) A) args s 32 1611 A) (F0 m 41 ls [.ref q8, .int 1, .ref q1]) := by
  refine va_astq (i := 1) hx hb hK hP hD hS 1 0 5 2 rfl rfl rfl rfl (by show ¬ (_ ∨ _); decide) dX4_init_41 (fun H locs hP2 hD2 hS => ?_)
  clear hP hD
  have hP := hP2
  have hD := hD2
  clear hP2 hD2
  refine lv_iinc (v := 2) (lv' := [(1, .int 2), (0, .ref h0)]) hx hb dX4_init_42 hl (k := 0) rfl (by decide) (by decide) rfl (fun ls hl => ?_)
  refine lv_goto (tgt := 23) hx hb dX4_init_45 (by decide) ?_
  refine lv_iload_n hx hb dX4_init_23 rfl (lv_at hl 0 rfl) ?_
  refine lv_bipush (v := 14) hx hb dX4_init_24 (by decide) ?_
  refine lv_icmp_gt (tgt := 48) hx hb dX4_init_26 (by decide) (fun q => absurd q (by decide)) (fun _ => ?_)
  refine lv_aload_n hx hb dX4_init_29 rfl (lv_at hl 1 rfl) ?_
  refine va_get (D := (dC, dI)) (ci := 3) (v := .ref q1) (C := RX4) (T := TX4) (N := 2) hx hb hts iwX4 hown hK hP 0 rfl rfl 0 (by decide) (hts _ mw_131) (fun _ h9 => h9) rfl dX4_init_30 ?_
  refine lv_iload_n hx hb dX4_init_33 rfl (lv_at hl 0 rfl) ?_
  refine va_new (ci := 2) (fs := [.int 0, .int 0, .int 0, .null]) (C := RX3) (T := TX3) (N := 4) hx hb hts iwX3 tyX3 tyX3_ok hown (hts _ mw_107) (hts _ mw_108) (hts _ mw_76) hK hP hD hS hA rfl (fun j hj => by rcases (show j = 0 ∨ j = 1 ∨ j = 2 ∨ j = 3 by omega) with rfl | rfl | rfl | rfl <;> rfl) (Nat.le_of_ble_eq_true rfl) (Nat.le_of_ble_eq_true rfl) dX4_init_34 (fun q11 H hP2 hD2 hS => ?_)
  clear hP hD
  have hP := hP2
  have hD := hD2
  clear hP2 hD2
  refine lv_dup hx hb dX4_init_37 rfl ?_
  have hFc := freeL hD hS hA
  refine g_cKN (host := "RoofWar") (As := []) (rest := [.ref q11, .int 2, .ref q1]) hx hb hml hown hts hN hl.1 (k_X3_init l dC dI q11 H.size) ⟨rfl, rfl⟩ rfl mw_76 mw_109 mw_110 okd_X3_init (List.mem_of_getElem? (i := 0) rfl) ⟨(Nat.le_of_ble_eq_true rfl), (Nat.le_of_ble_eq_true rfl)⟩ rfl rfl (Nat.le_of_ble_eq_true rfl) ⟨(Nat.le_of_ble_eq_true rfl), (Nat.le_of_ble_eq_true rfl)⟩ hK hP hD hS hA dX4_init_38 (fun t H1 locs ht hvm hB hk1 hS => ?_)
  obtain ⟨q12, cA13, hP1, hK1, hD1⟩ := hB
  rw [ht] at hP1
  have hK1 := va_K.moved hvm.symm hK1
  obtain ⟨hP2, hD2⟩ := joinL hP hD hk1 hFc hP1 hD1
  have hK := hK.app hK1
  clear hFc hP1 hD1 hk1 ht hvm
  generalize H1 = H at hP2 hS ⊢
  obtain rfl : cA4 = cA13 := tysame hK (i := 1) (j := 2) rfl rfl
  have hK := hK.sub (tys' := [(cA2, .object "RoofWar$Law"), (cA4, .int)]) [0, 1] rfl
  clear hP hD
  have hP := hP2
  have hD := hD2
  clear hP2 hD2
  refine W.widen (k := 8) (n := 411) (Nat.le_of_ble_eq_true rfl) (Nat.le_of_ble_eq_true rfl) ?_
  exact sg_X4_init_3 dC dI h0 q1 q3 q5 q6 q8 q9 q11 q12 cA2 cA4 hx hb hr hts hown hml hlocks hin hN hA hK hP hD hS hl
set_option maxHeartbeats 4000000 in
set_option maxRecDepth 100000 in
theorem sg_X4_init_1 {p : Program} {l : Launch} {e : Env} {s : State} {m : MethodId} {args : Array Value} {below : List Frame} {meth : Method} {c : Code} (dC : Nat → ClassId) (dI : Nat → Nat → Nat) {A : Nat → Prop} (h0 : Nat) (q1 : Nat) (q3 : Nat) (q5 : Nat) (q6 : Nat) (cA2 : ClassId) (cA4 : ClassId) (hx : p.tables.exec = Jvm.exec) (hb : c.code = cX4_init) (hr : meth.sig.returnType = none) (hts : ∀ w ∈ WT, w.before args s = true) (hown : s.vm.findClass RX4 = some m.cls) (hml : c.maxLocals = 2) (hlocks : meth.locks = false) (hin : meth.name = "<init>") (hN : NK s) (hA : ∀ q : Nat, s.heap.size ≤ q → A q) {H : Heap} {locs : List Loc} {ls : Array Slot} (hK : va_K (dC, dI) CLS [(cA2, .object "RoofWar$Law"), (cA4, .int)] s) (hP : va_P (dC, dI) CLS [(h0, eO 3 [.ref q1, .ref q3]), (q1, eQ cA2 15 (fun _ => none)), (q3, eI cA4 96 (fun _ => 0)), (q5, eO 2 [.int 0, .int 0, .int 0, .ref q6]), (q6, eI cA4 96 (fun _ => 0))] H) (hD : va_D A [(h0, eO 3 [.ref q1, .ref q3]), (q1, eQ cA2 15 (fun _ => none)), (q3, eI cA4 96 (fun _ => 0)), (q5, eO 2 [.int 0, .int 0, .int 0, .ref q6]), (q6, eI cA4 96 (fun _ => 0))]) (hS : va_S A s.heap H locs) (hl : lv_has ls 2 [(1, .int 0), (0, .ref h0)]) : W p l e rm_X4_init s m args below meth c H locs 4 211 (MQ below (va_Qv (fun _ : Unit => True) (fun _ t => ∃ (q1 : Nat) (q3 : Nat) (q5 : Nat) (q6 : Nat) (q8 : Nat) (q9 : Nat) (q11 : Nat) (q12 : Nat) (q14 : Nat) (q15 : Nat) (q17 : Nat) (q18 : Nat) (q20 : Nat) (q21 : Nat) (q23 : Nat) (q24 : Nat) (q26 : Nat) (q27 : Nat) (q29 : Nat) (q30 : Nat) (q32 : Nat) (q33 : Nat) (q35 : Nat) (q36 : Nat) (q38 : Nat) (q39 : Nat) (q41 : Nat) (q42 : Nat) (q44 : Nat) (q45 : Nat) (q47 : Nat) (q48 : Nat) (cA2 : ClassId) (cA4 : ClassId), va_P (dC, dI) CLS [(h0, eO 3 [.ref q1, .ref q3]), (q1, eQ cA2 15 (va_up (va_up (va_up (va_up (va_up (va_up (va_up (va_up (va_up (va_up (va_up (va_up (va_up (va_up (va_up (fun _ => none) 0 (some q5)) 1 (some q8)) 2 (some q11)) 3 (some q14)) 4 (some q17)) 5 (some q20)) 6 (some q23)) 7 (some q26)) 8 (some q29)) 9 (some q32)) 10 (some q35)) 11 (some q38)) 12 (some q41)) 13 (some q44)) 14 (some q47))), (q3, eI cA4 96 (fun _ => 0)), (q5, eO 2 [.int 0, .int 0, .int 0, .ref q6]), (q6, eI cA4 96 (fun _ => 0)), (q8, eO 2 [.int 0, .int 0, .int 0, .ref q9]), (q9, eI cA4 96 (fun _ => 0)), (q11, eO 2 [.int 0, .int 0, .int 0, .ref q12]), (q12, eI cA4 96 (fun _ => 0)), (q14, eO 2 [.int 0, .int 0, .int 0, .ref q15]), (q15, eI cA4 96 (fun _ => 0)), (q17, eO 2 [.int 0, .int 0, .int 0, .ref q18]), (q18, eI cA4 96 (fun _ => 0)), (q20, eO 2 [.int 0, .int 0, .int 0, .ref q21]), (q21, eI cA4 96 (fun _ => 0)), (q23, eO 2 [.int 0, .int 0, .int 0, .ref q24]), (q24, eI cA4 96 (fun _ => 0)), (q26, eO 2 [.int 0, .int 0, .int 0, .ref q27]), (q27, eI cA4 96 (fun _ => 0)), (q29, eO 2 [.int 0, .int 0, .int 0, .ref q30]), (q30, eI cA4 96 (fun _ => 0)), (q32, eO 2 [.int 0, .int 0, .int 0, .ref q33]), (q33, eI cA4 96 (fun _ => 0)), (q35, eO 2 [.int 0, .int 0, .int 0, .ref q36]), (q36, eI cA4 96 (fun _ => 0)), (q38, eO 2 [.int 0, .int 0, .int 0, .ref q39]), (q39, eI cA4 96 (fun _ => 0)), (q41, eO 2 [.int 0, .int 0, .int 0, .ref q42]), (q42, eI cA4 96 (fun _ => 0)), (q44, eO 2 [.int 0, .int 0, .int 0, .ref q45]), (q45, eI cA4 96 (fun _ => 0)), (q47, eO 2 [.int 0, .int 0, .int 0, .ref q48]), (q48, eI cA4 96 (fun _ => 0))] t.heap ∧ va_K (dC, dI) CLS [(cA2, .object "RoofWar$Law"), (cA4, .int)] t ∧ va_D A [(h0, eO 3 [.ref q1, .ref q3]), (q1, eQ cA2 15 (va_up (va_up (va_up (va_up (va_up (va_up (va_up (va_up (va_up (va_up (va_up (va_up (va_up (va_up (va_up (fun _ => none) 0 (some q5)) 1 (some q8)) 2 (some q11)) 3 (some q14)) 4 (some q17)) 5 (some q20)) 6 (some q23)) 7 (some q26)) 8 (some q29)) 9 (some q32)) 10 (some q35)) 11 (some q38)) 12 (some q41)) 13 (some q44)) 14 (some q47))), (q3, eI cA4 96 (fun _ => 0)), (q5, eO 2 [.int 0, .int 0, .int 0, .ref q6]), (q6, eI cA4 96 (fun _ => 0)), (q8, eO 2 [.int 0, .int 0, .int 0, .ref q9]), (q9, eI cA4 96 (fun _ => 0)), (q11, eO 2 [.int 0, .int 0, .int 0, .ref q12]), (q12, eI cA4 96 (fun _ => 0)), (q14, eO 2 [.int 0, .int 0, .int 0, .ref q15]), (q15, eI cA4 96 (fun _ => 0)), (q17, eO 2 [.int 0, .int 0, .int 0, .ref q18]), (q18, eI cA4 96 (fun _ => 0)), (q20, eO 2 [.int 0, .int 0, .int 0, .ref q21]), (q21, eI cA4 96 (fun _ => 0)), (q23, eO 2 [.int 0, .int 0, .int 0, .ref q24]), (q24, eI cA4 96 (fun _ => 0)), (q26, eO 2 [.int 0, .int 0, .int 0, .ref q27]), (q27, eI cA4 96 (fun _ => 0)), (q29, eO 2 [.int 0, .int 0, .int 0, .ref q30]), (q30, eI cA4 96 (fun _ => 0)), (q32, eO 2 [.int 0, .int 0, .int 0, .ref q33]), (q33, eI cA4 96 (fun _ => 0)), (q35, eO 2 [.int 0, .int 0, .int 0, .ref q36]), (q36, eI cA4 96 (fun _ => 0)), (q38, eO 2 [.int 0, .int 0, .int 0, .ref q39]), (q39, eI cA4 96 (fun _ => 0)), (q41, eO 2 [.int 0, .int 0, .int 0, .ref q42]), (q42, eI cA4 96 (fun _ => 0)), (q44, eO 2 [.int 0, .int 0, .int 0, .ref q45]), (q45, eI cA4 96 (fun _ => 0)), (q47, eO 2 [.int 0, .int 0, .int 0, .ref q48]), (q48, eI cA4 96 (fun _ => 0))]) A) args s 32 1611 A) (F0 m 41 ls [.ref q5, .int 0, .ref q1]) := by
  refine va_astq (i := 0) hx hb hK hP hD hS 1 0 3 2 rfl rfl rfl rfl (by show ¬ (_ ∨ _); decide) dX4_init_41 (fun H locs hP2 hD2 hS => ?_)
  clear hP hD
  have hP := hP2
  have hD := hD2
  clear hP2 hD2
  refine lv_iinc (v := 1) (lv' := [(1, .int 1), (0, .ref h0)]) hx hb dX4_init_42 hl (k := 0) rfl (by decide) (by decide) rfl (fun ls hl => ?_)
  refine lv_goto (tgt := 23) hx hb dX4_init_45 (by decide) ?_
  refine lv_iload_n hx hb dX4_init_23 rfl (lv_at hl 0 rfl) ?_
  refine lv_bipush (v := 14) hx hb dX4_init_24 (by decide) ?_
  refine lv_icmp_gt (tgt := 48) hx hb dX4_init_26 (by decide) (fun q => absurd q (by decide)) (fun _ => ?_)
  refine lv_aload_n hx hb dX4_init_29 rfl (lv_at hl 1 rfl) ?_
  refine va_get (D := (dC, dI)) (ci := 3) (v := .ref q1) (C := RX4) (T := TX4) (N := 2) hx hb hts iwX4 hown hK hP 0 rfl rfl 0 (by decide) (hts _ mw_131) (fun _ h9 => h9) rfl dX4_init_30 ?_
  refine lv_iload_n hx hb dX4_init_33 rfl (lv_at hl 0 rfl) ?_
  refine va_new (ci := 2) (fs := [.int 0, .int 0, .int 0, .null]) (C := RX3) (T := TX3) (N := 4) hx hb hts iwX3 tyX3 tyX3_ok hown (hts _ mw_107) (hts _ mw_108) (hts _ mw_76) hK hP hD hS hA rfl (fun j hj => by rcases (show j = 0 ∨ j = 1 ∨ j = 2 ∨ j = 3 by omega) with rfl | rfl | rfl | rfl <;> rfl) (Nat.le_of_ble_eq_true rfl) (Nat.le_of_ble_eq_true rfl) dX4_init_34 (fun q8 H hP2 hD2 hS => ?_)
  clear hP hD
  have hP := hP2
  have hD := hD2
  clear hP2 hD2
  refine lv_dup hx hb dX4_init_37 rfl ?_
  have hFc := freeL hD hS hA
  refine g_cKN (host := "RoofWar") (As := []) (rest := [.ref q8, .int 1, .ref q1]) hx hb hml hown hts hN hl.1 (k_X3_init l dC dI q8 H.size) ⟨rfl, rfl⟩ rfl mw_76 mw_109 mw_110 okd_X3_init (List.mem_of_getElem? (i := 0) rfl) ⟨(Nat.le_of_ble_eq_true rfl), (Nat.le_of_ble_eq_true rfl)⟩ rfl rfl (Nat.le_of_ble_eq_true rfl) ⟨(Nat.le_of_ble_eq_true rfl), (Nat.le_of_ble_eq_true rfl)⟩ hK hP hD hS hA dX4_init_38 (fun t H1 locs ht hvm hB hk1 hS => ?_)
  obtain ⟨q9, cA10, hP1, hK1, hD1⟩ := hB
  rw [ht] at hP1
  have hK1 := va_K.moved hvm.symm hK1
  obtain ⟨hP2, hD2⟩ := joinL hP hD hk1 hFc hP1 hD1
  have hK := hK.app hK1
  clear hFc hP1 hD1 hk1 ht hvm
  generalize H1 = H at hP2 hS ⊢
  obtain rfl : cA4 = cA10 := tysame hK (i := 1) (j := 2) rfl rfl
  have hK := hK.sub (tys' := [(cA2, .object "RoofWar$Law"), (cA4, .int)]) [0, 1] rfl
  clear hP hD
  have hP := hP2
  have hD := hD2
  clear hP2 hD2
  refine W.widen (k := 6) (n := 311) (Nat.le_of_ble_eq_true rfl) (Nat.le_of_ble_eq_true rfl) ?_
  exact sg_X4_init_2 dC dI h0 q1 q3 q5 q6 q8 q9 cA2 cA4 hx hb hr hts hown hml hlocks hin hN hA hK hP hD hS hl
set_option maxHeartbeats 4000000 in
set_option maxRecDepth 100000 in
theorem k_X4_init (l : Launch) (dC : Nat → ClassId) (dI : Nat → Nat → Nat) (h0 sz : Nat) : Met l yX4_init (wsOf yX4_init cX4_init 2 none) rm_X4_init (va_Pc [.ref h0] (fun U => U.heap.size = sz ∧ va_P (dC, dI) CLS [(h0, eO 3 [.null, .null])] U.heap ∧ va_K (dC, dI) CLS [] U ∧ va_D (fun _ => True) [(h0, eO 3 [.null, .null])] ∧ NK U)) (va_Qv (fun _ : Unit => True) (fun _ t => ∃ (q1 : Nat) (q3 : Nat) (q5 : Nat) (q6 : Nat) (q8 : Nat) (q9 : Nat) (q11 : Nat) (q12 : Nat) (q14 : Nat) (q15 : Nat) (q17 : Nat) (q18 : Nat) (q20 : Nat) (q21 : Nat) (q23 : Nat) (q24 : Nat) (q26 : Nat) (q27 : Nat) (q29 : Nat) (q30 : Nat) (q32 : Nat) (q33 : Nat) (q35 : Nat) (q36 : Nat) (q38 : Nat) (q39 : Nat) (q41 : Nat) (q42 : Nat) (q44 : Nat) (q45 : Nat) (q47 : Nat) (q48 : Nat) (cA2 : ClassId) (cA4 : ClassId), va_P (dC, dI) CLS [(h0, eO 3 [.ref q1, .ref q3]), (q1, eQ cA2 15 (va_up (va_up (va_up (va_up (va_up (va_up (va_up (va_up (va_up (va_up (va_up (va_up (va_up (va_up (va_up (fun _ => none) 0 (some q5)) 1 (some q8)) 2 (some q11)) 3 (some q14)) 4 (some q17)) 5 (some q20)) 6 (some q23)) 7 (some q26)) 8 (some q29)) 9 (some q32)) 10 (some q35)) 11 (some q38)) 12 (some q41)) 13 (some q44)) 14 (some q47))), (q3, eI cA4 96 (fun _ => 0)), (q5, eO 2 [.int 0, .int 0, .int 0, .ref q6]), (q6, eI cA4 96 (fun _ => 0)), (q8, eO 2 [.int 0, .int 0, .int 0, .ref q9]), (q9, eI cA4 96 (fun _ => 0)), (q11, eO 2 [.int 0, .int 0, .int 0, .ref q12]), (q12, eI cA4 96 (fun _ => 0)), (q14, eO 2 [.int 0, .int 0, .int 0, .ref q15]), (q15, eI cA4 96 (fun _ => 0)), (q17, eO 2 [.int 0, .int 0, .int 0, .ref q18]), (q18, eI cA4 96 (fun _ => 0)), (q20, eO 2 [.int 0, .int 0, .int 0, .ref q21]), (q21, eI cA4 96 (fun _ => 0)), (q23, eO 2 [.int 0, .int 0, .int 0, .ref q24]), (q24, eI cA4 96 (fun _ => 0)), (q26, eO 2 [.int 0, .int 0, .int 0, .ref q27]), (q27, eI cA4 96 (fun _ => 0)), (q29, eO 2 [.int 0, .int 0, .int 0, .ref q30]), (q30, eI cA4 96 (fun _ => 0)), (q32, eO 2 [.int 0, .int 0, .int 0, .ref q33]), (q33, eI cA4 96 (fun _ => 0)), (q35, eO 2 [.int 0, .int 0, .int 0, .ref q36]), (q36, eI cA4 96 (fun _ => 0)), (q38, eO 2 [.int 0, .int 0, .int 0, .ref q39]), (q39, eI cA4 96 (fun _ => 0)), (q41, eO 2 [.int 0, .int 0, .int 0, .ref q42]), (q42, eI cA4 96 (fun _ => 0)), (q44, eO 2 [.int 0, .int 0, .int 0, .ref q45]), (q45, eI cA4 96 (fun _ => 0)), (q47, eO 2 [.int 0, .int 0, .int 0, .ref q48]), (q48, eI cA4 96 (fun _ => 0))] t.heap ∧ va_K (dC, dI) CLS [(cA2, .object "RoofWar$Law"), (cA4, .int)] t ∧ va_D (va_A [(h0, eO 3 [.null, .null])] sz) [(h0, eO 3 [.ref q1, .ref q3]), (q1, eQ cA2 15 (va_up (va_up (va_up (va_up (va_up (va_up (va_up (va_up (va_up (va_up (va_up (va_up (va_up (va_up (va_up (fun _ => none) 0 (some q5)) 1 (some q8)) 2 (some q11)) 3 (some q14)) 4 (some q17)) 5 (some q20)) 6 (some q23)) 7 (some q26)) 8 (some q29)) 9 (some q32)) 10 (some q35)) 11 (some q38)) 12 (some q41)) 13 (some q44)) 14 (some q47))), (q3, eI cA4 96 (fun _ => 0)), (q5, eO 2 [.int 0, .int 0, .int 0, .ref q6]), (q6, eI cA4 96 (fun _ => 0)), (q8, eO 2 [.int 0, .int 0, .int 0, .ref q9]), (q9, eI cA4 96 (fun _ => 0)), (q11, eO 2 [.int 0, .int 0, .int 0, .ref q12]), (q12, eI cA4 96 (fun _ => 0)), (q14, eO 2 [.int 0, .int 0, .int 0, .ref q15]), (q15, eI cA4 96 (fun _ => 0)), (q17, eO 2 [.int 0, .int 0, .int 0, .ref q18]), (q18, eI cA4 96 (fun _ => 0)), (q20, eO 2 [.int 0, .int 0, .int 0, .ref q21]), (q21, eI cA4 96 (fun _ => 0)), (q23, eO 2 [.int 0, .int 0, .int 0, .ref q24]), (q24, eI cA4 96 (fun _ => 0)), (q26, eO 2 [.int 0, .int 0, .int 0, .ref q27]), (q27, eI cA4 96 (fun _ => 0)), (q29, eO 2 [.int 0, .int 0, .int 0, .ref q30]), (q30, eI cA4 96 (fun _ => 0)), (q32, eO 2 [.int 0, .int 0, .int 0, .ref q33]), (q33, eI cA4 96 (fun _ => 0)), (q35, eO 2 [.int 0, .int 0, .int 0, .ref q36]), (q36, eI cA4 96 (fun _ => 0)), (q38, eO 2 [.int 0, .int 0, .int 0, .ref q39]), (q39, eI cA4 96 (fun _ => 0)), (q41, eO 2 [.int 0, .int 0, .int 0, .ref q42]), (q42, eI cA4 96 (fun _ => 0)), (q44, eO 2 [.int 0, .int 0, .int 0, .ref q45]), (q45, eI cA4 96 (fun _ => 0)), (q47, eO 2 [.int 0, .int 0, .int 0, .ref q48]), (q48, eI cA4 96 (fun _ => 0))]) (va_A [(h0, eO 3 [.null, .null])] sz)) 32 1611 (va_A [(h0, eO 3 [.null, .null])] sz) := by
  refine Met.ofW (cc := cX4_init) (maxL := 2) (ret := none) (by decide) rfl ?_
  intro p e s m args below meth c s₁ B hml hv
  obtain ⟨rfl, hsz, hP, hK, hD0, hN⟩ := hv
  have hx := B.exec
  have hb := B.bytes
  have hr := B.returns
  have hts0 := atoms_spec (ws := wsOf yX4_init cX4_init 2 none) B.pre
  have hts : ∀ w ∈ WT, w.before _ s = true := fun w hw => hts0 w (List.mem_cons_of_mem _ hw)
  have hown : s.vm.findClass RX4 = some m.cls := findClass_of_methodNamed B.named
  have hlocks := B.notSynchronized
  have hin : meth.name = "<init>" := (name_of_methodNamed B.named B.method).1
  subst hsz
  have hD := hD0.self (sz := s.heap.size)
  generalize hAe : va_A [(h0, eO 3 [.null, .null])] s.heap.size = A at hD ⊢
  have hA : ∀ q : Nat, s.heap.size ≤ q → A q := fun q h => by rw [← hAe]; exact Or.inr h
  have hS : va_S A s.heap s.heap [] := va_S.rf
  have hl := lv_entry ([.ref h0]) (n := 2) (Nat.le_of_ble_eq_true rfl)
  rw [lg_entry_eq]
  generalize (lg_sl ([.ref h0]) ++ List.replicate (2 - (lg_sl ([.ref h0])).length) Slot.unset).toArray = ls at hl ⊢
  have hl : lv_has ls 2 [(0, .ref h0)] := hl
  have hP : va_P (dC, dI) CLS [(h0, eO 3 [.null, .null])] s.heap := hP
  refine lv_aload_n hx hb dX4_init_0 rfl (lv_at hl 0 rfl) ?_
  refine W.objInit hx hb hown (hts _ mw_106) (hts _ mw_99) (hts _ mw_100) rfl (by rw [hml]; exact hl.1) rfl dX4_init_1 (Nat.le_of_ble_eq_true rfl) (Nat.le_of_ble_eq_true rfl) ?_
  refine W.eq (g2 := F0 m 4 ls []) rfl ?_
  refine lv_aload_n hx hb dX4_init_4 rfl (lv_at hl 0 rfl) ?_
  refine lv_bipush (v := 15) hx hb dX4_init_5 (by decide) ?_
  refine va_newq (C := "RoofWar$Law") (N' := 15) (n := 15) hx hb hown (hts _ mw_107) hN.2.1 hK hP hD hS hA (by decide) (by decide) (Nat.le_of_ble_eq_true rfl) (Nat.le_of_ble_eq_true rfl) (Nat.le_of_ble_eq_true rfl) dX4_init_7 (fun q1 cA2 H hK hP2 hD2 hS => ?_)
  have hK : va_K (dC, dI) CLS [(cA2, .object "RoofWar$Law")] s := hK
  clear hP hD
  have hP := hP2
  have hD := hD2
  clear hP2 hD2
  refine va_putF (D := (dC, dI)) (ci := 3) (v := .ref q1) (C := RX4) (T := TX4) (N := 2) hx hb hts iwX4 tyX4 tyX4_ok nmX4 hown hK hP hD hS 0 rfl rfl 0 (by decide) (hts _ mw_131) (fun _ h9 => h9) rfl hin rfl (tyX4_ok 0 (by decide)) rfl rfl (Nat.le_of_ble_eq_true rfl) dX4_init_10 (fun H locs hP2 hD2 hS => ?_)
  clear hP hD
  have hP := hP2
  have hD := hD2
  clear hP2 hD2
  refine lv_aload_n hx hb dX4_init_13 rfl (lv_at hl 0 rfl) ?_
  refine lv_bipush (v := 96) hx hb dX4_init_14 (by decide) ?_
  refine va_newa (atype := .int) (a0 := (96, .inl (fun _ => 0))) (N' := 96) (n := 96) hx hb (hts _ mw_130) rfl hK hP hD hS hA (fun cA => rfl) (by decide) (by decide) (Nat.le_of_ble_eq_true rfl) (Nat.le_of_ble_eq_true rfl) (Nat.le_of_ble_eq_true rfl) dX4_init_16 (fun q3 cA4 H hK hP2 hD2 hS => ?_)
  have hK : va_K (dC, dI) CLS [(cA2, .object "RoofWar$Law"), (cA4, .int)] s := hK
  clear hP hD
  have hP := hP2
  have hD := hD2
  clear hP2 hD2
  refine va_putF (D := (dC, dI)) (ci := 3) (v := .ref q3) (C := RX4) (T := TX4) (N := 2) hx hb hts iwX4 tyX4 tyX4_ok nmX4 hown hK hP hD hS 0 rfl rfl 1 (by decide) (hts _ mw_133) (fun _ h9 => h9) rfl hin rfl (tyX4_ok 1 (by decide)) rfl rfl (Nat.le_of_ble_eq_true rfl) dX4_init_18 (fun H locs hP2 hD2 hS => ?_)
  clear hP hD
  have hP := hP2
  have hD := hD2
  clear hP2 hD2
  refine lv_iconst (v := 0) hx hb dX4_init_21 (by decide) ?_
  refine lv_istore_n (lv' := [(1, .int 0), (0, .ref h0)]) hx hb dX4_init_22 rfl hl (by decide) rfl (fun ls hl => ?_)
  refine lv_iload_n hx hb dX4_init_23 rfl (lv_at hl 0 rfl) ?_
  refine lv_bipush (v := 14) hx hb dX4_init_24 (by decide) ?_
  refine lv_icmp_gt (tgt := 48) hx hb dX4_init_26 (by decide) (fun q => absurd q (by decide)) (fun _ => ?_)
  refine lv_aload_n hx hb dX4_init_29 rfl (lv_at hl 1 rfl) ?_
  refine va_get (D := (dC, dI)) (ci := 3) (v := .ref q1) (C := RX4) (T := TX4) (N := 2) hx hb hts iwX4 hown hK hP 0 rfl rfl 0 (by decide) (hts _ mw_131) (fun _ h9 => h9) rfl dX4_init_30 ?_
  refine lv_iload_n hx hb dX4_init_33 rfl (lv_at hl 0 rfl) ?_
  refine va_new (ci := 2) (fs := [.int 0, .int 0, .int 0, .null]) (C := RX3) (T := TX3) (N := 4) hx hb hts iwX3 tyX3 tyX3_ok hown (hts _ mw_107) (hts _ mw_108) (hts _ mw_76) hK hP hD hS hA rfl (fun j hj => by rcases (show j = 0 ∨ j = 1 ∨ j = 2 ∨ j = 3 by omega) with rfl | rfl | rfl | rfl <;> rfl) (Nat.le_of_ble_eq_true rfl) (Nat.le_of_ble_eq_true rfl) dX4_init_34 (fun q5 H hP2 hD2 hS => ?_)
  clear hP hD
  have hP := hP2
  have hD := hD2
  clear hP2 hD2
  refine lv_dup hx hb dX4_init_37 rfl ?_
  have hFc := freeL hD hS hA
  refine g_cKN (host := "RoofWar") (As := []) (rest := [.ref q5, .int 0, .ref q1]) hx hb hml hown hts hN hl.1 (k_X3_init l dC dI q5 H.size) ⟨rfl, rfl⟩ rfl mw_76 mw_109 mw_110 okd_X3_init (List.mem_of_getElem? (i := 0) rfl) ⟨(Nat.le_of_ble_eq_true rfl), (Nat.le_of_ble_eq_true rfl)⟩ rfl rfl (Nat.le_of_ble_eq_true rfl) ⟨(Nat.le_of_ble_eq_true rfl), (Nat.le_of_ble_eq_true rfl)⟩ hK hP hD hS hA dX4_init_38 (fun t H1 locs ht hvm hB hk1 hS => ?_)
  obtain ⟨q6, cA7, hP1, hK1, hD1⟩ := hB
  rw [ht] at hP1
  have hK1 := va_K.moved hvm.symm hK1
  obtain ⟨hP2, hD2⟩ := joinL hP hD hk1 hFc hP1 hD1
  have hK := hK.app hK1
  clear hFc hP1 hD1 hk1 ht hvm
  generalize H1 = H at hP2 hS ⊢
  obtain rfl : cA4 = cA7 := tysame hK (i := 1) (j := 2) rfl rfl
  have hK := hK.sub (tys' := [(cA2, .object "RoofWar$Law"), (cA4, .int)]) [0, 1] rfl
  clear hP hD
  have hP := hP2
  have hD := hD2
  clear hP2 hD2
  refine W.widen (k := 4) (n := 211) (Nat.le_of_ble_eq_true rfl) (Nat.le_of_ble_eq_true rfl) ?_
  exact sg_X4_init_1 dC dI h0 q1 q3 q5 q6 cA2 cA4 hx hb hr hts hown hml hlocks hin hN hA hK hP hD hS hl
