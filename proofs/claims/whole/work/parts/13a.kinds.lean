/-! LAYER 2. What kinds of roofs do: one function for the class and for the model. -/
def kAbove (k : Int32) : Int32 := if k = 1 then 0 else if k = 2 then 0 else if k = 3 then 1 else if k = 4 then 2 else if k = 5 then 0 else -1
def kWeighs (k z : Int32) : Int32 := if k = 1 then 2 * z / 2 else if k = 2 then 2 * (2 * z) else if k = 3 then 2 * z / 2 else if k = 4 then 2 * (2 * z) - 2 else if k = 5 then 1 else 2 * z
def kCovers (k z : Int32) : Int32 := if k = 2 then z + 3 else if k = 3 then z / 2 else if k = 4 then z + 3 else if k = 5 then 0 else z
def kDrips (k l : Int32) : Int32 := if k = 1 then l / 10 + 2 else if k = 2 then l / 10 else if k = 3 then 2 * (l / 10 + 2) else if k = 4 then 1 else l / 10
def kWorth (k z : Int32) : Int32 := if k = 1 then z + 4 else if k = 2 then 30 - z else if k = 3 then 2 * (z + 4) else if k = 4 then 30 - z - 6 else if k = 5 then 2 else z
theorem ift {c : Prop} {p : Decidable c} {α : Type} {a b : α} {P : α → Prop} : P (@ite α c p a b) ↔ ((c → P a) ∧ (¬ c → P b)) := by
  by_cases h : c <;> simp [h]
theorem n2 : ¬ (2 : Int32) = 0 := by decide
theorem n10 : ¬ (10 : Int32) = 0 := by decide
theorem n6 : ¬ (6 : Int32) = 0 := by decide
theorem sX2_above {post : Int32 → St → Prop} {σ : St} {k : Int32} (h : post (kAbove k) σ) : w_X2_above post σ k := by
  unfold kAbove at h
  unfold w_X2_above
  refine ⟨fun c => ?_, fun c => ⟨fun c => ?_, fun c => ⟨fun c => ?_, fun c => ⟨fun c => ?_, fun c => ⟨fun c => ?_, fun c => ?_⟩⟩⟩⟩⟩ <;> simp_all
theorem sX2_weighs {post : Int32 → St → Prop} {σ : St} {k z : Int32} (h : post (kWeighs k z) σ) : w_X2_weighs post σ k z := by
  unfold kWeighs at h
  unfold w_X2_weighs
  intro v e
  subst e
  refine ⟨fun c => ⟨n2, ?_⟩, fun c => ⟨fun c => ?_, fun c => ⟨fun c => ⟨n2, ?_⟩, fun c => ⟨fun c => ?_, fun c => ⟨fun c => ?_, fun c => ?_⟩⟩⟩⟩⟩ <;> simp_all
theorem sX2_covers {post : Int32 → St → Prop} {σ : St} {k z : Int32} (h : post (kCovers k z) σ) : w_X2_covers post σ k z := by
  unfold kCovers at h
  unfold w_X2_covers
  refine ⟨fun c => ?_, fun c => ⟨fun c => ⟨n2, ?_⟩, fun c => ⟨fun c => ?_, fun c => ⟨fun c => ?_, fun c => ?_⟩⟩⟩⟩ <;> simp_all
theorem sX2_drips {post : Int32 → St → Prop} {σ : St} {k z : Int32} (h : post (kDrips k z) σ) : w_X2_drips post σ k z := by
  unfold kDrips at h
  unfold w_X2_drips
  refine ⟨n10, fun v e => ?_⟩
  subst e
  refine ⟨fun c => ?_, fun c => ⟨fun c => ?_, fun c => ⟨fun c => ?_, fun c => ⟨fun c => ?_, fun c => ?_⟩⟩⟩⟩ <;> simp_all
theorem sX2_worth {post : Int32 → St → Prop} {σ : St} {k z : Int32} (h : post (kWorth k z) σ) : w_X2_worth post σ k z := by
  unfold kWorth at h
  unfold w_X2_worth
  refine ⟨fun c => ?_, fun c => ⟨fun c => ?_, fun c => ⟨fun c => ?_, fun c => ⟨fun c => ?_, fun c => ⟨fun c => ?_, fun c => ?_⟩⟩⟩⟩⟩ <;> simp_all
