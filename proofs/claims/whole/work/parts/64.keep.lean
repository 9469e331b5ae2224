/-! the lengths of arrays are kept -/
def GK (g : Nat → Nat) (x : Option (Int32 × St)) : Prop := ∀ q, x = some q → gn q.2 = g
def GS (g : Nat → Nat) (x : Option St) : Prop := ∀ q, x = some q → gn q = g
theorem GK.none' {g : Nat → Nat} : GK g none := fun q h => by cases h
theorem GS.none' {g : Nat → Nat} : GS g none := fun q h => by cases h
theorem GK.some' {g : Nat → Nat} {r : Int32} {σ : St} (h : gn σ = g) : GK g (some (r, σ)) := fun q e => by cases e; exact h
theorem GS.some' {g : Nat → Nat} {σ : St} (h : gn σ = g) : GS g (some σ) := fun q e => by cases e; exact h
theorem GK.ite' {g : Nat → Nat} {c : Prop} {i : Decidable c} {x y : Option (Int32 × St)} (h1 : GK g x) (h2 : GK g y) : GK g (@ite _ c i x y) := by
  by_cases h : c
  · rw [if_pos h]; exact h1
  · rw [if_neg h]; exact h2
theorem GS.ite' {g : Nat → Nat} {c : Prop} {i : Decidable c} {x y : Option St} (h1 : GS g x) (h2 : GS g y) : GS g (@ite _ c i x y) := by
  by_cases h : c
  · rw [if_pos h]; exact h1
  · rw [if_neg h]; exact h2
theorem GK.bind' {g : Nat → Nat} {α : Type} {x : Option α} {f : α → Option (Int32 × St)} (h : ∀ r, GK g (f r)) : GK g (x.bind f) := fun q e => by
  obtain ⟨r, _, h2⟩ := ob_some e
  exact h r q h2
theorem GK.bindS {g : Nat → Nat} {x : Option St} {f : St → Option (Int32 × St)} (hx : GS g x) (h : ∀ r, gn r = g → GK g (f r)) : GK g (x.bind f) := fun q e => by
  obtain ⟨r, h1, h2⟩ := ob_some e
  exact h r (hx r h1) q h2
theorem GK.bindK {g : Nat → Nat} {x : Option (Int32 × St)} {f : Int32 × St → Option (Int32 × St)} (hx : GK g x) (h : ∀ r, gn r.2 = g → GK g (f r)) : GK g (x.bind f) := fun q e => by
  obtain ⟨r, h1, h2⟩ := ob_some e
  exact h r (hx r h1) q h2
theorem g_setLight {g : Nat → Nat} {v1 v2 v3 : Int32} : ∀ (n : Nat) (σ : St) (i : Int32), gn σ = g → GS g (fX0_setLight_3 (fX0_setLight_3_k v1 v2 v3) v1 v2 v3 n σ i)
  | 0, _, _, _ => GS.none'
  | n + 1, σ, i, h => by
    rw [fX0_setLight_3]
    exact GS.ite' (GS.some' h) (GS.ite' (GS.some' h) (GS.ite' (g_setLight n _ _ h) GS.none'))
theorem g_recover {g : Nat → Nat} {v1 : Int32} : ∀ (n : Nat) (σ : St) (i : Int32), gn σ = g → GS g (fX1_recover_2 (fX1_recover_2_k v1) v1 n σ i)
  | 0, _, _, _ => GS.none'
  | n + 1, σ, i, h => by
    rw [fX1_recover_2]
    exact GS.ite' (GS.some' h) (GS.ite' (GS.ite' (g_recover n _ _ h) GS.none') GS.none')
theorem g_spend {g : Nat → Nat} {v1 v2 : Int32} : ∀ (n : Nat) (σ : St) (i : Int32), gn σ = g → GS g (fX1_spend_2 (fX1_spend_2_k v1 v2) v1 v2 n σ i)
  | 0, _, _, _ => GS.none'
  | n + 1, σ, i, h => by
    rw [fX1_spend_2]
    exact GS.ite' (GS.some' h) (GS.ite' (GS.ite' (g_spend n _ _ h) GS.none') GS.none')
theorem g_wheel (σ : St) (a b c d : Int32) : GK (gn σ) (fX9_wheel σ a b c d) := by
  unfold fX9_wheel 
  try simp only [obS]
  repeat' (first | exact GK.none' | exact GK.some' rfl | exact GK.some' (by assumption) | refine GK.ite' ?_ ?_ | refine GK.bindK ?_ (fun _ _ => ?_) | refine GK.bindS ?_ (fun _ _ => ?_) | exact GS.none' | exact GS.some' rfl | refine GS.ite' ?_ ?_ | refine GK.bind' (fun _ => ?_))
theorem g_winds (σ : St) (a b : Int32) : GK (gn σ) (fX9_winds σ a b) := by
  unfold fX9_winds 
  try simp only [obS]
  repeat' (first | exact GK.none' | exact GK.some' rfl | exact GK.some' (by assumption) | refine GK.ite' ?_ ?_ | refine GK.bindK ?_ (fun _ _ => ?_) | refine GK.bindS ?_ (fun _ _ => ?_) | exact GS.none' | exact GS.some' rfl | refine GS.ite' ?_ ?_ | refine GK.bind' (fun _ => ?_))
theorem g_man (σ : St) (a : Int32) : GK (gn σ) (fX9_man σ a) := by
  unfold fX9_man fX1_join
  try simp only [obS]
  repeat' (first | exact GK.none' | exact GK.some' rfl | exact GK.some' (by assumption) | refine GK.ite' ?_ ?_ | refine GK.bindK ?_ (fun _ _ => ?_) | refine GK.bindS ?_ (fun _ _ => ?_) | exact GS.none' | exact GS.some' rfl | refine GS.ite' ?_ ?_ | refine GK.bind' (fun _ => ?_))
theorem g_rope (σ : St) (a : Int32) : GK (gn σ) (fX9_rope σ a) := by
  unfold fX9_rope fX5_bring
  try simp only [obS]
  repeat' (first | exact GK.none' | exact GK.some' rfl | exact GK.some' (by assumption) | refine GK.ite' ?_ ?_ | refine GK.bindK ?_ (fun _ _ => ?_) | refine GK.bindS ?_ (fun _ _ => ?_) | exact GS.none' | exact GS.some' rfl | refine GS.ite' ?_ ?_ | refine GK.bind' (fun _ => ?_))
theorem g_wet (σ : St) (a b : Int32) : GK (gn σ) (fX9_wet σ a b) := by
  unfold fX9_wet 
  try simp only [obS]
  repeat' (first | exact GK.none' | exact GK.some' rfl | exact GK.some' (by assumption) | refine GK.ite' ?_ ?_ | refine GK.bindK ?_ (fun _ _ => ?_) | refine GK.bindS ?_ (fun _ _ => ?_) | exact GS.none' | exact GS.some' rfl | refine GS.ite' ?_ ?_ | refine GK.bind' (fun _ => ?_))
theorem g_load (σ : St) (a : Int32) : GK (gn σ) (fX9_load σ a) := by
  unfold fX9_load fX6_append
  try simp only [obS]
  repeat' (first | exact GK.none' | exact GK.some' rfl | exact GK.some' (by assumption) | refine GK.ite' ?_ ?_ | refine GK.bindK ?_ (fun _ _ => ?_) | refine GK.bindS ?_ (fun _ _ => ?_) | exact GS.none' | exact GS.some' rfl | refine GS.ite' ?_ ?_ | refine GK.bind' (fun _ => ?_))
theorem g_clear (σ : St) : GK (gn σ) (fX9_clear σ) := by
  unfold fX9_clear 
  try simp only [obS]
  repeat' (first | exact GK.none' | exact GK.some' rfl | exact GK.some' (by assumption) | refine GK.ite' ?_ ?_ | refine GK.bindK ?_ (fun _ _ => ?_) | refine GK.bindS ?_ (fun _ _ => ?_) | exact GS.none' | exact GS.some' rfl | refine GS.ite' ?_ ?_ | refine GK.bind' (fun _ => ?_))
theorem g_centrings (σ : St) (a : Int32) : GK (gn σ) (fX9_centrings σ a) := by
  unfold fX9_centrings fX9_forgetPlan fX4_forget fX0_forget
  try simp only [obS]
  repeat' (first | exact GK.none' | exact GK.some' rfl | exact GK.some' (by assumption) | refine GK.ite' ?_ ?_ | refine GK.bindK ?_ (fun _ _ => ?_) | refine GK.bindS ?_ (fun _ _ => ?_) | exact GS.none' | exact GS.some' rfl | refine GS.ite' ?_ ?_ | refine GK.bind' (fun _ => ?_))
theorem g_reach (σ : St) (a b : Int32) : GK (gn σ) (fX9_reach σ a b) := by
  unfold fX9_reach fX9_forgetPlan fX4_forget fX0_forget
  try simp only [obS]
  repeat' (first | exact GK.none' | exact GK.some' rfl | exact GK.some' (by assumption) | refine GK.ite' ?_ ?_ | refine GK.bindK ?_ (fun _ _ => ?_) | refine GK.bindS ?_ (fun _ _ => ?_) | exact GS.none' | exact GS.some' rfl | refine GS.ite' ?_ ?_ | refine GK.bind' (fun _ => ?_))
theorem g_mortar (σ : St) (a : Int32) : GK (gn σ) (fX9_mortar σ a) := by
  unfold fX9_mortar fX0_forget
  try simp only [obS]
  repeat' (first | exact GK.none' | exact GK.some' rfl | exact GK.some' (by assumption) | refine GK.ite' ?_ ?_ | refine GK.bindK ?_ (fun _ _ => ?_) | refine GK.bindS ?_ (fun _ _ => ?_) | exact GS.none' | exact GS.some' rfl | refine GS.ite' ?_ ?_ | refine GK.bind' (fun _ => ?_))
theorem g_frost (σ : St) (a b : Int32) : GK (gn σ) (fX9_frost σ a b) := by
  unfold fX9_frost fX0_forget
  try simp only [obS]
  repeat' (first | exact GK.none' | exact GK.some' rfl | exact GK.some' (by assumption) | refine GK.ite' ?_ ?_ | refine GK.bindK ?_ (fun _ _ => ?_) | refine GK.bindS ?_ (fun _ _ => ?_) | exact GS.none' | exact GS.some' rfl | refine GS.ite' ?_ ?_ | refine GK.bind' (fun _ => ?_))
theorem g_shape (σ : St) : GK (gn σ) (fX9_shape σ) := by
  unfold fX9_shape 
  try simp only [obS]
  repeat' (first | exact GK.none' | exact GK.some' rfl | exact GK.some' (by assumption) | refine GK.ite' ?_ ?_ | refine GK.bindK ?_ (fun _ _ => ?_) | refine GK.bindS ?_ (fun _ _ => ?_) | exact GS.none' | exact GS.some' rfl | refine GS.ite' ?_ ?_ | refine GK.bind' (fun _ => ?_))
theorem g_corner (σ : St) (a b : Int32) : GK (gn σ) (fX9_corner σ a b) := by
  unfold fX9_corner fX3_append
  try simp only [obS]
  repeat' (first | exact GK.none' | exact GK.some' rfl | exact GK.some' (by assumption) | refine GK.ite' ?_ ?_ | refine GK.bindK ?_ (fun _ _ => ?_) | refine GK.bindS ?_ (fun _ _ => ?_) | exact GS.none' | exact GS.some' rfl | refine GS.ite' ?_ ?_ | refine GK.bind' (fun _ => ?_))
theorem g_stand (σ : St) (a b c : Int32) : GK (gn σ) (fX9_stand σ a b c) := by
  unfold fX9_stand fX7_build fX9_forgetPlan fX4_forget fX0_forget
  try simp only [obS]
  repeat' (first | exact GK.none' | exact GK.some' rfl | exact GK.some' (by assumption) | refine GK.ite' ?_ ?_ | refine GK.bindK ?_ (fun _ _ => ?_) | refine GK.bindS ?_ (fun _ _ => ?_) | exact GS.none' | exact GS.some' rfl | refine GS.ite' ?_ ?_ | refine GK.bind' (fun _ => ?_))
theorem g_price (σ : St) (a b c : Int32) : GK (gn σ) (fX9_price σ a b c) := by
  unfold fX9_price fX9_forgetPlan fX7_setPrice fX4_forget fX0_forget
  try simp only [obS]
  repeat' (first | exact GK.none' | exact GK.some' rfl | exact GK.some' (by assumption) | refine GK.ite' ?_ ?_ | refine GK.bindK ?_ (fun _ _ => ?_) | refine GK.bindS ?_ (fun _ _ => ?_) | exact GS.none' | exact GS.some' rfl | refine GS.ite' ?_ ?_ | refine GK.bind' (fun _ => ?_))
theorem g_light (σ : St) (a b c : Int32) : GK (gn σ) (fX9_light σ a b c) := by
  unfold fX9_light fX0_forget
  try simp only [obS]
  exact GK.ite' (GK.some' rfl) (GK.ite' (GK.some' rfl) (GK.ite' (GK.some' rfl) (GK.bind' fun _ => GK.ite' (GK.some' rfl) (GK.bindS (g_setLight KF _ _ rfl) fun _ h => GK.some' h))))
theorem g_pull (σ : St) (a b : Int32) : GK (gn σ) (fX9_pull σ a b) := by
  unfold fX9_pull fX5_survives
  try simp only [obS]
  repeat' (first | exact GK.none' | exact GK.some' rfl | exact GK.some' (by assumption) | refine GK.ite' ?_ ?_ | refine GK.bindK ?_ (fun _ _ => ?_) | refine GK.bindS ?_ (fun _ _ => ?_) | exact GS.none' | exact GS.some' rfl | refine GS.ite' ?_ ?_ | refine GK.bind' (fun _ => ?_))
theorem g_rest (σ : St) (a : Int32) : GK (gn σ) (fX9_rest σ a) := by
  unfold fX9_rest 
  try simp only [obS]
  exact GK.bind' fun _ => GK.ite' (GK.some' rfl) (GK.bindS (g_recover KF _ _ rfl) fun _ h => GK.some' h)
theorem g_hoist (σ : St) (a b c d : Int32) : GK (gn σ) (fX9_hoist σ a b c d) := by
  unfold fX9_hoist
  try simp only [obS]
  refine GK.bind' fun _ => GK.bind' fun _ => GK.ite' (GK.some' rfl) (GK.bind' fun _ => GK.ite' (GK.some' rfl) (GK.bind' fun _ => GK.ite' (GK.some' rfl) (GK.bind' fun _ => GK.bind' fun _ => GK.ite' (GK.ite' (GK.bind' fun _ => GK.bindS (g_spend KF _ _ rfl) fun _ h => GK.some' h) (GK.ite' (GK.ite' (GK.bindK ?_ fun _ h => GK.ite' (GK.some' h) (GK.bind' fun _ => GK.bindS (g_spend KF _ _ h) fun _ h => GK.some' h)) (GK.some' rfl)) GK.none')) (GK.some' rfl))))
  unfold fX5_survives
  exact GK.bind' fun _ => GK.ite' (GK.ite' (GK.ite' (GK.bind' fun _ => GK.ite' (GK.some' rfl) GK.none') GK.none') GK.none') (GK.ite' (GK.some' rfl) GK.none')
theorem g_stone (σ : St) (a b c d : Int32) : GK (gn σ) (fX9_stone σ a b c d) := by
  unfold fX9_stone fX8_bring fX9_forgetPlan fX4_forget fX0_forget
  try simp only [obS]
  repeat' (first | exact GK.none' | exact GK.some' rfl | exact GK.some' (by assumption) | refine GK.ite' ?_ ?_ | refine GK.bindK ?_ (fun _ _ => ?_) | refine GK.bindS ?_ (fun _ _ => ?_) | exact GS.none' | exact GS.some' rfl | refine GS.ite' ?_ ?_ | refine GK.bind' (fun _ => ?_))
theorem g_arched (σ : St) (a b : Int32) : GK (gn σ) (fX9_arched σ a b) := by
  unfold fX9_arched fX8_arch fX9_forgetPlan fX4_forget fX0_forget
  try simp only [obS]
  repeat' (first | exact GK.none' | exact GK.some' rfl | exact GK.some' (by assumption) | refine GK.ite' ?_ ?_ | refine GK.bindK ?_ (fun _ _ => ?_) | refine GK.bindS ?_ (fun _ _ => ?_) | exact GS.none' | exact GS.some' rfl | refine GS.ite' ?_ ?_ | refine GK.bind' (fun _ => ?_))
