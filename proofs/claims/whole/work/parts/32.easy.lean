theorem Two.same {σ τ : St} (h : Rel σ τ) (r : Int32) : Two (some (r, σ)) (some (r, τ)) := ⟨r, σ, τ, rfl, rfl, h⟩
theorem Two.mk' {σ τ : St} {r : Int32} (h : Rel σ τ) : Two (some (r, σ)) (some (r, τ)) := ⟨r, σ, τ, rfl, rfl, h⟩
/-- one test on both sides -/
theorem Two.ite {c : Prop} {i1 i2 : Decidable c} {x x' y y' : Option (Int32 × St)} (h1 : c → Two x y) (h2 : ¬ c → Two x' y') : Two (@ite _ c i1 x x') (@ite _ c i2 y y') := by
  by_cases h : c
  · rw [if_pos h, if_pos h]; exact h1 h
  · rw [if_neg h, if_neg h]; exact h2 h
theorem One.ite {c : Prop} {i1 i2 : Decidable c} {x x' y y' : Option Int32} (h1 : c → One x y) (h2 : ¬ c → One x' y') : One (@ite _ c i1 x x') (@ite _ c i2 y y') := by
  by_cases h : c
  · rw [if_pos h, if_pos h]; exact h1 h
  · rw [if_neg h, if_neg h]; exact h2 h
theorem One.same (r : Int32) : One (some r) (some r) := ⟨r, rfl, rfl⟩
theorem t_nat {x : Int32} {a b : Int} (ha : 0 ≤ a) (h : ¬ ¬ (a ≤ x.toInt ∧ x.toInt ≤ b)) : ∃ k : Nat, x = nI k ∧ a ≤ (k : Int) ∧ (k : Int) ≤ b := by
  have h := Decidable.not_not.mp h
  exact ⟨x.toInt.toNat, of_rng (by omega), by omega, by omega⟩
theorem e_wheel {σ τ : St} (h : Rel σ τ) (a b c d : Int32) : Two (fX9_wheel σ a b c d) (fX10_wheel τ a b c d) := by
  unfold fX9_wheel fX10_wheel
  simp only [within_eq, in_eq, Option.bind_some, i10, Int32.toInt_toInt64]
  refine Two.ite (fun _ => Two.same h _) (fun c1 => ?_)
  refine Two.ite (fun _ => Two.same h _) (fun c2 => ?_)
  refine Two.ite (fun _ => Two.same h _) (fun c3 => ?_)
  refine Two.ite (fun _ => Two.same h _) (fun c4 => ?_)
  obtain ⟨k1, rfl, l1, u1⟩ := t_nat (by decide) c1
  obtain ⟨k2, rfl, l2, u2⟩ := t_nat (by decide) c2
  obtain ⟨k3, rfl, l3, u3⟩ := t_nat (by decide) c3
  obtain ⟨k4, rfl, l4, u4⟩ := t_nat (by decide) c4
  obtain ⟨⟨⟨_, _, _, _, t, n, _, _, _, _, h5, h6⟩, hA⟩, hB, hC⟩ := h
  have e1 : (100 : Int32).toInt = 100 := rfl
  have e2 : (2000 : Int32).toInt = 2000 := rfl
  have e3 : (10 : Int32).toInt = 10 := rfl
  have e4 : (60 : Int32).toInt = 60 := rfl
  have e5 : (200 : Int32).toInt = 200 := rfl
  exact Two.mk' ⟨⟨⟨k1, k2, k3, k4, t, n, ⟨rfl, rfl, by omega, by omega⟩, ⟨rfl, rfl, by omega, by omega⟩, ⟨rfl, rfl, by omega, by omega⟩, ⟨rfl, rfl, by omega⟩, h5, h6⟩, hA⟩, hB, hC⟩
