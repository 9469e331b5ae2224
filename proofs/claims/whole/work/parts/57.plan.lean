/-! plan, act -/
/-- both answer alike, for some room -/
def TwoP (σ : St) (f : Nat → Nat → Option (Int32 × St)) (y : Option (Int32 × St)) : Prop := ∃ bw bc r σ' τ', f bw bc = some (r, σ') ∧ y = some (r, τ') ∧ Rel σ' τ' ∧ bw + bc + Pot σ ≤ Pot σ'
theorem both_plan {σ τ : St} (h : Rel σ τ) (h12 : gi σ 12 ≠ 0) : ∃ bw bc σ' τ' D, fX4_makePlan bw bc σ = some σ' ∧ fX10_findPlan τ = some τ' ∧ Rel σ' τ' ∧ bw + bc + Pot σ ≤ Pot σ' ∧ sdX σ' = sdX σ ∧ tdX σ' = tdX σ ∧ gi σ' 12 = gi σ 12 ∧ gi τ' 14 = 1 ∧ CostOK (sdX σ') (tdX σ') D ∧ ga σ' 33 0 = nI (D 0 0) ∧ ((1000000 ≤ D 0 0 ∧ gi σ' 15 = 0 ∧ gi τ' 16 = -1 ∧ gi τ' 15 = 0) ∨ (D 0 0 < 1000000 ∧ gi τ' 16 = nI (D 0 0) ∧ ∃ kn, TrcOK (sdX σ') (tdX σ') D kn ∧ gi σ' 15 = nI kn ∧ gi τ' 15 = nI kn ∧ ∀ j, j < kn → ga σ' 35 j = nI (actN (sdX σ') (tdX σ') D j) ∧ ga τ' 19 j = nI (actN (sdX σ') (tdX σ') D j))) := by
  obtain ⟨τ', m1, m2, m3⟩ := planM h
  obtain ⟨_, ⟨hs, hk, ht, _⟩, _, _, hpm, _, _⟩ := id m2
  obtain ⟨x1, x2, x3⟩ := st_get hs hk
  obtain ⟨y1, y2, y3⟩ := td_get hs ht
  have hP : ∀ s u, s < (tdX σ).1 → u < (tdX σ).1 → 1 ≤ (tdX σ).2.2.1 s u := fun s u hs hu => (y1.2.2.2.1 s u (by have := y1.1; omega) (by have := y1.1; omega)).1
  have hpl := hpm.2 m3
  rw [x3, y3] at hpl
  rcases hpl with ⟨q, _⟩ | ⟨_, D, hC, hD⟩
  · exact absurd (show gi σ 12 = 0 by rw [y1.2.1, q]; rfl) h12
  · obtain ⟨bw, bc, σ', p1, p2, p3, p4, p5, p6, p7⟩ := planX m2 h12 hC
    obtain ⟨_, _, _, hpx, _, _, _⟩ := id p2
    obtain ⟨_, D2, hC2, e2, hD2⟩ := hpx.2 p3
    rw [p4, p5] at hC2 hD2
    have eD : D2 = D := cost_uni hP hC2 hC
    subst eD
    refine ⟨bw, bc, σ', τ', D2, p1, m1, p2, p7, p4, p5, p6, m3, by rw [p4, p5]; exact hC, e2, ?_⟩
    rw [p4, p5]
    rcases hD with ⟨a1, a2, a3⟩ | ⟨a1, a2, kn, a3, a4, a5⟩
    · rcases hD2 with ⟨b1, b2⟩ | ⟨b1, _⟩
      · exact Or.inl ⟨a1, b2, a2, a3⟩
      · omega
    · rcases hD2 with ⟨b1, b2⟩ | ⟨b1, kn2, b3, b4, b5⟩
      · omega
      · have := trc_uni a3 b3
        subst this
        exact Or.inr ⟨a1, a2, kn, a3, b4, a4, fun j hj => ⟨b5 j hj, a5 j hj⟩⟩
theorem Pot_refl {σ : St} : 0 + 0 + Pot σ ≤ Pot σ := by omega
theorem e_plan {σ τ : St} (h : Rel σ τ) : TwoP σ (fun bw bc => fX9_plan bw bc σ) (fX10_plan τ) := by
  obtain ⟨_, ⟨_, _, ⟨n, _, _, hn, e1, e2, _⟩, _⟩, _⟩ := id h
  unfold fX9_plan fX10_plan
  by_cases c : gi σ 12 = 0
  · rw [show gi τ 11 = gi σ 12 by rw [e1, e2]]
    refine ⟨0, 0, -3, σ, τ, if_pos c, if_pos c, h, Pot_refl⟩
  · rw [show gi τ 11 = gi σ 12 by rw [e1, e2]]
    obtain ⟨bw, bc, σ', τ', D, p1, p2, p3, p4, p5, p6, p7, p8, p9, p10, p11⟩ := both_plan h c
    obtain ⟨_, _, _, _, _, _, ⟨a, b, la, lb, l1, l2⟩⟩ := id p3
    have hb16 := len16 lb
    have hbp := pow_pos' b
    have hix : ¬ ((0 : Int32) < 0 ∨ gn σ' 33 ≤ (0 : Int32).toNatClampNeg) := inx (i := 0) (show 0 < gn σ' 33 by omega) (by omega)
    have hle := cost_le p9 0 0
    refine ⟨bw, bc, gi τ' 16, σ', τ', ?_, ?_, p3, p4⟩
    · show (if gi σ 12 = 0 then some ((-3 : Int32), σ) else (fX4_leastPrice bw bc σ).bind fun q19 => some (q19.1, q19.2)) = _
      rw [if_neg c]
      unfold fX4_leastPrice
      rw [p1]
      simp only [obS]
      rw [if_pos hix, show ga σ' 33 (0 : Int32).toNatClampNeg = nI (D 0 0) from p10]
      rcases p11 with ⟨q1, q2, q3, q4⟩ | ⟨q1, q2, _⟩
      · rw [if_neg (show ¬ nI (D 0 0) < (1000000 : Int32) from nI_nlt (b := 1000000) (by omega) (by omega)), q3]
        rfl
      · rw [if_pos (show nI (D 0 0) < (1000000 : Int32) from nI_lt (b := 1000000) q1 (by decide)), if_pos hix, q2]
        rfl
    · rw [if_neg c, p2]
      simp only [obS]
theorem e_act {σ τ : St} (h : Rel σ τ) (v : Int32) : TwoP σ (fun bw bc => fX9_act bw bc σ v) (fX10_act τ v) := by
  obtain ⟨_, ⟨_, _, ⟨n, _, _, hn, e1, e2, _⟩, _⟩, _⟩ := id h
  unfold fX9_act fX10_act
  rw [show gi τ 11 = gi σ 12 by rw [e1, e2]]
  by_cases hv : 0 ≤ v
  · by_cases c : gi σ 12 = 0
    · refine ⟨0, 0, -3, σ, τ, ?_, ?_, h, Pot_refl⟩
      · show (if 0 ≤ v then (if gi σ 12 = 0 then some ((-3 : Int32), σ) else (fX4_actAt 0 0 σ v).bind fun q27 => some (q27.1, q27.2)) else some ((-2 : Int32), σ)) = _
        rw [if_pos hv, if_pos c]
      · rw [if_pos hv, if_pos c]
    · obtain ⟨bw, bc, σ', τ', D, p1, p2, p3, p4, p5, p6, p7, p8, p9, p10, p11⟩ := both_plan h c
      have hv0 : ¬ v < 0 := fun q => by
        rw [lt_toInt] at q
        rw [le_toInt] at hv
        omega
      have fin : ∃ r, fX4_actAt bw bc σ v = some (r, σ') ∧ (if gi τ' 15 ≤ v then some ((-1 : Int32), τ') else if ¬ (v < 0 ∨ 84 ≤ v.toNatClampNeg) then some (ga τ' 19 v.toNatClampNeg, τ') else none) = some (r, τ') := by
        unfold fX4_actAt
        rw [p1]
        simp only [obS]
        rw [if_neg hv0]
        rcases p11 with ⟨q1, q2, q3, q4⟩ | ⟨q1, q2, kn, q3, q4, q5, q6⟩
        · rw [q2, q4, if_pos hv, if_pos hv]
          exact ⟨_, rfl, rfl⟩
        · have h70 := q3.1
          rw [q4, q5]
          by_cases ck : nI kn ≤ v
          · rw [if_pos ck, if_pos ck]
            exact ⟨_, rfl, rfl⟩
          · rw [if_neg ck, if_neg ck]
            obtain ⟨x, rfl, l1, u1⟩ := t_nat' (x := v) (a := 0) (b := (kn : Int) - 1) (by decide) (by
              rw [le_toInt] at ck hv
              rw [nI_toInt (by omega)] at ck
              rw [show (0 : Int32).toInt = 0 from rfl] at hv
              omega)
            obtain ⟨w1, w2⟩ := q6 x (by omega)
            rw [if_pos (inx (show x < 70 by omega) (by decide)), if_pos (inx (show x < 84 by omega) (by decide)), nI_clamp (by omega), w1, w2]
            exact ⟨_, rfl, rfl⟩
      obtain ⟨r, f1, f2⟩ := fin
      refine ⟨bw, bc, r, σ', τ', ?_, ?_, p3, p4⟩
      · show (if 0 ≤ v then (if gi σ 12 = 0 then some ((-3 : Int32), σ) else (fX4_actAt bw bc σ v).bind fun q27 => some (q27.1, q27.2)) else some ((-2 : Int32), σ)) = _
        rw [if_pos hv, if_neg c, f1]
        rfl
      · rw [if_pos hv, if_neg c, p2]
        simp only [obS]
        exact f2
  · refine ⟨0, 0, -2, σ, τ, ?_, ?_, h, Pot_refl⟩
    · show (if 0 ≤ v then (if gi σ 12 = 0 then some ((-3 : Int32), σ) else (fX4_actAt 0 0 σ v).bind fun q27 => some (q27.1, q27.2)) else some ((-2 : Int32), σ)) = _
      rw [if_neg hv]
    · rw [if_neg hv]
theorem e_orders' {σ τ : St} (h : Rel σ τ) : ∃ bw r σ' τ', fX9_orders bw σ = some (r, σ') ∧ fX10_orders τ = some (r, τ') ∧ Rel σ' τ' ∧ bw + Pot σ ≤ Pot σ' := by
  obtain ⟨_, _, _, _, _, _, ⟨a, b, la, lb, l1, l2⟩⟩ := id h
  obtain ⟨r, σ', τ', q1, q2, q3, q4, q5⟩ := e_orders h (if gn σ 32 < 2 ^ (sdX σ).1 then 2 ^ (sdX σ).1 else 0) (fun c => by rw [if_pos c]; exact Nat.le_refl _)
  refine ⟨_, r, σ', τ', q1, q2, q3, ?_⟩
  unfold Pot
  rw [q4, q5]
  unfold lenW
  by_cases c : gn σ 32 < 2 ^ (sdX σ).1
  · rw [if_pos c, if_pos c]
    rw [l1] at c ⊢
    have := pow_half c
    omega
  · rw [if_neg c, if_neg c]; omega
