theorem inx' {i N : Nat} (h : i < N) (hN : N < 2 ^ 31) : ¬ (nI i < 0 ∨ N ≤ i) := by
  have := inx h hN
  rw [nI_clamp (by omega)] at this
  exact this
theorem Two.same {σ τ : St} (h : Rel σ τ) (r : Int32) : Two (some (r, σ)) (some (r, τ)) := ⟨r, σ, τ, rfl, rfl, h⟩
theorem Two.mk' {σ τ : St} {r : Int32} (h : Rel σ τ) : Two (some (r, σ)) (some (r, τ)) := ⟨r, σ, τ, rfl, rfl, h⟩
/-- one test on both sides -/
theorem Two.ite {c : Prop} {i1 i2 : Decidable c} {x x' y y' : Option (Int32 × St)} (h1 : c → Two x y) (h2 : ¬ c → Two x' y') : Two (@ite _ c i1 x x') (@ite _ c i2 y y') := by
  by_cases h : c
  · rw [if_pos h, if_pos h]; exact h1 h
  · rw [if_neg h, if_neg h]; exact h2 h
theorem One.ite {c : Prop} {i1 i2 : Decidable c} {x x' y y' : Option Int32} (h1 : c → One x y) (h2 : ¬ c → One x' y') : One (@ite _ c i1 x x') (@ite _ c i2 y y') := by
  by_cases h : c
  · rw [if_pos h, if_pos h]; exact h1 h
  · rw [if_neg h, if_neg h]; exact h2 h
theorem One.same (r : Int32) : One (some r) (some r) := ⟨r, rfl, rfl⟩
theorem t_nat {x : Int32} {a b : Int} (ha : 0 ≤ a) (h : ¬ ¬ (a ≤ x.toInt ∧ x.toInt ≤ b)) : ∃ k : Nat, x = nI k ∧ a ≤ (k : Int) ∧ (k : Int) ≤ b := by
  have h := Decidable.not_not.mp h
  exact ⟨x.toInt.toNat, of_rng (by omega), by omega, by omega⟩
theorem e_wheel {σ τ : St} (h : Rel σ τ) (a b c d : Int32) : Two (fX9_wheel σ a b c d) (fX10_wheel τ a b c d) := by
  unfold fX9_wheel fX10_wheel
  simp only [within_eq, in_eq, obS, i10, Int32.toInt_toInt64]
  refine Two.ite (fun _ => Two.same h _) (fun c1 => ?_)
  refine Two.ite (fun _ => Two.same h _) (fun c2 => ?_)
  refine Two.ite (fun _ => Two.same h _) (fun c3 => ?_)
  refine Two.ite (fun _ => Two.same h _) (fun c4 => ?_)
  obtain ⟨k1, rfl, l1, u1⟩ := t_nat (by decide) c1
  obtain ⟨k2, rfl, l2, u2⟩ := t_nat (by decide) c2
  obtain ⟨k3, rfl, l3, u3⟩ := t_nat (by decide) c3
  obtain ⟨k4, rfl, l4, u4⟩ := t_nat (by decide) c4
  obtain ⟨⟨⟨_, _, _, _, t, n, _, _, _, _, h5, h6⟩, hA⟩, hB, hC⟩ := h
  have e1 : (100 : Int32).toInt = 100 := rfl
  have e2 : (2000 : Int32).toInt = 2000 := rfl
  have e3 : (10 : Int32).toInt = 10 := rfl
  have e4 : (60 : Int32).toInt = 60 := rfl
  have e5 : (200 : Int32).toInt = 200 := rfl
  refine Two.mk' ?_
  exact ⟨⟨⟨k1, k2, k3, k4, t, n, ⟨rfl, rfl, by omega, by omega⟩, ⟨rfl, rfl, by omega, by omega⟩, ⟨rfl, rfl, by omega, by omega⟩, ⟨rfl, rfl, by omega⟩, h5, h6⟩, hA⟩, hB, hC⟩
theorem e_winds {σ τ : St} (h : Rel σ τ) (a b : Int32) : Two (fX9_winds σ a b) (fX10_winds τ a b) := by
  unfold fX9_winds fX10_winds
  simp only [within_eq, in_eq, obS, i10, i01, Int32.toInt_toInt64]
  refine Two.ite (fun _ => Two.same h _) (fun c1 => ?_)
  refine Two.ite (fun _ => Two.same h _) (fun c2 => ?_)
  obtain ⟨k1, rfl, l1, u1⟩ := t_nat (a := 0) (b := 10) (by decide) c1
  obtain ⟨k2, rfl, l2, u2⟩ := t_nat (a := 1) (b := 20) (by decide) c2
  obtain ⟨⟨⟨g, s, a, f, _, _, h1, h2, h3, h4, _, _⟩, hA⟩, hB, hC⟩ := h
  refine Two.mk' ?_
  exact ⟨⟨⟨g, s, a, f, k1, k2, h1, h2, h3, h4, ⟨rfl, rfl, by omega⟩, ⟨rfl, rfl, by omega, by omega⟩⟩, hA⟩, hB, hC⟩
theorem e_breath {σ τ : St} (h : Rel σ τ) (a : Int32) : One (fX9_breath σ a) (fX10_breath τ a) := by
  obtain ⟨⟨hD, ⟨n, hn, e1, e2, hw⟩, hA⟩, hB, hC⟩ := id h
  unfold fX9_breath fX10_breath
  simp only [within_eq, in_eq, obS, i10, i01, Int32.toInt_toInt64, e1, e2]
  refine One.ite (fun _ => One.same _) (fun c1 => ?_)
  rw [nm1 n (by omega)] at c1
  obtain ⟨k1, rfl, l1, u1⟩ := t_nat (a := 0) (b := (n : Int) - 1) (by decide) c1
  obtain ⟨w, b, h1, h2, h3, h4, h5, h6⟩ := hw k1 (by omega)
  rw [if_pos (inx (by omega) (by decide)), if_pos (inx (by omega) (by decide)), nI_clamp (by omega), h5, h6]
  exact One.same _
theorem e_man {σ τ : St} (h : Rel σ τ) (a : Int32) : Two (fX9_man σ a) (fX10_man τ a) := by
  obtain ⟨⟨hD, ⟨n, hn, e1, e2, hw⟩, hA⟩, hB, hC⟩ := id h
  unfold fX9_man fX10_man fX1_join
  simp only [within_eq, in_eq, obS, i10, i01, Int32.toInt_toInt64, gi_si, gi_sl, gi_saf, gi_sbf, gi_sn, gi_sa, gi_sb, gl_si, gl_sl, gl_saf, gl_sa, ga_si, ga_sl, ga_saf, ga_sbf, ga_sn, ga_sa, ga_sb, gb_si, gb_sbf, gb_sn, gb_sa, gb_sb, gn_si, gn_sa, gn_sb, gn_sbf, gn_saf, gn_sn, reduceIte, Nat.reduceEqDiff, Nat.reduceAdd, e1, e2]
  refine Two.ite (fun _ => Two.same h _) (fun c1 => ?_)
  obtain ⟨k1, rfl, l1, u1⟩ := t_nat (a := 40) (b := 150) (by decide) c1
  by_cases h8 : n = 8
  · subst h8
    exact Two.same h _
  · have hlt : n < 8 := by omega
    rw [if_pos (show nI n < (8 : Int32) from nI_lt hlt (by decide)), if_neg (show ¬ nI n = (8 : Int32) from fun e => h8 (nI_inj (by omega) (by decide) (show nI n = nI 8 from e)))]
    simp only [if_pos (inx' hlt (by decide)), nI_clamp (show n < 2 ^ 31 by omega), obS]
    refine Two.mk' ?_
    refine ⟨⟨hD, ⟨n + 1, by omega, nI_1 n, nI_1 n, fun j hj => ?_⟩, hA⟩, hB, hC⟩
    by_cases hj' : j = n
    · subst hj'
      exact ⟨k1, 1000, by omega, by omega, pk_us, pk_us, pk_us, pk_us⟩
    · obtain ⟨w, b, h1, h2, h3, h4, h5, h6⟩ := hw j (by omega)
      exact ⟨w, b, h1, h2, (pk_un hj').trans h3, (pk_un hj').trans h4, (pk_un hj').trans h5, (pk_un hj').trans h6⟩
theorem isStr_eq (v : Int32) : fX9_isStrength v = some (if 100 ≤ v.toInt ∧ v.toInt ≤ 50000 then 1 else 0) := by
  unfold fX9_isStrength
  simp only [within_eq, obS, nw10, if_true]
  rfl
theorem isStrM_eq (v : Int32) : fX10_isStrength v = some (if 100 ≤ v.toInt ∧ v.toInt ≤ 50000 then 1 else 0) := by
  unfold fX10_isStrength
  simp only [in_eq, obS, nw10, if_true, Int32.toInt_toInt64]
  rfl
theorem isLoad_eq (v : Int32) : fX9_isLoad v = some (if 1 ≤ v.toInt ∧ v.toInt ≤ 50000 then 1 else 0) := by
  unfold fX9_isLoad
  simp only [within_eq, obS, nw10, if_true]
  rfl
theorem isLoadM_eq (v : Int32) : fX10_isLoad v = some (if 1 ≤ v.toInt ∧ v.toInt ≤ 50000 then 1 else 0) := by
  unfold fX10_isLoad
  simp only [in_eq, obS, nw10, if_true, Int32.toInt_toInt64]
  rfl
/-- 'no such number' of the reference, 'such a number' of the class -/
theorem i10b {c : Prop} [Decidable c] : (if ¬ c then some (1 : Int32) else some 0) = some (if c then 0 else 1) := by by_cases h : c <;> simp [h]
theorem noRope_eq (τ : St) (v : Int32) {n : Nat} (hn : n ≤ 100) (e : gi τ 7 = nI n) : fX10_noRope τ v = some (if 0 ≤ v.toInt ∧ v.toInt ≤ (n : Int) - 1 then 0 else 1) := by
  unfold fX10_noRope
  simp only [in_eq, obS, i10, Int32.toInt_toInt64, e, nm1 n (by omega), i10b]
  rfl
theorem noStone_eq (τ : St) (v : Int32) {n : Nat} (hn : n ≤ 100) (e : gi τ 9 = nI n) : fX10_noStone τ v = some (if 0 ≤ v.toInt ∧ v.toInt ≤ (n : Int) - 1 then 0 else 1) := by
  unfold fX10_noStone
  simp only [in_eq, obS, i10, Int32.toInt_toInt64, e, nm1 n (by omega), i10b]
  rfl
theorem noStand_eq (τ : St) (v : Int32) {n : Nat} (hn : n ≤ 100) (e : gi τ 11 = nI n) : fX10_noStand τ v = some (if 0 ≤ v.toInt ∧ v.toInt ≤ (n : Int) - 1 then 0 else 1) := by
  unfold fX10_noStand
  simp only [in_eq, obS, i10, Int32.toInt_toInt64, e, nm1 n (by omega), i10b]
  rfl
theorem isStone_eq (σ : St) (v : Int32) {n : Nat} (hn : n ≤ 100) (e : gi σ 10 = nI n) : fX9_isStone σ v = some (if 0 ≤ v.toInt ∧ v.toInt ≤ (n : Int) - 1 then 1 else 0) := by
  unfold fX9_isStone
  simp only [within_eq, obS, nw10, if_true, e, nm1 n (by omega)]
  rfl
theorem isStand_eq (σ : St) (v : Int32) {n : Nat} (hn : n ≤ 100) (e : gi σ 12 = nI n) : fX9_isStand σ v = some (if 0 ≤ v.toInt ∧ v.toInt ≤ (n : Int) - 1 then 1 else 0) := by
  unfold fX9_isStand
  simp only [within_eq, obS, nw10, if_true, e, nm1 n (by omega)]
  rfl
/-- a test, and its contrary on the other side -/
theorem Two.iteN {c : Prop} {i1 : Decidable (¬ c)} {i2 : Decidable c} {x x' y y' : Option (Int32 × St)} (h1 : c → Two x' y) (h2 : ¬ c → Two x y') : Two (@_root_.ite _ (¬ c) i1 x x') (@_root_.ite _ c i2 y y') := by
  by_cases h : c
  · rw [if_neg (not_not_intro h), if_pos h]; exact h1 h
  · rw [if_pos h, if_neg h]; exact h2 h
theorem One.iteN {c : Prop} {i1 : Decidable (¬ c)} {i2 : Decidable c} {x x' y y' : Option Int32} (h1 : c → One x' y) (h2 : ¬ c → One x y') : One (@_root_.ite _ (¬ c) i1 x x') (@_root_.ite _ c i2 y y') := by
  by_cases h : c
  · rw [if_neg (not_not_intro h), if_pos h]; exact h1 h
  · rw [if_pos h, if_neg h]; exact h2 h
theorem t_nat' {x : Int32} {a b : Int} (ha : 0 ≤ a) (h : a ≤ x.toInt ∧ x.toInt ≤ b) : ∃ k : Nat, x = nI k ∧ a ≤ (k : Int) ∧ (k : Int) ≤ b := t_nat ha (not_not_intro h)
theorem e_rope {σ τ : St} (h : Rel σ τ) (a : Int32) : Two (fX9_rope σ a) (fX10_rope τ a) := by
  obtain ⟨⟨hD, hcr, ⟨n, hn, e1, e2, hw, hz⟩, hA⟩, hB, hC⟩ := id h
  unfold fX9_rope fX10_rope fX5_bring fX10_layRope
  simp only [isStr_eq, isStrM_eq, obS, i10, gi_si, gi_sl, gi_saf, gi_sbf, gi_sn, gi_sa, gi_sb, gl_si, gl_sl, gl_saf, gl_sa, ga_si, ga_sl, ga_saf, ga_sbf, ga_sn, ga_sa, ga_sb, gb_si, gb_sbf, gb_sn, gb_sa, gb_sb, gn_si, gn_sa, gn_sb, gn_sbf, gn_saf, gn_sn, reduceIte, Nat.reduceEqDiff, Nat.reduceAdd, e1, e2]
  refine Two.ite (fun _ => Two.same h _) (fun c1 => ?_)
  obtain ⟨k1, rfl, l1, u1⟩ := t_nat (by decide) c1
  by_cases h8 : n = 6
  · subst h8
    exact Two.same h _
  · have hlt : n < 6 := by omega
    rw [if_pos (show nI n < (6 : Int32) from nI_lt hlt (by decide)), if_neg (show ¬ nI n = (6 : Int32) from fun e => h8 (nI_inj (by omega) (by decide) (show nI n = nI 6 from e)))]
    simp only [if_pos (inx' hlt (show 6 < 2 ^ 31 by decide)), if_pos (inx' (show n < 7 by omega) (by decide)), nI_clamp (show n < 2 ^ 31 by omega), obS, gi_si, gi_sl, gi_saf, gi_sbf, gi_sn, gi_sa, gi_sb, gl_si, gl_sl, gl_saf, gl_sa, ga_si, ga_sl, ga_saf, ga_sbf, ga_sn, ga_sa, ga_sb, gb_si, gb_sbf, gb_sn, gb_sa, gb_sb, gn_si, gn_sa, gn_sb, gn_sbf, gn_saf, gn_sn, reduceIte, Nat.reduceEqDiff, Nat.reduceAdd, e1, e2]
    refine Two.mk' ?_
    refine ⟨⟨hD, hcr, ⟨n + 1, by omega, nI_1 n, nI_1 n, fun j hj => ?_, fun j hj => hz j (by omega)⟩, hA⟩, hB, hC⟩
    by_cases hj' : j = n
    · subst hj'
      obtain ⟨z1, z2, z3⟩ := hz j (Nat.le_refl _)
      exact ⟨k1, 0, by omega, by omega, by omega, pk_us, pk_us, z1, pk_us, z2.trans pk_us.symm, z3.trans pk_us.symm, Or.inl z2, Or.inl z3⟩
    · obtain ⟨s, w, h1, h2, h3, h4, h5, h6, h7, h8, h9, h10, h11⟩ := hw j (by omega)
      exact ⟨s, w, h1, h2, h3, (pk_un hj').trans h4, (pk_un hj').trans h5, h6, (pk_un hj').trans h7, h8.trans (pk_un hj').symm, h9.trans (pk_un hj').symm, h10, h11⟩
theorem nar01 {x : Int32} (h : b01 x) : vp_nar .boolean x = x := by rcases h with rfl | rfl <;> rfl
theorem e_wet {σ τ : St} (h : Rel σ τ) (a v : Int32) (hv : b01 v) : Two (fX9_wet σ a v) (fX10_wet τ a v) := by
  obtain ⟨⟨hD, hcr, ⟨n, hn, e1, e2, hw, hz⟩, hA⟩, hB, hC⟩ := id h
  unfold fX9_wet fX10_wet
  simp only [within_eq, in_eq, obS, i10, i01, Int32.toInt_toInt64, e1, noRope_eq τ a (show n ≤ 100 by omega) e2, nm1 n (show n < 2 ^ 31 by omega), nar01 hv]
  refine Two.iteN (fun c1 => ?_) (fun _ => Two.same h _)
  obtain ⟨k, rfl, l1, u1⟩ := t_nat' (a := 0) (b := (n : Int) - 1) (by decide) c1
  simp only [if_pos (inx' (show k < 6 by omega) (by decide)), if_pos (inx' (show k < 7 by omega) (by decide)), nI_clamp (show k < 2 ^ 31 by omega)]
  rw [← (show ga σ 14 k = ga τ 5 k by obtain ⟨s, w, h1, h2, h3, h4, h5, h6, h7, h8, h9, h10, h11⟩ := hw k (by omega); exact h8)]
  refine Two.ite (fun _ => Two.same h _) (fun _ => ?_)
  refine Two.mk' ?_
  refine ⟨⟨hD, hcr, ⟨n, hn, e1, e2, fun j hj => ?_, fun j hj => ?_⟩, hA⟩, hB, hC⟩
  · obtain ⟨s, w, h1, h2, h3, h4, h5, h6, h7, h8, h9, h10, h11⟩ := hw j hj
    by_cases hj' : j = k
    · subst hj'
      exact ⟨s, w, h1, h2, h3, h4, h5, h6, h7, pk_us.trans pk_us.symm, h9, (show b01 (upd _ _ _ _) by rw [pk_us]; exact hv), h11⟩
    · exact ⟨s, w, h1, h2, h3, h4, h5, h6, h7, (pk_un hj').trans (h8.trans (pk_un hj').symm), h9, (show b01 (upd _ _ _ _) by rw [pk_un hj']; exact h10), h11⟩
  · obtain ⟨z1, z2, z3⟩ := hz j hj
    exact ⟨z1, (pk_un (by omega)).trans z2, z3⟩
theorem e_load {σ τ : St} (h : Rel σ τ) (a : Int32) : Two (fX9_load σ a) (fX10_load τ a) := by
  obtain ⟨⟨hD, hcr, hro, ⟨n, hn, e1, e2, hw⟩, hA⟩, hB, hC⟩ := id h
  unfold fX9_load fX10_load fX6_append
  simp only [isLoad_eq, isLoadM_eq, obS, i10, gi_si, gi_sl, gi_saf, gi_sbf, gi_sn, gi_sa, gi_sb, gl_si, gl_sl, gl_saf, gl_sa, ga_si, ga_sl, ga_saf, ga_sbf, ga_sn, ga_sa, ga_sb, gb_si, gb_sbf, gb_sn, gb_sa, gb_sb, gn_si, gn_sa, gn_sb, gn_sbf, gn_saf, gn_sn, reduceIte, Nat.reduceEqDiff, Nat.reduceAdd, e1, e2]
  refine Two.ite (fun _ => Two.same h _) (fun c1 => ?_)
  obtain ⟨k1, rfl, l1, u1⟩ := t_nat (by decide) c1
  by_cases h8 : n = 12
  · subst h8
    exact Two.same h _
  · have hlt : n < 12 := by omega
    rw [if_pos (show nI n < (12 : Int32) from nI_lt hlt (by decide)), if_neg (show ¬ nI n = (12 : Int32) from fun e => h8 (nI_inj (by omega) (by decide) (show nI n = nI 12 from e)))]
    simp only [if_pos (inx' hlt (show 12 < 2 ^ 31 by decide)), nI_clamp (show n < 2 ^ 31 by omega), obS]
    refine Two.mk' ?_
    refine ⟨⟨hD, hcr, hro, ⟨n + 1, by omega, nI_1 n, nI_1 n, fun j hj => ?_⟩, hA⟩, hB, hC⟩
    by_cases hj' : j = n
    · subst hj'
      exact ⟨k1, by omega, by omega, pk_us, pk_us⟩
    · obtain ⟨v, h1, h2, h3, h4⟩ := hw j (by omega)
      exact ⟨v, h1, h2, (pk_un hj').trans h3, (pk_un hj').trans h4⟩
theorem e_clear {σ τ : St} (h : Rel σ τ) : Two (fX9_clear σ) (fX10_clear τ) := by
  obtain ⟨⟨hD, hcr, hro, ⟨n, hn, e1, e2, hw⟩, hA⟩, hB, hC⟩ := id h
  unfold fX9_clear fX10_clear
  rw [e1, e2]
  refine Two.mk' ?_
  exact ⟨⟨hD, hcr, hro, ⟨0, by omega, rfl, rfl, fun j hj => absurd hj (by omega)⟩, hA⟩, hB, hC⟩
