theorem rw0 {σ : St} (h : gi σ 16 = 0) : RWays σ := ⟨Or.inl h, fun e => absurd (h.symm.trans e) (by decide)⟩
theorem rp0 {σ : St} (h : gi σ 17 = 0) : RPlanX σ := ⟨Or.inl h, fun e => absurd (h.symm.trans e) (by decide)⟩
theorem rpm0 {τ : St} (h : gi τ 14 = 0) : RPlanM τ := ⟨Or.inl h, fun e => absurd (h.symm.trans e) (by decide)⟩
theorem rz0 {σ : St} (h : gi σ 19 = -1) : RWorst σ := Or.inl h
theorem forget_eq (σ : St) : fX9_forgetPlan σ = some (si (si (si σ 16 0) 17 0) 19 (-1)) := rfl
theorem forget0_eq (σ : St) : fX0_forget σ = some (si σ 19 (-1)) := rfl
theorem isPlace_eq (a b : Int32) : fX9_isPlace a b = some (if (0 ≤ a.toInt ∧ a.toInt ≤ 30) ∧ (0 ≤ b.toInt ∧ b.toInt ≤ 12) then 1 else 0) := by
  unfold fX9_isPlace
  simp only [within_eq, obS, i10]
  by_cases h1 : (0 : Int32).toInt ≤ a.toInt ∧ a.toInt ≤ (30 : Int32).toInt
  · rw [if_neg (not_not_intro h1)]
    by_cases h2 : (0 : Int32).toInt ≤ b.toInt ∧ b.toInt ≤ (12 : Int32).toInt
    · rw [if_neg (not_not_intro h2), if_pos ⟨h1, h2⟩]
    · rw [if_pos h2, if_neg (fun h => h2 h.2)]
  · rw [if_pos h1, if_neg (fun h => h1 h.1)]
/-- a test of two things on one side, one behind the other on the other -/
theorem Two.ite2 {c d : Prop} {i0 : Decidable (¬ (c ∧ d))} {i1 : Decidable (¬ c)} {i2 : Decidable (¬ d)} {x x' y y' : Option (Int32 × St)} (h1 : ¬ (c ∧ d) → Two x y) (h2 : c → d → Two x' y') : Two (@_root_.ite _ (¬ (c ∧ d)) i0 x x') (@_root_.ite _ (¬ c) i1 y (@_root_.ite _ (¬ d) i2 y y')) := by
  by_cases hc : c
  · by_cases hd : d
    · rw [if_neg (not_not_intro ⟨hc, hd⟩), if_neg (not_not_intro hc), if_neg (not_not_intro hd)]; exact h2 hc hd
    · rw [if_pos (fun h => hd h.2), if_neg (not_not_intro hc), if_pos hd]; exact h1 (fun h => hd h.2)
  · rw [if_pos (fun h => hc h.1), if_pos hc]; exact h1 (fun h => hc h.1)
theorem e_centrings {σ τ : St} (h : Rel σ τ) (a : Int32) : Two (fX9_centrings σ a) (fX10_centrings τ a) := by
  obtain ⟨hA, ⟨⟨n, c, hn, hc, e1, e2, e3, e4, hs⟩, hk, hst, hcal⟩, hw, hp, hm, hz, hl⟩ := id h
  unfold fX9_centrings fX10_centrings
  simp only [within_eq, in_eq, obS, i10, i01, Int32.toInt_toInt64, forget_eq, gi_si, gi_sl, gi_saf, gi_sbf, gi_sn, gi_sa, gi_sb, gl_si, gl_sl, gl_saf, gl_sa, ga_si, ga_sl, ga_saf, ga_sbf, ga_sn, ga_sa, ga_sb, gb_si, gb_sbf, gb_sn, gb_sa, gb_sb, gn_si, gn_sa, gn_sb, gn_sbf, gn_saf, gn_sn, reduceIte, Nat.reduceEqDiff, Nat.reduceAdd, e3, e4]
  refine Two.ite (fun _ => Two.same h _) (fun c1 => ?_)
  obtain ⟨k1, rfl, l1, u1⟩ := t_nat (a := 0) (b := 5) (by decide) c1
  refine Two.mk' ?_
  exact ⟨hA, ⟨⟨n, k1, hn, by omega, e1, e2, rfl, rfl, hs⟩, hk, hst, hcal⟩, rw0 rfl, rp0 rfl, rpm0 rfl, rz0 rfl, hl⟩
theorem e_reach {σ τ : St} (h : Rel σ τ) (a b : Int32) : Two (fX9_reach σ a b) (fX10_reach τ a b) := by
  obtain ⟨hA, ⟨hst, hk, ⟨n, r, g, hn, e1, e2, hr, hg, hs, hpr⟩, hcal⟩, hw, hp, hm, hz, hl⟩ := id h
  unfold fX9_reach fX10_reach
  simp only [within_eq, in_eq, obS, i10, i01, Int32.toInt_toInt64, forget_eq, gi_si, gi_sl, gi_saf, gi_sbf, gi_sn, gi_sa, gi_sb, gl_si, gl_sl, gl_saf, gl_sa, ga_si, ga_sl, ga_saf, ga_sbf, ga_sn, ga_sa, ga_sb, gb_si, gb_sbf, gb_sn, gb_sa, gb_sb, gn_si, gn_sa, gn_sb, gn_sbf, gn_saf, gn_sn, reduceIte, Nat.reduceEqDiff, Nat.reduceAdd]
  refine Two.ite (fun _ => Two.same h _) (fun c1 => ?_)
  refine Two.ite (fun _ => Two.same h _) (fun c2 => ?_)
  obtain ⟨k1, rfl, l1, u1⟩ := t_nat (a := 1) (b := 30) (by decide) c1
  obtain ⟨k2, rfl, l2, u2⟩ := t_nat (a := 1) (b := 12) (by decide) c2
  refine Two.mk' ?_
  exact ⟨hA, ⟨hst, hk, ⟨n, k1, k2, hn, e1, e2, ⟨by omega, by omega, rfl, rfl⟩, ⟨by omega, by omega, rfl, rfl⟩, hs, hpr⟩, hcal⟩, rw0 rfl, rp0 rfl, rpm0 rfl, rz0 rfl, hl⟩
theorem e_mortar {σ τ : St} (h : Rel σ τ) (a : Int32) : Two (fX9_mortar σ a) (fX10_mortar τ a) := by
  obtain ⟨hA, ⟨hst, hk, hsd, ⟨m, hm1, e1, e2⟩, hcal⟩, hw, hp, hm, hz, hl⟩ := id h
  unfold fX9_mortar fX10_mortar
  simp only [within_eq, in_eq, obS, i10, i01, Int32.toInt_toInt64, forget0_eq, gi_si, gi_sl, gi_saf, gi_sbf, gi_sn, gi_sa, gi_sb, gl_si, gl_sl, gl_saf, gl_sa, ga_si, ga_sl, ga_saf, ga_sbf, ga_sn, ga_sa, ga_sb, gb_si, gb_sbf, gb_sn, gb_sa, gb_sb, gn_si, gn_sa, gn_sb, gn_sbf, gn_saf, gn_sn, reduceIte, Nat.reduceEqDiff, Nat.reduceAdd, e1, e2]
  refine Two.ite (fun _ => Two.same h _) (fun c1 => ?_)
  obtain ⟨k1, rfl, l1, u1⟩ := t_nat (a := 0) (b := 10) (by decide) c1
  refine Two.mk' ?_
  exact ⟨hA, ⟨hst, hk, hsd, ⟨k1, by omega, rfl, rfl⟩, hcal⟩, hw, hp, hm, rz0 rfl, hl⟩
theorem isDay_eq (v : Int32) : fX10_isDay v = some (if 0 ≤ v.toInt ∧ v.toInt ≤ 79 then 1 else 0) := by
  unfold fX10_isDay
  simp only [in_eq, obS, nw10, if_true, Int32.toInt_toInt64]
  rfl
theorem e_frost {σ τ : St} (h : Rel σ τ) (a v : Int32) (hv : b01 v) : Two (fX9_frost σ a v) (fX10_frost τ a v) := by
  obtain ⟨hA, ⟨hst, hk, hsd, hmo, ht0, hcal⟩, hw, hp, hm, hz, hl⟩ := id h
  unfold fX9_frost fX10_frost
  simp only [within_eq, in_eq, obS, i10, i01, Int32.toInt_toInt64, isDay_eq, forget0_eq, nar01 hv]
  refine Two.ite (fun _ => Two.same h _) (fun c1 => ?_)
  obtain ⟨k, rfl, l1, u1⟩ := t_nat (a := 0) (b := 79) (by decide) c1
  simp only [if_pos (inx' (show k < 80 by omega) (by decide)), nI_clamp (show k < 2 ^ 31 by omega)]
  rw [← (show ga σ 37 k = ga τ 21 k by obtain ⟨g, q1, q2, q3, q4, q5⟩ := hcal k (by omega); exact q4)]
  refine Two.ite (fun _ => Two.same h _) (fun _ => ?_)
  refine Two.mk' ?_
  refine ⟨hA, ⟨hst, hk, hsd, hmo, ht0, fun d hd => ?_⟩, hw, hp, hm, rz0 rfl, hl⟩
  obtain ⟨g, q1, q2, q3, q4, q5⟩ := hcal d hd
  by_cases hj : d = k
  · subst hj
    exact ⟨g, q1, q2, q3, pk_us.trans pk_us.symm, (show b01 (upd _ _ _ _) by rw [pk_us]; exact hv)⟩
  · exact ⟨g, q1, q2, q3, (pk_un hj).trans (q4.trans (pk_un hj).symm), (show b01 (upd _ _ _ _) by rw [pk_un hj]; exact q5)⟩
theorem e_shape {σ τ : St} (h : Rel σ τ) : Two (fX9_shape σ) (fX10_shape τ) := by
  obtain ⟨⟨hD, hcr, hro, hrw, ⟨n, hn, e1, e2, hw⟩⟩, hB, hC⟩ := id h
  unfold fX9_shape fX10_shape
  rw [e1, e2]
  refine Two.mk' ?_
  exact ⟨⟨hD, hcr, hro, hrw, ⟨0, by omega, rfl, rfl, fun j hj => absurd hj (by omega)⟩⟩, hB, hC⟩
theorem isAt_eq (v : Int32) : fX10_isAt v = some (if 0 ≤ v.toInt ∧ v.toInt ≤ 1000 then 1 else 0) := by
  unfold fX10_isAt
  simp only [in_eq, obS, nw10, if_true, Int32.toInt_toInt64]
  rfl
theorem isCorner_eq (a b : Int32) : fX9_isCorner a b = some (if (0 ≤ a.toInt ∧ a.toInt ≤ 1000) ∧ (0 ≤ b.toInt ∧ b.toInt ≤ 1000) then 1 else 0) := by
  unfold fX9_isCorner
  simp only [within_eq, obS, i10]
  by_cases h1 : (0 : Int32).toInt ≤ a.toInt ∧ a.toInt ≤ (1000 : Int32).toInt
  · rw [if_neg (not_not_intro h1)]
    by_cases h2 : (0 : Int32).toInt ≤ b.toInt ∧ b.toInt ≤ (1000 : Int32).toInt
    · rw [if_neg (not_not_intro h2), if_pos ⟨h1, h2⟩]
    · rw [if_pos h2, if_neg (fun h => h2 h.2)]
  · rw [if_pos h1, if_neg (fun h => h1 h.1)]
theorem e_corner {σ τ : St} (h : Rel σ τ) (a b : Int32) : Two (fX9_corner σ a b) (fX10_corner τ a b) := by
  obtain ⟨⟨hD, hcr, hro, hrw, ⟨n, hn, e1, e2, hw⟩⟩, hB, hC⟩ := id h
  unfold fX9_corner fX10_corner fX3_append
  simp only [isCorner_eq, isAt_eq, obS, i10, gi_si, gi_sl, gi_saf, gi_sbf, gi_sn, gi_sa, gi_sb, gl_si, gl_sl, gl_saf, gl_sa, ga_si, ga_sl, ga_saf, ga_sbf, ga_sn, ga_sa, ga_sb, gb_si, gb_sbf, gb_sn, gb_sa, gb_sb, gn_si, gn_sa, gn_sb, gn_sbf, gn_saf, gn_sn, reduceIte, Nat.reduceEqDiff, Nat.reduceAdd, e1, e2]
  refine Two.ite2 (fun _ => Two.same h _) (fun c1 c2 => ?_)
  obtain ⟨k1, rfl, l1, u1⟩ := t_nat' (by decide) c1
  obtain ⟨k2, rfl, l2, u2⟩ := t_nat' (by decide) c2
  by_cases h8 : n = 8
  · subst h8
    exact Two.same h _
  · have hlt : n < 8 := by omega
    rw [if_pos (show nI n < (8 : Int32) from nI_lt hlt (by decide)), if_neg (show ¬ nI n = (8 : Int32) from fun e => h8 (nI_inj (by omega) (by decide) (show nI n = nI 8 from e)))]
    simp only [if_pos (inx' hlt (show 8 < 2 ^ 31 by decide)), nI_clamp (show n < 2 ^ 31 by omega), obS]
    refine Two.mk' ?_
    refine ⟨⟨hD, hcr, hro, hrw, ⟨n + 1, by omega, nI_1 n, nI_1 n, fun j hj => ?_⟩⟩, hB, hC⟩
    by_cases hj' : j = n
    · subst hj'
      exact ⟨k1, k2, by omega, by omega, pk_us, pk_us, pk_us, pk_us⟩
    · obtain ⟨x, y, h1, h2, h3, h4, h5, h6⟩ := hw j (by omega)
      exact ⟨x, y, h1, h2, (pk_un hj').trans h3, (pk_un hj').trans h4, (pk_un hj').trans h5, (pk_un hj').trans h6⟩
theorem e_stand {σ τ : St} (h : Rel σ τ) (a b d : Int32) : Two (fX9_stand σ a b d) (fX10_stand τ a b d) := by
  obtain ⟨hA, ⟨hst, hk, ⟨n, r, g, hn, e1, e2, hr, hg, hs, hpr⟩, hcal⟩, hw, hp, hm, hz, hl⟩ := id h
  unfold fX9_stand fX10_stand fX7_build
  simp only [within_eq, in_eq, obS, i10, i01, Int32.toInt_toInt64, isPlace_eq, forget_eq, gi_si, gi_sl, gi_saf, gi_sbf, gi_sn, gi_sa, gi_sb, gl_si, gl_sl, gl_saf, gl_sa, ga_si, ga_sl, ga_saf, ga_sbf, ga_sn, ga_sa, ga_sb, gb_si, gb_sbf, gb_sn, gb_sa, gb_sb, gn_si, gn_sa, gn_sb, gn_sbf, gn_saf, gn_sn, reduceIte, Nat.reduceEqDiff, Nat.reduceAdd, e1, e2]
  refine Two.ite2 (fun _ => Two.same h _) (fun c1 c2 => ?_)
  refine Two.ite (fun _ => Two.same h _) (fun c3 => ?_)
  obtain ⟨k1, rfl, l1, u1⟩ := t_nat' (a := 0) (b := 30) (by decide) c1
  obtain ⟨k2, rfl, l2, u2⟩ := t_nat' (a := 0) (b := 12) (by decide) c2
  obtain ⟨k3, rfl, l3, u3⟩ := t_nat (a := 0) (b := 16383) (by decide) c3
  by_cases h8 : n = 5
  · subst h8
    refine Two.mk' ?_
    exact ⟨hA, ⟨hst, hk, ⟨5, r, g, hn, e1, e2, hr, hg, hs, hpr⟩, hcal⟩, rw0 rfl, rp0 rfl, hm, rz0 rfl, hl⟩
  · have hlt : n < 5 := by omega
    rw [if_pos (show nI n < (5 : Int32) from nI_lt hlt (by decide)), if_neg (show ¬ nI n = (5 : Int32) from fun e => h8 (nI_inj (by omega) (by decide) (show nI n = nI 5 from e)))]
    simp only [if_pos (inx' hlt (show 5 < 2 ^ 31 by decide)), nI_clamp (show n < 2 ^ 31 by omega), obS]
    refine Two.mk' ?_
    refine ⟨hA, ⟨hst, hk, ⟨n + 1, r, g, by omega, nI_1 n, nI_1 n, hr, hg, fun j hj => ?_, hpr⟩, hcal⟩, rw0 rfl, rp0 rfl, rpm0 rfl, rz0 rfl, hl⟩
    by_cases hj' : j = n
    · subst hj'
      exact ⟨k1, k2, k3, by omega, by omega, by omega, pk_us, pk_us, pk_us, pk_us, pk_us, pk_us⟩
    · obtain ⟨x, z, q, h1, h2, h3, h4, h5, h6, h7, h8, h9⟩ := hs j (by omega)
      exact ⟨x, z, q, h1, h2, h3, (pk_un hj').trans h4, (pk_un hj').trans h5, (pk_un hj').trans h6, (pk_un hj').trans h7, (pk_un hj').trans h8, (pk_un hj').trans h9⟩
