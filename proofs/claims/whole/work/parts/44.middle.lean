theorem wgC_bd {z x y : Nat → Nat} {n : Nat} (hz : ∀ j, j < n → z j ≤ 1000) (hx : ∀ j, j < n → x j ≤ 1000) (hy : ∀ j, j < n → y j ≤ 1000) : ∀ k, k ≤ n → -(2000000000 * (k : Int)) ≤ wgC z x y n k ∧ wgC z x y n k ≤ 2000000000 * (k : Int)
  | 0, _ => by simp [wgC]
  | k + 1, hk => by
    have h1 := wgC_bd hz hx hy k (by omega)
    have h2 := crC_bd (show k < n by omega) hx hy
    have h3 := hz k (by omega)
    have h4 := hz _ (nxC_lt (show k < n by omega))
    rw [wgC]
    generalize crC x y n k = c at h2
    generalize hs : (z k : Int) + z (nxC n k) = s
    have h5 : 0 ≤ s ∧ s ≤ 2000 := by omega
    have h6 : c * s ≤ 1000000 * 2000 := by
      rcases Int.le_total 0 c with q | q
      · exact Int.mul_le_mul h2.2 h5.2 h5.1 (by omega)
      · have := Int.mul_nonneg (show 0 ≤ -c by omega) h5.1
        have e : -c * s = -(c * s) := Int.neg_mul c s
        omega
    have h7 : -(1000000 * 2000) ≤ c * s := by
      rcases Int.le_total 0 c with q | q
      · have := Int.mul_nonneg q h5.1
        omega
      · have := Int.mul_le_mul (show -c ≤ 1000000 by omega) h5.2 h5.1 (by omega)
        have e : -c * s = -(c * s) := Int.neg_mul c s
        omega
    omega
theorem aboveX {σ : St} {n : Nat} {x y : Nat → Nat} (e : gi σ 23 = nI n) (hn : n ≤ 8) (hx : ∀ j, j < n → x j ≤ 1000 ∧ ga σ 41 j = nI (x j)) (hy : ∀ j, j < n → y j ≤ 1000 ∧ ga σ 42 j = nI (y j)) : fX3_middleX σ = some (lI (if 0 ≤ twC x y n n then wgC x x y n n else - wgC x x y n n)) ∧ fX3_middleY σ = some (lI (if 0 ≤ twC x y n n then wgC y x y n n else - wgC y x y n n)) := by
  have hb := twC_bd (fun j hj => (hx j hj).1) (fun j hj => (hy j hj).1) n (Nat.le_refl n)
  constructor
  · unfold fX3_middleX fX3_middleAbove_xs
    rw [until0 (fun f k => fX3_middleAbove_xs_5 (fX3_middleAbove_xs_5_k σ) σ f (lI (wgC x x y n k)) (nI k)) (fX3_middleAbove_xs_5_k σ (lI (wgC x x y n n)) (nI n)) n (by omega) (fun f => by
      show fX3_middleAbove_xs_5 _ _ _ _ _ = _
      rw [fX3_middleAbove_xs_5, e, if_pos (nI_le (Nat.le_refl n) (by omega))]) (fun f k hk => by
      show fX3_middleAbove_xs_5 _ _ _ _ _ = fX3_middleAbove_xs_5 _ _ _ _ _
      have h3 := nxC_lt hk
      have a1 := (hx k hk).1
      have a3 := (hx _ h3).1
      rw [fX3_middleAbove_xs_5, e, if_neg (nI_ge hk (by omega)), afterX e hn hk, crossX e hn hk hx hy]
      simp only [obS, if_pos (inx' (show k < 8 by omega) (by decide)), if_pos (inx' (show nxC n k < 8 by omega) (by decide)), nI_clamp (show k < 2 ^ 31 by omega), nI_clamp (show nxC n k < 2 ^ 31 by omega), (hx k hk).2, (hx _ h3).2, nI_add, nI_lI (show x k + x (nxC n k) < 2 ^ 31 by omega), lI_mul, lI_add, nI_1]
      rw [wgC, Int.mul_comm, Int.natCast_add]) |> fun h => (show fX3_middleAbove_xs_5 (fX3_middleAbove_xs_5_k σ) σ KF (0 : Int64) (0 : Int32) = fX3_middleAbove_xs_5_k σ (lI (wgC x x y n n)) (nI n) from h)]
    unfold fX3_middleAbove_xs_5_k
    rw [twX e hn hx hy]
    simp only [obS]
    by_cases c : 0 ≤ twC x y n n
    · rw [if_pos ((lI_pos (by omega) (by omega)).2.mpr c), if_pos c, obS]
    · rw [if_neg (fun q => c ((lI_pos (by omega) (by omega)).2.mp q)), if_neg c, obS, lI_neg]
  · unfold fX3_middleY fX3_middleAbove_ys
    rw [until0 (fun f k => fX3_middleAbove_ys_5 (fX3_middleAbove_ys_5_k σ) σ f (lI (wgC y x y n k)) (nI k)) (fX3_middleAbove_ys_5_k σ (lI (wgC y x y n n)) (nI n)) n (by omega) (fun f => by
      show fX3_middleAbove_ys_5 _ _ _ _ _ = _
      rw [fX3_middleAbove_ys_5, e, if_pos (nI_le (Nat.le_refl n) (by omega))]) (fun f k hk => by
      show fX3_middleAbove_ys_5 _ _ _ _ _ = fX3_middleAbove_ys_5 _ _ _ _ _
      have h3 := nxC_lt hk
      have a1 := (hy k hk).1
      have a3 := (hy _ h3).1
      rw [fX3_middleAbove_ys_5, e, if_neg (nI_ge hk (by omega)), afterX e hn hk, crossX e hn hk hx hy]
      simp only [obS, if_pos (inx' (show k < 8 by omega) (by decide)), if_pos (inx' (show nxC n k < 8 by omega) (by decide)), nI_clamp (show k < 2 ^ 31 by omega), nI_clamp (show nxC n k < 2 ^ 31 by omega), (hy k hk).2, (hy _ h3).2, nI_add, nI_lI (show y k + y (nxC n k) < 2 ^ 31 by omega), lI_mul, lI_add, nI_1]
      rw [wgC, Int.mul_comm, Int.natCast_add]) |> fun h => (show fX3_middleAbove_ys_5 (fX3_middleAbove_ys_5_k σ) σ KF (0 : Int64) (0 : Int32) = fX3_middleAbove_ys_5_k σ (lI (wgC y x y n n)) (nI n) from h)]
    unfold fX3_middleAbove_ys_5_k
    rw [twX e hn hx hy]
    simp only [obS]
    by_cases c : 0 ≤ twC x y n n
    · rw [if_pos ((lI_pos (by omega) (by omega)).2.mpr c), if_pos c, obS]
    · rw [if_neg (fun q => c ((lI_pos (by omega) (by omega)).2.mp q)), if_neg c, obS, lI_neg]
theorem belowX {σ : St} {n : Nat} {x y : Nat → Nat} (e : gi σ 23 = nI n) (hn : n ≤ 8) (hx : ∀ j, j < n → x j ≤ 1000 ∧ ga σ 41 j = nI (x j)) (hy : ∀ j, j < n → y j ≤ 1000 ∧ ga σ 42 j = nI (y j)) : fX3_middleBelow σ = some (lI (3 * ((twC x y n n).natAbs : Int))) := by
  have hb := twC_bd (fun j hj => (hx j hj).1) (fun j hj => (hy j hj).1) n (Nat.le_refl n)
  unfold fX3_middleBelow
  rw [twX e hn hx hy]
  simp only [obS]
  rw [absX (by omega) (by omega), show (3 : Int64) = lI 3 from rfl, lI_mul]
theorem hasX {σ : St} {n : Nat} {x y : Nat → Nat} (e : gi σ 23 = nI n) (hn : n ≤ 8) (hx : ∀ j, j < n → x j ≤ 1000 ∧ ga σ 41 j = nI (x j)) (hy : ∀ j, j < n → y j ≤ 1000 ∧ ga σ 42 j = nI (y j)) : fX3_hasMiddle σ = some (if 3 ≤ n ∧ twC x y n n ≠ 0 then 1 else 0) := by
  have hb := twC_bd (fun j hj => (hx j hj).1) (fun j hj => (hy j hj).1) n (Nat.le_refl n)
  unfold fX3_hasMiddle
  rw [e, twX e hn hx hy]
  simp only [obS]
  have hz : lI (twC x y n n) = 0 ↔ twC x y n n = 0 := by
    constructor
    · intro q
      have := congrArg Int64.toInt q
      rw [lI_toInt (by omega) (by omega)] at this
      exact this
    · intro q; rw [q]; rfl
  by_cases c : n < 3
  · rw [if_pos (show nI n < (3 : Int32) from nI_lt (b := 3) c (by decide)), if_neg (by omega)]
  · rw [if_neg (show ¬ nI n < (3 : Int32) from nI_nlt (b := 3) (by omega) (by omega))]
    by_cases c2 : twC x y n n = 0
    · rw [if_pos (hz.mpr c2), if_neg (fun q => q.2 c2)]
    · rw [if_neg (fun q => c2 (hz.mp q)), if_pos ⟨by omega, c2⟩]
theorem OTL.same {σ τ : St} (h : Rel σ τ) (r : Int64) : OTL σ (some r) (some (r, τ)) := ⟨r, τ, rfl, rfl, h⟩
theorem OTL.ite {σ : St} {c : Prop} {i1 i2 : Decidable c} {x x' : Option Int64} {y y' : Option (Int64 × St)} (h1 : c → OTL σ x y) (h2 : ¬ c → OTL σ x' y') : OTL σ (@_root_.ite _ c i1 x x') (@_root_.ite _ c i2 y y') := by
  by_cases h : c
  · rw [if_pos h, if_pos h]; exact h1 h
  · rw [if_neg h, if_neg h]; exact h2 h
/-- a fraction in lowest terms: the class's from the signed one, the reference's from its own -/
theorem low_both {σ τ : St} (h : Rel σ τ) {a b : Int} (h1 : -2 ^ 49 ≤ a) (h2 : a < 2 ^ 49) (h3 : -2 ^ 49 ≤ b) (h4 : b < 2 ^ 49) (hb : b ≠ 0) (p : Int32) : OTL σ ((fX9_ofLowest (lI (if 0 ≤ b then a else -a)) (lI (b.natAbs : Int)) p).bind (fun r => some r)) ((fX10_lowest τ (lI a) (lI b)).bind (fun q => if p = 0 then some (gl q 3, q) else some (gl q 4, q))) := by
  have hz : (if 0 ≤ b then a else -a).natAbs = a.natAbs := by
    by_cases c : 0 ≤ b
    · rw [if_pos c]
    · rw [if_neg c]; omega
  have hz2 : -2 ^ 50 ≤ (if 0 ≤ b then a else -a) ∧ (if 0 ≤ b then a else -a) < 2 ^ 50 := by
    by_cases c : 0 ≤ b
    · rw [if_pos c]; omega
    · rw [if_neg c]; omega
  rw [lI_nat, lowX hz2.1 hz2.2 (show 0 < b.natAbs by omega) (by omega), lowM (by omega) (by omega) (by omega) (by omega) hb, hz]
  simp only [obS]
  by_cases c : p = 0
  · rw [if_pos c, if_pos c]
    exact OTL.same (show Rel σ (sl (sl τ 3 _) 4 _) from h) _
  · rw [if_neg c, if_neg c]
    exact OTL.same (show Rel σ (sl (sl τ 3 _) 4 _) from h) _
