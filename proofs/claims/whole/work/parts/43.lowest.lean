theorem lI_nat (n : Nat) : lI (n : Int) = lN n := Int64.ofInt_eq_ofNat
theorem gcd_st (u v : Nat) : Nat.gcd u v = Nat.gcd v (u % v) := by
  rw [Nat.gcd_comm u v, Nat.gcd_rec, Nat.gcd_comm]
theorem half_mod {v r : Nat} (h0 : 0 < r) (h : r < v) : 2 * (v % r) < v := by
  have h1 := Nat.mod_lt v h0
  have h2 := Nat.div_add_mod v r
  have h3 : 1 ≤ v / r := (Nat.one_le_div_iff h0).mpr (by omega)
  have h4 : r * 1 ≤ r * (v / r) := Nat.mul_le_mul_left r h3
  omega
theorem lN_ne0 {v : Nat} (h0 : 0 < v) (h : v < 2 ^ 63) : ¬ lN v = 0 := fun e => by
  have := (pk_lEQ h (by decide)).mp (show lN v = lN 0 from e)
  omega
theorem euclX (a b : Int64) : ∀ (k u v c f : Nat), v < 2 ^ k → c + (2 * k + 1) ≤ 200 → 2 * k + 1 ≤ f → u < 2 ^ 62 → v < 2 ^ 62 → fX9_commonDivisor_9 (fX9_commonDivisor_9_k a b) a b f (lN u) (lN v) (nI c) = some (lN (Nat.gcd u v)) := by
  have hz : ∀ (u c f : Nat), c < 200 → 1 ≤ f → fX9_commonDivisor_9 (fX9_commonDivisor_9_k a b) a b f (lN u) (lN 0) (nI c) = some (lN (Nat.gcd u 0)) := by
    intro u c f h1 h2
    cases f with
    | zero => omega
    | succ f =>
      rw [fX9_commonDivisor_9, if_neg (show ¬ (200 : Int32) ≤ nI c from nI_ge (b := 200) h1 (by decide)), if_pos (show lN 0 = (0 : Int64) from rfl), Nat.gcd_zero_right]
      rfl
  have hst : ∀ (u v c f : Nat), c < 200 → 0 < v → u < 2 ^ 62 → v < 2 ^ 62 → fX9_commonDivisor_9 (fX9_commonDivisor_9_k a b) a b (f + 1) (lN u) (lN v) (nI c) = fX9_commonDivisor_9 (fX9_commonDivisor_9_k a b) a b f (lN v) (lN (u % v)) (nI (c + 1)) := by
    intro u v c f h1 h2 h3 h4
    rw [fX9_commonDivisor_9, if_neg (show ¬ (200 : Int32) ≤ nI c from nI_ge (b := 200) h1 (by decide)), if_neg (show ¬ lN v = (0 : Int64) from lN_ne0 h2 (by omega)), if_neg (lN_ne0 h2 (by omega)), pk_lRem (by omega) h2 (by omega), nI_1]
  intro k
  induction k with
  | zero =>
    intro u v c f h1 h2 h3 h4 h5
    rw [show v = 0 by omega]
    exact hz u c f (by omega) (by omega)
  | succ k ih =>
    intro u v c f h1 h2 h3 h4 h5
    by_cases hv : v = 0
    · rw [hv]; exact hz u c f (by omega) (by omega)
    · obtain ⟨f1, rfl⟩ : ∃ f1, f = f1 + 1 := ⟨f - 1, by omega⟩
      have hr := Nat.mod_lt u (show 0 < v by omega)
      rw [hst u v c f1 (by omega) (by omega) h4 h5, gcd_st u v]
      by_cases hr0 : u % v = 0
      · rw [hr0]; exact hz v (c + 1) f1 (by omega) (by omega)
      · obtain ⟨f2, rfl⟩ : ∃ f2, f1 = f2 + 1 := ⟨f1 - 1, by omega⟩
        have hh := half_mod (show 0 < u % v by omega) hr
        rw [hst v (u % v) (c + 1) f2 (by omega) (by omega) h5 (by omega), gcd_st v (u % v)]
        exact ih (u % v) (v % (u % v)) (c + 1 + 1) f2 (by rw [Nat.pow_succ] at h1; omega) (by omega) (by omega) (by omega) (by omega)
theorem euclM (τ : St) (K : Int64 → Int64 → Option St) (a b : Int64) : ∀ (k u v f : Nat), v < 2 ^ k → 2 * k + 1 ≤ f → u < 2 ^ 62 → v < 2 ^ 62 → fX10_lowest_12 K τ a b f (lN u) (lN v) = K (lN (Nat.gcd u v)) 0 := by
  have hz : ∀ (u f : Nat), 1 ≤ f → fX10_lowest_12 K τ a b f (lN u) (lN 0) = K (lN (Nat.gcd u 0)) 0 := by
    intro u f h2
    cases f with
    | zero => omega
    | succ f =>
      rw [fX10_lowest_12, if_pos (show lN 0 = (0 : Int64) from rfl), Nat.gcd_zero_right]
      rfl
  have hst : ∀ (u v f : Nat), 0 < v → u < 2 ^ 62 → v < 2 ^ 62 → fX10_lowest_12 K τ a b (f + 1) (lN u) (lN v) = fX10_lowest_12 K τ a b f (lN v) (lN (u % v)) := by
    intro u v f h2 h3 h4
    rw [fX10_lowest_12, if_neg (show ¬ lN v = (0 : Int64) from lN_ne0 h2 (by omega)), if_neg (lN_ne0 h2 (by omega)), pk_lRem (by omega) h2 (by omega)]
  intro k
  induction k with
  | zero =>
    intro u v f h1 h3 h4 h5
    rw [show v = 0 by omega]
    exact hz u f (by omega)
  | succ k ih =>
    intro u v f h1 h3 h4 h5
    by_cases hv : v = 0
    · rw [hv]; exact hz u f (by omega)
    · obtain ⟨f1, rfl⟩ : ∃ f1, f = f1 + 1 := ⟨f - 1, by omega⟩
      have hr := Nat.mod_lt u (show 0 < v by omega)
      rw [hst u v f1 (by omega) h4 h5, gcd_st u v]
      by_cases hr0 : u % v = 0
      · rw [hr0]; exact hz v f1 (by omega)
      · obtain ⟨f2, rfl⟩ : ∃ f2, f1 = f2 + 1 := ⟨f1 - 1, by omega⟩
        have hh := half_mod (show 0 < u % v by omega) hr
        rw [hst v (u % v) f2 (by omega) h5 (by omega), gcd_st v (u % v)]
        exact ih (u % v) (v % (u % v)) f2 (by rw [Nat.pow_succ] at h1; omega) (by omega) (by omega) (by omega)
/-- lowest terms, both ways: z over w (w > 0) -/
theorem lowX {z : Int} {w : Nat} (h1 : -2 ^ 50 ≤ z) (h2 : z < 2 ^ 50) (hw : 0 < w) (hw' : w < 2 ^ 50) (p : Int32) : fX9_ofLowest (lI z) (lN w) p = some (if p = 0 then lI z / lN (Nat.gcd z.natAbs w) else lN w / lN (Nat.gcd z.natAbs w)) := by
  have hg : 0 < Nat.gcd z.natAbs w := Nat.gcd_pos_of_pos_right _ hw
  have hg2 : Nat.gcd z.natAbs w ≤ w := Nat.gcd_le_right _ hw
  unfold fX9_ofLowest fX9_commonDivisor
  rw [absX (by omega) (by omega), lI_nat, show (0 : Int32) = nI 0 from rfl, euclX _ _ 50 z.natAbs w 0 KF hw' (by omega) (Nat.le_trans (by omega) KF_ge) (by omega) (by omega)]
  simp only [obS, fX9_cut]
  have hne := lN_ne0 hg (by omega)
  simp only [if_neg (show ¬ lN (Nat.gcd z.natAbs w) = (0 : Int64) from hne), obS]
  by_cases c : p = nI 0
  · rw [if_pos c, if_pos c]
  · rw [if_neg c, if_neg c]
theorem lowM {τ : St} {a b : Int} (h1 : -2 ^ 50 ≤ a) (h2 : a < 2 ^ 50) (h3 : -2 ^ 50 ≤ b) (h4 : b < 2 ^ 50) (hb : b ≠ 0) : fX10_lowest τ (lI a) (lI b) = some (sl (sl τ 3 (lI (if 0 ≤ b then a else -a) / lN (Nat.gcd a.natAbs b.natAbs))) 4 (lN b.natAbs / lN (Nat.gcd a.natAbs b.natAbs))) := by
  have hg : 0 < Nat.gcd a.natAbs b.natAbs := Nat.gcd_pos_of_pos_right _ (by omega)
  have hg2 : Nat.gcd a.natAbs b.natAbs ≤ b.natAbs := Nat.gcd_le_right _ (by omega)
  have hne := lN_ne0 hg (by omega)
  unfold fX10_lowest fX10_size
  rw [absM (by omega) (by omega), absM (by omega) (by omega)]
  simp only [obS]
  rw [lI_nat, lI_nat, euclM τ _ _ _ 51 a.natAbs b.natAbs KF (by omega) (Nat.le_trans (by omega) KF_ge) (by omega) (by omega)]
  unfold fX10_lowest_12_k
  by_cases c : 0 ≤ b
  · rw [if_pos ((lI_pos (by omega) (by omega)).2.mpr c), if_neg hne, if_neg hne, if_pos c, show (1 : Int64) = lI 1 from rfl, lI_mul, lI_mul, Int.one_mul, Int.one_mul, ← lI_nat b.natAbs, show (b.natAbs : Int) = b by omega]
  · rw [if_neg (fun q => c ((lI_pos (by omega) (by omega)).2.mp q)), if_neg hne, if_neg hne, if_neg c, show (-1 : Int64) = lI (-1) from rfl, lI_mul, lI_mul, ← lI_nat b.natAbs, show (b.natAbs : Int) = -1 * b by omega, show -1 * a = -a by omega]
