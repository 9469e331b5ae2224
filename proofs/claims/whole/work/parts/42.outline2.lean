def s3 (τ : St) (a b c : Int64) : St := sl (sl (sl τ 0 a) 1 b) 2 c
theorem s3_step (τ : St) (a b c a' b' c' : Int64) : sl (sl (sl (s3 τ a b c) 2 c') 0 a') 1 b' = s3 τ a' b' c' := by
  unfold s3 sl
  refine Prod.ext rfl (Prod.ext (funext fun j => ?_) rfl)
  show (if j = 1 then b' else if j = 0 then a' else if j = 2 then c' else if j = 2 then c else if j = 1 then b else if j = 0 then a else τ.2.1 j) = if j = 2 then c' else if j = 1 then b' else if j = 0 then a' else τ.2.1 j
  by_cases h0 : j = 0
  · subst h0; rfl
  · by_cases h1 : j = 1
    · subst h1; rfl
    · by_cases h2 : j = 2
      · subst h2; rfl
      · rw [if_neg h1, if_neg h0, if_neg h2, if_neg h2, if_neg h1, if_neg h0, if_neg h2, if_neg h1, if_neg h0]
theorem rel_s3 {σ τ : St} (h : Rel σ τ) (a b c : Int64) : Rel σ (s3 τ a b c) := h
theorem sumsM {τ : St} {n : Nat} {x y : Nat → Nat} (e : gi τ 20 = nI n) (hn : n ≤ 8) (hx : ∀ j, j < n → x j ≤ 1000 ∧ ga τ 25 j = nI (x j)) (hy : ∀ j, j < n → y j ≤ 1000 ∧ ga τ 26 j = nI (y j)) : fX10_findSums τ = some (if 3 ≤ n ∧ twC x y n n ≠ 0 then 1 else 0, s3 τ (lI (wgC x x y n n)) (lI (wgC y x y n n)) (lI (twC x y n n))) := by
  unfold fX10_findSums
  refine Eq.trans (until0 (fun f k => fX10_findSums_17 fX10_findSums_17_k f (s3 τ (lI (wgC x x y n k)) (lI (wgC y x y n k)) (lI (twC x y n k))) (nI k)) (fX10_findSums_17_k (s3 τ (lI (wgC x x y n n)) (lI (wgC y x y n n)) (lI (twC x y n n))) (nI n)) n (by omega) (fun f => ?_) (fun f k hk => ?_)) ?_
  · show fX10_findSums_17 _ _ _ _ = _
    rw [fX10_findSums_17, show gi (s3 τ (lI (wgC x x y n n)) (lI (wgC y x y n n)) (lI (twC x y n n))) 20 = nI n from e, if_pos (nI_le (Nat.le_refl n) (by omega))]
  · show fX10_findSums_17 _ _ _ _ = fX10_findSums_17 _ _ _ _
    have h3 := nxC_lt hk
    have a1 := hx k hk
    have a2 := hy k hk
    have a3 := hx _ h3
    have a4 := hy _ h3
    rw [fX10_findSums_17, show gi (s3 τ (lI (wgC x x y n k)) (lI (wgC y x y n k)) (lI (twC x y n k))) 20 = nI n from e, if_neg (nI_ge hk (by omega))]
    have hJ : ∀ (kk : St → Int32 → Option (Int32 × St)), fX10_findSums_J42 kk (s3 τ (lI (wgC x x y n k)) (lI (wgC y x y n k)) (lI (twC x y n k))) (nI k) (nI (nxC n k)) = kk (s3 τ (lI (wgC x x y n (k + 1))) (lI (wgC y x y n (k + 1))) (lI (twC x y n (k + 1)))) (nI (k + 1)) := by
      intro kk
      unfold fX10_findSums_J42
      simp only [if_pos (inx' (show k < 8 by omega) (by decide)), if_pos (inx' (show nxC n k < 8 by omega) (by decide)), nI_clamp (show k < 2 ^ 31 by omega), nI_clamp (show nxC n k < 2 ^ 31 by omega), nI_1, s3_step]
      have g25 : ∀ a b c : Int64, ga (s3 τ a b c) 25 = ga τ 25 := fun _ _ _ => rfl
      have g26 : ∀ a b c : Int64, ga (s3 τ a b c) 26 = ga τ 26 := fun _ _ _ => rfl
      have l0 : ∀ a b c : Int64, gl (s3 τ a b c) 0 = a := fun _ _ _ => rfl
      have l1 : ∀ a b c : Int64, gl (s3 τ a b c) 1 = b := fun _ _ _ => rfl
      have l2 : ∀ a b c : Int64, gl (s3 τ a b c) 2 = c := fun _ _ _ => rfl
      simp only [gl_sl, ga_sl, reduceIte, Nat.reduceEqDiff, g25, g26, l0, l1, l2, a1.2, a2.2, a3.2, a4.2, nI_lI (show x k < 2 ^ 31 by omega), nI_lI (show y k < 2 ^ 31 by omega), nI_lI (show x (nxC n k) < 2 ^ 31 by omega), nI_lI (show y (nxC n k) < 2 ^ 31 by omega), nI_add, nI_lI (show x k + x (nxC n k) < 2 ^ 31 by omega), nI_lI (show y k + y (nxC n k) < 2 ^ 31 by omega), lI_mul, lI_sub, lI_add]
      simp only [wgC, twC, crC, Int.natCast_add]
    by_cases c : n ≤ k + 1
    · rw [if_pos (show nI k + 1 = nI n by rw [nI_1, show n = k + 1 by omega])]
      have hz : nxC n k = 0 := if_pos c
      have := hJ (fun σ17' v1_17' => fX10_findSums_17 fX10_findSums_17_k f σ17' v1_17')
      rw [hz] at this
      exact this
    · rw [if_neg (show ¬ nI k + 1 = nI n from fun q => c (by rw [nI_1] at q; have := nI_inj (by omega) (by omega) q; omega))]
      have hz : nxC n k = k + 1 := if_neg c
      have := hJ (fun σ17' v1_17' => fX10_findSums_17 fX10_findSums_17_k f σ17' v1_17')
      rw [hz] at this
      rw [nI_1]
      exact this
  · have hb := twC_bd (fun j hj => (hx j hj).1) (fun j hj => (hy j hj).1) n (Nat.le_refl n)
    unfold fX10_findSums_17_k
    rw [show gi (s3 τ (lI (wgC x x y n n)) (lI (wgC y x y n n)) (lI (twC x y n n))) 20 = nI n from e, show gl (s3 τ (lI (wgC x x y n n)) (lI (wgC y x y n n)) (lI (twC x y n n))) 2 = lI (twC x y n n) from rfl]
    have hz : lI (twC x y n n) = 0 ↔ twC x y n n = 0 := by
      constructor
      · intro q
        have := congrArg Int64.toInt q
        rw [lI_toInt (by omega) (by omega)] at this
        exact this
      · intro q; rw [q]; rfl
    by_cases c : n ≤ 2
    · rw [if_pos (show nI n ≤ (2 : Int32) from nI_le (b := 2) c (by decide)), if_neg (by omega)]
    · rw [if_neg (show ¬ nI n ≤ (2 : Int32) from nI_ge (a := 2) (by omega) (by omega))]
      by_cases c2 : twC x y n n = 0
      · rw [if_pos (hz.mpr c2), if_neg (fun q => q.2 c2)]
      · rw [if_neg (fun q => c2 (hz.mp q)), if_pos ⟨by omega, c2⟩]
theorem lI_pos {z : Int} (h1 : -2 ^ 62 ≤ z) (h2 : z < 2 ^ 62) : ((0 : Int64) < lI z ↔ 0 < z) ∧ ((0 : Int64) ≤ lI z ↔ 0 ≤ z) := by
  have e : (lI z).toInt = z := lI_toInt (by omega) (by omega)
  constructor
  · rw [Int64.lt_iff_toInt_lt, e]; exact Iff.rfl
  · rw [Int64.le_iff_toInt_le, e]; exact Iff.rfl
theorem absX {z : Int} (h1 : -2 ^ 62 ≤ z) (h2 : z < 2 ^ 62) : (if 0 < lI z then lI z else - lI z) = lI (z.natAbs : Int) := by
  by_cases c : 0 < z
  · rw [if_pos ((lI_pos h1 h2).1.mpr c)]; congr 1; omega
  · rw [if_neg (fun q => c ((lI_pos h1 h2).1.mp q)), lI_neg]; congr 1; omega
theorem absM {z : Int} (h1 : -2 ^ 62 ≤ z) (h2 : z < 2 ^ 62) : (if (0 : Int64) ≤ lI z then some (lI z) else some ((0 : Int64) - lI z)) = some (lI (z.natAbs : Int)) := by
  by_cases c : 0 ≤ z
  · rw [if_pos ((lI_pos h1 h2).2.mpr c)]; congr 2; omega
  · rw [if_neg (fun q => c ((lI_pos h1 h2).2.mp q)), lI_0, lI_sub]; congr 2; omega
theorem out_rows {σ τ : St} {n : Nat} (hw : ∀ j, j < n → ∃ x y : Nat, x ≤ 1000 ∧ y ≤ 1000 ∧ ga σ 41 j = nI x ∧ ga τ 25 j = nI x ∧ ga σ 42 j = nI y ∧ ga τ 26 j = nI y) : (∀ j, j < n → (ga σ 41 j).toNatClampNeg ≤ 1000 ∧ ga σ 41 j = nI (ga σ 41 j).toNatClampNeg) ∧ (∀ j, j < n → (ga σ 42 j).toNatClampNeg ≤ 1000 ∧ ga σ 42 j = nI (ga σ 42 j).toNatClampNeg) ∧ (∀ j, j < n → (ga σ 41 j).toNatClampNeg ≤ 1000 ∧ ga τ 25 j = nI (ga σ 41 j).toNatClampNeg) ∧ (∀ j, j < n → (ga σ 42 j).toNatClampNeg ≤ 1000 ∧ ga τ 26 j = nI (ga σ 42 j).toNatClampNeg) := by
  refine ⟨fun j hj => ?_, fun j hj => ?_, fun j hj => ?_, fun j hj => ?_⟩ <;> obtain ⟨x, y, a1, a2, a3, a4, a5, a6⟩ := hw j hj
  · rw [a3, nI_clamp (by omega)]; exact ⟨a1, rfl⟩
  · rw [a5, nI_clamp (by omega)]; exact ⟨a2, rfl⟩
  · rw [a3, nI_clamp (by omega)]; exact ⟨a1, a4⟩
  · rw [a5, nI_clamp (by omega)]; exact ⟨a2, a6⟩
theorem e_area {σ τ : St} (h : Rel σ τ) : OT σ (fX9_area σ) (fX10_area τ) := by
  obtain ⟨⟨hD, hcr, hro, hrw, ⟨n, hn, e1, e2, hw⟩⟩, hB, hC⟩ := id h
  obtain ⟨o1, o2, o3, o4⟩ := out_rows hw
  have hb := twC_bd (fun j hj => (o1 j hj).1) (fun j hj => (o2 j hj).1) n (Nat.le_refl n)
  unfold fX9_area fX10_area
  rw [sumsM e2 hn o3 o4, twX e1 hn o1 o2]
  simp only [obS]
  rw [e1, show ∀ a b c : Int64, gi (s3 τ a b c) 20 = gi τ 20 from fun _ _ _ => rfl, show ∀ a b c : Int64, gl (s3 τ a b c) 2 = c from fun _ _ _ => rfl, e2, absX (by omega) (by omega)]
  refine OT.ite (fun _ => ?_) (fun _ => OT.same (rel_s3 h _ _ _) _)
  have hA := absM (z := twC (fun j => (ga σ 41 j).toNatClampNeg) (fun j => (ga σ 42 j).toNatClampNeg) n n) (by omega) (by omega)
  by_cases c : (0 : Int64) ≤ lI (twC (fun j => (ga σ 41 j).toNatClampNeg) (fun j => (ga σ 42 j).toNatClampNeg) n n)
  · rw [if_pos c] at hA ⊢
    rw [Option.some.inj hA]
    exact OT.same (rel_s3 h _ _ _) _
  · rw [if_neg c] at hA ⊢
    rw [Option.some.inj hA]
    exact OT.same (rel_s3 h _ _ _) _
