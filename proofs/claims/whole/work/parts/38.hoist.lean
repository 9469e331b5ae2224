/-- f, but h below n -/
def mapN (f h : Nat → Int32) (n : Nat) : Nat → Int32 := fun j => if j < n then h j else f j
theorem mapN_0 (f h : Nat → Int32) : mapN f h 0 = f := funext fun j => if_neg (by omega)
theorem mapN_s (f h : Nat → Int32) (n : Nat) : upd (mapN f h n) n (h n) = mapN f h (n + 1) := by
  funext j
  show (if j = n then h n else if j < n then h j else f j) = if j < n + 1 then h j else f j
  by_cases h1 : j = n
  · rw [if_pos h1, if_pos (by omega), h1]
  · rw [if_neg h1]
    by_cases h2 : j < n
    · rw [if_pos h2, if_pos (by omega)]
    · rw [if_neg h2, if_neg (by omega)]
theorem mapN_at (f h : Nat → Int32) (n : Nat) : mapN f h n n = f n := if_neg (by omega)
theorem mapN_in (f h : Nat → Int32) {n j : Nat} (hj : j < n) : mapN f h n j = h j := if_pos hj
/-! rest -/
def recN (f : Nat → Int32) (v : Nat) : Nat → Int32 := fun j => nI (if (f j).toNatClampNeg + v < 5000 then (f j).toNatClampNeg + v else 5000)
theorem recX {σ : St} {n v : Nat} (e : gi σ 6 = nI n) (hn : n ≤ 8) (hv : v ≤ 2000) (hb : ∀ j, j < n → ∃ b : Nat, b ≤ 5000 ∧ ga σ 11 j = nI b) : fX1_recover σ (nI v) = some (saf σ 11 (mapN (ga σ 11) (recN (ga σ 11) v) n)) := by
  unfold fX1_recover
  refine (fun h => by simp only [mapN_0, saf_self] at h; exact h) (until0 (fun f k => fX1_recover_2 (fX1_recover_2_k (nI v)) (nI v) f (saf σ 11 (mapN (ga σ 11) (recN (ga σ 11) v) k)) (nI k)) (fX1_recover_2_k (nI v) (saf σ 11 (mapN (ga σ 11) (recN (ga σ 11) v) n)) (nI n)) n (by omega) (fun f => ?_) (fun f k hk => ?_))
  · show fX1_recover_2 _ _ _ _ _ = _
    rw [fX1_recover_2, gi_saf, e, if_pos (nI_le (Nat.le_refl n) (by omega))]
  · show fX1_recover_2 _ _ _ _ _ = fX1_recover_2 _ _ _ _ _
    obtain ⟨b, b1, b2⟩ := hb k hk
    rw [fX1_recover_2, gi_saf, e, if_neg (nI_ge hk (by omega)), if_pos (inx (show k < 8 by omega) (by decide)), if_pos (inx (show k < 8 by omega) (by decide)), nI_clamp (show k < 2 ^ 31 by omega), sa_saf, ga_saf, if_pos rfl, mapN_at, nI_1, ← mapN_s]
    have : (if ga σ 11 k + nI v < (5000 : Int32) then ga σ 11 k + nI v else (5000 : Int32)) = recN (ga σ 11) v k := by
      unfold recN
      rw [b2, nI_clamp (show b < 2 ^ 31 by omega), nI_add]
      by_cases c : b + v < 5000
      · rw [if_pos (show nI (b + v) < (5000 : Int32) from nI_lt (b := 5000) c (by decide)), if_pos c]
      · rw [if_neg (show ¬ nI (b + v) < (5000 : Int32) from nI_nlt (b := 5000) (by omega) (by omega)), if_neg c]
        rfl
    rw [this]
theorem recM {τ : St} {n k1 : Nat} (e : gi τ 6 = nI n) (hn : n ≤ 8) (hv : k1 ≤ 1000) (hb : ∀ j, j < n → ∃ b : Nat, b ≤ 5000 ∧ ga τ 2 j = nI b) : fX10_rest_17 (fX10_rest_17_k (nI k1)) (nI k1) KF τ 0 = some (1, saf τ 2 (mapN (ga τ 2) (recN (ga τ 2) (2 * k1)) n)) := by
  refine (fun h => by simp only [mapN_0, saf_self] at h; exact h) (until0 (fun f k => fX10_rest_17 (fX10_rest_17_k (nI k1)) (nI k1) f (saf τ 2 (mapN (ga τ 2) (recN (ga τ 2) (2 * k1)) k)) (nI k)) (fX10_rest_17_k (nI k1) (saf τ 2 (mapN (ga τ 2) (recN (ga τ 2) (2 * k1)) n)) (nI n)) n (by omega) (fun f => ?_) (fun f k hk => ?_))
  · show fX10_rest_17 _ _ _ _ _ = _
    rw [fX10_rest_17, gi_saf, e, if_pos (nI_le (Nat.le_refl n) (by omega))]
  · show fX10_rest_17 _ _ _ _ _ = fX10_rest_17 _ _ _ _ _
    obtain ⟨b, b1, b2⟩ := hb k hk
    rw [fX10_rest_17, gi_saf, e, if_neg (nI_ge hk (by omega))]
    simp only [if_pos (inx' (show k < 8 by omega) (by decide)), nI_clamp (show k < 2 ^ 31 by omega), sa_saf, ga_saf, if_true, mapN_at, nI_1]
    rw [show (2 : Int32) * nI k1 = nI (2 * k1) from pk_mul 2 k1, ← mapN_s]
    have hr : recN (ga τ 2) (2 * k1) k = nI (if b + 2 * k1 < 5000 then b + 2 * k1 else 5000) := by
      unfold recN
      rw [b2, nI_clamp (show b < 2 ^ 31 by omega)]
    rw [hr, b2, nI_add]
    by_cases c : b + 2 * k1 ≤ 5000
    · rw [if_pos (show nI (b + 2 * k1) ≤ (5000 : Int32) from nI_le (b := 5000) c (by decide))]
      by_cases c2 : b + 2 * k1 < 5000
      · rw [if_pos c2]
      · rw [if_neg c2, show b + 2 * k1 = 5000 by omega]
    · rw [if_neg (show ¬ nI (b + 2 * k1) ≤ (5000 : Int32) from nI_ge (a := 5000) (by omega) (by omega)), if_neg (by omega)]
      rfl
theorem e_rest {σ τ : St} (h : Rel σ τ) (a : Int32) : Two (fX9_rest σ a) (fX10_rest τ a) := by
  obtain ⟨⟨hD, ⟨n, hn, e1, e2, hw⟩, hA⟩, hB, hC⟩ := id h
  unfold fX9_rest fX10_rest
  simp only [within_eq, in_eq, obS, i10, i01, Int32.toInt_toInt64]
  refine Two.ite (fun _ => Two.same h _) (fun c1 => ?_)
  obtain ⟨k1, rfl, l1, u1⟩ := t_nat (a := 1) (b := 1000) (by decide) c1
  rw [show (2 : Int32) * nI k1 = nI (2 * k1) from pk_mul 2 k1, recX e1 hn (by omega) (fun j hj => by obtain ⟨w, b, a1, a2, a3, a4, a5, a6⟩ := hw j hj; exact ⟨b, a2, a5⟩), recM e2 hn (by omega) (fun j hj => by obtain ⟨w, b, a1, a2, a3, a4, a5, a6⟩ := hw j hj; exact ⟨b, a2, a6⟩)]
  simp only [obS]
  refine Two.mk' ?_
  refine ⟨⟨hD, ⟨n, hn, e1, e2, fun j hj => ?_⟩, hA⟩, hB, hC⟩
  obtain ⟨w, b, a1, a2, a3, a4, a5, a6⟩ := hw j hj
  refine ⟨w, if b + 2 * k1 < 5000 then b + 2 * k1 else 5000, a1, ?_, a3, a4, ?_, ?_⟩
  · by_cases c : b + 2 * k1 < 5000
    · rw [if_pos c]; omega
    · rw [if_neg c]; omega
  · show mapN _ _ n j = _
    rw [mapN_in _ _ hj]
    unfold recN
    rw [a5, nI_clamp (show b < 2 ^ 31 by omega)]
  · show mapN _ _ n j = _
    rw [mapN_in _ _ hj]
    unfold recN
    rw [a6, nI_clamp (show b < 2 ^ 31 by omega)]
/-! spending breath -/
def speN (f : Nat → Int32) (m cost : Nat) : Nat → Int32 := fun j => nI ((f j).toNatClampNeg - bit m j * cost)
theorem spendX {σ : St} {n m cost : Nat} (e : gi σ 6 = nI n) (hn : n ≤ 8) (hm : m < 2 ^ 31) (hb : ∀ j, j < n → ∃ b : Nat, b ≤ 5000 ∧ ga σ 11 j = nI b ∧ bit m j * cost ≤ b) : fX1_spend σ (nI m) (nI cost) = some (saf σ 11 (mapN (ga σ 11) (speN (ga σ 11) m cost) n)) := by
  unfold fX1_spend
  refine (fun h => by simp only [mapN_0, saf_self] at h; exact h) (until0 (fun f k => fX1_spend_2 (fX1_spend_2_k (nI m) (nI cost)) (nI m) (nI cost) f (saf σ 11 (mapN (ga σ 11) (speN (ga σ 11) m cost) k)) (nI k)) (fX1_spend_2_k (nI m) (nI cost) (saf σ 11 (mapN (ga σ 11) (speN (ga σ 11) m cost) n)) (nI n)) n (by omega) (fun f => ?_) (fun f k hk => ?_))
  · show fX1_spend_2 _ _ _ _ _ _ = _
    rw [fX1_spend_2, gi_saf, e, if_pos (nI_le (Nat.le_refl n) (by omega))]
  · show fX1_spend_2 _ _ _ _ _ _ = fX1_spend_2 _ _ _ _ _ _
    obtain ⟨b, b1, b2, b3⟩ := hb k hk
    rw [fX1_spend_2, gi_saf, e, if_neg (nI_ge hk (by omega))]
    simp only [if_pos (inx' (show k < 8 by omega) (by decide)), nI_clamp (show k < 2 ^ 31 by omega), sa_saf, ga_saf, if_true, mapN_at, nI_1, bit_eq hm (show k < 32 by omega), pk_mul]
    rw [← mapN_s]
    have hr : speN (ga σ 11) m cost k = nI (b - bit m k * cost) := by
      unfold speN
      rw [b2, nI_clamp (show b < 2 ^ 31 by omega)]
    rw [hr, b2, pk_sub b3]
theorem spendM {τ : St} {n m q k9 : Nat} (hk9 : k9 ≤ 50000) (e : gi τ 6 = nI n) (hn : n ≤ 8) (hm : m < 2 ^ 31) (hb : ∀ j, j < n → ∃ b : Nat, b ≤ 5000 ∧ ga τ 2 j = nI b ∧ bit m j * (q * (1 + k9 / 1000)) ≤ b) (v2 v4 : Int32) : fX10_hoist_94 (fX10_hoist_94_k (nI m) v2 (nI k9) v4 (nI q)) (nI m) v2 (nI k9) v4 (nI q) KF τ 0 = some (nI q, saf τ 2 (mapN (ga τ 2) (speN (ga τ 2) m (q * (1 + k9 / 1000))) n)) := by
  refine (fun h => by simp only [mapN_0, saf_self] at h; exact h) (until0 (fun f k => fX10_hoist_94 (fX10_hoist_94_k (nI m) v2 (nI k9) v4 (nI q)) (nI m) v2 (nI k9) v4 (nI q) f (saf τ 2 (mapN (ga τ 2) (speN (ga τ 2) m (q * (1 + k9 / 1000))) k)) (nI k)) (fX10_hoist_94_k (nI m) v2 (nI k9) v4 (nI q) (saf τ 2 (mapN (ga τ 2) (speN (ga τ 2) m (q * (1 + k9 / 1000))) n)) (nI n)) n (by omega) (fun f => ?_) (fun f k hk => ?_))
  · show fX10_hoist_94 _ _ _ _ _ _ _ _ _ = _
    rw [fX10_hoist_94, gi_saf, e, if_pos (nI_le (Nat.le_refl n) (by omega))]
  · show fX10_hoist_94 _ _ _ _ _ _ _ _ _ = fX10_hoist_94 _ _ _ _ _ _ _ _ _
    obtain ⟨b, b1, b2, b3⟩ := hb k hk
    rw [fX10_hoist_94, gi_saf, e, if_neg (nI_ge hk (by omega))]
    simp only [if_pos (inx' (show k < 8 by omega) (by decide)), nI_clamp (show k < 2 ^ 31 by omega), sa_saf, ga_saf, if_true, mapN_at, nI_1, bit_eq hm (show k < 32 by omega), pk_mul, div1000 hk9]
    rw [← mapN_s]
    have hr : speN (ga τ 2) m (q * (1 + k9 / 1000)) k = nI (b - bit m k * (q * (1 + k9 / 1000))) := by
      unfold speN
      rw [b2, nI_clamp (show b < 2 ^ 31 by omega)]
    rw [hr, b2, Nat.mul_assoc, pk_sub b3]
