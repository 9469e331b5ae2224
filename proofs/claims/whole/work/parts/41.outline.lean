/-! shapes, in whole numbers -/
def lI (z : Int) : Int64 := Int64.ofInt z
theorem lI_add (a b : Int) : lI a + lI b = lI (a + b) := (Int64.ofInt_add a b).symm
theorem lI_sub (a b : Int) : lI a - lI b = lI (a - b) := (Int64.ofInt_sub a b).symm
theorem lI_mul (a b : Int) : lI a * lI b = lI (a * b) := (Int64.ofInt_mul a b).symm
theorem lI_neg (a : Int) : - lI a = lI (-a) := (Int64.ofInt_neg a).symm
theorem lI_toInt {z : Int} (h1 : -2 ^ 63 ≤ z) (h2 : z < 2 ^ 63) : (lI z).toInt = z := Int64.toInt_ofInt_of_le h1 h2
theorem nI_lI {x : Nat} (h : x < 2 ^ 31) : (nI x).toInt64 = lI (x : Int) := by
  rw [← Int64.ofInt_int32ToInt, nI_toInt h]
  rfl
theorem lI_0 : (0 : Int64) = lI 0 := rfl
/-- the corner behind k -/
def nxC (n k : Nat) : Nat := if n ≤ k + 1 then 0 else k + 1
theorem nxC_lt {n k : Nat} (h : k < n) : nxC n k < n := by
  unfold nxC
  by_cases c : n ≤ k + 1
  · rw [if_pos c]; omega
  · rw [if_neg c]; omega
def crC (x y : Nat → Nat) (n k : Nat) : Int := (x k : Int) * y (nxC n k) - (x (nxC n k) : Int) * y k
def twC (x y : Nat → Nat) (n : Nat) : Nat → Int
  | 0 => 0
  | k + 1 => twC x y n k + crC x y n k
/-- sums weighed by one of the two rows -/
def wgC (z x y : Nat → Nat) (n : Nat) : Nat → Int
  | 0 => 0
  | k + 1 => wgC z x y n k + crC x y n k * ((z k : Int) + z (nxC n k))
theorem mul_bd {a b A B : Int} (h1 : 0 ≤ a) (h2 : a ≤ A) (h3 : 0 ≤ b) (h4 : b ≤ B) : 0 ≤ a * b ∧ a * b ≤ A * B := ⟨Int.mul_nonneg h1 h3, Int.mul_le_mul h2 h4 h3 (by omega)⟩
theorem crC_bd {x y : Nat → Nat} {n k : Nat} (hk : k < n) (hx : ∀ j, j < n → x j ≤ 1000) (hy : ∀ j, j < n → y j ≤ 1000) : -1000000 ≤ crC x y n k ∧ crC x y n k ≤ 1000000 := by
  have h1 := hx k hk
  have h2 := hy k hk
  have h3 := hx _ (nxC_lt hk)
  have h4 := hy _ (nxC_lt hk)
  have a1 := mul_bd (a := (x k : Int)) (b := (y (nxC n k) : Int)) (A := 1000) (B := 1000) (by omega) (by omega) (by omega) (by omega)
  have a2 := mul_bd (a := (x (nxC n k) : Int)) (b := (y k : Int)) (A := 1000) (B := 1000) (by omega) (by omega) (by omega) (by omega)
  unfold crC
  omega
theorem twC_bd {x y : Nat → Nat} {n : Nat} (hx : ∀ j, j < n → x j ≤ 1000) (hy : ∀ j, j < n → y j ≤ 1000) : ∀ k, k ≤ n → -(1000000 * (k : Int)) ≤ twC x y n k ∧ twC x y n k ≤ 1000000 * (k : Int)
  | 0, _ => by simp [twC]
  | k + 1, hk => by
    have h1 := twC_bd hx hy k (by omega)
    have h2 := crC_bd (show k < n by omega) hx hy
    rw [twC]
    omega
theorem afterX {σ : St} {n k : Nat} (e : gi σ 23 = nI n) (hn : n ≤ 8) (hk : k < n) : fX3_after σ (nI k) = some (nI (nxC n k)) := by
  unfold fX3_after nxC
  rw [e, nI_1]
  by_cases c : n ≤ k + 1
  · rw [if_pos (nI_le c (by omega)), if_pos c]; rfl
  · rw [if_neg (nI_ge (by omega) (by omega)), if_neg c]
theorem crossX {σ : St} {n k : Nat} {x y : Nat → Nat} (e : gi σ 23 = nI n) (hn : n ≤ 8) (hk : k < n) (hx : ∀ j, j < n → x j ≤ 1000 ∧ ga σ 41 j = nI (x j)) (hy : ∀ j, j < n → y j ≤ 1000 ∧ ga σ 42 j = nI (y j)) : fX3_cross σ (nI k) = some (lI (crC x y n k)) := by
  have h3 := nxC_lt hk
  unfold fX3_cross
  rw [afterX e hn hk]
  simp only [obS, if_pos (inx' (show k < 8 by omega) (by decide)), if_pos (inx' (show nxC n k < 8 by omega) (by decide)), nI_clamp (show k < 2 ^ 31 by omega), nI_clamp (show nxC n k < 2 ^ 31 by omega), (hx k hk).2, (hy k hk).2, (hx _ h3).2, (hy _ h3).2]
  have a1 := (hx k hk).1
  have a2 := (hy k hk).1
  have a3 := (hx _ h3).1
  have a4 := (hy _ h3).1
  rw [nI_lI (by omega), nI_lI (by omega), nI_lI (by omega), nI_lI (by omega), lI_mul, lI_mul, lI_sub]
  rfl
theorem twX {σ : St} {n : Nat} {x y : Nat → Nat} (e : gi σ 23 = nI n) (hn : n ≤ 8) (hx : ∀ j, j < n → x j ≤ 1000 ∧ ga σ 41 j = nI (x j)) (hy : ∀ j, j < n → y j ≤ 1000 ∧ ga σ 42 j = nI (y j)) : fX3_twiceArea σ = some (lI (twC x y n n)) := by
  unfold fX3_twiceArea
  refine Eq.trans (until0 (fun f k => fX3_twiceArea_4 (fX3_twiceArea_4_k σ) σ f (lI (twC x y n k)) (nI k)) (fX3_twiceArea_4_k σ (lI (twC x y n n)) (nI n)) n (by omega) (fun f => ?_) (fun f k hk => ?_)) rfl
  · show fX3_twiceArea_4 _ _ _ _ _ = _
    rw [fX3_twiceArea_4, e, if_pos (nI_le (Nat.le_refl n) (by omega))]
  · show fX3_twiceArea_4 _ _ _ _ _ = fX3_twiceArea_4 _ _ _ _ _
    rw [fX3_twiceArea_4, e, if_neg (nI_ge hk (by omega)), crossX e hn hk hx hy]
    simp only [obS]
    rw [lI_add, nI_1, twC]
