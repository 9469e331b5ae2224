theorem lI_lt {a b : Int} (h1 : -2 ^ 62 ≤ a) (h2 : a < 2 ^ 62) (h3 : -2 ^ 62 ≤ b) (h4 : b < 2 ^ 62) : (lI a < lI b) = (a < b) := by
  rw [lt_toIntL, lI_toInt (by omega) (by omega), lI_toInt (by omega) (by omega)]
theorem lI_le {a b : Int} (h1 : -2 ^ 62 ≤ a) (h2 : a < 2 ^ 62) (h3 : -2 ^ 62 ≤ b) (h4 : b < 2 ^ 62) : (lI a ≤ lI b) = (a ≤ b) := by
  rw [le_toIntL, lI_toInt (by omega) (by omega), lI_toInt (by omega) (by omega)]
/-- the signed sum: turned where the corners go round with the sun -/
def sgC (t z : Int) : Int := if 0 ≤ t then z else -z
theorem sgC_3 (t z : Int) : sgC t z = if 0 ≤ 3 * t then z else -z := by
  unfold sgC
  by_cases c : 0 ≤ t
  · rw [if_pos c, if_pos (by omega)]
  · rw [if_neg c, if_neg (by omega)]
theorem low_b {σ τ : St} (h : Rel σ τ) {a b za zb : Int} (hz : za = if 0 ≤ b then a else -a) (hw : zb = (b.natAbs : Int)) (h1 : -2 ^ 49 ≤ a) (h2 : a < 2 ^ 49) (h3 : -2 ^ 49 ≤ b) (h4 : b < 2 ^ 49) (hb : b ≠ 0) (p : Int32) : OTL σ ((fX9_ofLowest (lI za) (lI zb) p).bind (fun r => some r)) ((fX10_lowest τ (lI a) (lI b)).bind (fun q => if p = 0 then some (gl q 3, q) else some (gl q 4, q))) := by
  rw [hz, hw]
  exact low_both h h1 h2 h3 h4 hb p
theorem out_get {σ τ : St} (h : Rel σ τ) : ∃ (n : Nat) (x y : Nat → Nat), n ≤ 8 ∧ gi σ 23 = nI n ∧ gi τ 20 = nI n ∧ (∀ j, j < n → x j ≤ 1000 ∧ ga σ 41 j = nI (x j)) ∧ (∀ j, j < n → y j ≤ 1000 ∧ ga σ 42 j = nI (y j)) ∧ (∀ j, j < n → x j ≤ 1000 ∧ ga τ 25 j = nI (x j)) ∧ (∀ j, j < n → y j ≤ 1000 ∧ ga τ 26 j = nI (y j)) := by
  obtain ⟨⟨hD, hcr, hro, hrw, ⟨n, hn, e1, e2, hw⟩⟩, hB, hC⟩ := h
  obtain ⟨o1, o2, o3, o4⟩ := out_rows hw
  exact ⟨n, _, _, hn, e1, e2, o1, o2, o3, o4⟩
theorem e_middle {σ τ : St} (h : Rel σ τ) (a : Int32) : OTL σ (fX9_middle σ a) (fX10_middle τ a) := by
  obtain ⟨n, x, y, hn, e1, e2, o1, o2, o3, o4⟩ := out_get h
  have hb := twC_bd (fun j hj => (o1 j hj).1) (fun j hj => (o2 j hj).1) n (Nat.le_refl n)
  have b1 := wgC_bd (fun j hj => (o1 j hj).1) (fun j hj => (o1 j hj).1) (fun j hj => (o2 j hj).1) n (Nat.le_refl n)
  have b2 := wgC_bd (fun j hj => (o2 j hj).1) (fun j hj => (o1 j hj).1) (fun j hj => (o2 j hj).1) n (Nat.le_refl n)
  unfold fX9_middle fX10_middle
  rw [sumsM e2 hn o3 o4, hasX e1 hn o1 o2, (aboveX e1 hn o1 o2).1, (aboveX e1 hn o1 o2).2, belowX e1 hn o1 o2]
  simp only [within_eq, in_eq, obS, i10, i01, Int32.toInt_toInt64]
  refine OTL.ite (fun _ => OTL.same h _) (fun c1 => ?_)
  refine OTL.ite (fun _ => OTL.same (rel_s3 h _ _ _) _) (fun c2 => ?_)
  have c2 := Decidable.not_not.mp c2
  have hr := rel_s3 h (lI (wgC x x y n n)) (lI (wgC y x y n n)) (lI (twC x y n n))
  have g0 : gl (s3 τ (lI (wgC x x y n n)) (lI (wgC y x y n n)) (lI (twC x y n n))) 0 = lI (wgC x x y n n) := rfl
  have g1 : gl (s3 τ (lI (wgC x x y n n)) (lI (wgC y x y n n)) (lI (twC x y n n))) 1 = lI (wgC y x y n n) := rfl
  have g2 : gl (s3 τ (lI (wgC x x y n n)) (lI (wgC y x y n n)) (lI (twC x y n n))) 2 = lI (twC x y n n) := rfl
  rw [g0, g1, g2, show (3 : Int64) = lI 3 from rfl, lI_mul]
  refine OTL.ite (fun _ => ?_) (fun _ => ?_)
  · exact low_b hr (sgC_3 _ _) (by omega) (by omega) (by omega) (by omega) (by omega) (by omega) _
  · exact low_b hr (sgC_3 _ _) (by omega) (by omega) (by omega) (by omega) (by omega) (by omega) _
theorem nI_two {a b : Nat} (ha : a ≤ 1000) (hb : b ≤ 1000) : (nI a + nI b).toInt64 = lI ((a : Int) + b) := by
  rw [nI_add, nI_lI (by omega), Int.natCast_add]
/-- what is above in the tilt, with its sign: both ways -/
theorem tl_sg (t s X : Int) : 2 * sgC t s - 3 * (t.natAbs : Int) * X = if 0 ≤ 6 * t then 2 * s - 3 * t * X else -(2 * s - 3 * t * X) := by
  unfold sgC
  by_cases c : 0 ≤ t
  · rw [if_pos c, if_pos (by omega), show (t.natAbs : Int) = t by omega]
  · rw [if_neg c, if_neg (by omega), show (t.natAbs : Int) = -t by omega]
    have e : 3 * -t * X = -(3 * t * X) := by rw [Int.mul_neg, Int.neg_mul]
    omega
theorem tX_bd {t X A B : Int} (h1 : -A ≤ t) (h2 : t ≤ A) (h3 : 0 ≤ X) (h4 : X ≤ B) : -(A * B) ≤ t * X ∧ t * X ≤ A * B := by
  have hA : 0 ≤ A := by omega
  rcases Int.le_total 0 t with q | q
  · have a1 := Int.mul_nonneg q h3
    have a2 := Int.mul_le_mul h2 h4 h3 hA
    omega
  · have a1 := Int.mul_nonneg (show 0 ≤ -t by omega) h3
    have a2 := Int.mul_le_mul (show -t ≤ A by omega) h4 h3 hA
    have e : -t * X = -(t * X) := Int.neg_mul t X
    omega
theorem tiltX {σ : St} {n : Nat} {x y : Nat → Nat} (e : gi σ 23 = nI n) (hn : n ≤ 8) (hx : ∀ j, j < n → x j ≤ 1000 ∧ ga σ 41 j = nI (x j)) (hy : ∀ j, j < n → y j ≤ 1000 ∧ ga σ 42 j = nI (y j)) {a b : Nat} (ha : a ≤ 1000) (hb : b ≤ 1000) : fX3_tiltAbove σ (nI a) (nI b) = some (lI (2 * sgC (twC x y n n) (wgC x x y n n) - 3 * ((twC x y n n).natAbs : Int) * ((a : Int) + b))) := by
  unfold fX3_tiltAbove
  rw [(aboveX e hn hx hy).1, belowX e hn hx hy]
  simp only [obS]
  rw [nI_two ha hb, lI_mul, show (2 : Int64) = lI 2 from rfl, lI_mul, lI_sub]
  rfl
theorem tiltM {τ : St} {a b : Nat} (s u t : Int) (ha : a ≤ 1000) (hb : b ≤ 1000) : ((2 : Int64) * lI s) - (((3 : Int64) * lI t) * ((nI a + nI b).toInt64)) = lI (2 * s - 3 * t * ((a : Int) + b)) := by
  rw [nI_two ha hb, show (3 : Int64) = lI 3 from rfl, lI_mul, lI_mul, show (2 : Int64) = lI 2 from rfl, lI_mul, lI_sub]
theorem OTL.ite2 {σ : St} {c d : Prop} {i0 : Decidable (¬ (c ∧ d))} {i1 : Decidable (¬ c)} {i2 : Decidable (¬ d)} {x x' : Option Int64} {y y' : Option (Int64 × St)} (h1 : ¬ (c ∧ d) → OTL σ x y) (h2 : c → d → OTL σ x' y') : OTL σ (@_root_.ite _ (¬ (c ∧ d)) i0 x x') (@_root_.ite _ (¬ c) i1 y (@_root_.ite _ (¬ d) i2 y y')) := by
  by_cases hc : c
  · by_cases hd : d
    · rw [if_neg (not_not_intro ⟨hc, hd⟩), if_neg (not_not_intro hc), if_neg (not_not_intro hd)]; exact h2 hc hd
    · rw [if_pos (fun h => hd h.2), if_neg (not_not_intro hc), if_pos hd]; exact h1 (fun h => hd h.2)
  · rw [if_pos (fun h => hc h.1), if_pos hc]; exact h1 (fun h => hc h.1)
theorem OT.ite2 {σ : St} {c d : Prop} {i0 : Decidable (¬ (c ∧ d))} {i1 : Decidable (¬ c)} {i2 : Decidable (¬ d)} {x x' : Option Int32} {y y' : Option (Int32 × St)} (h1 : ¬ (c ∧ d) → OT σ x y) (h2 : c → d → OT σ x' y') : OT σ (@_root_.ite _ (¬ (c ∧ d)) i0 x x') (@_root_.ite _ (¬ c) i1 y (@_root_.ite _ (¬ d) i2 y y')) := by
  by_cases hc : c
  · by_cases hd : d
    · rw [if_neg (not_not_intro ⟨hc, hd⟩), if_neg (not_not_intro hc), if_neg (not_not_intro hd)]; exact h2 hc hd
    · rw [if_pos (fun h => hd h.2), if_neg (not_not_intro hc), if_pos hd]; exact h1 (fun h => hd h.2)
  · rw [if_pos (fun h => hc h.1), if_pos hc]; exact h1 (fun h => hc h.1)
theorem e_tilt {σ τ : St} (h : Rel σ τ) (a b c d e : Int32) : OTL σ (fX9_tilt σ a b c d e) (fX10_tilt τ a b c d e) := by
  obtain ⟨n, x, y, hn, e1, e2, o1, o2, o3, o4⟩ := out_get h
  have hb := twC_bd (fun j hj => (o1 j hj).1) (fun j hj => (o2 j hj).1) n (Nat.le_refl n)
  have b1 := wgC_bd (fun j hj => (o1 j hj).1) (fun j hj => (o1 j hj).1) (fun j hj => (o2 j hj).1) n (Nat.le_refl n)
  unfold fX9_tilt fX10_tilt fX10_findTilt
  rw [sumsM e2 hn o3 o4, hasX e1 hn o1 o2, belowX e1 hn o1 o2]
  simp only [isCorner_eq, isAt_eq, within_eq, in_eq, obS, i10, i01, Int32.toInt_toInt64]
  refine OTL.ite2 (fun _ => OTL.same h _) (fun c1 c2 => ?_)
  refine OTL.ite2 (fun _ => OTL.same h _) (fun c3 c4 => ?_)
  refine OTL.ite (fun _ => OTL.same h _) (fun c5 => ?_)
  refine OTL.ite (fun _ => OTL.same (rel_s3 h _ _ _) _) (fun c6 => ?_)
  have c6 := Decidable.not_not.mp c6
  obtain ⟨k1, rfl, l1, u1⟩ := t_nat' (by decide) c1
  obtain ⟨k3, rfl, l3, u3⟩ := t_nat' (by decide) c3
  rw [tiltX e1 hn o1 o2 (show k1 ≤ 1000 by omega) (show k3 ≤ 1000 by omega)]
  simp only [obS]
  have hr := rel_s3 h (lI (wgC x x y n n)) (lI (wgC y x y n n)) (lI (twC x y n n))
  have g0 : gl (s3 τ (lI (wgC x x y n n)) (lI (wgC y x y n n)) (lI (twC x y n n))) 0 = lI (wgC x x y n n) := rfl
  have g2 : gl (s3 τ (lI (wgC x x y n n)) (lI (wgC y x y n n)) (lI (twC x y n n))) 2 = lI (twC x y n n) := rfl
  have bd := tX_bd (t := 3 * twC x y n n) (X := (k1 : Int) + k3) (A := 24000000) (B := 2000) (by omega) (by omega) (by omega) (by omega)
  rw [g0, g2, tiltM (τ := τ) _ 0 _ (show k1 ≤ 1000 by omega) (show k3 ≤ 1000 by omega), show (2 : Int64) = lI 2 from rfl, lI_mul, show (6 : Int64) = lI 6 from rfl, lI_mul]
  rw [show ∀ o : Option St, (o.bind fun q31 => some q31) = o from fun o => by cases o <;> rfl]
  refine low_b hr (tl_sg _ _ _) (by omega) (by omega) (by omega) (by omega) (by omega) (by omega) _
/-! steady, holes -/
def mnN (a b : Nat) : Nat := if b < a then b else a
def mxN (a b : Nat) : Nat := if a < b then b else a
theorem mnN_eq {a b : Nat} (ha : a ≤ 1000) (hb : b ≤ 1000) : (if nI b < nI a then nI b else nI a) = nI (mnN a b) := by
  unfold mnN
  by_cases c : b < a
  · rw [if_pos (nI_lt c (by omega)), if_pos c]
  · rw [if_neg (nI_nlt (by omega) (by omega)), if_neg c]
theorem mxN_eq {a b : Nat} (ha : a ≤ 1000) (hb : b ≤ 1000) : (if nI a < nI b then nI b else nI a) = nI (mxN a b) := by
  unfold mxN
  by_cases c : a < b
  · rw [if_pos (nI_lt c (by omega)), if_pos c]
  · rw [if_neg (nI_nlt (by omega) (by omega)), if_neg c]
abbrev stC (t sx sy : Int) (a b c d : Nat) : Prop := (mnN a c : Int) * (3 * (t.natAbs : Int)) ≤ sgC t sx ∧ sgC t sx ≤ (mxN a c : Int) * (3 * (t.natAbs : Int)) ∧ sgC t sy < (mnN b d : Int) * (3 * (t.natAbs : Int))
def st01 (t sx sy : Int) (a b c d : Nat) : Int32 := if stC t sx sy a b c d then 1 else 0
theorem st01_b (t sx sy : Int) (a b c d : Nat) : b01 (st01 t sx sy a b c d) := by
  unfold st01
  by_cases q : stC t sx sy a b c d
  · rw [if_pos q]; exact Or.inr rfl
  · rw [if_neg q]; exact Or.inl rfl
theorem mn_le {a b : Nat} (ha : a ≤ 1000) (hb : b ≤ 1000) : mnN a b ≤ 1000 ∧ mxN a b ≤ 1000 := by
  unfold mnN mxN
  by_cases c : b < a
  · rw [if_pos c, if_neg (by omega)]; omega
  · rw [if_neg c]
    by_cases c2 : a < b
    · rw [if_pos c2]; omega
    · rw [if_neg c2]; omega
theorem hangX {σ : St} {n : Nat} {x y : Nat → Nat} (e : gi σ 23 = nI n) (hn : n ≤ 8) (hx : ∀ j, j < n → x j ≤ 1000 ∧ ga σ 41 j = nI (x j)) (hy : ∀ j, j < n → y j ≤ 1000 ∧ ga σ 42 j = nI (y j)) {a b c d : Nat} (ha : a ≤ 1000) (hb : b ≤ 1000) (hc : c ≤ 1000) (hd : d ≤ 1000) : fX3_hangsSteady σ (nI a) (nI b) (nI c) (nI d) = some (st01 (twC x y n n) (wgC x x y n n) (wgC y x y n n) a b c d) := by
  have h1 := twC_bd (fun j hj => (hx j hj).1) (fun j hj => (hy j hj).1) n (Nat.le_refl n)
  have b1 := wgC_bd (fun j hj => (hx j hj).1) (fun j hj => (hx j hj).1) (fun j hj => (hy j hj).1) n (Nat.le_refl n)
  have b2 := wgC_bd (fun j hj => (hy j hj).1) (fun j hj => (hx j hj).1) (fun j hj => (hy j hj).1) n (Nat.le_refl n)
  unfold fX3_hangsSteady
  rw [belowX e hn hx hy, (aboveX e hn hx hy).1, (aboveX e hn hx hy).2]
  have m1 := mn_le ha hc
  have m2 := mn_le hb hd
  simp only [obS, mnN_eq ha hc, mxN_eq ha hc, mnN_eq hb hd, nI_lI (show mnN a c < 2 ^ 31 by omega), nI_lI (show mxN a c < 2 ^ 31 by omega), nI_lI (show mnN b d < 2 ^ 31 by omega), lI_mul]
  show (if lI (sgC (twC x y n n) (wgC x x y n n)) < _ then _ else if _ < lI (sgC (twC x y n n) (wgC x x y n n)) then _ else if _ ≤ lI (sgC (twC x y n n) (wgC y x y n n)) then _ else _) = _
  have k1 : ∀ z : Int, -20000000000 ≤ z → z ≤ 20000000000 → -20000000000 ≤ sgC (twC x y n n) z ∧ sgC (twC x y n n) z ≤ 20000000000 := fun z q1 q2 => by
    unfold sgC
    by_cases c0 : 0 ≤ twC x y n n
    · rw [if_pos c0]; omega
    · rw [if_neg c0]; omega
  have s1 := k1 _ (show -20000000000 ≤ wgC x x y n n by omega) (by omega)
  have s2 := k1 _ (show -20000000000 ≤ wgC y x y n n by omega) (by omega)
  have hm : ∀ z : Nat, z ≤ 1000 → 0 ≤ (z : Int) * (3 * ((twC x y n n).natAbs : Int)) ∧ (z : Int) * (3 * ((twC x y n n).natAbs : Int)) ≤ 1000 * 24000000 := fun z hz => mul_bd (by omega) (by omega) (by omega) (by omega)
  have t1 := hm _ m1.1
  have t2 := hm _ m1.2
  have t3 := hm _ m2.1
  unfold st01 stC
  have q1 := lI_lt (a := sgC (twC x y n n) (wgC x x y n n)) (b := (mnN a c : Int) * (3 * ((twC x y n n).natAbs : Int))) (by omega) (by omega) (by omega) (by omega)
  have q2 := lI_lt (b := sgC (twC x y n n) (wgC x x y n n)) (a := (mxN a c : Int) * (3 * ((twC x y n n).natAbs : Int))) (by omega) (by omega) (by omega) (by omega)
  have q3 := lI_le (b := sgC (twC x y n n) (wgC y x y n n)) (a := (mnN b d : Int) * (3 * ((twC x y n n).natAbs : Int))) (by omega) (by omega) (by omega) (by omega)
  simp only [q1, q2, q3]
  clear q1 q2 q3
  generalize sgC (twC x y n n) (wgC x x y n n) = p1 at *
  generalize sgC (twC x y n n) (wgC y x y n n) = p2 at *
  generalize (mnN a c : Int) * (3 * ((twC x y n n).natAbs : Int)) = p3 at *
  generalize (mxN a c : Int) * (3 * ((twC x y n n).natAbs : Int)) = p4 at *
  generalize (mnN b d : Int) * (3 * ((twC x y n n).natAbs : Int)) = p5 at *
  by_cases c1 : p1 < p3
  · rw [if_pos c1, if_neg (by omega)]
  · rw [if_neg c1]
    by_cases c2 : p4 < p1
    · rw [if_pos c2, if_neg (by omega)]
    · rw [if_neg c2]
      by_cases c3 : p5 ≤ p2
      · rw [if_pos c3, if_neg (by omega)]
      · rw [if_neg c3, if_pos (by omega)]
theorem steadM {τ : St} {t sx sy : Int} (g0 : gl τ 0 = lI sx) (g1 : gl τ 1 = lI sy) (g2 : gl τ 2 = lI t) (ht : -8000000 ≤ t ∧ t ≤ 8000000) (hx : -20000000000 ≤ sx ∧ sx ≤ 20000000000) (hy : -20000000000 ≤ sy ∧ sy ≤ 20000000000) {a b c d : Nat} (ha : a ≤ 1000) (hb : b ≤ 1000) (hc : c ≤ 1000) (hd : d ≤ 1000) : fX10_isSteady τ (nI a) (nI b) (nI c) (nI d) = some (st01 t sx sy a b c d) := by
  have m1 := mn_le ha hc
  have hm : ∀ z : Nat, z ≤ 1000 → 0 ≤ (z : Int) * (3 * (t.natAbs : Int)) ∧ (z : Int) * (3 * (t.natAbs : Int)) ≤ 1000 * 24000000 := fun z hz => mul_bd (by omega) (by omega) (by omega) (by omega)
  have t1 := hm _ m1.1
  have t2 := hm _ m1.2
  have t3 := hm _ hb
  have t4 := hm _ hd
  have hby : (fX10_size (gl τ 2)) = some (lI (t.natAbs : Int)) := by
    unfold fX10_size
    rw [g2]
    exact absM (by omega) (by omega)
  have k1 : ∀ z : Int, -20000000000 ≤ z → z ≤ 20000000000 → -20000000000 ≤ sgC t z ∧ sgC t z ≤ 20000000000 := fun z q1 q2 => by
    unfold sgC
    by_cases c0 : 0 ≤ t
    · rw [if_pos c0]; omega
    · rw [if_neg c0]; omega
  have s1 := k1 sx hx.1 hx.2
  have s2 := k1 sy hy.1 hy.2
  have J83 : fX10_isSteady_J83 τ (nI a) (nI b) (nI c) (nI d) (lI (3 * (t.natAbs : Int))) (lI (sgC t sx)) (lI (sgC t sy)) (nI (mnN a c)) (nI (mxN a c)) = some (st01 t sx sy a b c d) := by
    unfold fX10_isSteady_J83 st01 stC
    rw [nI_lI (show mnN a c < 2 ^ 31 by omega), nI_lI (show mxN a c < 2 ^ 31 by omega), nI_lI (show b < 2 ^ 31 by omega), nI_lI (show d < 2 ^ 31 by omega), lI_mul, lI_mul, lI_mul, lI_mul]
    have q1 := lI_lt (a := sgC t sx) (b := (mnN a c : Int) * (3 * (t.natAbs : Int))) (by omega) (by omega) (by omega) (by omega)
    have q2 := lI_lt (b := sgC t sx) (a := (mxN a c : Int) * (3 * (t.natAbs : Int))) (by omega) (by omega) (by omega) (by omega)
    have q3 := lI_le (b := sgC t sy) (a := (b : Int) * (3 * (t.natAbs : Int))) (by omega) (by omega) (by omega) (by omega)
    have q4 := lI_le (b := sgC t sy) (a := (d : Int) * (3 * (t.natAbs : Int))) (by omega) (by omega) (by omega) (by omega)
    simp only [q1, q2, q3, q4]
    clear q1 q2 q3 q4
    have hmn : (mnN b d : Int) * (3 * (t.natAbs : Int)) = if (d : Int) * (3 * (t.natAbs : Int)) < (b : Int) * (3 * (t.natAbs : Int)) then (d : Int) * (3 * (t.natAbs : Int)) else (b : Int) * (3 * (t.natAbs : Int)) := by
      unfold mnN
      by_cases c1 : d < b
      · rw [if_pos c1]
        by_cases c2 : (d : Int) * (3 * (t.natAbs : Int)) < (b : Int) * (3 * (t.natAbs : Int))
        · rw [if_pos c2]
        · rw [if_neg c2]
          have := Int.mul_le_mul_of_nonneg_right (show (d : Int) ≤ b by omega) (show 0 ≤ 3 * (t.natAbs : Int) by omega)
          omega
      · rw [if_neg c1]
        have := Int.mul_le_mul_of_nonneg_right (show (b : Int) ≤ d by omega) (show 0 ≤ 3 * (t.natAbs : Int) by omega)
        rw [if_neg (by omega)]
    rw [hmn]
    generalize sgC t sx = p1 at *
    generalize sgC t sy = p2 at *
    generalize (mnN a c : Int) * (3 * (t.natAbs : Int)) = p3 at *
    generalize (mxN a c : Int) * (3 * (t.natAbs : Int)) = p4 at *
    generalize (b : Int) * (3 * (t.natAbs : Int)) = p5 at *
    generalize (d : Int) * (3 * (t.natAbs : Int)) = p6 at *
    have hq : (p2 < if p6 < p5 then p6 else p5) ↔ (p2 < p5 ∧ p2 < p6) := by
      by_cases c0 : p6 < p5
      · rw [if_pos c0]; omega
      · rw [if_neg c0]; omega
    by_cases c1 : p1 < p3
    · rw [if_pos c1, if_neg (by omega)]
    · rw [if_neg c1]
      by_cases c2 : p4 < p1
      · rw [if_pos c2, if_neg (by omega)]
      · rw [if_neg c2]
        by_cases c3 : p5 ≤ p2
        · rw [if_pos c3, if_neg (fun q => by have := (hq.mp q.2.2).1; omega)]
        · rw [if_neg c3]
          by_cases c4 : p6 ≤ p2
          · rw [if_pos c4, if_neg (fun q => by have := (hq.mp q.2.2).2; omega)]
          · rw [if_neg c4, if_pos ⟨by omega, by omega, hq.mpr ⟨by omega, by omega⟩⟩]
  have J59 : fX10_isSteady_J59 τ (nI a) (nI b) (nI c) (nI d) (lI (3 * (t.natAbs : Int))) (lI (sgC t sx)) (lI (sgC t sy)) = some (st01 t sx sy a b c d) := by
    unfold fX10_isSteady_J59 fX10_isSteady_J71
    by_cases c1 : c ≤ a
    · rw [if_pos (nI_le c1 (by omega)), if_pos (nI_le c1 (by omega))]
      have e1 : mnN a c = c := by unfold mnN; by_cases q : c < a; rw [if_pos q]; rw [if_neg q]; omega
      have e2 : mxN a c = a := by unfold mxN; rw [if_neg (by omega)]
      rw [e1, e2] at J83
      exact J83
    · rw [if_neg (nI_ge (by omega) (by omega)), if_neg (nI_ge (by omega) (by omega))]
      have e1 : mnN a c = a := by unfold mnN; rw [if_neg (by omega)]
      have e2 : mxN a c = c := by unfold mxN; rw [if_pos (by omega)]
      rw [e1, e2] at J83
      exact J83
  unfold fX10_isSteady fX10_isSteady_J35
  rw [hby]
  simp only [obS]
  rw [g0, g1, g2, show (3 : Int64) = lI 3 from rfl, lI_mul]
  by_cases c0 : 0 ≤ t
  · have e1 : ∀ z, sgC t z = z := fun z => if_pos c0
    rw [e1, e1] at J59
    rw [if_pos ((lI_pos (by omega) (by omega)).2.mpr c0), if_pos ((lI_pos (by omega) (by omega)).2.mpr c0)]
    exact J59
  · have e1 : ∀ z, sgC t z = -z := fun z => if_neg c0
    rw [e1, e1] at J59
    rw [if_neg (fun q => c0 ((lI_pos (by omega) (by omega)).2.mp q)), if_neg (fun q => c0 ((lI_pos (by omega) (by omega)).2.mp q)), lI_0, lI_sub, lI_sub, Int.zero_sub, Int.zero_sub]
    exact J59
theorem bit01 {v : Int32} (h : b01 v) : fX10_bit v = some v := by
  rcases h with rfl | rfl <;> rfl
theorem if01 {v : Int32} (h : b01 v) : (if v = 0 then some (0 : Int32) else some 1) = some v := by
  rcases h with rfl | rfl <;> rfl
theorem e_steady {σ τ : St} (h : Rel σ τ) (a b c d : Int32) : OT σ (fX9_steady σ a b c d) (fX10_steady τ a b c d) := by
  obtain ⟨n, x, y, hn, e1, e2, o1, o2, o3, o4⟩ := out_get h
  have hb := twC_bd (fun j hj => (o1 j hj).1) (fun j hj => (o2 j hj).1) n (Nat.le_refl n)
  have b1 := wgC_bd (fun j hj => (o1 j hj).1) (fun j hj => (o1 j hj).1) (fun j hj => (o2 j hj).1) n (Nat.le_refl n)
  have b2 := wgC_bd (fun j hj => (o2 j hj).1) (fun j hj => (o1 j hj).1) (fun j hj => (o2 j hj).1) n (Nat.le_refl n)
  unfold fX9_steady fX10_steady
  rw [sumsM e2 hn o3 o4, hasX e1 hn o1 o2]
  simp only [isCorner_eq, isAt_eq, within_eq, in_eq, obS, i10, i01, Int32.toInt_toInt64]
  refine OT.ite2 (fun _ => OT.same h _) (fun c1 c2 => ?_)
  refine OT.ite2 (fun _ => OT.same h _) (fun c3 c4 => ?_)
  refine OT.ite (fun _ => OT.same (rel_s3 h _ _ _) _) (fun c6 => ?_)
  obtain ⟨k1, rfl, l1, u1⟩ := t_nat' (by decide) c1
  obtain ⟨k2, rfl, l2, u2⟩ := t_nat' (by decide) c2
  obtain ⟨k3, rfl, l3, u3⟩ := t_nat' (by decide) c3
  obtain ⟨k4, rfl, l4, u4⟩ := t_nat' (by decide) c4
  rw [hangX e1 hn o1 o2 (by omega) (by omega) (by omega) (by omega), steadM (τ := s3 τ (lI (wgC x x y n n)) (lI (wgC y x y n n)) (lI (twC x y n n))) rfl rfl rfl (by omega) (by omega) (by omega) (by omega) (by omega) (by omega) (by omega)]
  simp only [obS, bit01 (st01_b _ _ _ _ _ _ _), if01 (st01_b _ _ _ _ _ _ _)]
  exact OT.same (rel_s3 h _ _ _) _
theorem e_holes {σ τ : St} (h : Rel σ τ) : OT σ (fX9_holes σ) (fX10_holes τ) := by
  obtain ⟨n, x, y, hn, e1, e2, o1, o2, o3, o4⟩ := out_get h
  have hb := twC_bd (fun j hj => (o1 j hj).1) (fun j hj => (o2 j hj).1) n (Nat.le_refl n)
  have b1 := wgC_bd (fun j hj => (o1 j hj).1) (fun j hj => (o1 j hj).1) (fun j hj => (o2 j hj).1) n (Nat.le_refl n)
  have b2 := wgC_bd (fun j hj => (o2 j hj).1) (fun j hj => (o1 j hj).1) (fun j hj => (o2 j hj).1) n (Nat.le_refl n)
  unfold fX9_holes fX10_holes
  rw [sumsM e2 hn o3 o4, hasX e1 hn o1 o2]
  simp only [within_eq, in_eq, obS, i10, i01, Int32.toInt_toInt64]
  refine OT.ite (fun _ => OT.same (rel_s3 h _ _ _) _) (fun c6 => ?_)
  rw [show ∀ o : Option Int32, (o.bind fun r => some r) = o from fun o => by cases o <;> rfl]
  have hr := rel_s3 h (lI (wgC x x y n n)) (lI (wgC y x y n n)) (lI (twC x y n n))
  generalize hT : s3 τ (lI (wgC x x y n n)) (lI (wgC y x y n n)) (lI (twC x y n n)) = T at hr
  have g0 : gl T 0 = lI (wgC x x y n n) := by rw [← hT]; rfl
  have g1 : gl T 1 = lI (wgC y x y n n) := by rw [← hT]; rfl
  have g2 : gl T 2 = lI (twC x y n n) := by rw [← hT]; rfl
  have e2' : gi T 20 = nI n := by rw [← hT]; exact e2
  have o3' : ∀ j, j < n → ga T 25 j = nI (x j) := fun j hj => by rw [← hT]; exact (o3 j hj).2
  have o4' : ∀ j, j < n → ga T 26 j = nI (y j) := fun j hj => by rw [← hT]; exact (o4 j hj).2
  have inner : ∀ (p : Nat) (hp : p < n) (kX : Int32 → Int64 → Int32 → Option Int32) (kM : Int32 → Int64 → Int32 → Option (Int32 × St)), (∀ b l, (b = -1 ∨ ∃ z : Nat, z < 1000 ∧ b = nI z) → OT σ (kX b l (nI (p + 1))) (kM b l (nI (p + 1)))) → ∀ (d q f : Nat) (b : Int32) (l : Int64), q + d = n → d < f → (b = -1 ∨ ∃ z : Nat, z < 1000 ∧ b = nI z) → OT σ (fX3_bestHoles_22 kX (fX3_bestHoles_22_k kX σ (nI p)) σ (nI p) f b l (nI q)) (fX10_holes_32 kM (fX10_holes_32_k kM T (nI p)) T (nI p) f b l (nI q)) := by
    intro p hp kX kM hk d
    induction d with
    | zero =>
      intro q f b l h1 h2 h3
      cases f with
      | zero => omega
      | succ f =>
        rw [fX3_bestHoles_22, fX10_holes_32, e1, e2', if_pos (nI_le (by omega) (by omega)), if_pos (nI_le (by omega) (by omega))]
        unfold fX3_bestHoles_22_k fX10_holes_32_k
        rw [nI_1]
        exact hk b l h3
    | succ d ih =>
      intro q f b l h1 h2 h3
      cases f with
      | zero => omega
      | succ f =>
        have hq : q < n := by omega
        have x1 := (o1 p hp).1
        have x2 := (o1 q hq).1
        have y1 := (o2 p hp).1
        have y2 := (o2 q hq).1
        have bd := tX_bd (t := 3 * twC x y n n) (X := (x p : Int) + x q) (A := 24000000) (B := 2000) (by omega) (by omega) (by omega) (by omega)
        have hsz : fX10_size (lI (2 * wgC x x y n n - 3 * twC x y n n * ((x p : Int) + x q))) = some (lI ((2 * wgC x x y n n - 3 * twC x y n n * ((x p : Int) + x q)).natAbs : Int)) := absM (by omega) (by omega)
        have hna : (2 * sgC (twC x y n n) (wgC x x y n n) - 3 * ((twC x y n n).natAbs : Int) * ((x p : Int) + x q)).natAbs = (2 * wgC x x y n n - 3 * twC x y n n * ((x p : Int) + x q)).natAbs := by
          rw [tl_sg]
          by_cases c0 : 0 ≤ 6 * twC x y n n
          · rw [if_pos c0]
          · rw [if_neg c0]; omega
        have hax : ∀ r, r = lI (2 * sgC (twC x y n n) (wgC x x y n n) - 3 * ((twC x y n n).natAbs : Int) * ((x p : Int) + x q)) → (if 0 < r then r else -r) = lI ((2 * wgC x x y n n - 3 * twC x y n n * ((x p : Int) + x q)).natAbs : Int) := fun r er => by
          rw [er, absX (by omega) (by omega), hna]
        rw [fX3_bestHoles_22, fX10_holes_32, e1, e2', if_neg (nI_ge hq (by omega)), if_neg (nI_ge hq (by omega))]
        simp only [if_pos (inx' (show p < 8 by omega) (by decide)), if_pos (inx' (show q < 8 by omega) (by decide)), nI_clamp (show p < 2 ^ 31 by omega), nI_clamp (show q < 2 ^ 31 by omega), (o1 p hp).2, (o1 q hq).2, (o2 p hp).2, (o2 q hq).2, o3' p hp, o3' q hq, o4' p hp, o4' q hq, g0, g2, tiltM (τ := τ) (wgC x x y n n) 0 (twC x y n n) x1 x2, hsz, obS, tiltX e1 hn o1 o2 x1 x2, hangX e1 hn o1 o2 x1 y1 x2 y2, steadM g0 g1 g2 (show -8000000 ≤ twC x y n n ∧ twC x y n n ≤ 8000000 by omega) (show -20000000000 ≤ wgC x x y n n ∧ wgC x x y n n ≤ 20000000000 by omega) (show -20000000000 ≤ wgC y x y n n ∧ wgC y x y n n ≤ 20000000000 by omega) x1 y1 x2 y2, hax _ rfl, i10, nI_1]
        have e10 : (10 : Int32) * nI p + nI q = nI (10 * p + q) := by rw [show (10 : Int32) = nI 10 from rfl, pk_mul, nI_add]
        rw [e10]
        have a1 := ih (q + 1) f b l (by omega) (by omega) h3
        have a2 := ih (q + 1) f (nI (10 * p + q)) (lI ((2 * wgC x x y n n - 3 * twC x y n n * ((x p : Int) + x q)).natAbs : Int)) (by omega) (by omega) (Or.inr ⟨_, by omega, rfl⟩)
        by_cases cs : ¬ st01 (twC x y n n) (wgC x x y n n) (wgC y x y n n) (x p) (y p) (x q) (y q) = 0
        · simp only [if_neg cs]
          rcases h3 with rfl | ⟨z, z1, rfl⟩
          · rw [if_pos rfl, if_pos (show (-1 : Int32) < 0 by decide)]
            exact a2
          · rw [if_neg (show ¬ nI z = (-1 : Int32) from fun w => absurd (show (0 : Int32) ≤ -1 by rw [← w]; exact nI_pos' (by omega)) (by decide)), if_neg (show ¬ nI z < (0 : Int32) from nI_pos (by omega))]
            exact OT.ite (fun _ => a1) (fun _ => a2)
        · have cs := Decidable.not_not.mp cs
          simp only [if_pos cs]
          rcases h3 with rfl | ⟨z, z1, rfl⟩
          · rw [if_pos rfl]
            exact a1
          · rw [if_neg (show ¬ nI z = (-1 : Int32) from fun w => absurd (show (0 : Int32) ≤ -1 by rw [← w]; exact nI_pos' (by omega)) (by decide))]
            by_cases c9 : l ≤ lI ((2 * wgC x x y n n - 3 * twC x y n n * ((x p : Int) + x q)).natAbs : Int)
            · rw [if_pos c9]; exact a1
            · rw [if_neg c9]; exact a1
  have outer : ∀ (d p f : Nat) (b : Int32) (l : Int64), p + d = n → d < f → (b = -1 ∨ ∃ z : Nat, z < 1000 ∧ b = nI z) → OT σ (fX3_bestHoles_7 (fX3_bestHoles_7_k σ) σ f b l (nI p)) (fX10_holes_17 (fX10_holes_17_k T) T f b l (nI p)) := by
    intro d
    induction d with
    | zero =>
      intro p f b l h1 h2 h3
      cases f with
      | zero => omega
      | succ f =>
        rw [fX3_bestHoles_7, fX10_holes_17, e1, e2', if_pos (nI_le (by omega) (by omega)), if_pos (nI_le (by omega) (by omega))]
        exact OT.same hr _
    | succ d ih =>
      intro p f b l h1 h2 h3
      cases f with
      | zero => omega
      | succ f =>
        rw [fX3_bestHoles_7, fX10_holes_17, e1, e2', if_neg (nI_ge (by omega) (by omega)), if_neg (nI_ge (by omega) (by omega)), nI_1]
        exact inner p (by omega) _ _ (fun b l hb => ih (p + 1) f b l (by omega) (by omega) hb) (n - (p + 1)) (p + 1) KF b l (by omega) (Nat.lt_of_lt_of_le (by omega) KF_ge) h3
  exact outer n 0 KF (-1) 0 (by omega) (Nat.lt_of_lt_of_le (by omega) KF_ge) (Or.inl rfl)
