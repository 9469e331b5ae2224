/-! the drum in plain numbers: girth of a layer, of all layers below, of all turns below -/
def gir (a t L : Nat) : Nat := a + 6 * t * L
def gs (a t : Nat) : Nat → Nat
  | 0 => 0
  | L + 1 => gs a t L + gir a t L
def sm (a t T : Nat) : Nat → Nat
  | 0 => 0
  | k + 1 => sm a t T k + gir a t (k / T)
theorem gs_eq (a t : Nat) : ∀ L, gs a t L = L * a + 3 * t * L * (L - 1)
  | 0 => by simp [gs]
  | 1 => by simp [gs, gir]
  | L + 2 => by
    rw [gs, gs_eq a t (L + 1), gir]
    have e1 : L + 1 - 1 = L := by omega
    have e2 : L + 2 - 1 = L + 1 := by omega
    rw [e1, e2]
    have x1 : 3 * t * (L + 2) * (L + 1) = 3 * (t * L * L) + 9 * (t * L) + 6 * t := by
      have q := Nat.mul_left_comm t 2 L
      simp only [Nat.mul_add, Nat.add_mul, Nat.mul_one, Nat.mul_assoc] at q ⊢
      omega
    have x2 : 3 * t * (L + 1) * L = 3 * (t * L * L) + 3 * (t * L) := by
      simp only [Nat.mul_add, Nat.add_mul, Nat.mul_one, Nat.mul_assoc]
    have x3 : 6 * t * (L + 1) = 6 * (t * L) + 6 * t := by
      simp only [Nat.mul_add, Nat.mul_one, Nat.mul_assoc]
    have x4 : (L + 2) * a = (L + 1) * a + a := by
      rw [show L + 2 = (L + 1) + 1 from rfl, Nat.add_mul (L + 1) 1 a, Nat.one_mul]
    rw [x1, x2, x3, x4]
    omega
theorem div_lay {L T k : Nat} (h : k < T) : (L * T + k) / T = L := by
  rw [Nat.mul_comm, Nat.mul_add_div (by omega), Nat.div_eq_of_lt h, Nat.add_zero]
theorem sm_lay0 (a t T L : Nat) (hT : 0 < T) (h : sm a t T (L * T) = T * gs a t L) : ∀ k, k ≤ T → sm a t T (L * T + k) = T * gs a t L + k * gir a t L
  | 0, _ => by rw [Nat.add_zero, Nat.zero_mul, Nat.add_zero]; exact h
  | k + 1, hk => by
    rw [← Nat.add_assoc, sm, sm_lay0 a t T L hT h k (by omega), div_lay (by omega), Nat.add_mul, Nat.one_mul]
    omega
theorem sm_lay1 (a t T : Nat) (hT : 0 < T) : ∀ L, sm a t T (L * T) = T * gs a t L
  | 0 => by rw [Nat.zero_mul]; simp [sm, gs]
  | L + 1 => by
    rw [Nat.add_mul, Nat.one_mul, sm_lay0 a t T L hT (sm_lay1 a t T hT L) T (Nat.le_refl T), gs, Nat.mul_add]
theorem sm_lay (a t T L k : Nat) (hT : 0 < T) (hk : k ≤ T) : sm a t T (L * T + k) = T * gs a t L + k * gir a t L := sm_lay0 a t T L hT (sm_lay1 a t T hT L) k hk
theorem sm_ge (a t T : Nat) (ha : 10 ≤ a) : ∀ k, 10 * k ≤ sm a t T k
  | 0 => by omega
  | k + 1 => by
    have := sm_ge a t T ha k
    rw [sm, gir]
    omega
theorem sm_mono (a t T : Nat) {j k : Nat} (h : j ≤ k) : sm a t T j ≤ sm a t T k := by
  induction k with
  | zero => rw [show j = 0 by omega]; exact Nat.le_refl _
  | succ k ih =>
    by_cases e : j = k + 1
    · rw [e]; exact Nat.le_refl _
    · rw [sm]
      have := ih (by omega)
      omega
/-! longs -/
theorem cut_ll {x y : Nat} (hx : x < 2 ^ 63) (h0 : 0 < y) (hy : y < 2 ^ 63) : fX9_cut (lN x) (lN y) = some (lN (x / y)) := by
  have hne : ¬ lN y = 0 := fun e => by
    have := (pk_lEQ hy (by decide)).mp (show lN y = lN 0 from e)
    omega
  unfold fX9_cut
  rw [if_neg hne, if_neg hne, pk_lDiv hx h0 hy]
theorem cut_ii {x y : Nat} (hx : x < 2 ^ 31) (h0 : 0 < y) (hy : y < 2 ^ 31) : fX9_cut (nI x).toInt64 (nI y).toInt64 = some (lN (x / y)) := by
  rw [nI_l hx, nI_l hy]
  exact cut_ll (by omega) h0 (by omega)
theorem lN_sub1 {x y : Nat} (h : y ≤ x) : lN x - lN y = lN (x - y) := lN_sub h
theorem nI_zmul (x : Int32) : nI 0 * x = nI 0 := by
  show (0 : Int32) * x = 0
  exact Int32.zero_mul
theorem lay_eq (t L : Nat) : (3 : Int32) * nI t * nI L * (nI L - 1) = nI (3 * t * L * (L - 1)) := by
  rw [show (3 : Int32) = nI 3 from rfl, pk_mul, pk_mul]
  cases L with
  | zero => rw [Nat.mul_zero, nI_zmul, Nat.zero_mul]
  | succ L =>
    rw [show nI (L + 1) - (1 : Int32) = nI L from nI_pred L, pk_mul]
    rfl
theorem girX_eq {σ : St} {a t : Nat} (e2 : gi σ 2 = nI a) (e4 : gi σ 4 = nI t) (L : Nat) : fX2_girthOfLayer σ (nI L) = some (nI (gir a t L)) := by
  unfold fX2_girthOfLayer
  rw [e2, e4, show (6 : Int32) = nI 6 from rfl, pk_mul, pk_mul, nI_add]
  rfl
theorem girM_eq {τ : St} {a t T : Nat} (e2 : gi τ 2 = nI a) (e4 : gi τ 4 = nI t) (e5 : gi τ 5 = nI T) (hT : 0 < T) (hT' : T < 2 ^ 31) {k : Nat} (hk : k < 2 ^ 31) : fX10_girthOf τ (nI k) = some (nI (gir a t (k / T))) := by
  unfold fX10_girthOf
  rw [e2, e4, e5, if_neg (nI_ne0 hT hT'), pk_div hk hT hT', show (6 : Int32) = nI 6 from rfl, pk_mul, pk_mul, nI_add]
  rfl
/-- a loop that goes on up to w and there leaves -/
theorem until_loop {R : Type} (L : Nat → Nat → Option R) (out : Option R) (w : Nat) (hx : ∀ n, L (n + 1) w = out) (hs : ∀ n k, k < w → L (n + 1) k = L n (k + 1)) : ∀ d k n, k + d = w → d < n → L n k = out := by
  intro d
  induction d with
  | zero =>
    intro k n h1 h2
    cases n with
    | zero => omega
    | succ n => rw [show k = w by omega]; exact hx n
  | succ d ih =>
    intro k n h1 h2
    cases n with
    | zero => omega
    | succ n => rw [hs n k (by omega)]; exact ih (k + 1) n (by omega) (by omega)
theorem until0 {R : Type} (L : Nat → Nat → Option R) (out : Option R) (w : Nat) (hw : w < 300000) (hx : ∀ n, L (n + 1) w = out) (hs : ∀ n k, k < w → L (n + 1) k = L n (k + 1)) : L KF 0 = out := until_loop L out w hx hs w 0 KF (by omega) (Nat.lt_of_lt_of_le hw KF_ge)
theorem gir_lt {a t L : Nat} (ha : a ≤ 200) (ht : t ≤ 10) (hL : L ≤ 3000) : gir a t L < 200000 := by
  have : t * L ≤ 10 * 3000 := Nat.mul_le_mul ht hL
  rw [gir, Nat.mul_assoc]
  omega
theorem liftX_eq {σ : St} {s a t T q : Nat} (e1 : gi σ 1 = nI s) (e2 : gi σ 2 = nI a) (e4 : gi σ 4 = nI t) (e5 : gi σ 5 = nI T) (hs : 10 ≤ s) (hs' : s ≤ 60) (ha : a ≤ 200) (ht : t ≤ 10) (hT : 1 ≤ T) (hT' : T ≤ 20) (hq : q ≤ 20000) : fX2_liftOf σ (nI q) = some (nI (sm a t T (q / s) + q % s * gir a t (q / s / T) / s)) := by
  have hw : q / s ≤ 2000 := by
    have := Nat.div_le_div_left (a := q) hs (show 0 < 10 by omega)
    omega
  have hL : q / s / T ≤ 2000 := Nat.le_trans (Nat.div_le_self _ _) hw
  have hg := gir_lt ha ht (show q / s / T ≤ 3000 by omega)
  have hm : q % s < s := Nat.mod_lt _ (by omega)
  have hdm := Nat.div_add_mod q s
  have hdm2 := Nat.div_add_mod (q / s) T
  have hsub : q - q / s * s = q % s := by rw [Nat.mul_comm]; omega
  have hsub2 : q / s - q / s / T * T = q / s % T := by rw [Nat.mul_comm (q / s / T)]; omega
  have hle1 : q / s * s ≤ q := by rw [Nat.mul_comm]; omega
  have hle2 : q / s / T * T ≤ q / s := by rw [Nat.mul_comm]; omega
  have hp : q % s * gir a t (q / s / T) ≤ 60 * 200000 := Nat.mul_le_mul (by omega) (by omega)
  have hsm : sm a t T (q / s) = T * gs a t (q / s / T) + q / s % T * gir a t (q / s / T) := by
    have h9 := sm_lay a t T (q / s / T) (q / s % T) (by omega) (Nat.le_of_lt (Nat.mod_lt _ (by omega)))
    rw [show q / s / T * T + q / s % T = q / s by rw [Nat.mul_comm]; omega] at h9
    exact h9
  unfold fX2_liftOf fX2_liftOfLayers
  rw [e1, e2, e4, e5, cut_ii (by omega) (by omega) (by omega)]
  simp only [obS, lN_i]
  rw [cut_ii (by omega) (by omega) (by omega)]
  simp only [obS, lN_i, girX_eq e2 e4]
  rw [pk_mul, pk_sub hle1, hsub, nI_l (by omega), nI_l (by omega), lN_mul, nI_l (show s < 2 ^ 31 by omega), cut_ll (by omega) (by omega) (by omega)]
  simp only [obS, lN_i, lay_eq]
  rw [pk_mul, nI_add, pk_mul, pk_mul, pk_sub hle2, hsub2, pk_mul, nI_add, nI_add, hsm, gs_eq]
theorem liftM_eq {τ : St} {s a t T q : Nat} (e1 : gi τ 1 = nI s) (e2 : gi τ 2 = nI a) (e4 : gi τ 4 = nI t) (e5 : gi τ 5 = nI T) (hs : 10 ≤ s) (hs' : s ≤ 60) (ha : a ≤ 200) (ht : t ≤ 10) (hT : 1 ≤ T) (hT' : T ≤ 20) (hq : q ≤ 20000) : fX10_liftOf τ (nI q) = some (nI (sm a t T (q / s) + q % s * gir a t (q / s / T) / s)) := by
  have hw : q / s ≤ 2000 := by
    have := Nat.div_le_div_left (a := q) hs (show 0 < 10 by omega)
    omega
  have hL : q / s / T ≤ 2000 := Nat.le_trans (Nat.div_le_self _ _) hw
  have hg := gir_lt ha ht (show q / s / T ≤ 3000 by omega)
  have hm : q % s < s := Nat.mod_lt _ (by omega)
  have hp : q % s * gir a t (q / s / T) ≤ 60 * 200000 := Nat.mul_le_mul (by omega) (by omega)
  unfold fX10_liftOf
  rw [e1, if_neg (nI_ne0 (by omega) (by omega)), pk_div (by omega) (by omega) (by omega)]
  refine Eq.trans (until0 (fun n k => fX10_liftOf_12 (fX10_liftOf_12_k τ (nI q) (nI (q / s))) τ (nI q) (nI (q / s)) n (nI (sm a t T k)) (nI k)) (fX10_liftOf_12_k τ (nI q) (nI (q / s)) (nI (sm a t T (q / s))) (nI (q / s))) (q / s) (by omega) (fun n => ?_) (fun n k hk => ?_)) ?_
  · show fX10_liftOf_12 _ _ _ _ _ _ _ = _
    rw [fX10_liftOf_12, if_pos (nI_le (Nat.le_refl _) (by omega))]
  · show fX10_liftOf_12 _ _ _ _ _ _ _ = fX10_liftOf_12 _ _ _ _ _ _ _
    rw [fX10_liftOf_12, if_neg (nI_ge hk (by omega)), girM_eq e2 e4 e5 (by omega) (by omega) (by omega)]
    simp only [obS]
    rw [nI_add, nI_1, sm]
  · unfold fX10_liftOf_12_k
    rw [e1, if_neg (nI_ne0 (by omega) (by omega)), girM_eq e2 e4 e5 (by omega) (by omega) (by omega)]
    simp only [obS]
    rw [pk_rem (by omega) (by omega) (by omega), nI_l (show s < 2 ^ 31 by omega), if_neg (show ¬ lN s = 0 from fun e => by have := (pk_lEQ (by omega) (by decide)).mp (show lN s = lN 0 from e); omega), nI_l (by omega), nI_l (by omega), lN_mul, pk_lDiv (by omega) (by omega) (by omega), lN_i, nI_add]
theorem e_lift {σ τ : St} (h : Rel σ τ) (x : Int32) : One (fX9_lift σ x) (fX10_lift τ x) := by
  obtain ⟨⟨⟨g, s, a, f, t, T, _, ⟨h1, h2, h3, h4⟩, ⟨h5, h6, h7, h8⟩, _, ⟨h9, h10, h11⟩, ⟨h12, h13, h14, h15⟩⟩, _⟩, _⟩ := h
  unfold fX9_lift fX10_lift
  simp only [within_eq, in_eq, obS, i10, i01, Int32.toInt_toInt64]
  refine One.ite (fun _ => One.same _) (fun c1 => ?_)
  obtain ⟨q, rfl, l1, u1⟩ := t_nat (a := 0) (b := 20000) (by decide) c1
  rw [liftX_eq h1 h5 h9 h12 h3 h4 h8 h11 h14 h15 (by omega), liftM_eq h2 h6 h10 h13 h3 h4 h8 h11 h14 h15 (by omega)]
  exact One.same _
theorem ceil_iff {g s l q : Nat} (hg : 0 < g) (hs : 0 < s) : l ≤ q * g / s ↔ (l * s + g - 1) / g ≤ q := by
  rw [Nat.le_div_iff_mul_le hs]
  constructor
  · intro h
    have : l * s + g - 1 < (q + 1) * g := by
      rw [Nat.add_mul, Nat.one_mul]
      omega
    have := (Nat.div_lt_iff_lt_mul hg).mpr this
    omega
  · intro h
    have h1 := Nat.div_add_mod (l * s + g - 1) g
    have h2 := Nat.mod_lt (l * s + g - 1) hg
    have h3 : g * ((l * s + g - 1) / g) ≤ g * q := Nat.mul_le_mul_left g h
    rw [Nat.mul_comm g q] at h3
    omega
/-- how many steps a height takes: w whole turns, and the rest in the next -/
theorem steps_both {σ τ : St} {s a t T h : Nat} (e1 : gi σ 1 = nI s) (e2 : gi σ 2 = nI a) (e4 : gi σ 4 = nI t) (e5 : gi σ 5 = nI T) (m1 : gi τ 1 = nI s) (m2 : gi τ 2 = nI a) (m4 : gi τ 4 = nI t) (m5 : gi τ 5 = nI T) (hs : 10 ≤ s) (hs' : s ≤ 60) (ha : 10 ≤ a) (ha' : a ≤ 200) (ht : t ≤ 10) (hT : 1 ≤ T) (hT' : T ≤ 20) (hh : h ≤ 20000) : ∃ q : Nat, q ≤ 2000 * s ∧ fX2_stepsFor σ (nI h) = some (nI q) ∧ fX10_stepsFor τ (nI h) = some (nI q) := by
  by_cases h0 : h = 0
  · subst h0
    refine ⟨0, by omega, ?_, ?_⟩
    · unfold fX2_stepsFor
      rw [if_neg (show ¬ (0 : Int32) < nI 0 by decide)]
      rfl
    · unfold fX10_stepsFor
      obtain ⟨K9, hK⟩ := KF_s
      rw [hK, fX10_stepsFor_4, show (0 : Int32) = nI 0 from rfl, girM_eq m2 m4 m5 (by omega) (by omega) (by decide)]
      simp only [obS]
      have hg := gir_lt ha' ht (show 0 / T ≤ 3000 by rw [Nat.zero_div]; omega)
      rw [nI_add, if_pos (nI_le (Nat.zero_le _) (by omega))]
      unfold fX10_stepsFor_4_k
      rw [hK, fX10_stepsFor_32, show (0 : Int32) = nI 0 from rfl, girM_eq m2 m4 m5 (by omega) (by omega) (by decide)]
      simp only [obS]
      rw [m1, nI_l (show s < 2 ^ 31 by omega), if_neg (show ¬ lN s = 0 from fun e => by have := (pk_lEQ (by omega) (by decide)).mp (show lN s = lN 0 from e); omega), nI_l (by decide), nI_l (by omega), lN_mul, pk_lDiv (by omega) (by omega) (by omega), lN_i, nI_add, if_pos (nI_le (Nat.zero_le _) (by rw [Nat.zero_mul, Nat.zero_div]; omega))]
      unfold fX10_stepsFor_32_k
      rw [m1, pk_mul, nI_add, Nat.zero_mul]
  · -- the layer at which the height is reached
    obtain ⟨L, hL1, hL2⟩ : ∃ L : Nat, h ≤ T * gs a t (L + 1) ∧ ∀ j, j < L + 1 → j ≤ L → T * gs a t j < h := by
      obtain ⟨k, hk1, hk2⟩ := pk_least (fun k => h ≤ T * gs a t k) ⟨2001, by
        have := sm_ge a t T ha (2001 * T)
        rw [sm_lay1 a t T (by omega)] at this
        have : 10 * (2001 * 1) ≤ 10 * (2001 * T) := by omega
        omega⟩
      cases k with
      | zero => simp [gs] at hk1; omega
      | succ k => exact ⟨k, hk1, fun j h1 h2 => Nat.not_le.mp (hk2 j h1)⟩
    have hLs : T * gs a t L < h := hL2 L (by omega) (Nat.le_refl L)
    have hLb : L ≤ 2000 := by
      have := sm_ge a t T ha (L * T)
      rw [sm_lay1 a t T (by omega)] at this
      have h3 : L * 1 ≤ L * T := Nat.mul_le_mul_left L hT
      omega
    have hgp : 10 ≤ gir a t L := by rw [gir]; omega
    have hgl := gir_lt ha' ht (show L ≤ 3000 by omega)
    generalize hl : h - T * gs a t L = lf
    have hlf1 : 1 ≤ lf := by omega
    have hlf2 : lf ≤ T * gir a t L := by
      rw [gs, Nat.mul_add] at hL1
      omega
    generalize hg : gir a t L = g at hgp hgl hlf2
    -- the turns in that layer
    generalize hu : (lf - 1) / g = u
    have hdm := Nat.div_add_mod (lf - 1) g
    have hml := Nat.mod_lt (lf - 1) (show 0 < g by omega)
    rw [hu, Nat.mul_comm] at hdm
    have huT : u < T := by
      rw [← hu]
      exact (Nat.div_lt_iff_lt_mul (by omega)).mpr (by omega)
    have hug : u * g ≤ lf - 1 := by omega
    generalize hr : lf - u * g = rs
    have hr1 : 1 ≤ rs := by omega
    have hr2 : rs ≤ g := by omega
    generalize hc : (rs * s + g - 1) / g = ct
    have hct : ct ≤ s := by
      rw [← hc]
      have h5 : rs * s ≤ g * s := Nat.mul_le_mul_right s hr2
      have h6 : rs * s + g - 1 < (s + 1) * g := by
        rw [Nat.add_mul, Nat.one_mul, Nat.mul_comm s g]
        omega
      have := (Nat.div_lt_iff_lt_mul (show 0 < g by omega)).mpr h6
      omega
    have hsm : ∀ k, k ≤ T → sm a t T (L * T + k) = T * gs a t L + k * g := fun k hk => by rw [sm_lay a t T L k (by omega) hk, hg]
    have hdiv : ∀ k, k < T → (L * T + k) / T = L := fun k hk => div_lay hk
    have hw : L * T + u < 40020 := by
      have : L * T ≤ 2000 * 20 := Nat.mul_le_mul hLb hT'
      omega
    have hwb : 10 * (L * T + u) < 20000 := by
      have h7 := sm_ge a t T ha (L * T + u)
      rw [hsm u (by omega)] at h7
      omega
    refine ⟨(L * T + u) * s + ct, ?_, ?_, ?_⟩
    · have : (L * T + u) * s ≤ 1999 * s := Nat.mul_le_mul_right s (by omega)
      omega
    · unfold fX2_stepsFor
      rw [if_pos (show (0 : Int32) < nI h from nI_lt (show 0 < h by omega) (by omega))]
      refine Eq.trans (until0 (fun n k => fX2_stepsFor_10 (fX2_stepsFor_10_k σ (nI h)) σ (nI h) n (nI k) (nI (h - T * gs a t k))) (fX2_stepsFor_10_k σ (nI h) (nI L) (nI lf)) L (by omega) (fun n => ?_) (fun n k hk => ?_)) ?_
      · show fX2_stepsFor_10 _ _ _ _ _ _ = _
        rw [fX2_stepsFor_10, if_neg (show ¬ (2000 : Int32) < nI L from nI_nlt (a := 2000) hLb (by decide)), girX_eq e2 e4]
        simp only [obS]
        have h8 : T * g ≤ 20 * 200000 := Nat.mul_le_mul hT' (by omega)
        rw [e5, pk_mul, hg, hl, if_pos (nI_le hlf2 (by omega))]
      · show fX2_stepsFor_10 _ _ _ _ _ _ = fX2_stepsFor_10 _ _ _ _ _ _
        have h8 : T * gs a t (k + 1) < h := hL2 (k + 1) (by omega) (by omega)
        rw [gs, Nat.mul_add] at h8
        rw [fX2_stepsFor_10, if_neg (show ¬ (2000 : Int32) < nI k from nI_nlt (a := 2000) (by omega) (by decide)), girX_eq e2 e4]
        simp only [obS]
        rw [e5, pk_mul, if_neg (nI_ge (by omega) (by omega)), nI_1, pk_sub (by omega), gs, Nat.mul_add, Nat.sub_sub]
      · unfold fX2_stepsFor_10_k
        rw [girX_eq e2 e4, hg]
        simp only [obS]
        rw [show nI lf - (1 : Int32) = nI (lf - 1) from pk_sub (b := 1) hlf1, cut_ii (by omega) (by omega) (by omega), hu]
        simp only [obS, lN_i]
        have h9 : rs * s ≤ 200000 * 60 := Nat.mul_le_mul (by omega) hs'
        rw [pk_mul, pk_sub (by omega), hr, e1, e5, nI_l (by omega), nI_l (show s < 2 ^ 31 by omega), nI_l (show g < 2 ^ 31 by omega), lN_mul, lN_add, show lN (rs * s + g) - (1 : Int64) = lN (rs * s + g - 1) from lN_sub (b := 1) (by omega), cut_ll (by omega) (by omega) (by omega), hc]
        simp only [obS, lN_i]
        rw [pk_mul, nI_add, pk_mul, nI_add]
    · unfold fX10_stepsFor
      refine Eq.trans (until0 (fun n k => fX10_stepsFor_4 (fX10_stepsFor_4_k τ (nI h)) τ (nI h) n (nI k) (nI (sm a t T k))) (fX10_stepsFor_4_k τ (nI h) (nI (L * T + u)) (nI (T * gs a t L + u * g))) (L * T + u) (by omega) (fun n => ?_) (fun n k hk => ?_)) ?_
      · show fX10_stepsFor_4 _ _ _ _ _ _ = _
        rw [fX10_stepsFor_4, girM_eq m2 m4 m5 (by omega) (by omega) (by omega), hdiv u huT, hg]
        simp only [obS]
        rw [hsm u (by omega), nI_add, if_pos (nI_le (by omega) (by omega))]
      · show fX10_stepsFor_4 _ _ _ _ _ _ = fX10_stepsFor_4 _ _ _ _ _ _
        have h8 : sm a t T (k + 1) < h := by
          have := sm_mono a t T (show k + 1 ≤ L * T + u by omega)
          rw [hsm u (by omega)] at this
          omega
        rw [sm] at h8
        rw [fX10_stepsFor_4, girM_eq m2 m4 m5 (by omega) (by omega) (by omega)]
        simp only [obS]
        rw [nI_add, if_neg (nI_ge h8 (by omega)), nI_1, sm]
      · unfold fX10_stepsFor_4_k
        refine Eq.trans (until0 (fun n k => fX10_stepsFor_32 (fX10_stepsFor_32_k τ (nI h) (nI (L * T + u)) (nI (T * gs a t L + u * g))) τ (nI h) (nI (L * T + u)) (nI (T * gs a t L + u * g)) n (nI k)) (fX10_stepsFor_32_k τ (nI h) (nI (L * T + u)) (nI (T * gs a t L + u * g)) (nI ct)) ct (by omega) (fun n => ?_) (fun n k hk => ?_)) ?_
        · show fX10_stepsFor_32 _ _ _ _ _ _ _ = _
          rw [fX10_stepsFor_32, girM_eq m2 m4 m5 (by omega) (by omega) (by omega), hdiv u huT, hg]
          simp only [obS]
          have hp : ct * g ≤ 60 * 200000 := Nat.mul_le_mul (by omega) (by omega)
          have hq : rs ≤ ct * g / s := (ceil_iff (by omega) (by omega)).mpr (by omega)
          have hq2 : ct * g / s ≤ ct * g := Nat.div_le_self _ _
          rw [m1, nI_l (show s < 2 ^ 31 by omega), if_neg (show ¬ lN s = 0 from fun e => by have := (pk_lEQ (by omega) (by decide)).mp (show lN s = lN 0 from e); omega), nI_l (by omega), nI_l (by omega), lN_mul, pk_lDiv (by omega) (by omega) (by omega), lN_i, nI_add, if_pos (nI_le (by omega) (by omega))]
        · show fX10_stepsFor_32 _ _ _ _ _ _ _ = fX10_stepsFor_32 _ _ _ _ _ _ _
          rw [fX10_stepsFor_32, girM_eq m2 m4 m5 (by omega) (by omega) (by omega), hdiv u huT, hg]
          simp only [obS]
          have hp : k * g ≤ 60 * 200000 := Nat.mul_le_mul (by omega) (by omega)
          have hq : ¬ rs ≤ k * g / s := fun q => by
            have := (ceil_iff (by omega) (by omega)).mp q
            omega
          have hq2 : k * g / s ≤ k * g := Nat.div_le_self _ _
          rw [m1, nI_l (show s < 2 ^ 31 by omega), if_neg (show ¬ lN s = 0 from fun e => by have := (pk_lEQ (by omega) (by decide)).mp (show lN s = lN 0 from e); omega), nI_l (by omega), nI_l (by omega), lN_mul, pk_lDiv (by omega) (by omega) (by omega), lN_i, nI_add, if_neg (nI_ge (by omega) (by omega)), nI_1]
        · unfold fX10_stepsFor_32_k
          rw [m1, pk_mul, nI_add]
theorem isHeight_eq (v : Int32) : fX10_isHeight v = some (if 0 ≤ v.toInt ∧ v.toInt ≤ 20000 then 1 else 0) := by
  unfold fX10_isHeight
  simp only [in_eq, obS, nw10, if_true, Int32.toInt_toInt64]
  rfl
theorem e_steps {σ τ : St} (h : Rel σ τ) (x : Int32) : One (fX9_steps σ x) (fX10_steps τ x) := by
  obtain ⟨⟨⟨g, s, a, f, t, T, _, ⟨h1, h2, h3, h4⟩, ⟨h5, h6, h7, h8⟩, _, ⟨h9, h10, h11⟩, ⟨h12, h13, h14, h15⟩⟩, _⟩, _⟩ := h
  unfold fX9_steps fX10_steps
  simp only [within_eq, in_eq, obS, i10, i01, Int32.toInt_toInt64, isHeight_eq]
  refine One.ite (fun _ => One.same _) (fun c1 => ?_)
  obtain ⟨q, rfl, l1, u1⟩ := t_nat (a := 0) (b := 20000) (by decide) c1
  obtain ⟨r, _, q1, q2⟩ := steps_both (h := q) h1 h5 h9 h12 h2 h6 h10 h13 h3 h4 h7 h8 h11 h14 h15 (by omega)
  rw [q1, q2]
  exact One.same _
/-- the layer of the last turn, and the last turn -/
theorem lastL_eq {σ : St} {s T q : Nat} (e1 : gi σ 1 = nI s) (e5 : gi σ 5 = nI T) (hs : 10 ≤ s) (hs' : s ≤ 60) (hT : 1 ≤ T) (hT' : T ≤ 20) (hq : q ≤ 200000) : fX2_lastLayer σ (nI q) = some (nI ((q - 1) / s / T)) := by
  unfold fX2_lastLayer
  by_cases h0 : q = 0
  · subst h0
    rw [if_neg (show ¬ (0 : Int32) < nI 0 by decide)]
    simp
    rfl
  · have h1 : 0 < s * T := Nat.mul_pos (by omega) (by omega)
    have h2 : s * T ≤ 60 * 20 := Nat.mul_le_mul hs' hT'
    rw [if_pos (show (0 : Int32) < nI q from nI_lt (show 0 < q by omega) (by omega)), e1, e5, pk_mul, show nI q - (1 : Int32) = nI (q - 1) from pk_sub (b := 1) (by omega), cut_ii (by omega) h1 (by omega)]
    simp only [obS, lN_i, Nat.div_div_eq_div_mul]
theorem lastT_eq {τ : St} {s q : Nat} (e1 : gi τ 1 = nI s) (hs : 10 ≤ s) (hs' : s ≤ 60) (hq : q ≤ 200000) : fX10_lastTurn τ (nI q) = some (nI ((q - 1) / s)) := by
  unfold fX10_lastTurn
  by_cases h0 : q = 0
  · subst h0
    rw [if_pos (show nI 0 = (0 : Int32) from rfl)]
    simp
    rfl
  · rw [if_neg (nI_ne0 (by omega) (by omega)), e1, if_neg (nI_ne0 (by omega) (by omega)), show nI q - (1 : Int32) = nI (q - 1) from pk_sub (b := 1) (by omega), pk_div (by omega) (by omega) (by omega)]
theorem e_layer {σ τ : St} (h : Rel σ τ) (x y : Int32) : One (fX9_layer σ x y) (fX10_layer τ x y) := by
  obtain ⟨⟨⟨g, s, a, f, t, T, _, ⟨h1, h2, h3, h4⟩, ⟨h5, h6, h7, h8⟩, _, ⟨h9, h10, h11⟩, ⟨h12, h13, h14, h15⟩⟩, _⟩, _⟩ := h
  unfold fX9_layer fX10_layer
  simp only [within_eq, in_eq, obS, i10, i01, Int32.toInt_toInt64]
  refine One.ite (fun _ => One.same _) (fun c1 => ?_)
  refine One.ite (fun _ => One.same _) (fun c2 => ?_)
  obtain ⟨q, rfl, l1, u1⟩ := t_nat (a := 0) (b := 20000) (by decide) c1
  have hb : (q - 1) / s ≤ q - 1 := Nat.div_le_self _ _
  rw [lastL_eq h1 h12 h3 h4 h14 h15 (by omega), lastT_eq h2 h3 h4 (by omega)]
  simp only [obS, h13, if_neg (nI_ne0 (show 0 < T by omega) (show T < 2 ^ 31 by omega)), pk_div (show (q - 1) / s < 2 ^ 31 by omega) (show 0 < T by omega) (show T < 2 ^ 31 by omega), girX_eq h5 h9, girM_eq h6 h10 h13 (show 0 < T by omega) (show T < 2 ^ 31 by omega) (show (q - 1) / s < 2 ^ 31 by omega)]
  exact One.ite (fun _ => One.same _) (fun _ => One.same _)
