/-! bits -/
theorem sl32 : ∀ n, n < 32 → ((nI n &&& 31).toBitVec.smod 32).toNat = n := by decide
theorem bit_lt (m j : Nat) : bit m j < 2 := Nat.mod_lt _ (by decide)
theorem bit_eq {m j : Nat} (hm : m < 2 ^ 31) (hj : j < 32) : (nI m >>> (nI j &&& 31)) &&& (1 : Int32) = nI (bit m j) := by
  rw [pk_shrN hm _ j (sl32 j hj), pk_andN (by have := Nat.div_le_self m (2 ^ j); omega) 1 (by decide)]
  rfl
theorem pow_eq {n : Nat} (h : n < 31) : (1 : Int32) <<< (nI n &&& 31) = nI (2 ^ n) := by
  have h1 : 2 ^ n ≤ 2 ^ 31 := Nat.pow_le_pow_right (by decide) (by omega)
  rw [show (1 : Int32) = nI 1 from rfl, pk_shlN _ n (sl32 n (by omega)) (by omega), Nat.one_mul]
theorem pow_pos' (n : Nat) : 0 < 2 ^ n := Nat.pow_pos (by decide)
theorem all_eq {n : Nat} (h : n < 31) : ((1 : Int32) <<< (nI n &&& 31)) - 1 = nI (2 ^ n - 1) := by
  rw [pow_eq h]
  exact pk_sub (b := 1) (pow_pos' n)
/-- the ones of a number below 2^k -/
theorem bc_tab : ∀ a, a < 64 → ∀ b, b < 64 → fJ6_bitCount_0f7a4 (nI (64 * a + b)) = some (nI (popN (64 * a + b) 20)) := by decide +kernel
theorem bc_eq (m : Nat) (h : m < 4096) : fJ6_bitCount_0f7a4 (nI m) = some (nI (popN m 20)) := by
  have := bc_tab (m / 64) (by omega) (m % 64) (by omega)
  rw [show 64 * (m / 64) + m % 64 = m by omega] at this
  exact this
theorem ones_eq {m : Nat} (hm : m < 2 ^ 31) : fX10_ones (nI m) = some (nI (popN m 20)) := by
  unfold fX10_ones
  refine Eq.trans (until0 (fun n k => fX10_ones_4 (fX10_ones_4_k (nI m)) (nI m) n (nI (popN m k)) (nI k)) (fX10_ones_4_k (nI m) (nI (popN m 20)) (nI 20)) 20 (by decide) (fun n => ?_) (fun n k hk => ?_)) rfl
  · show fX10_ones_4 _ _ _ _ _ = _
    rw [fX10_ones_4, if_pos (show (20 : Int32) ≤ nI 20 by decide)]
  · show fX10_ones_4 _ _ _ _ _ = fX10_ones_4 _ _ _ _ _
    rw [fX10_ones_4, if_neg (show ¬ (20 : Int32) ≤ nI k from nI_ge (show k < 20 from hk) (by decide)), bit_eq hm (by omega), nI_add, nI_1, popN]
theorem popN_le (m : Nat) : ∀ k, popN m k ≤ k
  | 0 => Nat.le_refl 0
  | k + 1 => by have := popN_le m k; have := bit_lt m k; rw [popN]; omega
/-! weights -/
def wsN (f : Nat → Int32) (m : Nat) : Nat → Nat
  | 0 => 0
  | k + 1 => wsN f m k + bit m k * (f k).toNatClampNeg
theorem wsN_congr {f g : Nat → Int32} {m : Nat} : ∀ (n : Nat), (∀ j, j < n → f j = g j) → wsN f m n = wsN g m n
  | 0, _ => rfl
  | n + 1, h => by rw [wsN, wsN, wsN_congr n (fun j hj => h j (by omega)), h n (by omega)]
theorem wsN_le {f : Nat → Int32} {m : Nat} : ∀ (n : Nat), (∀ j, j < n → ∃ w : Nat, w ≤ 150 ∧ f j = nI w) → wsN f m n ≤ 150 * n
  | 0, _ => Nat.le_refl _
  | n + 1, h => by
    obtain ⟨w, h1, h2⟩ := h n (by omega)
    have h3 := wsN_le (m := m) n (fun j hj => h j (by omega))
    have h4 := bit_lt m n
    have h5 : bit m n * w ≤ 1 * 150 := Nat.mul_le_mul (by omega) h1
    rw [wsN, h2, nI_clamp (by omega)]
    omega
theorem wX_eq {σ : St} {n m : Nat} (e : gi σ 6 = nI n) (hn : n ≤ 8) (hm : m < 2 ^ 31) (hw : ∀ j, j < n → ∃ w : Nat, w ≤ 150 ∧ ga σ 10 j = nI w) : fX1_weightOf σ (nI m) = some (nI (wsN (ga σ 10) m n)) := by
  unfold fX1_weightOf
  refine Eq.trans (until0 (fun f k => fX1_weightOf_4 (fX1_weightOf_4_k σ (nI m)) σ (nI m) f (nI (wsN (ga σ 10) m k)) (nI k)) (fX1_weightOf_4_k σ (nI m) (nI (wsN (ga σ 10) m n)) (nI n)) n (by omega) (fun f => ?_) (fun f k hk => ?_)) rfl
  · show fX1_weightOf_4 _ _ _ _ _ _ = _
    rw [fX1_weightOf_4, e, if_pos (nI_le (Nat.le_refl n) (by omega))]
  · show fX1_weightOf_4 _ _ _ _ _ _ = fX1_weightOf_4 _ _ _ _ _ _
    obtain ⟨w, h1, h2⟩ := hw k hk
    rw [fX1_weightOf_4, e, if_neg (nI_ge hk (by omega)), if_pos (inx (show k < 8 by omega) (by decide)), bit_eq hm (by omega), nI_clamp (show k < 2 ^ 31 by omega), h2, pk_mul, nI_add, nI_1, wsN, h2, nI_clamp (show w < 2 ^ 31 by omega)]
theorem wM_eq {τ : St} {n m : Nat} (e : gi τ 6 = nI n) (hn : n ≤ 8) (hm : m < 2 ^ 31) (hw : ∀ j, j < n → ∃ w : Nat, w ≤ 150 ∧ ga τ 1 j = nI w) : fX10_weightOf τ (nI m) = some (nI (wsN (ga τ 1) m n)) := by
  unfold fX10_weightOf
  refine Eq.trans (until0 (fun f k => fX10_weightOf_4 (fX10_weightOf_4_k τ (nI m)) τ (nI m) f (nI (wsN (ga τ 1) m k)) (nI k)) (fX10_weightOf_4_k τ (nI m) (nI (wsN (ga τ 1) m n)) (nI n)) n (by omega) (fun f => ?_) (fun f k hk => ?_)) rfl
  · show fX10_weightOf_4 _ _ _ _ _ _ = _
    rw [fX10_weightOf_4, e, if_pos (nI_le (Nat.le_refl n) (by omega))]
  · show fX10_weightOf_4 _ _ _ _ _ _ = fX10_weightOf_4 _ _ _ _ _ _
    obtain ⟨w, h1, h2⟩ := hw k hk
    rw [fX10_weightOf_4, e, if_neg (nI_ge hk (by omega)), if_pos (inx (show k < 8 by omega) (by decide)), bit_eq hm (by omega), nI_clamp (show k < 2 ^ 31 by omega), h2, pk_mul, nI_add, nI_1, wsN, h2, nI_clamp (show w < 2 ^ 31 by omega)]
/-! breath -/
def spN (f : Nat → Int32) (m cost : Nat) : Nat → Bool
  | 0 => false
  | k + 1 => spN f m cost k || decide (bit m k = 1 ∧ (f k).toNatClampNeg < cost)
theorem spN_mono {f : Nat → Int32} {m cost : Nat} : ∀ (d k : Nat), spN f m cost k = true → spN f m cost (k + d) = true
  | 0, _, h => h
  | d + 1, k, h => by rw [← Nat.add_assoc, spN, spN_mono d k h]; rfl
theorem spN_congr {f g : Nat → Int32} {m c : Nat} : ∀ (n : Nat), (∀ j, j < n → f j = g j) → spN f m c n = spN g m c n
  | 0, _ => rfl
  | n + 1, h => by rw [spN, spN, spN_congr n (fun j hj => h j (by omega)), h n (by omega)]
theorem spN_no {f : Nat → Int32} {m c : Nat} : ∀ (n : Nat), spN f m c n = false → ∀ j, j < n → bit m j = 1 → c ≤ (f j).toNatClampNeg
  | 0, _ => fun j hj => absurd hj (by omega)
  | n + 1, h => fun j hj hb => by
    rw [spN, Bool.or_eq_false_iff] at h
    by_cases e : j = n
    · subst e
      have := of_decide_eq_false h.2
      exact Nat.not_lt.mp (fun q => this ⟨hb, q⟩)
    · exact spN_no n h.1 j (by omega) hb
theorem hb_eq {σ : St} {n m c : Nat} (e : gi σ 6 = nI n) (hn : n ≤ 8) (hm : m < 2 ^ 31) (hc : c < 2 ^ 31) (hw : ∀ j, j < n → ∃ b : Nat, b ≤ 5000 ∧ ga σ 11 j = nI b) : fX1_haveBreath σ (nI m) (nI c) = some (if spN (ga σ 11) m c n = true then 0 else 1) := by
  unfold fX1_haveBreath
  have key : ∀ (d k f : Nat), k + d = n → d < f → spN (ga σ 11) m c k = false → fX1_haveBreath_2 (fX1_haveBreath_2_k σ (nI m) (nI c)) σ (nI m) (nI c) f (nI k) = some (if spN (ga σ 11) m c n = true then 0 else 1) := by
    intro d
    induction d with
    | zero =>
      intro k f h1 h2 h3
      cases f with
      | zero => omega
      | succ f =>
        have hk : k = n := by omega
        subst hk
        rw [fX1_haveBreath_2, e, if_pos (nI_le (Nat.le_refl k) (by omega)), h3]
        rfl
    | succ d ih =>
      intro k f h1 h2 h3
      cases f with
      | zero => omega
      | succ f =>
        obtain ⟨b, b1, b2⟩ := hw k (by omega)
        rw [fX1_haveBreath_2, e, if_neg (nI_ge (show k < n by omega) (by omega)), bit_eq hm (by omega), nI_clamp (show k < 2 ^ 31 by omega), b2, nI_1]
        have hb2 := bit_lt m k
        by_cases hbit : bit m k = 1
        · rw [if_pos (show nI (bit m k) = (1 : Int32) by rw [hbit]; rfl), if_pos (inx' (show k < 8 by omega) (by decide))]
          by_cases hcb : c ≤ b
          · rw [if_pos (nI_le hcb (by omega))]
            refine ih (k + 1) f (by omega) (by omega) ?_
            rw [spN, h3, b2, nI_clamp (by omega)]
            simp only [Bool.false_or, decide_eq_false_iff_not]
            omega
          · rw [if_neg (nI_ge (by omega) (by omega))]
            have h4 : spN (ga σ 11) m c (k + 1) = true := by
              rw [spN, b2, nI_clamp (by omega)]
              simp only [Bool.or_eq_true, decide_eq_true_eq]
              exact Or.inr ⟨hbit, by omega⟩
            have h5 := spN_mono d (k + 1) h4
            rw [show k + 1 + d = n by omega] at h5
            rw [if_pos h5]
        · rw [if_neg (show ¬ nI (bit m k) = (1 : Int32) from fun q => hbit (nI_inj (by omega) (by decide) (show nI (bit m k) = nI 1 from q)))]
          refine ih (k + 1) f (by omega) (by omega) ?_
          rw [spN, h3]
          simp only [Bool.false_or, decide_eq_false_iff_not]
          exact fun q => hbit q.1
  exact key n 0 KF (by omega) (Nat.lt_of_lt_of_le (by omega) KF_ge) rfl
theorem sp_loop {τ : St} {n m c : Nat} (e : gi τ 6 = nI n) (hn : n ≤ 8) (hm : m < 2 ^ 31) (hc : c < 2 ^ 31) (hw : ∀ j, j < n → ∃ b : Nat, b ≤ 5000 ∧ ga τ 2 j = nI b) (v2 v3 v4 : Int32) (v5 v7 : Int64) : fX10_canOf_80 (fX10_canOf_80_k τ (nI m) v2 v3 v4 v5 v7 (lN c)) τ (nI m) v2 v3 v4 v5 v7 (lN c) KF 0 0 = some (if spN (ga τ 2) m c n = true then 2 else 1) := by
  refine Eq.trans (until0 (fun f k => fX10_canOf_80 (fX10_canOf_80_k τ (nI m) v2 v3 v4 v5 v7 (lN c)) τ (nI m) v2 v3 v4 v5 v7 (lN c) f (if spN (ga τ 2) m c k = true then 1 else 0) (nI k)) (fX10_canOf_80_k τ (nI m) v2 v3 v4 v5 v7 (lN c) (if spN (ga τ 2) m c n = true then 1 else 0) (nI n)) n (by omega) (fun f => ?_) (fun f k hk => ?_)) ?_
  · show fX10_canOf_80 _ _ _ _ _ _ _ _ _ _ _ _ = _
    rw [fX10_canOf_80, e, if_pos (nI_le (Nat.le_refl n) (by omega))]
  · show fX10_canOf_80 _ _ _ _ _ _ _ _ _ _ _ _ = fX10_canOf_80 _ _ _ _ _ _ _ _ _ _ _ _
    obtain ⟨b, b1, b2⟩ := hw k (by omega)
    rw [fX10_canOf_80, e, if_neg (nI_ge hk (by omega)), bit_eq hm (by omega), nI_clamp (show k < 2 ^ 31 by omega), b2, nI_1, nI_l (show b < 2 ^ 31 by omega), spN, b2, nI_clamp (show b < 2 ^ 31 by omega)]
    have hb2 := bit_lt m k
    by_cases h3 : spN (ga τ 2) m c k = true
    · simp only [h3, if_true, Bool.true_or]
      rw [if_neg (show ¬ (1 : Int32) = 0 by decide)]
    · simp only [h3, Bool.false_eq_true, if_false, Bool.false_or, if_true, decide_eq_true_eq]
      by_cases hbit : bit m k = 1
      · rw [if_pos (show nI (bit m k) = (1 : Int32) by rw [hbit]; rfl), if_pos (inx' (show k < 8 by omega) (by decide))]
        by_cases hcb : c ≤ b
        · rw [if_pos ((pk_lLE (by omega) (by omega)).mpr hcb), if_neg (by omega)]
        · rw [if_neg (fun q => hcb ((pk_lLE (by omega) (by omega)).mp q)), if_pos ⟨hbit, by omega⟩]
      · rw [if_neg (show ¬ nI (bit m k) = (1 : Int32) from fun q => hbit (nI_inj (by omega) (by decide) (show nI (bit m k) = nI 1 from q))), if_neg (fun q => hbit q.1)]
  · unfold fX10_canOf_80_k
    by_cases h : spN (ga τ 2) m c n = true
    · rw [if_pos h, if_pos h]; rfl
    · rw [if_neg h, if_neg h]; rfl
theorem div1000 {k : Nat} (h : k ≤ 50000) : (1 : Int32) + nI k / (1000 : Int32) = nI (1 + k / 1000) := by
  rw [show (1000 : Int32) = nI 1000 from rfl, pk_div (by omega) (by decide) (by decide), show (1 : Int32) = nI 1 from rfl, nI_add]
theorem turn1 {Wt k g G f : Nat} (h5 : f ≤ 100) : (lN Wt * lN g * (100 : Int64) < lN k * lN G * ((100 : Int32) + nI f).toInt64) = (lN (Wt * g * 100) < lN (k * G * (100 + f))) := by
  rw [show (100 : Int32) + nI f = nI (100 + f) from nI_add 100 f, nI_l (show 100 + f < 2 ^ 31 by omega), show (100 : Int64) = lN 100 from rfl, lN_mul, lN_mul, lN_mul, lN_mul]
theorem turn2 {Wt k g G f : Nat} (h1 : Wt ≤ 1200) (h2 : g ≤ 2000) (h3 : k ≤ 50000) (h4 : G < 200000) (h5 : f ≤ 100) : (lN (Wt * g * 100) < lN (k * G * (100 + f))) = (Wt * g * 100 < k * G * (100 + f)) := by
  have hl1 : k * G ≤ 50000 * 200000 := Nat.mul_le_mul h3 (by omega)
  have hl2 : k * G * (100 + f) ≤ 50000 * 200000 * 200 := Nat.mul_le_mul hl1 (by omega)
  have hl3 : Wt * g ≤ 1200 * 2000 := Nat.mul_le_mul (by omega) h2
  exact propext (pk_lLT (by omega) (by omega))
/-- what some men are to a load: both ways -/
theorem abil {σ τ : St} (hR : RDrum σ τ) {n m k h : Nat} (e1 : gi σ 6 = nI n) (e2 : gi τ 6 = nI n) (hn : n ≤ 8) (hm : m < 2 ^ 31) (hk : k ≤ 50000) (hh : h ≤ 20000) (hw : ∀ j, j < n → ∃ w b : Nat, w ≤ 150 ∧ b ≤ 5000 ∧ ga σ 10 j = nI w ∧ ga τ 1 j = nI w ∧ ga σ 11 j = nI b ∧ ga τ 2 j = nI b) : ∃ q r : Nat, q ≤ 121000 ∧ r ≤ 2 ∧ fX2_stepsFor σ (nI h) = some (nI q) ∧ fX10_stepsFor τ (nI h) = some (nI q) ∧ fX9_ability σ (nI m) (nI k) (nI q) = some (nI r) ∧ fX10_canOf τ (nI m) (nI k) (nI h) = some (nI r) ∧ (r = 1 → ∀ j, j < n → bit m j = 1 → q * (1 + k / 1000) ≤ (ga σ 11 j).toNatClampNeg) := by
  obtain ⟨g, s, a, f, t, T, ⟨g1, g2, g3, g4⟩, ⟨h1, h2, h3, h4⟩, ⟨h5, h6, h7, h8⟩, ⟨f1, f2, f3⟩, ⟨h9, h10, h11⟩, ⟨h12, h13, h14, h15⟩⟩ := hR
  obtain ⟨q, hq, q1, q2⟩ := steps_both (h := h) h1 h5 h9 h12 h2 h6 h10 h13 h3 h4 h7 h8 h11 h14 h15 hh
  have hwX : ∀ j, j < n → ∃ w : Nat, w ≤ 150 ∧ ga σ 10 j = nI w := fun j hj => by obtain ⟨w, b, a1, a2, a3, a4, a5, a6⟩ := hw j hj; exact ⟨w, a1, a3⟩
  have hwM : ∀ j, j < n → ∃ w : Nat, w ≤ 150 ∧ ga τ 1 j = nI w := fun j hj => by obtain ⟨w, b, a1, a2, a3, a4, a5, a6⟩ := hw j hj; exact ⟨w, a1, a4⟩
  have hbX : ∀ j, j < n → ∃ b : Nat, b ≤ 5000 ∧ ga σ 11 j = nI b := fun j hj => by obtain ⟨w, b, a1, a2, a3, a4, a5, a6⟩ := hw j hj; exact ⟨b, a2, a5⟩
  have hbM : ∀ j, j < n → ∃ b : Nat, b ≤ 5000 ∧ ga τ 2 j = nI b := fun j hj => by obtain ⟨w, b, a1, a2, a3, a4, a5, a6⟩ := hw j hj; exact ⟨b, a2, a6⟩
  have hws : wsN (ga τ 1) m n = wsN (ga σ 10) m n := wsN_congr n (fun j hj => by obtain ⟨w, b, a1, a2, a3, a4, a5, a6⟩ := hw j hj; rw [a3, a4])
  have hsp : ∀ c, spN (ga τ 2) m c n = spN (ga σ 11) m c n := fun c => spN_congr n (fun j hj => by obtain ⟨w, b, a1, a2, a3, a4, a5, a6⟩ := hw j hj; rw [a5, a6])
  have hwl := wsN_le (m := m) n hwX
  generalize hW : wsN (ga σ 10) m n = Wt at hwl hws
  have hq' : q ≤ 120000 := by omega
  have hb0 : (q - 1) / s ≤ 2000 := by
    have := (Nat.div_lt_iff_lt_mul (show 0 < s by omega) (x := q - 1) (y := 2001)).mpr (by omega)
    omega
  have hb1 : (q - 1) / s / T ≤ 3000 := Nat.le_trans (Nat.div_le_self _ _) (by omega)
  have hG := gir_lt h8 h11 hb1
  generalize hGe : gir a t ((q - 1) / s / T) = G at hG
  have hl1 : k * G ≤ 50000 * 200000 := Nat.mul_le_mul hk (by omega)
  have hl2 : k * G * (100 + f) ≤ 50000 * 200000 * 200 := Nat.mul_le_mul hl1 (by omega)
  have hl3 : Wt * g ≤ 1200 * 2000 := Nat.mul_le_mul (by omega) g4
  have hc1 : q * (1 + k / 1000) ≤ 120000 * 51 := Nat.mul_le_mul hq' (by omega)
  have hturn : fX2_isTurnedBy σ (nI Wt) (nI k) (nI q) = some (if k * G * (100 + f) ≤ Wt * g * 100 then 1 else 0) := by
    unfold fX2_isTurnedBy
    rw [lastL_eq h1 h12 h3 h4 h14 h15 (by omega)]
    simp only [obS, girX_eq h5 h9]
    rw [hGe, g1, f1, nI_l (show Wt < 2 ^ 31 by omega), nI_l (show g < 2 ^ 31 by omega), nI_l (show k < 2 ^ 31 by omega), nI_l (show G < 2 ^ 31 by omega)]
    simp only [turn1 f3, turn2 (show Wt ≤ 1200 by omega) g4 hk hG f3]
    by_cases hc : k * G * (100 + f) ≤ Wt * g * 100
    · rw [if_neg (Nat.not_lt.mpr hc), if_pos hc]
    · rw [if_pos (Nat.not_le.mp hc), if_neg hc]
  have hX : fX9_ability σ (nI m) (nI k) (nI q) = some (if k * G * (100 + f) ≤ Wt * g * 100 then (if spN (ga σ 11) m (q * (1 + k / 1000)) n = true then 2 else 1) else 0) := by
    unfold fX9_ability fX9_costOf
    rw [wX_eq e1 hn hm hwX, hW]
    simp only [obS]
    rw [hturn]
    simp only [obS, i10, div1000 hk, pk_mul]
    by_cases hc : k * G * (100 + f) ≤ Wt * g * 100
    · rw [if_neg (not_not_intro hc), if_pos hc, hb_eq e1 hn hm (by omega) hbX]
      simp only [obS, i01]
      by_cases hs2 : spN (ga σ 11) m (q * (1 + k / 1000)) n = true
      · rw [if_pos hs2, if_pos hs2]
      · rw [if_neg hs2, if_neg hs2]
    · rw [if_pos hc, if_neg hc]
  have hM : fX10_canOf τ (nI m) (nI k) (nI h) = some (if k * G * (100 + f) ≤ Wt * g * 100 then (if spN (ga σ 11) m (q * (1 + k / 1000)) n = true then 2 else 1) else 0) := by
    unfold fX10_canOf
    rw [q2]
    simp only [obS]
    rw [wM_eq e2 hn hm hwM, hws, lastT_eq h2 h3 h4 (by omega)]
    simp only [obS]
    rw [girM_eq h6 h10 h13 (by omega) (by omega) (by omega), hGe]
    simp only [obS]
    have hcost : (nI q).toInt64 * ((1 : Int32) + nI k / (1000 : Int32)).toInt64 = lN (q * (1 + k / 1000)) := by
      rw [div1000 hk, nI_l (by omega), nI_l (by omega), lN_mul]
    rw [hcost, sp_loop e2 hn hm (by omega) hbM, hsp, g2, f2, show (100 : Int32) + nI f = nI (100 + f) from nI_add 100 f, nI_l (show Wt < 2 ^ 31 by omega), nI_l (show g < 2 ^ 31 by omega), nI_l (show k < 2 ^ 31 by omega), nI_l (show G < 2 ^ 31 by omega), nI_l (show 100 + f < 2 ^ 31 by omega), show (100 : Int64) = lN 100 from rfl, lN_mul, lN_mul, lN_mul, lN_mul]
    have hcm : 100 * Wt * g = Wt * g * 100 := by rw [Nat.mul_assoc, Nat.mul_comm]
    rw [hcm]
    by_cases hc : k * G * (100 + f) ≤ Wt * g * 100
    · rw [if_pos ((pk_lLE (by omega) (by omega)).mpr hc), if_pos hc]
    · rw [if_neg (fun q => hc ((pk_lLE (by omega) (by omega)).mp q)), if_neg hc]
  by_cases hc : k * G * (100 + f) ≤ Wt * g * 100
  · by_cases hs2 : spN (ga σ 11) m (q * (1 + k / 1000)) n = true
    · rw [if_pos hc, if_pos hs2] at hX hM
      exact ⟨q, 2, by omega, by omega, q1, q2, hX, hM, fun e => absurd e (by decide)⟩
    · rw [if_pos hc, if_neg hs2] at hX hM
      exact ⟨q, 1, by omega, by omega, q1, q2, hX, hM, fun _ => spN_no n (by simpa using hs2)⟩
  · rw [if_neg hc] at hX hM
    exact ⟨q, 0, by omega, by omega, q1, q2, hX, hM, fun e => absurd e (by decide)⟩
theorem areMen_eq {τ : St} {n : Nat} (e : gi τ 6 = nI n) (hn : n ≤ 8) (v : Int32) : fX10_areMen τ v = some (if 0 ≤ v.toInt ∧ v.toInt ≤ ((2 ^ n - 1 : Nat) : Int) then 1 else 0) := by
  unfold fX10_areMen
  have h1 : 2 ^ n ≤ 2 ^ 8 := Nat.pow_le_pow_right (by decide) hn
  simp only [in_eq, obS, nw10, if_true, Int32.toInt_toInt64, e, all_eq (show n < 31 by omega), nI_toInt (show 2 ^ n - 1 < 2 ^ 31 by omega)]
  rfl
theorem everyone_eq {σ : St} {n : Nat} (e : gi σ 6 = nI n) (hn : n ≤ 8) : fX1_everyone σ = some (nI (2 ^ n - 1)) := by
  unfold fX1_everyone
  rw [e, all_eq (by omega)]
theorem isLift_eq (a b : Int32) : fX9_isLift a b = some (if (1 ≤ a.toInt ∧ a.toInt ≤ 50000) ∧ (0 ≤ b.toInt ∧ b.toInt ≤ 20000) then 1 else 0) := by
  unfold fX9_isLift
  simp only [isLoad_eq, within_eq, obS, i10]
  by_cases h1 : (1 : Int) ≤ a.toInt ∧ a.toInt ≤ 50000
  · rw [if_neg (not_not_intro h1)]
    by_cases h2 : (0 : Int32).toInt ≤ b.toInt ∧ b.toInt ≤ (20000 : Int32).toInt
    · rw [if_neg (not_not_intro h2), if_pos ⟨h1, h2⟩]
    · rw [if_pos h2, if_neg (fun h => h2 h.2)]
  · rw [if_pos h1, if_neg (fun h => h1 h.1)]
theorem One.ite2 {c d : Prop} {i0 : Decidable (¬ (c ∧ d))} {i1 : Decidable (¬ c)} {i2 : Decidable (¬ d)} {x x' y y' : Option Int32} (h1 : ¬ (c ∧ d) → One x y) (h2 : c → d → One x' y') : One (@_root_.ite _ (¬ (c ∧ d)) i0 x x') (@_root_.ite _ (¬ c) i1 y (@_root_.ite _ (¬ d) i2 y y')) := by
  by_cases hc : c
  · by_cases hd : d
    · rw [if_neg (not_not_intro ⟨hc, hd⟩), if_neg (not_not_intro hc), if_neg (not_not_intro hd)]; exact h2 hc hd
    · rw [if_pos (fun h => hd h.2), if_neg (not_not_intro hc), if_pos hd]; exact h1 (fun h => hd h.2)
  · rw [if_pos (fun h => hc h.1), if_pos hc]; exact h1 (fun h => hc h.1)
theorem e_can {σ τ : St} (h : Rel σ τ) (a b c : Int32) : One (fX9_can σ a b c) (fX10_can τ a b c) := by
  obtain ⟨⟨hD, ⟨n, hn, e1, e2, hw⟩, _⟩, _⟩ := h
  have h1 : 2 ^ n ≤ 2 ^ 8 := Nat.pow_le_pow_right (by decide) hn
  unfold fX9_can fX10_can
  rw [everyone_eq e1 hn]
  simp only [areMen_eq e2 hn, isLoadM_eq, isHeight_eq, isLift_eq, within_eq, obS, i10, nI_toInt (show 2 ^ n - 1 < 2 ^ 31 by omega)]
  refine One.ite (fun _ => One.same _) (fun c1 => ?_)
  refine One.ite2 (fun _ => One.same _) (fun c2 c3 => ?_)
  obtain ⟨m, rfl, l1, u1⟩ := t_nat (a := 0) (by decide) c1
  obtain ⟨k, rfl, l2, u2⟩ := t_nat' (by decide) c2
  obtain ⟨hh, rfl, l3, u3⟩ := t_nat' (by decide) c3
  obtain ⟨q, r, q1, q2, q3, q4, q5, q6, _⟩ := abil (m := m) (k := k) (h := hh) hD e1 e2 hn (by omega) (by omega) (by omega) hw
  rw [q3]
  simp only [obS, q5, q6]
  exact One.same _
