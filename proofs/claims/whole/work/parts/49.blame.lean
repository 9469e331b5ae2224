/-! the least set of loads to blame -/
def leB (a b : Nat) : Prop := popN a 20 < popN b 20 ∨ (popN a 20 = popN b 20 ∧ a ≤ b)
theorem leB_anti {a b : Nat} (h1 : leB a b) (h2 : leB b a) : a = b := by
  unfold leB at h1 h2; omega
theorem leB_trans {a b c : Nat} (h1 : leB a b) (h2 : leB b c) : leB a c := by
  unfold leB at *; omega
theorem leB_refl (a : Nat) : leB a a := Or.inr ⟨rfl, Nat.le_refl a⟩
theorem leB_total (a b : Nat) : leB a b ∨ leB b a := by
  unfold leB; omega
def isMin (S : Nat → Prop) (r : Int32) : Prop := (r = -1 ∧ ∀ m, ¬ S m) ∨ ∃ m, m < 4096 ∧ r = nI m ∧ S m ∧ ∀ m', S m' → leB m m'
theorem isMin_iff {S S' : Nat → Prop} (h : ∀ m, S m ↔ S' m) {r : Int32} (hm : isMin S r) : isMin S' r := by
  rcases hm with ⟨a, b⟩ | ⟨m, a, b, c, d⟩
  · exact Or.inl ⟨a, fun m q => b m ((h m).mpr q)⟩
  · exact Or.inr ⟨m, a, b, (h m).mp c, fun m' q => d m' ((h m').mpr q)⟩
theorem isMin_uni {S : Nat → Prop} {r r' : Int32} (h1 : isMin S r) (h2 : isMin S r') : r = r' := by
  rcases h1 with ⟨a, b⟩ | ⟨m, a, b, c, d⟩
  · rcases h2 with ⟨a', b'⟩ | ⟨m', a', b', c', d'⟩
    · rw [a, a']
    · exact absurd c' (b m')
  · rcases h2 with ⟨a', b'⟩ | ⟨m', a', b', c', d'⟩
    · exact absurd c (b' m)
    · rw [b, b', leB_anti (d m' c') (d' m c)]
theorem isMin_more {S S' : Nat → Prop} {r : Int32} (h : isMin S r) (h' : ∀ m, S' m → ∃ m0, S m0 ∧ leB m0 m) : isMin (fun m => S m ∨ S' m) r := by
  rcases h with ⟨a, b⟩ | ⟨m, a, b, c, d⟩
  · refine Or.inl ⟨a, fun m q => ?_⟩
    rcases q with q | q
    · exact b m q
    · obtain ⟨m0, q1, _⟩ := h' m q
      exact b m0 q1
  · refine Or.inr ⟨m, a, b, Or.inl c, fun m' q => ?_⟩
    rcases q with q | q
    · exact d m' q
    · obtain ⟨m0, q1, q2⟩ := h' m' q
      exact leB_trans (d m0 q1) q2
theorem lesser_eq {S : Nat → Prop} {known : Int32} (h : isMin S known) {x : Nat} (hx : x < 4096) : ∃ r, fX6_lesser (nI x) known = some r ∧ isMin (fun m => S m ∨ m = x) r := by
  unfold fX6_lesser
  rcases h with ⟨a, b⟩ | ⟨m, a, b, c, d⟩
  · rw [if_pos a]
    exact ⟨_, rfl, Or.inr ⟨x, hx, rfl, Or.inr rfl, fun m' q => by
      rcases q with q | q
      · exact absurd q (b m')
      · rw [q]; exact leB_refl x⟩⟩
  · have p1 := popN_le x 20
    have p2 := popN_le m 20
    have hs : (nI (popN x 20) - nI (popN m 20)).toInt = (popN x 20 : Int) - popN m 20 := by
      rw [sub_t] <;> rw [nI_toInt (by omega), nI_toInt (by omega)] <;> omega
    rw [b, if_neg (nI_ne1 (by omega)), bc_eq x (by omega), bc_eq m (by omega)]
    simp only [obS, lt_toInt, eq_toInt, hs, show (0 : Int32).toInt = 0 from rfl, le_toInt, nI_toInt (show m < 2 ^ 31 by omega), nI_toInt (show x < 2 ^ 31 by omega)]
    have hold : leB m x → isMin (fun m => S m ∨ m = x) (nI m) := fun hl => Or.inr ⟨m, a, rfl, Or.inl c, fun m' q => by
      rcases q with q | q
      · exact d m' q
      · rw [q]; exact hl⟩
    have hnew : leB x m → isMin (fun m => S m ∨ m = x) (nI x) := fun hl => Or.inr ⟨x, hx, rfl, Or.inr rfl, fun m' q => by
      rcases q with q | q
      · exact leB_trans hl (d m' q)
      · rw [q]; exact leB_refl x⟩
    by_cases c1 : (popN x 20 : Int) - popN m 20 < 0
    · rw [if_pos c1]
      exact ⟨_, rfl, hnew (Or.inl (by omega))⟩
    · rw [if_neg c1]
      by_cases c2 : (popN x 20 : Int) - popN m 20 = 0
      · rw [if_pos c2]
        by_cases c3 : (m : Int) ≤ x
        · rw [if_pos c3]; exact ⟨_, rfl, hold (Or.inr ⟨by omega, by omega⟩)⟩
        · rw [if_neg c3]; exact ⟨_, rfl, hnew (Or.inr ⟨by omega, by omega⟩)⟩
      · rw [if_neg c2]; exact ⟨_, rfl, hold (Or.inl (by omega))⟩
theorem prt_cut {ld : Nat → Nat} {s m k : Nat} (hk : k < 100) : ∀ (e j w d d' : Nat), j + e = k → k < j + d → k < j + d' → j + d < 1000 → j + d' < 1000 → (prt ld s m d j w = nI k ↔ prt ld s m d' j w = nI k) := by
  intro e
  induction e with
  | zero =>
    intro j w d d' h1 h2 h3 h4 h5
    obtain ⟨d, rfl⟩ : ∃ x, d = x + 1 := ⟨d - 1, by omega⟩
    obtain ⟨d', rfl⟩ : ∃ x, d' = x + 1 := ⟨d' - 1, by omega⟩
    have hj : j = k := by omega
    subst hj
    rw [prt, prt]
    by_cases c : ld j * (1 + bit m j) ≤ hdN s w
    · rw [if_pos c, if_pos c]
      have hno : ∀ (d i w : Nat), j < i → i + d < 200000 → ¬ prt ld s m d i w = nI j := by
        intro d
        induction d with
        | zero => intro i w _ _ q; exact nI_ne1 (k := j) (by omega) (by rw [← q]; rfl)
        | succ d ih =>
          intro i w hi hd
          rw [prt]
          by_cases c : ld i * (1 + bit m i) ≤ hdN s w
          · rw [if_pos c]; exact ih (i + 1) _ (by omega) (by omega)
          · rw [if_neg c]
            intro q
            have := nI_inj (by omega) (by omega) q
            omega
      exact ⟨fun q => absurd q (hno _ _ _ (by omega) (by omega)), fun q => absurd q (hno _ _ _ (by omega) (by omega))⟩
    · rw [if_neg c, if_neg c]
  | succ e ih =>
    intro j w d d' h1 h2 h3 h4 h5
    obtain ⟨d, rfl⟩ : ∃ x, d = x + 1 := ⟨d - 1, by omega⟩
    obtain ⟨d', rfl⟩ : ∃ x, d' = x + 1 := ⟨d' - 1, by omega⟩
    rw [prt, prt]
    by_cases c : ld j * (1 + bit m j) ≤ hdN s w
    · rw [if_pos c, if_pos c]
      exact ih (j + 1) _ d d' (by omega) (by omega) (by omega) (by omega) (by omega)
    · rw [if_neg c, if_neg c]
/-- sets that go on from one of loads below i -/
def Tm (k i set m : Nat) : Prop := m < 2 ^ (k + 1) ∧ ∀ j, j < i → bit m j = bit set j
theorem bit_of_test {a b j : Nat} : bit a j = bit b j ↔ a.testBit j = b.testBit j := by
  have h1 := bit_t a j
  have h2 := bit_t b j
  have h3 := bit_f a j
  have h4 := bit_f b j
  constructor
  · intro q
    cases hb : b.testBit j
    · exact h3.mp (q.trans (h4.mpr hb))
    · exact h1.mp (q.trans (h2.mpr hb))
  · intro q
    cases hb : b.testBit j
    · rw [h3.mpr (q.trans hb), h4.mpr hb]
    · rw [h1.mpr (q.trans hb), h2.mpr hb]
theorem popN_mono (m : Nat) {i : Nat} : ∀ d, popN m i ≤ popN m (i + d)
  | 0 => Nat.le_refl _
  | d + 1 => by rw [← Nat.add_assoc, popN]; exact Nat.le_trans (popN_mono m d) (Nat.le_add_right _ _)
theorem popN_bits {a b : Nat} : ∀ k, (∀ j, j < k → bit a j = bit b j) → popN a k = popN b k
  | 0, _ => rfl
  | k + 1, h => by rw [popN, popN, popN_bits k (fun j hj => h j (by omega)), h k (by omega)]
theorem Tm_pop {k i set m : Nat} (hi : i ≤ 20) (hs : set < 2 ^ i) (h : Tm k i set m) : popN set 20 ≤ popN m 20 := by
  have h1 := popN_top hs (20 - i)
  rw [show i + (20 - i) = 20 by omega] at h1
  have h2 := popN_mono m (i := i) (20 - i)
  rw [show i + (20 - i) = 20 by omega] at h2
  rw [h1, ← popN_bits i h.2]
  exact h2
def wt (set t i : Nat) : Nat := set ||| (t * 2 ^ i)
theorem wt_bit {set t i : Nat} (ht : t < 2) (hs : set < 2 ^ i) : wt set t i < 2 ^ (i + 1) ∧ (∀ j, j < i → bit (wt set t i) j = bit set j) ∧ bit (wt set t i) i = t := by
  have hp : 2 ^ i < 2 ^ (i + 1) := Nat.pow_lt_pow_right (by decide) (by omega)
  unfold wt
  rcases (show t = 0 ∨ t = 1 by omega) with rfl | rfl
  · rw [Nat.zero_mul, Nat.or_zero]
    exact ⟨by omega, fun _ _ => rfl, (bit_f _ _).mpr (test_hi hs (Nat.le_refl _))⟩
  · rw [Nat.one_mul]
    refine ⟨or_lt (by omega) (by omega), fun j hj => ?_, ?_⟩
    · refine bit_of_test.mpr ?_
      rw [test_or]
      simp [show i ≠ j by omega]
    · refine (bit_t _ _).mpr ?_
      rw [test_or]
      simp
theorem Tm_split {k i set m : Nat} (hs : set < 2 ^ i) : Tm k i set m ↔ Tm k (i + 1) (wt set 0 i) m ∨ Tm k (i + 1) (wt set 1 i) m := by
  obtain ⟨_, a1, a2⟩ := wt_bit (t := 0) (by decide) hs
  obtain ⟨_, b1, b2⟩ := wt_bit (t := 1) (by decide) hs
  have hb := bit_lt m i
  constructor
  · rintro ⟨h1, h2⟩
    rcases (show bit m i = 0 ∨ bit m i = 1 by omega) with q | q
    · refine Or.inl ⟨h1, fun j hj => ?_⟩
      by_cases e : j = i
      · rw [e, q, a2]
      · rw [h2 j (by omega), a1 j (by omega)]
    · refine Or.inr ⟨h1, fun j hj => ?_⟩
      by_cases e : j = i
      · rw [e, q, b2]
      · rw [h2 j (by omega), b1 j (by omega)]
  · rintro (⟨h1, h2⟩ | ⟨h1, h2⟩)
    · exact ⟨h1, fun j hj => by rw [h2 j (by omega), a1 j hj]⟩
    · exact ⟨h1, fun j hj => by rw [h2 j (by omega), b1 j hj]⟩
theorem Tm_one {k set m : Nat} (hs : set < 2 ^ (k + 1)) : Tm k (k + 1) set m ↔ m = set := by
  constructor
  · rintro ⟨h1, h2⟩
    refine Nat.eq_of_testBit_eq fun j => ?_
    by_cases hj : j < k + 1
    · exact bit_of_test.mp (h2 j hj)
    · rw [test_hi h1 (by omega), test_hi hs (by omega)]
  · rintro rfl
    exact ⟨hs, fun _ _ => rfl⟩
/-- what the rest of the row must do -/
def Qb (ld : Nat → Nat) (s k i w m : Nat) : Prop := prt ld s m (k + 1 - i) i w = nI k
theorem Qb_last {ld : Nat → Nat} {s k w m : Nat} (hk : k < 100) : Qb ld s k k w m ↔ ¬ ld k * (1 + bit m k) ≤ hdN s w := by
  unfold Qb
  rw [show k + 1 - k = 0 + 1 by omega, prt]
  by_cases c : ld k * (1 + bit m k) ≤ hdN s w
  · rw [if_pos c]
    exact ⟨fun q => absurd q.symm (nI_ne1 (by omega)), fun q => absurd c q⟩
  · rw [if_neg c]
    exact ⟨fun _ => c, fun _ => rfl⟩
theorem Qb_step {ld : Nat → Nat} {s k i w m : Nat} (hk : k < 100) (hi : i < k) : Qb ld s k i w m ↔ ld i * (1 + bit m i) ≤ hdN s w ∧ Qb ld s k (i + 1) (w + wbN s (ld i * (1 + bit m i))) m := by
  unfold Qb
  rw [show k + 1 - i = (k + 1 - (i + 1)) + 1 by omega, prt]
  by_cases c : ld i * (1 + bit m i) ≤ hdN s w
  · rw [if_pos c]
    exact ⟨fun q => ⟨c, q⟩, fun q => q.2⟩
  · rw [if_neg c]
    exact ⟨fun q => absurd (nI_inj (by omega) (by omega) q) (by omega), fun q => absurd q.1 c⟩
theorem blameX {σ : St} {n s k : Nat} {ld : Nat → Nat} (hn : n ≤ 12) (hk : k < n) (hl : ∀ j, j < n → 1 ≤ ld j ∧ ld j ≤ 50000 ∧ ga σ 16 j = nI (ld j)) (hs0 : 100 ≤ s) (hs : s ≤ 50000) : ∀ (fu i w set : Nat) (known : Int32) (S : Nat → Prop), i ≤ k → k + 1 ≤ i + fu → w ≤ 11 * i → set < 2 ^ i → isMin S known → ∃ r, fX6_blame fu σ (nI s) (nI k) (nI i) (nI w) (nI set) known = some r ∧ isMin (fun m => S m ∨ (Tm k i set m ∧ Qb ld s k i w m)) r := by
  intro fu
  induction fu with
  | zero => intro i w set known S h1 h2; omega
  | succ fu ih =>
    intro i w set known S h1 h2 h3 h4 h5
    have hp12 : 2 ^ i ≤ 2 ^ 11 := Nat.pow_le_pow_right (by decide) (by omega)
    obtain ⟨l1, l2, l3⟩ := hl i (by omega)
    have hd := hdN_le s w
    -- one of the two turns
    have turn : ∀ (t : Nat) (ht : t < 2) (f : Nat) (best : Int32) (S' : Nat → Prop), isMin S' best → ∃ best', isMin (fun m => S' m ∨ (Tm k (i + 1) (wt set t i) m ∧ Qb ld s k i w m)) best' ∧ fX6_blame_40 (fX6_blame fu) (fX6_blame_40_k (fX6_blame fu) σ (nI s) (nI k) (nI i) (nI w) (nI set) known) σ (nI s) (nI k) (nI i) (nI w) (nI set) known (f + 1) best (nI t) = fX6_blame_40 (fX6_blame fu) (fX6_blame_40_k (fX6_blame fu) σ (nI s) (nI k) (nI i) (nI w) (nI set) known) σ (nI s) (nI k) (nI i) (nI w) (nI set) known f best' (nI (t + 1)) := by
      intro t ht f best S' hS
      obtain ⟨w1, w2, w3⟩ := wt_bit ht h4
      have hp13 : 2 ^ (i + 1) ≤ 2 ^ 12 := Nat.pow_le_pow_right (by decide) (by omega)
      have eL : nI (ld i) <<< (nI t &&& 31) = nI (ld i * (1 + t)) := by
        rcases (show t = 0 ∨ t = 1 by omega) with rfl | rfl
        · rw [pk_shlN _ 0 (by decide) (by omega)]
        · rw [pk_shlN _ 1 (by decide) (by omega)]
      have eS : nI set ||| (nI t <<< (nI i &&& 31)) = nI (wt set t i) := by
        have hpi : 2 ^ i ≤ 2 ^ 12 := Nat.pow_le_pow_right (by decide) (by omega)
        have : t * 2 ^ i ≤ 1 * 2 ^ i := Nat.mul_le_mul_right _ (by omega)
        rw [pk_shlN _ i (sl32 i (by omega)) (by omega), nI_or]
        rfl
      have hmul : ld i * (1 + t) ≤ 50000 * 2 := Nat.mul_le_mul l2 (by omega)
      rw [fX6_blame_40, if_neg (show ¬ (1 : Int32) < nI t from nI_nlt (a := 1) (by omega) (by decide)), if_pos (inx (show i < 12 by omega) (by decide)), nI_clamp (by omega), l3, heldDry_eq hs (by omega), eL, eS, nI_1]
      simp only [obS]
      have hbt : ∀ m, Tm k (i + 1) (wt set t i) m → bit m i = t := fun m q => (q.2 i (by omega)).trans w3
      by_cases c : ld i * (1 + t) ≤ hdN s w
      · rw [if_pos (nI_le c (by omega))]
        by_cases e : k ≤ i
        · have ek : i = k := by omega
          subst ek
          rw [if_pos (nI_le e (by omega))]
          refine ⟨best, isMin_iff (fun m => ?_) hS, rfl⟩
          constructor
          · intro q; exact Or.inl q
          · rintro (q | ⟨q1, q2⟩)
            · exact q
            · exact absurd (by rw [hbt m q1]; exact c) ((Qb_last (by omega)).mp q2)
        · rw [if_neg (nI_ge (by omega) (by omega)), wearBy_eq (by omega) hs (by omega)]
          simp only [obS]
          rw [nI_add]
          have hwb := wbN_le (show 0 < s by omega) (show ld i * (1 + t) ≤ s by omega)
          obtain ⟨r, r1, r2⟩ := ih (i + 1) (w + wbN s (ld i * (1 + t))) (wt set t i) best S' (by omega) (by omega) (by omega) w1 hS
          rw [nI_1, r1]
          simp only [obS]
          refine ⟨r, isMin_iff (fun m => ?_) r2, rfl⟩
          constructor
          · rintro (q | ⟨q1, q2⟩)
            · exact Or.inl q
            · exact Or.inr ⟨q1, (Qb_step (by omega) (by omega)).mpr (by rw [hbt m q1]; exact ⟨c, q2⟩)⟩
          · rintro (q | ⟨q1, q2⟩)
            · exact Or.inl q
            · have := (Qb_step (by omega) (by omega)).mp q2
              rw [hbt m q1] at this
              exact Or.inr ⟨q1, this.2⟩
      · rw [if_neg (nI_ge (by omega) (by omega))]
        by_cases e : i = k
        · subst e
          rw [if_pos rfl]
          obtain ⟨r, r1, r2⟩ := lesser_eq hS (show wt set t i < 4096 by omega)
          rw [r1]
          simp only [obS]
          refine ⟨r, isMin_iff (fun m => ?_) r2, rfl⟩
          constructor
          · rintro (q | q)
            · exact Or.inl q
            · have ht' : Tm i (i + 1) (wt set t i) m := (Tm_one w1).mpr q
              exact Or.inr ⟨ht', (Qb_last (by omega)).mpr (by rw [hbt m ht']; exact c)⟩
          · rintro (q | ⟨q1, q2⟩)
            · exact Or.inl q
            · exact Or.inr ((Tm_one w1).mp q1)
        · rw [if_neg (fun q => e (nI_inj (by omega) (by omega) q))]
          refine ⟨best, isMin_iff (fun m => ?_) hS, rfl⟩
          constructor
          · intro q; exact Or.inl q
          · rintro (q | ⟨q1, q2⟩)
            · exact q
            · have := (Qb_step (by omega) (by omega)).mp q2
              rw [hbt m q1] at this
              exact absurd this.1 c
    have both : ∃ r, fX6_blame_40 (fX6_blame fu) (fX6_blame_40_k (fX6_blame fu) σ (nI s) (nI k) (nI i) (nI w) (nI set) known) σ (nI s) (nI k) (nI i) (nI w) (nI set) known KF known (0 : Int32) = some r ∧ isMin (fun m => S m ∨ (Tm k i set m ∧ Qb ld s k i w m)) r := by
      obtain ⟨f0, hf0⟩ : ∃ f0, KF = f0 + 3 := ⟨KF - 3, by have := KF_ge; omega⟩
      rw [hf0]
      obtain ⟨b1, m1, g1⟩ := turn 0 (by decide) (f0 + 2) known S h5
      obtain ⟨b2, m2, g2⟩ := turn 1 (by decide) (f0 + 1) b1 _ m1
      refine ⟨b2, ?_, isMin_iff (fun m => ?_) m2⟩
      · refine Eq.trans g1 (Eq.trans g2 ?_)
        rw [fX6_blame_40, if_pos (show (1 : Int32) < nI (1 + 1) by decide)]
        rfl
      · rw [Tm_split h4]
        constructor
        · rintro ((q | q) | q)
          · exact Or.inl q
          · exact Or.inr ⟨Or.inl q.1, q.2⟩
          · exact Or.inr ⟨Or.inr q.1, q.2⟩
        · rintro (q | ⟨q | q, q2⟩)
          · exact Or.inl (Or.inl q)
          · exact Or.inl (Or.inr ⟨q, q2⟩)
          · exact Or.inr ⟨q, q2⟩
    rw [fX6_blame, if_neg (nI_nlt h1 (by omega)), if_neg (nI_ge (show i < 12 by omega) (by decide))]
    by_cases ek : known = -1
    · rw [if_pos ek]
      exact both
    · rw [if_neg ek]
      rcases h5 with ⟨a, b⟩ | ⟨m, a, b, c, d⟩
      · exact absurd a ek
      · have p1 := popN_le set 20
        have p2 := popN_le m 20
        rw [bc_eq set (by omega), show fJ6_bitCount_0f7a4 known = some (nI (popN m 20)) by rw [b]; exact bc_eq m a]
        simp only [obS]
        by_cases cp : popN set 20 ≤ popN m 20
        · rw [if_pos (nI_le cp (by omega))]
          exact both
        · rw [if_neg (nI_ge (by omega) (by omega))]
          refine ⟨known, rfl, Or.inr ⟨m, a, b, Or.inl c, fun m' q => ?_⟩⟩
          rcases q with q | ⟨q, _⟩
          · exact d m' q
          · have := Tm_pop (by omega) h4 q
            exact Or.inl (by omega)
theorem blameM {σ τ0 : St} {n s k : Nat} {ld : Nat → Nat} (h0 : Rel σ τ0) (eσ : gi σ 8 = nI n) (hld : ld = fun j => (ga σ 16 j).toNatClampNeg) (hn : n ≤ 12) (hk : k < n) (hs0 : 100 ≤ s) (hs : s ≤ 50000) (v3 : Int32) : ∀ (d x f : Nat) (τ : St) (best : Int32), Rel σ τ → 1 ≤ x → x + d = 2 ^ (k + 1) → d < f → isMin (fun m => 1 ≤ m ∧ m < x ∧ prt ld s m n 0 0 = nI k) best → ∃ r τ', fX10_blamed_51 (fX10_blamed_51_k (nI s) (nI k) v3) (nI s) (nI k) v3 f τ best (nI x) = some (r, τ') ∧ Rel σ τ' ∧ isMin (fun m => 1 ≤ m ∧ m < 2 ^ (k + 1) ∧ prt ld s m n 0 0 = nI k) r := by
  have hpk : 2 ^ (k + 1) ≤ 2 ^ 12 := Nat.pow_le_pow_right (by decide) (by omega)
  intro d
  induction d with
  | zero =>
    intro x f τ best h1 hx1 h2 h3 h4
    cases f with
    | zero => omega
    | succ f =>
      rw [fX10_blamed_51, nI_1, pow_eq (by omega), if_pos (nI_le (by omega) (by omega))]
      rw [show x = 2 ^ (k + 1) by omega] at h4
      exact ⟨best, τ, rfl, h1, h4⟩
  | succ d ih =>
    intro x f τ best h1 hx1 h2 h3 h4
    cases f with
    | zero => omega
    | succ f =>
      obtain ⟨⟨hD, hcr, hro, ⟨n', hn', e1, e2, hw⟩, hA⟩, hB, hC⟩ := id h1
      have en : n' = n := nI_inj (by omega) (by omega) (e1.symm.trans eσ)
      subst en
      obtain ⟨hX, hM⟩ := row_ld hw
      have hM' : ∀ j, j < n' → 1 ≤ ld j ∧ ld j ≤ 50000 ∧ ga τ 7 j = nI (ld j) := fun j hj => by rw [hld]; exact hM j hj
      obtain ⟨F, f1, f2⟩ := partsM (m := x) e2 hn (by omega) hM' hs0 hs
      have hr := rel_sc h1 f1
      rw [fX10_blamed_51, nI_1, pow_eq (by omega), if_neg (nI_ge (show x < 2 ^ (k + 1) by omega) (by omega)), f2]
      simp only [obS, nI_1]
      have hp := popN_le x 20
      have hS : ∀ m, (1 ≤ m ∧ m < x + 1 ∧ prt ld s m n' 0 0 = nI k) ↔ ((1 ≤ m ∧ m < x ∧ prt ld s m n' 0 0 = nI k) ∨ (m = x ∧ prt ld s x n' 0 0 = nI k)) := fun m => by
        constructor
        · rintro ⟨a, b, c⟩
          by_cases e : m = x
          · subst e; exact Or.inr ⟨rfl, c⟩
          · exact Or.inl ⟨a, by omega, c⟩
        · rintro (⟨a, b, c⟩ | ⟨rfl, c⟩)
          · exact ⟨a, by omega, c⟩
          · exact ⟨hx1, by omega, c⟩
      have keep : ∀ τ', Rel σ τ' → ¬ prt ld s x n' 0 0 = nI k → ∃ r τ2, fX10_blamed_51 (fX10_blamed_51_k (nI s) (nI k) v3) (nI s) (nI k) v3 f τ' best (nI (x + 1)) = some (r, τ2) ∧ Rel σ τ2 ∧ isMin (fun m => 1 ≤ m ∧ m < 2 ^ (k + 1) ∧ prt ld s m n' 0 0 = nI k) r := fun τ' hr' hP =>
        ih (x + 1) f τ' best hr' (by omega) (by omega) (by omega) (isMin_iff (fun m => by
          rw [hS m]
          exact ⟨fun q => Or.inl q, fun q => q.elim id (fun z => absurd z.2 hP)⟩) h4)
      have take : ∀ τ', Rel σ τ' → prt ld s x n' 0 0 = nI k → (∀ m, (1 ≤ m ∧ m < x ∧ prt ld s m n' 0 0 = nI k) → leB x m) → ∃ r τ2, fX10_blamed_51 (fX10_blamed_51_k (nI s) (nI k) v3) (nI s) (nI k) v3 f τ' (nI x) (nI (x + 1)) = some (r, τ2) ∧ Rel σ τ2 ∧ isMin (fun m => 1 ≤ m ∧ m < 2 ^ (k + 1) ∧ prt ld s m n' 0 0 = nI k) r := fun τ' hr' hP hle =>
        ih (x + 1) f τ' (nI x) hr' (by omega) (by omega) (by omega) (Or.inr ⟨x, by omega, rfl, ⟨hx1, by omega, hP⟩, fun m q => by
          rcases (hS m).mp q with q | ⟨rfl, _⟩
          · exact hle m q
          · exact leB_refl _⟩)
      rcases id h4 with ⟨a, b⟩ | ⟨y, a, b, c, dd⟩
      · rw [if_pos (show best < 0 by rw [a]; decide)]
        by_cases cP : prt ld s x n' 0 0 = nI k
        · rw [if_pos cP]
          exact take _ hr cP (fun m q => absurd q (b m))
        · rw [if_neg cP]
          exact keep _ hr cP
      · have hpy := popN_le y 20
        rw [if_neg (show ¬ best < 0 by rw [b]; exact nI_pos (by omega)), ones_eq (show x < 2 ^ 31 by omega), show fX10_ones best = some (nI (popN y 20)) by rw [b]; exact ones_eq (by omega)]
        simp only [obS]
        by_cases cp : popN y 20 ≤ popN x 20
        · rw [if_pos (nI_le cp (by omega))]
          refine ih (x + 1) f τ best h1 (by omega) (by omega) (by omega) (Or.inr ⟨y, a, b, ⟨c.1, by omega, c.2.2⟩, fun m q => ?_⟩)
          rcases (hS m).mp q with q | ⟨rfl, _⟩
          · exact dd m q
          · unfold leB; omega
        · rw [if_neg (nI_ge (by omega) (by omega))]
          by_cases cP : prt ld s x n' 0 0 = nI k
          · rw [if_pos cP]
            exact take _ hr cP (fun m q => leB_trans (Or.inl (by omega)) (dd m q))
          · rw [if_neg cP]
            exact keep _ hr cP
theorem prt_val (ld : Nat → Nat) (s m : Nat) : ∀ (d k w : Nat), prt ld s m d k w = -1 ∨ ∃ j, j < k + d ∧ prt ld s m d k w = nI j
  | 0, k, w => Or.inl rfl
  | d + 1, k, w => by
    rw [prt]
    by_cases c : ld k * (1 + bit m k) ≤ hdN s w
    · rw [if_pos c]
      rcases prt_val ld s m d (k + 1) (w + wbN s (ld k * (1 + bit m k))) with q | ⟨j, q1, q2⟩
      · exact Or.inl q
      · exact Or.inr ⟨j, by omega, q2⟩
    · rw [if_neg c]
      exact Or.inr ⟨k, by omega, rfl⟩
theorem e_blamed {σ τ : St} (h : Rel σ τ) (a b : Int32) : OT σ (fX9_blamed σ a b) (fX10_blamed τ a b) := by
  obtain ⟨⟨hD, hcr, hro, ⟨n, hn, e1, e2, hw⟩, hA⟩, hB, hC⟩ := id h
  unfold fX9_blamed fX10_blamed
  simp only [isStr_eq, isStrM_eq, within_eq, in_eq, obS, i10, i01, Int32.toInt_toInt64, e1, e2, nm1 n (show n < 2 ^ 31 by omega)]
  refine OT.ite (fun _ => OT.same h _) (fun c1 => ?_)
  refine OT.ite (fun _ => OT.same h _) (fun c2 => ?_)
  obtain ⟨s, rfl, l1, u1⟩ := t_nat (by decide) c1
  obtain ⟨k, rfl, l2, u2⟩ := t_nat (a := 0) (by decide) c2
  obtain ⟨hX, hM⟩ := row_ld hw
  generalize hld : (fun j => (ga σ 16 j).toNatClampNeg) = ld at *
  have hX' : ∀ j, j < n → 1 ≤ ld j ∧ ld j ≤ 50000 ∧ ga σ 16 j = nI (ld j) := fun j hj => by rw [← hld]; exact hX j hj
  have hM' : ∀ j, j < n → 1 ≤ ld j ∧ ld j ≤ 50000 ∧ ga τ 7 j = nI (ld j) := fun j hj => by rw [← hld]; exact hM j hj
  obtain ⟨F, f1, f2⟩ := partsM (m := 0) e2 hn (by decide) hM' (show 100 ≤ s by omega) (by omega)
  rw [partsX e1 hn hX' (show 100 ≤ s by omega) (by omega), show (0 : Int32) = nI 0 from rfl, f2]
  simp only [obS]
  have hr := rel_sc h f1
  have hpk : 2 ^ (k + 1) ≤ 2 ^ 12 := Nat.pow_le_pow_right (by decide) (by omega)
  have hpp := pow_pos' (k + 1)
  -- no set at all: it doesn't part there
  have main : ¬ prt ld s 0 n 0 0 = nI k → OT σ ((fX6_leastBlame σ (nI s) (nI k)).bind (fun r55 => some r55)) (fX10_blamed_51 (fX10_blamed_51_k (nI s) (nI k) (prt ld s 0 n 0 0)) (nI s) (nI k) (prt ld s 0 n 0 0) KF (sc τ F) (-1 : Int32) (1 : Int32)) := fun hno => by
    obtain ⟨r, r1, r2⟩ := blameX hn (show k < n by omega) hX' (show 100 ≤ s by omega) (by omega) 14 0 0 0 (-1) (fun _ => False) (by omega) (by omega) (by omega) (by decide) (Or.inl ⟨rfl, fun _ q => q⟩)
    obtain ⟨r', τ', r1', r2', r3'⟩ := blameM h e1 hld.symm hn (show k < n by omega) (show 100 ≤ s by omega) (by omega) (prt ld s 0 n 0 0) (2 ^ (k + 1) - 1) 1 KF (sc τ F) (-1) hr (by omega) (by omega) (Nat.lt_of_lt_of_le (by omega) KF_ge) (Or.inl ⟨rfl, fun m q => by omega⟩)
    have e : r = r' := isMin_uni (isMin_iff (fun m => by
      constructor
      · rintro (q | ⟨⟨q1, _⟩, q2⟩)
        · exact absurd q id
        · have q3 := (prt_cut (show k < 100 by omega) k 0 0 (k + 1 - 0) n (by omega) (by omega) (by omega) (by omega) (by omega)).mp q2
          refine ⟨?_, q1, q3⟩
          rcases Nat.eq_zero_or_pos m with z | z
          · subst z; exact absurd q3 hno
          · exact z
      · rintro ⟨q1, q2, q3⟩
        exact Or.inr ⟨⟨q2, fun j hj => absurd hj (by omega)⟩, (prt_cut (show k < 100 by omega) k 0 0 (k + 1 - 0) n (by omega) (by omega) (by omega) (by omega) (by omega)).mpr q3⟩) r2) r3'
    unfold fX6_leastBlame
    rw [show fX6_blame 14 σ (nI s) (nI k) 0 0 0 (-1) = some r from r1]
    simp only [obS]
    exact ⟨r', τ', by rw [e], r1', r2'⟩
  rcases prt_val ld s 0 n 0 0 with q | ⟨j, q1, q2⟩
  · rw [if_pos q, if_pos (show prt ld s 0 n 0 0 < nI 0 by rw [q]; decide)]
    exact main (fun z => nI_ne1 (k := k) (by omega) (z.symm.trans q))
  · rw [if_neg (show ¬ prt ld s 0 n 0 0 = -1 by rw [q2]; exact nI_ne1 (by omega)), if_neg (show ¬ prt ld s 0 n 0 0 < nI 0 by rw [q2]; exact nI_pos (by omega))]
    refine OT.ite (fun c => main (fun z => ?_)) (fun _ => OT.same hr _)
    rw [z] at c
    exact absurd c (nI_nlt (Nat.le_refl k) (by omega))
