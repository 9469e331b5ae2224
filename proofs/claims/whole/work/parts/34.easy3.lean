theorem keep_price {σ τ : St} {a i : Nat} {v : Int32} (ha : a < 5) : (RA σ τ → RA (sa σ (27 + a) i v) τ) ∧ (RStones σ τ → RStones (sa σ (27 + a) i v) τ) ∧ (RKeys σ → RKeys (sa σ (27 + a) i v)) ∧ (RCal σ τ → RCal (sa σ (27 + a) i v) τ) ∧ ga (sa σ (27 + a) i v) 23 = ga σ 23 ∧ ga (sa σ (27 + a) i v) 24 = ga σ 24 ∧ ga (sa σ (27 + a) i v) 25 = ga σ 25 := by
  match a, ha with
  | 0, _ => exact ⟨fun h => h, fun h => h, fun h => h, fun h => h, rfl, rfl, rfl⟩
  | 1, _ => exact ⟨fun h => h, fun h => h, fun h => h, fun h => h, rfl, rfl, rfl⟩
  | 2, _ => exact ⟨fun h => h, fun h => h, fun h => h, fun h => h, rfl, rfl, rfl⟩
  | 3, _ => exact ⟨fun h => h, fun h => h, fun h => h, fun h => h, rfl, rfl, rfl⟩
  | 4, _ => exact ⟨fun h => h, fun h => h, fun h => h, fun h => h, rfl, rfl, rfl⟩
theorem prX_sa {σ : St} {a x i y : Nat} {v : Int32} (ha : a < 5) (hx : x < 5) : prX (sa σ (27 + a) i v) x y = if x = a ∧ y = i then v else prX σ x y := by
  rw [← prX_eq _ hx, ga_sa]
  by_cases h : x = a
  · subst h
    rw [if_pos rfl]
    by_cases h2 : y = i
    · rw [if_pos ⟨rfl, h2⟩, h2, pk_us]
    · rw [if_neg (fun q => h2 q.2), pk_un h2, prX_eq _ hx]
  · rw [if_neg (by omega), if_neg (fun q => h q.1), prX_eq _ hx]
theorem e_price {σ τ : St} (h : Rel σ τ) (a b v : Int32) : Two (fX9_price σ a b v) (fX10_price τ a b v) := by
  obtain ⟨hA, ⟨hst, hk, ⟨n, r, g, hn, e1, e2, hr, hg, hs, hpr⟩, hcal⟩, hw, hp, hm, hz, hl⟩ := id h
  unfold fX9_price fX10_price fX7_setPrice
  simp only [within_eq, in_eq, obS, i10, Int32.toInt_toInt64, forget_eq, isStand_eq σ _ (show n ≤ 100 by omega) e1, noStand_eq τ _ (show n ≤ 100 by omega) e2, i01]
  refine Two.iteN (fun c1 => ?_) (fun _ => Two.same h _)
  refine Two.iteN (fun c2 => ?_) (fun _ => Two.same h _)
  refine Two.ite (fun _ => Two.same h _) (fun c3 => ?_)
  refine Two.ite (fun _ => Two.same h _) (fun c4 => ?_)
  obtain ⟨k1, rfl, l1, u1⟩ := t_nat' (by decide) c1
  obtain ⟨k2, rfl, l2, u2⟩ := t_nat' (by decide) c2
  obtain ⟨k3, rfl, l3, u3⟩ := t_nat (a := 1) (b := 100) (by decide) c4
  have hne : k1 ≠ k2 := fun e => c3 (by rw [e])
  have m1 : (5 : Int32) * nI k1 + nI k2 = nI (5 * k1 + k2) := by
    rw [show (5 : Int32) = nI 5 from rfl, pk_mul, nI_add]
  have m2 : (5 : Int32) * nI k2 + nI k1 = nI (5 * k2 + k1) := by
    rw [show (5 : Int32) = nI 5 from rfl, pk_mul, nI_add]
  simp only [m1, m2, if_pos (inx' (show k1 < 5 by omega) (by decide)), if_pos (inx' (show k2 < 5 by omega) (by decide)), if_pos (inx' (show 5 * k1 + k2 < 25 by omega) (by decide)), if_pos (inx' (show 5 * k2 + k1 < 25 by omega) (by decide)), nI_clamp (show k1 < 2 ^ 31 by omega), nI_clamp (show k2 < 2 ^ 31 by omega), nI_clamp (show 5 * k1 + k2 < 2 ^ 31 by omega), nI_clamp (show 5 * k2 + k1 < 2 ^ 31 by omega), obS]
  obtain ⟨p, p1, p2, p3, p4⟩ := hpr k1 k2 (by omega) (by omega)
  have q3 : ga (si (si (si σ 16 0) 17 0) 19 (-1)) (27 + k1) k2 = nI p := (prX_eq σ (by omega) k2).trans p3
  rw [q3, p4]
  refine Two.mk' ?_
  have hA' : RA (si (si (si σ 16 0) 17 0) 19 (-1)) (si (sa (sa τ 16 (5 * k1 + k2) (nI k3)) 16 (5 * k2 + k1) (nI k3)) 14 0) := hA
  have hst' : RStones (si (si (si σ 16 0) 17 0) 19 (-1)) (si (sa (sa τ 16 (5 * k1 + k2) (nI k3)) 16 (5 * k2 + k1) (nI k3)) 14 0) := hst
  have hk' : RKeys (si (si (si σ 16 0) 17 0) 19 (-1)) := hk
  have hcal' : RCal (si (si (si σ 16 0) 17 0) 19 (-1)) (si (sa (sa τ 16 (5 * k1 + k2) (nI k3)) 16 (5 * k2 + k1) (nI k3)) 14 0) := hcal
  have w1 : k1 < 5 := by omega
  have w2 : k2 < 5 := by omega
  refine ⟨(keep_price w2).1 ((keep_price w1).1 hA'), ⟨(keep_price w2).2.1 ((keep_price w1).2.1 hst'), (keep_price (τ := τ) w2).2.2.1 ((keep_price (τ := τ) w1).2.2.1 hk'), ⟨n, r, g, hn, e1, e2, hr, hg, fun j hj => ?_, fun x y hx hy => ?_⟩, (keep_price w2).2.2.2.1 ((keep_price w1).2.2.2.1 hcal')⟩, rw0 rfl, rp0 rfl, rpm0 rfl, rz0 rfl, hl⟩
  · obtain ⟨x, z, q, h1, h2, h3, h4, h5, h6, h7, h8, h9⟩ := hs j hj
    refine ⟨x, z, q, h1, h2, h3, ?_, h5, ?_, h7, ?_, h9⟩
    · rw [(keep_price (τ := τ) w2).2.2.2.2.1, (keep_price (τ := τ) w1).2.2.2.2.1]; exact h4
    · rw [(keep_price (τ := τ) w2).2.2.2.2.2.1, (keep_price (τ := τ) w1).2.2.2.2.2.1]; exact h6
    · rw [(keep_price (τ := τ) w2).2.2.2.2.2.2, (keep_price (τ := τ) w1).2.2.2.2.2.2]; exact h8
  · obtain ⟨p, p1, p2, p3, p4⟩ := hpr x y hx hy
    rw [prX_sa w2 hx, prX_sa w1 hx]
    have em : ga (si (sa (sa τ 16 (5 * k1 + k2) (nI k3)) 16 (5 * k2 + k1) (nI k3)) 14 0) 16 = upd (upd (ga τ 16) (5 * k1 + k2) (nI k3)) (5 * k2 + k1) (nI k3) := rfl
    rw [em]
    by_cases h1 : x = k2 ∧ y = k1
    · rw [if_pos h1, h1.1, h1.2, pk_us]
      exact ⟨k3, by omega, by omega, rfl, rfl⟩
    · rw [if_neg h1, pk_un (by omega)]
      by_cases h2 : x = k1 ∧ y = k2
      · rw [if_pos h2, h2.1, h2.2, pk_us]
        exact ⟨k3, by omega, by omega, rfl, rfl⟩
      · rw [if_neg h2, pk_un (by omega)]
        exact ⟨p, p1, p2, p3, p4⟩
/-- near: both ways of saying it -/
theorem near_eq {σ τ : St} {n ns s i : Nat} (hR : RStones σ τ) (hT : RStands σ τ) (e1 : gi σ 10 = nI n) (e2 : gi σ 12 = nI ns) (hi : i < n) (hs : s < ns) (hn : n ≤ 14) (hns : ns ≤ 5) : fX7_isNear σ (nI s) (ga σ 17 i) (ga σ 18 i) = some (if (tdX σ).2.2.2 s i then 1 else 0) ∧ fX10_reachesOf τ (nI s) (nI i) = some (if (tdX σ).2.2.2 s i then 1 else 0) := by
  obtain ⟨n', c, q1, q2, q3, q4, q5, q6, q7⟩ := hR
  obtain ⟨ns', r, g, t1, t2, t3, ⟨t4, t5, t6, t7⟩, ⟨t8, t9, t10, t11⟩, t12, t13⟩ := hT
  have en : n' = n := nI_inj (by omega) (by omega) (q3.symm.trans e1)
  have es : ns' = ns := nI_inj (by omega) (by omega) (t2.symm.trans e2)
  subst en es
  obtain ⟨x, z, hh, rr, a1, a2, a3, a4, a5, a6, a7, a8, a9, _⟩ := q7 i hi
  obtain ⟨sx, sz, d, b1, b2, b3, b4, b5, b6, b7, _⟩ := t12 s hs
  have hd : (tdX σ).2.2.2 s i = decide ((x ≤ sx + r ∧ sx ≤ x + r) ∧ z ≤ sz + g) := by
    show decide _ = decide _
    rw [e1, e2, a6, a8, b4, b6, t6, t10]
    simp only [nI_toInt (show x < 2 ^ 31 by omega), nI_toInt (show z < 2 ^ 31 by omega), nI_toInt (show sx < 2 ^ 31 by omega), nI_toInt (show sz < 2 ^ 31 by omega), nI_toInt (show r < 2 ^ 31 by omega), nI_toInt (show g < 2 ^ 31 by omega)]
    exact decide_eq_decide.mpr ⟨fun h => by omega, fun h => ⟨by rw [nI_clamp (by omega)]; exact hs, by rw [nI_clamp (by omega)]; exact hi, by omega⟩⟩
  rw [hd]
  constructor
  · unfold fX7_isNear
    simp only [if_pos (inx' (show s < 5 by omega) (by decide)), nI_clamp (show s < 2 ^ 31 by omega), a6, a8, b4, b6, t6, t10]
    have es1 : (nI sx - nI x).toInt = (sx : Int) - x := by
      rw [sub_t] <;> simp only [nI_toInt (show x < 2 ^ 31 by omega), nI_toInt (show sx < 2 ^ 31 by omega)] <;> omega
    have es2 : (0 - (nI sx - nI x)).toInt = (x : Int) - sx := by
      rw [sub_t] <;> simp only [es1, show (0 : Int32).toInt = 0 from rfl] <;> omega
    have ez : (nI sz + nI g).toInt = (sz : Int) + g := by
      rw [nI_add, nI_toInt (by omega)]; omega
    simp only [lt_toInt, le_toInt, ez, nI_toInt (show z < 2 ^ 31 by omega), nI_toInt (show r < 2 ^ 31 by omega), es1, show (0 : Int32).toInt = 0 from rfl]
    by_cases hp : (0 : Int) ≤ (sx : Int) - x
    · rw [if_pos hp, es1]
      by_cases h1 : (r : Int) < (sx : Int) - x
      · rw [if_pos h1, if_neg (by simp only [decide_eq_true_eq]; omega)]
      · rw [if_neg h1]
        by_cases h2 : (sz : Int) + g < z
        · rw [if_pos h2, if_neg (by simp only [decide_eq_true_eq]; omega)]
        · rw [if_neg h2, if_pos (by simp only [decide_eq_true_eq]; omega)]
    · rw [if_neg hp, es2]
      by_cases h1 : (r : Int) < (x : Int) - sx
      · rw [if_pos h1, if_neg (by simp only [decide_eq_true_eq]; omega)]
      · rw [if_neg h1]
        by_cases h2 : (sz : Int) + g < z
        · rw [if_pos h2, if_neg (by simp only [decide_eq_true_eq]; omega)]
        · rw [if_neg h2, if_pos (by simp only [decide_eq_true_eq]; omega)]
  · unfold fX10_reachesOf
    have es1 : (nI sx - nI r).toInt = (sx : Int) - r := by
      rw [sub_t] <;> simp only [nI_toInt (show r < 2 ^ 31 by omega), nI_toInt (show sx < 2 ^ 31 by omega)] <;> omega
    have es2 : (nI sx + nI r).toInt = (sx : Int) + r := by
      rw [nI_add, nI_toInt (by omega)]; omega
    have ez : (nI sz + nI g).toInt = (sz : Int) + g := by
      rw [nI_add, nI_toInt (by omega)]; omega
    simp only [if_pos (inx' (show s < 5 by omega) (by decide)), if_pos (inx' (show i < 14 by omega) (by decide)), nI_clamp (show s < 2 ^ 31 by omega), nI_clamp (show i < 2 ^ 31 by omega), a7, a9, b5, b7, t7, t11, in_eq, obS, i10, Int32.toInt_toInt64, es1, es2, nI_toInt (show x < 2 ^ 31 by omega)]
    simp only [lt_toInt, ez, nI_toInt (show z < 2 ^ 31 by omega)]
    by_cases h1 : ((sx : Int) - r ≤ x ∧ (x : Int) ≤ sx + r)
    · rw [if_neg (not_not_intro h1)]
      by_cases h2 : (sz : Int) + g < z
      · rw [if_pos h2, if_neg (by simp only [decide_eq_true_eq]; omega)]
      · rw [if_neg h2, if_pos (by simp only [decide_eq_true_eq]; omega)]
    · rw [if_pos h1, if_neg (by simp only [decide_eq_true_eq]; omega)]
theorem e_reaches {σ τ : St} (h : Rel σ τ) (a b : Int32) : One (fX9_reaches σ a b) (fX10_reaches τ a b) := by
  obtain ⟨hA, ⟨hst, hk, hsd, hcal⟩, hC⟩ := id h
  obtain ⟨n, c, q1, q2, q3, q4, q5, q6, q7⟩ := id hst
  obtain ⟨ns, r, g, t1, t2, t3, _⟩ := id hsd
  unfold fX9_reaches fX10_reaches
  simp only [obS, isStand_eq σ _ (show ns ≤ 100 by omega) t2, noStand_eq τ _ (show ns ≤ 100 by omega) t3, isStone_eq σ _ (show n ≤ 100 by omega) q3, noStone_eq τ _ (show n ≤ 100 by omega) q4, i10, i01]
  refine One.iteN (fun c1 => ?_) (fun _ => One.same _)
  refine One.iteN (fun c2 => ?_) (fun _ => One.same _)
  obtain ⟨s, rfl, l1, u1⟩ := t_nat' (by decide) c1
  obtain ⟨i, rfl, l2, u2⟩ := t_nat' (by decide) c2
  obtain ⟨m1, m2⟩ := near_eq hst hsd q3 t2 (show i < n by omega) (show s < ns by omega) q1 t1
  simp only [if_pos (inx' (show i < 14 by omega) (by decide)), nI_clamp (show i < 2 ^ 31 by omega), m1, m2, obS, fX10_bit, i10]
  by_cases hh : (tdX σ).2.2.2 s i = true
  · simp only [hh, not_true_eq_false, if_false, obS]; exact One.same _
  · simp only [hh, not_false_eq_true, if_true, obS]; exact One.same _
/-! days: light -/
theorem upd_ext {f g : Nat → Int32} (h : ∀ j, f j = g j) : f = g := funext h
/-- f, but v from a to below b -/
def fillF (f : Nat → Int32) (a b : Nat) (v : Int32) : Nat → Int32 := fun j => if a ≤ j ∧ j < b then v else f j
theorem fillF_0 (f : Nat → Int32) (a : Nat) (v : Int32) : fillF f a a v = f := funext fun j => if_neg (by omega)
theorem fillF_s (f : Nat → Int32) {a b : Nat} (h : a ≤ b) (v : Int32) : upd (fillF f a b v) b v = fillF f a (b + 1) v := by
  funext j
  show (if j = b then v else if a ≤ j ∧ j < b then v else f j) = if a ≤ j ∧ j < b + 1 then v else f j
  by_cases h1 : j = b
  · rw [if_pos h1, if_pos (by omega)]
  · rw [if_neg h1]
    by_cases h2 : a ≤ j ∧ j < b
    · rw [if_pos h2, if_pos (by omega)]
    · rw [if_neg h2, if_neg (by omega)]
theorem setLight_eq (σ : St) {a b : Nat} (h1 : a ≤ b) (h2 : b < 80) (v : Int32) : fX0_setLight σ (nI a) (nI b) v = some (saf σ 36 (fillF (ga σ 36) a (b + 1) v)) := by
  unfold fX0_setLight
  obtain ⟨s', hs', e⟩ := for_loop (fun n s i => fX0_setLight_3 (fX0_setLight_3_k (nI a) (nI b) v) (nI a) (nI b) v n s i) (fX0_setLight_3_k (nI a) (nI b) v) (fun k s => a ≤ k ∧ s = saf σ 36 (fillF (ga σ 36) a k v)) (b + 1)
    (fun n s _ => by
      show fX0_setLight_3 _ _ _ _ _ _ _ = _
      rw [fX0_setLight_3, if_pos (nI_lt (by omega) (by omega))])
    (fun n k s hk ⟨hak, hs⟩ => by
      refine ⟨saf σ 36 (fillF (ga σ 36) a (k + 1) v), ⟨by omega, rfl⟩, ?_⟩
      show fX0_setLight_3 _ _ _ _ _ _ _ = fX0_setLight_3 _ _ _ _ _ _ _
      rw [fX0_setLight_3, if_neg (nI_nlt (by omega) (by omega)), if_neg (show ¬ (80 : Int32) ≤ nI k from nI_ge (show k < 80 by omega) (by decide)), if_pos (inx (by omega) (by decide)), nI_clamp (by omega), hs, sa_saf, fillF_s _ hak, nI_1])
    (b + 1 - a) a KF σ (by omega) (Nat.lt_of_lt_of_le (by omega) KF_ge) ⟨Nat.le_refl a, by rw [fillF_0, saf_self]⟩
  rw [e, hs'.2]
  rfl
theorem lightM_eq (σ : St) {a b : Nat} (h1 : a ≤ b) (h2 : b < 80) (v : Int32) : fX10_light_38 (fX10_light_38_k (nI a) (nI b) v) (nI a) (nI b) v KF σ (nI a) = some (1, saf σ 20 (fillF (ga σ 20) a (b + 1) v)) := by
  obtain ⟨s', hs', e⟩ := for_loop (fun n s i => fX10_light_38 (fX10_light_38_k (nI a) (nI b) v) (nI a) (nI b) v n s i) (fX10_light_38_k (nI a) (nI b) v) (fun k s => a ≤ k ∧ s = saf σ 20 (fillF (ga σ 20) a k v)) (b + 1)
    (fun n s _ => by
      show fX10_light_38 _ _ _ _ _ _ _ = _
      rw [fX10_light_38, if_pos (nI_lt (by omega) (by omega))])
    (fun n k s hk ⟨hak, hs⟩ => by
      refine ⟨saf σ 20 (fillF (ga σ 20) a (k + 1) v), ⟨by omega, rfl⟩, ?_⟩
      show fX10_light_38 _ _ _ _ _ _ _ = fX10_light_38 _ _ _ _ _ _ _
      rw [fX10_light_38, if_neg (nI_nlt (by omega) (by omega)), if_pos (inx (by omega) (by decide)), nI_clamp (by omega), hs, sa_saf, fillF_s _ hak, nI_1])
    (b + 1 - a) a KF σ (by omega) (Nat.lt_of_lt_of_le (by omega) KF_ge) ⟨Nat.le_refl a, by rw [fillF_0, saf_self]⟩
  rw [e, hs'.2]
  rfl
theorem e_light {σ τ : St} (h : Rel σ τ) (a b v : Int32) : Two (fX9_light σ a b v) (fX10_light τ a b v) := by
  obtain ⟨hA, ⟨hst, hk, hsd, hmo, ht0, hcal⟩, hw, hp, hm, hz, hl⟩ := id h
  unfold fX9_light fX10_light
  simp only [isDay_eq, in_eq, within_eq, obS, i10, Int32.toInt_toInt64, forget0_eq]
  simp only [lt_toInt, le_toInt, show (0 : Int32).toInt = 0 from rfl, show (80 : Int32).toInt = 80 from rfl, show (79 : Int64).toInt = 79 from rfl, show (0 : Int64).toInt = 0 from rfl, show (16 : Int32).toInt = 16 from rfl, show (16 : Int64).toInt = 16 from rfl]
  by_cases c1 : 0 ≤ a.toInt ∧ a.toInt ≤ b.toInt ∧ b.toInt ≤ 79
  · rw [if_neg (show ¬ a.toInt < 0 by omega), if_neg (show ¬ b.toInt < a.toInt by omega), if_neg (show ¬ 80 ≤ b.toInt by omega), if_neg (show ¬ ¬ (0 ≤ a.toInt ∧ a.toInt ≤ 79) by omega), if_neg (show ¬ ¬ (a.toInt ≤ b.toInt ∧ b.toInt ≤ 79) by omega)]
    refine Two.ite (fun _ => Two.same h _) (fun c4 => ?_)
    obtain ⟨k1, rfl, l1, u1⟩ := t_nat' (a := 0) (b := 79) (by decide) ⟨c1.1, by omega⟩
    obtain ⟨k2, rfl, l2, u2⟩ := t_nat' (a := 0) (b := 79) (by decide) ⟨by omega, c1.2.2⟩
    obtain ⟨k3, rfl, l3, u3⟩ := t_nat (by decide) c4
    have hle : k1 ≤ k2 := by have := c1.2.1; rw [nI_toInt (by omega), nI_toInt (by omega)] at this; omega
    rw [setLight_eq _ hle (by omega), lightM_eq _ hle (by omega)]
    simp only [obS]
    refine Two.mk' ?_
    refine ⟨hA, ⟨hst, hk, hsd, hmo, ht0, fun d hd => ?_⟩, hw, hp, hm, rz0 rfl, hl⟩
    obtain ⟨g, q1, q2, q3, q4, q5⟩ := hcal d hd
    show ∃ h : Nat, h ≤ 16 ∧ fillF (ga σ 36) k1 (k2 + 1) (nI k3) d = nI h ∧ fillF (ga τ 20) k1 (k2 + 1) (nI k3) d = nI h ∧ ga σ 37 d = ga τ 21 d ∧ b01 (ga σ 37 d)
    unfold fillF
    by_cases hh : k1 ≤ d ∧ d < k2 + 1
    · rw [if_pos hh, if_pos hh]
      exact ⟨k3, by omega, rfl, rfl, q4, q5⟩
    · rw [if_neg hh, if_neg hh]
      exact ⟨g, q1, q2, q3, q4, q5⟩
  · by_cases c2 : 0 ≤ a.toInt ∧ a.toInt ≤ 79
    · rw [if_neg (not_not_intro c2), if_pos (show ¬ (a.toInt ≤ b.toInt ∧ b.toInt ≤ 79) by omega), if_neg (by omega)]
      by_cases c3 : b.toInt < a.toInt
      · rw [if_pos c3]; exact Two.same h _
      · rw [if_neg c3, if_pos (by omega)]; exact Two.same h _
    · rw [if_pos c2]
      by_cases c3 : a.toInt < 0
      · rw [if_pos c3]; exact Two.same h _
      · rw [if_neg c3]
        by_cases c5 : b.toInt < a.toInt
        · rw [if_pos c5]; exact Two.same h _
        · rw [if_neg c5, if_pos (by omega)]; exact Two.same h _
/-! counts -/
def cntF (f : Nat → Int32) : Nat → Int32
  | 0 => 0
  | n + 1 => cntF f n + (if f n = 0 then 0 else 1)
theorem frostDays_eq (σ : St) : fX0_frostDays σ = some (cntF (ga σ 37) 80) := by
  unfold fX0_frostDays
  obtain ⟨s', hs', e⟩ := for_loop0 (fun n s i => fX0_frostDays_4 (fX0_frostDays_4_k σ) σ n s i) (fX0_frostDays_4_k σ) (fun k s => s = cntF (ga σ 37) k) 80 (by decide)
    (fun n s _ => by
      show fX0_frostDays_4 _ _ _ _ _ = _
      rw [fX0_frostDays_4, if_pos (show (80 : Int32) ≤ nI 80 by decide)])
    (fun n k s hk hs => by
      refine ⟨cntF (ga σ 37) (k + 1), rfl, ?_⟩
      show fX0_frostDays_4 _ _ _ _ _ = fX0_frostDays_4 _ _ _ _ _
      rw [fX0_frostDays_4, if_neg (show ¬ (80 : Int32) ≤ nI k from nI_ge (show k < 80 by omega) (by decide)), if_pos (inx (by omega) (by decide)), nI_clamp (by omega), hs, nI_1]
      by_cases hz : ga σ 37 k = 0
      · rw [if_pos hz, cntF, if_pos hz]
      · rw [if_neg hz, cntF, if_neg hz]) 0 rfl
  exact (e.trans (by rw [hs']; rfl))
theorem frosts_eq (τ : St) : fX10_frosts τ = some (cntF (ga τ 21) 80) := by
  unfold fX10_frosts
  obtain ⟨s', hs', e⟩ := for_loop0 (fun n s i => fX10_frosts_4 (fX10_frosts_4_k τ) τ n s i) (fX10_frosts_4_k τ) (fun k s => s = cntF (ga τ 21) k) 80 (by decide)
    (fun n s _ => by
      show fX10_frosts_4 _ _ _ _ _ = _
      rw [fX10_frosts_4, if_pos (show (80 : Int32) ≤ nI 80 by decide)])
    (fun n k s hk hs => by
      refine ⟨cntF (ga τ 21) (k + 1), rfl, ?_⟩
      show fX10_frosts_4 _ _ _ _ _ = fX10_frosts_4 _ _ _ _ _
      rw [fX10_frosts_4, if_neg (show ¬ (80 : Int32) ≤ nI k from nI_ge (show k < 80 by omega) (by decide)), if_pos (inx (by omega) (by decide)), nI_clamp (by omega), hs, nI_1]
      unfold fX10_bit
      by_cases hz : ga τ 21 k = 0
      · rw [if_pos hz, cntF, if_pos hz]; rfl
      · rw [if_neg hz, cntF, if_neg hz]; rfl) 0 rfl
  exact (e.trans (by rw [hs']; rfl))
theorem cntF_congr {f g : Nat → Int32} : ∀ (n : Nat), (∀ j, j < n → f j = g j) → cntF f n = cntF g n
  | 0, _ => rfl
  | n + 1, h => by rw [cntF, cntF, cntF_congr n (fun j hj => h j (by omega)), h n (by omega)]
theorem e_count {σ τ : St} (h : Rel σ τ) (a : Int32) : One (fX9_count σ a) (fX10_count τ a) := by
  obtain ⟨⟨hD, ⟨n1, _, a1, b1, _⟩, ⟨n2, _, a2, b2, _⟩, ⟨n3, _, a3, b3, _⟩, ⟨n4, _, a4, b4, _⟩⟩, ⟨⟨n5, c5, _, _, a5, b5, a6, b6, _⟩, hk, ⟨n7, _, _, _, a7, b7, _⟩, ⟨m, _, a8, b8⟩, ht0, hcal⟩, hC⟩ := h
  unfold fX9_count fX10_count
  rw [a1, b1, a2, b2, a3, b3, a4, b4, a5, b5, a6, b6, a7, b7, a8, b8, frostDays_eq, frosts_eq, cntF_congr 80 (f := ga σ 37) (g := ga τ 21) (fun j hj => by obtain ⟨g, q1, q2, q3, q4, q5⟩ := hcal j hj; exact q4)]
  simp only [obS]
  repeat (first | exact One.same _ | refine One.ite (fun _ => One.same _) (fun _ => ?_))
