theorem nI_ne1 {k : Nat} (h : k < 2 ^ 31) : ¬ nI k = (-1 : Int32) := fun w => absurd (show (0 : Int32) ≤ -1 by rw [← w]; exact nI_pos' h) (by decide)
theorem e_arched {σ τ : St} (h : Rel σ τ) (a b : Int32) : Two (fX9_arched σ a b) (fX10_arched τ a b) := by
  obtain ⟨hA, ⟨⟨n, cc, hn, hcc, e1, e2, e3, e4, hs⟩, ⟨ek, k1, k2, k3, k4⟩, ⟨ns, rr, gg, hns, t1, t2, t3, t4, t5, t6⟩, hcal⟩, hw, hp, hm, hz, hl⟩ := id h
  unfold fX9_arched fX10_arched fX8_arch
  simp only [isStone_eq σ _ (show n ≤ 100 by omega) e1, noStone_eq τ _ (show n ≤ 100 by omega) e2, within_eq, in_eq, obS, i10, i01, Int32.toInt_toInt64, forget_eq, gi_si, gi_sl, gi_saf, gi_sbf, gi_sn, gi_sa, gi_sb, gl_si, gl_sl, gl_saf, gl_sa, ga_si, ga_sl, ga_saf, ga_sbf, ga_sn, ga_sa, ga_sb, gb_si, gb_sbf, gb_sn, gb_sa, gb_sb, gn_si, gn_sa, gn_sb, gn_sbf, gn_saf, gn_sn, reduceIte, Nat.reduceEqDiff, Nat.reduceAdd]
  refine Two.iteN (fun c1 => ?_) (fun _ => Two.same h _)
  refine Two.iteN (fun c2 => ?_) (fun _ => Two.same h _)
  refine Two.ite (fun _ => Two.same h _) (fun c3 => ?_)
  obtain ⟨x, rfl, l1, u1⟩ := t_nat' (a := 0) (by decide) c1
  obtain ⟨y, rfl, l2, u2⟩ := t_nat' (a := 0) (by decide) c2
  have hxy : x ≠ y := fun q => c3 (by rw [q])
  simp only [if_pos (inx' (show x < 14 by omega) (by decide)), if_pos (inx' (show y < 14 by omega) (by decide)), nI_clamp (show x < 2 ^ 31 by omega), nI_clamp (show y < 2 ^ 31 by omega), obS]
  obtain ⟨x', z', w', r', q1, q2, q3, q4, q5, q6, q7, q8, q9, q10, q11, q12, q13, q14, q15⟩ := hs x (by omega)
  rw [← q14]
  rcases q15 with q | ⟨k, w1, w2, w3⟩
  · rw [q, if_pos rfl, if_pos (show (-1 : Int32) < 0 by decide)]
    obtain ⟨f, f1, f2, f3⟩ := k4 y (by omega)
    rw [pow_eq (show x < 31 by omega), pow_eq (show y < 31 by omega), k1, f1, nI_or, nI_or]
    have hkx : ∀ k, k < 2 ^ 31 → ¬ ga σ 21 x = nI k := fun k hk e => nI_ne1 hk (e.symm.trans q)
    refine Two.mk' ?_
    refine ⟨hA, ⟨⟨n, cc, hn, hcc, e1, e2, e3, e4, fun j hj => ?_⟩, ⟨ek ||| 2 ^ y, rfl, or_lt k2 (by omega), fun k => ?_, fun k hk => ?_⟩, ⟨ns, rr, gg, hns, t1, t2, t3, t4, t5, t6⟩, hcal⟩, rw0 rfl, rp0 rfl, rpm0 rfl, rz0 rfl, hl⟩
    · obtain ⟨x', z', w', r', q1, q2, q3, q4, q5, q6, q7, q8, q9, q10, q11, q12, q13, q14, q15⟩ := hs j hj
      refine ⟨x', z', w', r', q1, q2, q3, q4, q5, q6, q7, q8, q9, q10, q11, q12, q13, ?_⟩
      by_cases hjx : j = x
      · subst hjx
        exact ⟨pk_us.trans pk_us.symm, Or.inr ⟨y, by omega, fun q => hxy q.symm, pk_us⟩⟩
      · refine ⟨(pk_un hjx).trans (q14.trans (pk_un hjx).symm), ?_⟩
        rcases q15 with q | ⟨k, w1, w2, w3⟩
        · exact Or.inl ((pk_un hjx).trans q)
        · exact Or.inr ⟨k, w1, w2, (pk_un hjx).trans w3⟩
    · rw [test_or, Bool.or_eq_true, decide_eq_true_iff, k3 k]
      constructor
      · rintro (⟨j, g1, g2, g3, g4⟩ | rfl)
        · have hne : j ≠ x := fun q => hkx k (by omega) (by rw [← q]; exact g3)
          exact ⟨j, g1, g2, (pk_un hne).trans g3, g4⟩
        · exact ⟨x, (by show nI x < gi σ 10; rw [e1]; exact nI_lt (by omega) (by omega)), by omega, pk_us, by omega⟩
      · rintro ⟨j, g1, g2, g3, g4⟩
        by_cases hjx : j = x
        · subst hjx
          have g3 : upd (ga σ 21) j (nI y) j = nI k := g3
          rw [pk_us] at g3
          exact Or.inr (nI_inj (by omega) (by omega) g3)
        · exact Or.inl ⟨j, g1, g2, (pk_un hjx).symm.trans g3, g4⟩
    · by_cases hky : k = y
      · subst hky
        refine ⟨f ||| 2 ^ x, pk_us, or_lt f2 (by omega), fun j => ?_⟩
        rw [test_or, Bool.or_eq_true, decide_eq_true_iff, f3 j]
        constructor
        · rintro (⟨g1, g2, g3⟩ | rfl)
          · have hne : j ≠ x := fun q => hkx k (by omega) (by rw [← q]; exact g3)
            exact ⟨g1, g2, (pk_un hne).trans g3⟩
          · exact ⟨(by show nI x < gi σ 10; rw [e1]; exact nI_lt (by omega) (by omega)), by omega, pk_us⟩
        · rintro ⟨g1, g2, g3⟩
          by_cases hjx : j = x
          · exact Or.inr hjx.symm
          · exact Or.inl ⟨g1, g2, (pk_un hjx).symm.trans g3⟩
      · obtain ⟨f', f1', f2', f3'⟩ := k4 k hk
        refine ⟨f', (pk_un hky).trans f1', f2', fun j => ?_⟩
        rw [f3' j]
        constructor
        · rintro ⟨g1, g2, g3⟩
          have hne : j ≠ x := fun q => hkx k (by omega) (by rw [← q]; exact g3)
          exact ⟨g1, g2, (pk_un hne).trans g3⟩
        · rintro ⟨g1, g2, g3⟩
          by_cases hjx : j = x
          · subst hjx
            have g3 : upd (ga σ 21) j (nI y) j = nI k := g3
            rw [pk_us] at g3
            exact absurd (nI_inj (by omega) (by omega) g3).symm hky
          · exact ⟨g1, g2, (pk_un hjx).symm.trans g3⟩
  · rw [w3, if_neg (nI_ne1 (by omega)), if_neg (show ¬ nI k < (0 : Int32) from nI_pos (by omega))]
    exact Two.same h _
/-! what the stones are, read off either state -/
def StX (σ : St) (d : SD) : Prop := d.1 ≤ 14 ∧ d.2.1 ≤ 5 ∧ gi σ 10 = nI d.1 ∧ gi σ 11 = nI d.2.1 ∧ (∀ j, j < d.1 → d.2.2.1 j < 2 ^ j ∧ ga σ 20 j = nI (d.2.2.1 j)) ∧ (∀ j, j < d.1 → ga σ 21 j = d.2.2.2 j ∧ (d.2.2.2 j = -1 ∨ ∃ k, k < d.1 ∧ d.2.2.2 j = nI k)) ∧ RKeys σ
def StM (τ : St) (d : SD) : Prop := d.1 ≤ 14 ∧ d.2.1 ≤ 5 ∧ gi τ 9 = nI d.1 ∧ gi τ 10 = nI d.2.1 ∧ (∀ j, j < d.1 → d.2.2.1 j < 2 ^ j ∧ ga τ 11 j = nI (d.2.2.1 j)) ∧ (∀ j, j < d.1 → ga τ 12 j = d.2.2.2 j ∧ (d.2.2.2 j = -1 ∨ ∃ k, k < d.1 ∧ d.2.2.2 j = nI k))
theorem st_get {σ τ : St} (h : RStones σ τ) (hk : RKeys σ) : StX σ (sdX σ) ∧ StM τ (sdX σ) ∧ sdM τ = sdX σ := by
  obtain ⟨n, c, hn, hc, e1, e2, e3, e4, hs⟩ := h
  have c1 : (sdX σ).1 = n := by show (gi σ 10).toNatClampNeg = n; rw [e1, nI_clamp (by omega)]
  have c2 : (sdX σ).2.1 = c := by show (gi σ 11).toNatClampNeg = c; rw [e3, nI_clamp (by omega)]
  have c3 : ∀ j, j < n → (sdX σ).2.2.1 j = (ga σ 20 j).toNatClampNeg := fun j hj => if_pos (by rw [e1, nI_clamp (by omega)]; exact hj)
  have c4 : ∀ j, j < n → (sdX σ).2.2.2 j = ga σ 21 j := fun j hj => if_pos (by rw [e1, nI_clamp (by omega)]; exact hj)
  refine ⟨⟨by omega, by omega, by rw [c1]; exact e1, by rw [c2]; exact e3, fun j hj => ?_, fun j hj => ?_, hk⟩, ⟨by omega, by omega, by rw [c1]; exact e2, by rw [c2]; exact e4, fun j hj => ?_, fun j hj => ?_⟩, ?_⟩
  · rw [c1] at hj
    obtain ⟨x', z', w', r', q1, q2, q3, q4, q5, q6, q7, q8, q9, q10, q11, q12, q13, q14, q15⟩ := hs j hj
    have hpw : 2 ^ j ≤ 2 ^ 14 := Nat.pow_le_pow_right (by decide) (by omega)
    rw [c3 j hj, q12, nI_clamp (by omega)]
    exact ⟨q5, rfl⟩
  · rw [c1] at hj ⊢
    obtain ⟨x', z', w', r', q1, q2, q3, q4, q5, q6, q7, q8, q9, q10, q11, q12, q13, q14, q15⟩ := hs j hj
    rw [c4 j hj]
    refine ⟨rfl, ?_⟩
    rcases q15 with q | ⟨k, w1, w2, w3⟩
    · exact Or.inl q
    · exact Or.inr ⟨k, w1, w3⟩
  · rw [c1] at hj
    obtain ⟨x', z', w', r', q1, q2, q3, q4, q5, q6, q7, q8, q9, q10, q11, q12, q13, q14, q15⟩ := hs j hj
    have hpw : 2 ^ j ≤ 2 ^ 14 := Nat.pow_le_pow_right (by decide) (by omega)
    rw [c3 j hj, q12, nI_clamp (by omega)]
    exact ⟨q5, q13⟩
  · rw [c1] at hj ⊢
    obtain ⟨x', z', w', r', q1, q2, q3, q4, q5, q6, q7, q8, q9, q10, q11, q12, q13, q14, q15⟩ := hs j hj
    rw [c4 j hj]
    refine ⟨q14.symm, ?_⟩
    rcases q15 with q | ⟨k, w1, w2, w3⟩
    · exact Or.inl q
    · exact Or.inr ⟨k, w1, w3⟩
  · unfold sdM sdX
    rw [e1, e2, e3, e4, nI_clamp (show n < 2 ^ 31 by omega)]
    refine Prod.ext rfl (Prod.ext rfl (Prod.ext (funext fun j => ?_) (funext fun j => ?_)))
    · show (if j < n then (ga τ 11 j).toNatClampNeg else 0) = if j < n then (ga σ 20 j).toNatClampNeg else 0
      by_cases q : j < n
      · obtain ⟨x', z', w', r', q1, q2, q3, q4, q5, q6, q7, q8, q9, q10, q11, q12, q13, q14, q15⟩ := hs j q
        rw [q12, q13]
      · rw [if_neg q, if_neg q]
    · show (if j < n then ga τ 12 j else -1) = if j < n then ga σ 21 j else -1
      by_cases q : j < n
      · obtain ⟨x', z', w', r', q1, q2, q3, q4, q5, q6, q7, q8, q9, q10, q11, q12, q13, q14, q15⟩ := hs j q
        rw [q14]
      · rw [if_neg q, if_neg q]
/-! which stones may be laid -/
theorem b10 {c : Prop} [Decidable c] : (if decide c = true then (1 : Int32) else 0) = if c then 1 else 0 := by
  by_cases h : c
  · rw [if_pos h, if_pos (decide_eq_true h)]
  · rw [if_neg h, if_neg (by simp [h])]
def i01B (b : Bool) : Int32 := if b = true then 1 else 0
theorem i01B_b (b : Bool) : b01 (i01B b) := by cases b <;> simp [i01B, b01]
theorem i01B_0 (b : Bool) : i01B b = 0 ↔ b = false := by cases b <;> simp [i01B]
theorem borX {σ : St} {d : SD} (h : StX σ d) {m i : Nat} (hm : m < 2 ^ 14) (hi : i < d.1) : fX8_isBorne σ (nI i) (nI m) = some (i01B (borD d m i)) := by
  obtain ⟨hn, hc, e1, e2, hr, hk, hK⟩ := h
  obtain ⟨r1, r2⟩ := hr i hi
  have hpw : 2 ^ i ≤ 2 ^ 14 := Nat.pow_le_pow_right (by decide) (by omega)
  have hms := ms_le (d.2.2.1 i) m
  have hb := bit_lt m i
  unfold fX8_isBorne borD i01B
  rw [bit_eq (by omega) (by omega), if_pos (inx (show i < 14 by omega) (by decide)), nI_clamp (by omega), r2, nI_ms]
  by_cases c1 : bit m i = 0
  · rw [if_pos (show nI (bit m i) = (0 : Int32) by rw [c1]; rfl)]
    by_cases c2 : ms (d.2.2.1 i) m = 0
    · rw [if_pos (show nI (ms (d.2.2.1 i) m) = (0 : Int32) by rw [c2]; rfl), if_pos (decide_eq_true ⟨c1, c2⟩)]
    · rw [if_neg (show ¬ nI (ms (d.2.2.1 i) m) = (0 : Int32) from fun q => c2 (nI_inj (by omega) (by decide) (show nI (ms (d.2.2.1 i) m) = nI 0 from q))), if_neg (fun q => c2 (of_decide_eq_true q).2)]
  · rw [if_neg (show ¬ nI (bit m i) = (0 : Int32) from fun q => c1 (nI_inj (by omega) (by decide) (show nI (bit m i) = nI 0 from q))), if_neg (fun q => c1 (of_decide_eq_true q).1)]
theorem arN_bit {d : SD} (hky : ∀ j, j < d.1 → d.2.2.2 j = -1 ∨ ∃ k, k < d.1 ∧ d.2.2.2 j = nI k) (hn : d.1 ≤ 14) (m k : Nat) : ∀ n, n ≤ d.1 → ((arN d.2.2.2 m n).testBit k = true ↔ m.testBit k = false ∧ ∃ j, j < n ∧ m.testBit j = true ∧ d.2.2.2 j = nI k ∧ k < 14)
  | 0, _ => by
    rw [arN, Nat.zero_testBit]
    constructor
    · intro q; exact absurd q (by decide)
    · rintro ⟨_, j, hj, _⟩; exact absurd hj (by omega)
  | n + 1, hle => by
    have ih := arN_bit hky hn m k n (by omega)
    rw [arN]
    rcases hky n (by omega) with q | ⟨k', w1, w2⟩
    · rw [if_neg (show ¬ (¬ d.2.2.2 n < 0 ∧ _) by rw [q]; exact fun z => z.1 (by decide)), ih]
      constructor
      · rintro ⟨a, j, h1, h2, h3, h4⟩; exact ⟨a, j, by omega, h2, h3, h4⟩
      · rintro ⟨a, j, h1, h2, h3, h4⟩
        refine ⟨a, j, ?_, h2, h3, h4⟩
        have : j ≠ n := fun e => nI_ne1 (k := k) (by omega) (by rw [← h3, e]; exact q)
        omega
    · rw [w2, nI_clamp (by omega)]
      by_cases c : bit m n = 1 ∧ bit m k' = 0
      · rw [if_pos ⟨nI_pos (by omega), c⟩, test_or, Bool.or_eq_true, decide_eq_true_iff, ih]
        constructor
        · rintro (⟨a, j, h1, h2, h3, h4⟩ | rfl)
          · exact ⟨a, j, by omega, h2, h3, h4⟩
          · exact ⟨(bit_f m k').mp c.2, n, by omega, (bit_t m n).mp c.1, w2, by omega⟩
        · rintro ⟨a, j, h1, h2, h3, h4⟩
          by_cases e : j = n
          · subst e
            rw [w2] at h3
            exact Or.inr (nI_inj (by omega) (by omega) h3)
          · exact Or.inl ⟨a, j, by omega, h2, h3, h4⟩
      · rw [if_neg (fun q => c q.2), ih]
        constructor
        · rintro ⟨a, j, h1, h2, h3, h4⟩; exact ⟨a, j, by omega, h2, h3, h4⟩
        · rintro ⟨a, j, h1, h2, h3, h4⟩
          refine ⟨a, j, ?_, h2, h3, h4⟩
          have : j ≠ n := fun e => by
            subst e
            rw [w2] at h3
            have := nI_inj (by omega) (by omega) h3
            subst this
            exact c ⟨(bit_t m j).mpr h2, (bit_f m k').mpr a⟩
          omega
theorem arN_lt {d : SD} (hky : ∀ j, j < d.1 → d.2.2.2 j = -1 ∨ ∃ k, k < d.1 ∧ d.2.2.2 j = nI k) (hn : d.1 ≤ 14) (m : Nat) : ∀ n, n ≤ d.1 → arN d.2.2.2 m n < 2 ^ d.1
  | 0, _ => by rw [arN]; exact pow_pos' _
  | n + 1, hle => by
    have ih := arN_lt hky hn m n (by omega)
    rw [arN]
    rcases hky n (by omega) with q | ⟨k', w1, w2⟩
    · rw [if_neg (show ¬ (¬ d.2.2.2 n < 0 ∧ _) by rw [q]; exact fun z => z.1 (by decide))]
      exact ih
    · rw [w2, nI_clamp (by omega)]
      by_cases c : ¬ nI k' < 0 ∧ bit m n = 1 ∧ bit m k' = 0
      · rw [if_pos c]; exact or_lt ih w1
      · rw [if_neg c]; exact ih
theorem cenX {σ : St} {d : SD} (h : StX σ d) {m : Nat} (hm : m < 2 ^ 14) : fX8_isCentred σ (nI m) = some (i01B (cenD d m)) := by
  obtain ⟨hn, hc, e1, e2, hr, hk, ⟨ek, k1, k2, k3, k4⟩⟩ := h
  have hky : ∀ j, j < d.1 → d.2.2.2 j = -1 ∨ ∃ k, k < d.1 ∧ d.2.2.2 j = nI k := fun j hj => (hk j hj).2
  have hlt := arN_lt hky hn m d.1 (Nat.le_refl _)
  have hms := ms_le ek m
  have hpop : popN (arN d.2.2.2 m d.1) 20 = popN (arN d.2.2.2 m d.1) d.1 := by
    have := popN_top hlt (20 - d.1)
    rw [show d.1 + (20 - d.1) = 20 by omega] at this
    exact this
  have hj : ∀ j, (nI j < gi σ 10 ∧ j < 14) ↔ j < d.1 := fun j => by
    rw [e1]
    constructor
    · rintro ⟨a, b⟩; exact (nI_ltI (by omega) (by omega)).mp a
    · intro a; exact ⟨nI_lt a (by omega), by omega⟩
  have hbit : ∀ k, k < d.1 → ∀ f, ga σ 22 k = nI f → f < 2 ^ 14 → (∀ j, f.testBit j = true ↔ (nI j < gi σ 10 ∧ j < 14 ∧ ga σ 21 j = nI k)) → ((arN d.2.2.2 m d.1).testBit k = true ↔ (ms ek m).testBit k = true ∧ f &&& m ≠ 0) := fun k hk' f f1 f2 f3 => by
    rw [arN_bit hky hn m k d.1 (Nat.le_refl _), ms_bit (by omega), Bool.and_eq_true, k3 k, ne0_bit]
    constructor
    · rintro ⟨a, j, h1, h2, h3, h4⟩
      have hj' := (hj j).mpr h1
      have h3' : ga σ 21 j = nI k := (hk j h1).1.trans h3
      exact ⟨⟨⟨j, hj'.1, hj'.2, h3', h4⟩, by rw [a]; rfl⟩, j, by rw [Nat.testBit_and, h2, (f3 j).mpr ⟨hj'.1, hj'.2, h3'⟩]; rfl⟩
    · rintro ⟨⟨_, a⟩, j, h2⟩
      rw [Nat.testBit_and, Bool.and_eq_true] at h2
      obtain ⟨g1, g2, g3⟩ := (f3 j).mp h2.1
      have hjd := (hj j).mp ⟨g1, g2⟩
      refine ⟨?_, j, hjd, h2.2, (hk j hjd).1.symm.trans g3, by omega⟩
      cases hb : m.testBit k
      · rfl
      · rw [hb] at a; exact absurd a (by decide)
  unfold fX8_isCentred
  rw [k1, nI_ms]
  have fin : ∀ v : Int32, fX8_isCentred_14_k σ (nI m) (nI (ms ek m)) (nI (popN (arN d.2.2.2 m d.1) d.1)) v = some (i01B (cenD d m)) := fun v => by
    unfold fX8_isCentred_14_k i01B cenD
    rw [e2, hpop]
    have := popN_le (arN d.2.2.2 m d.1) d.1
    by_cases q : popN (arN d.2.2.2 m d.1) d.1 ≤ d.2.1
    · rw [if_neg (nI_nlt q (by omega)), if_pos (decide_eq_true q)]
    · rw [if_pos (nI_lt (by omega) (by omega)), if_neg (by simp only [decide_eq_true_eq]; exact q)]
  by_cases hz : ms ek m = 0
  · have hz0 : ∀ n, n ≤ d.1 → popN (arN d.2.2.2 m d.1) n = 0 := by
      intro n
      induction n with
      | zero => intro _; rfl
      | succ n ih =>
        intro hle
        rw [popN, ih (by omega), Nat.zero_add]
        obtain ⟨f, f1, f2, f3⟩ := k4 n (by omega)
        have := hbit n (by omega) f f1 f2 f3
        rw [hz, Nat.zero_testBit] at this
        refine (bit_f _ _).mpr ?_
        cases hb : (arN d.2.2.2 m d.1).testBit n
        · rfl
        · exact absurd (this.mp hb).1 (by decide)
    have hfin := fin (nI 0)
    rw [hz0 d.1 (Nat.le_refl _), hz] at hfin
    rw [hz]
    obtain ⟨f, hf⟩ := KF_s
    rw [hf, fX8_isCentred_14, if_pos (show nI 0 = (0 : Int32) from rfl)]
    exact hfin
  · refine Eq.trans (until0 (fun f k => fX8_isCentred_14 (fX8_isCentred_14_k σ (nI m) (nI (ms ek m))) σ (nI m) (nI (ms ek m)) f (nI (popN (arN d.2.2.2 m d.1) k)) (nI k)) (fX8_isCentred_14_k σ (nI m) (nI (ms ek m)) (nI (popN (arN d.2.2.2 m d.1) d.1)) (nI d.1)) d.1 (by omega) (fun f => ?_) (fun f k hk' => ?_)) (fin _)
    · show fX8_isCentred_14 _ _ _ _ _ _ _ = _
      rw [fX8_isCentred_14, if_neg (show ¬ nI (ms ek m) = (0 : Int32) from fun q => hz (nI_inj (by omega) (by decide) (show nI (ms ek m) = nI 0 from q))), e1, if_pos (nI_le (Nat.le_refl _) (by omega))]
    · show fX8_isCentred_14 _ _ _ _ _ _ _ = fX8_isCentred_14 _ _ _ _ _ _ _
      obtain ⟨f', f1, f2, f3⟩ := k4 k (by omega)
      have hbk := hbit k hk' f' f1 f2 f3
      have hb2 := bit_lt (ms ek m) k
      have hand : f' &&& m ≤ f' := Nat.and_le_left
      rw [fX8_isCentred_14, if_neg (show ¬ nI (ms ek m) = (0 : Int32) from fun q => hz (nI_inj (by omega) (by decide) (show nI (ms ek m) = nI 0 from q))), e1, if_neg (nI_ge hk' (by omega)), bit_eq (by omega) (by omega), if_pos (inx (show k < 14 by omega) (by decide)), nI_clamp (by omega), f1, nI_and, nI_1, popN]
      by_cases c1 : bit (ms ek m) k = 1
      · rw [if_pos (show nI (bit (ms ek m) k) = (1 : Int32) by rw [c1]; rfl)]
        by_cases c2 : f' &&& m = 0
        · rw [if_pos (show nI (f' &&& m) = (0 : Int32) by rw [c2]; rfl), (bit_f _ k).mpr (by
            cases hb : (arN d.2.2.2 m d.1).testBit k
            · rfl
            · exact absurd c2 (hbk.mp hb).2)]
          rfl
        · rw [if_neg (show ¬ nI (f' &&& m) = (0 : Int32) from fun q => c2 (nI_inj (by omega) (by decide) (show nI (f' &&& m) = nI 0 from q))), (bit_t _ k).mpr (hbk.mpr ⟨(bit_t _ _).mp c1, c2⟩), nI_1]
      · rw [if_neg (show ¬ nI (bit (ms ek m) k) = (1 : Int32) from fun q => c1 (nI_inj (by omega) (by decide) (show nI (bit (ms ek m) k) = nI 1 from q))), (bit_f _ k).mpr (by
          cases hb : (arN d.2.2.2 m d.1).testBit k
          · rfl
          · exact absurd ((bit_t _ _).mpr (hbk.mp hb).1) c1)]
        rfl
theorem mayM {τ : St} {d : SD} (h : StM τ d) {m i : Nat} (hm : m < 2 ^ d.1) (hi : i < d.1) : fX10_mayOf τ (nI m) (nI i) = some (i01B (mayD d m i)) := by
  obtain ⟨hn, hc, e1, e2, hr, hk⟩ := h
  have hky : ∀ j, j < d.1 → d.2.2.2 j = -1 ∨ ∃ k, k < d.1 ∧ d.2.2.2 j = nI k := fun j hj => (hk j hj).2
  obtain ⟨r1, r2⟩ := hr i hi
  have hpw : 2 ^ i ≤ 2 ^ 14 := Nat.pow_le_pow_right (by decide) (by omega)
  have hpn : 2 ^ d.1 ≤ 2 ^ 14 := Nat.pow_le_pow_right (by decide) (by omega)
  have hms := ms_le (d.2.2.1 i) m
  have hb := bit_lt m i
  have hor := or_lt hm hi
  unfold fX10_mayOf mayD borD
  rw [bit_eq (by omega) (by omega), if_pos (inx (show i < 14 by omega) (by decide)), nI_clamp (by omega), r2, nI_ms, pow_eq (by omega), nI_or]
  by_cases c1 : bit m i = 0
  · rw [if_neg (show ¬ nI (bit m i) = (1 : Int32) by rw [c1]; decide)]
    by_cases c2 : ms (d.2.2.1 i) m = 0
    · rw [if_pos (show nI (ms (d.2.2.1 i) m) = (0 : Int32) by rw [c2]; rfl), decide_eq_true (p := bit m i = 0 ∧ ms (d.2.2.1 i) m = 0) ⟨c1, c2⟩, Bool.true_and]
      refine Eq.trans (until0 (fun f k => fX10_mayOf_36 (fX10_mayOf_36_k τ (nI m) (nI i) (nI (m ||| 2 ^ i))) τ (nI m) (nI i) (nI (m ||| 2 ^ i)) f (nI (arN d.2.2.2 (m ||| 2 ^ i) k)) (nI k)) (fX10_mayOf_36_k τ (nI m) (nI i) (nI (m ||| 2 ^ i)) (nI (arN d.2.2.2 (m ||| 2 ^ i) d.1)) (nI d.1)) d.1 (by omega) (fun f => ?_) (fun f k hk' => ?_)) ?_
      · show fX10_mayOf_36 _ _ _ _ _ _ _ _ = _
        rw [fX10_mayOf_36, e1, if_pos (nI_le (Nat.le_refl _) (by omega))]
      · show fX10_mayOf_36 _ _ _ _ _ _ _ _ = fX10_mayOf_36 _ _ _ _ _ _ _ _
        have hb1 := bit_lt (m ||| 2 ^ i) k
        rw [fX10_mayOf_36, e1, if_neg (nI_ge hk' (by omega))]
        simp only [if_pos (inx' (show k < 14 by omega) (by decide)), nI_clamp (show k < 2 ^ 31 by omega), nI_1, (hk k hk').1, bit_eq (show m ||| 2 ^ i < 2 ^ 31 by omega) (show k < 32 by omega)]
        rw [arN]
        rcases hky k hk' with q | ⟨k', w1, w2⟩
        · rw [q, if_pos (show (-1 : Int32) < 0 by decide), if_neg (fun z => z.1 (by decide))]
        · have hb2 := bit_lt (m ||| 2 ^ i) k'
          rw [w2, if_neg (show ¬ nI k' < (0 : Int32) from nI_pos (by omega)), bit_eq (by omega) (by omega), pow_eq (by omega), nI_or, nI_clamp (by omega)]
          by_cases d1 : bit (m ||| 2 ^ i) k = 1
          · rw [if_pos (show nI (bit (m ||| 2 ^ i) k) = (1 : Int32) by rw [d1]; rfl)]
            by_cases d2 : bit (m ||| 2 ^ i) k' = 0
            · rw [if_pos (show nI (bit (m ||| 2 ^ i) k') = (0 : Int32) by rw [d2]; rfl), if_pos ⟨nI_pos (by omega), d1, d2⟩]
            · rw [if_neg (show ¬ nI (bit (m ||| 2 ^ i) k') = (0 : Int32) from fun q => d2 (nI_inj (by omega) (by decide) (show _ = nI 0 from q))), if_neg (fun z => d2 z.2.2)]
          · rw [if_neg (show ¬ nI (bit (m ||| 2 ^ i) k) = (1 : Int32) from fun q => d1 (nI_inj (by omega) (by decide) (show _ = nI 1 from q))), if_neg (fun z => d1 z.2.1)]
      · have hlt := arN_lt hky hn (m ||| 2 ^ i) d.1 (Nat.le_refl _)
        have hp := popN_le (arN d.2.2.2 (m ||| 2 ^ i) d.1) 20
        unfold fX10_mayOf_36_k
        rw [ones_eq (by omega)]
        simp only [obS]
        rw [e2]
        unfold i01B cenD
        by_cases q : popN (arN d.2.2.2 (m ||| 2 ^ i) d.1) 20 ≤ d.2.1
        · rw [if_neg (nI_nlt q (by omega)), if_pos (decide_eq_true q)]
        · rw [if_pos (nI_lt (by omega) (by omega)), if_neg (by simp only [decide_eq_true_eq]; exact q)]
    · rw [if_neg (show ¬ nI (ms (d.2.2.1 i) m) = (0 : Int32) from fun q => c2 (nI_inj (by omega) (by decide) (show nI (ms (d.2.2.1 i) m) = nI 0 from q))), decide_eq_false (p := bit m i = 0 ∧ ms (d.2.2.1 i) m = 0) (fun q => c2 q.2), Bool.false_and]
      rfl
  · rw [if_pos (show nI (bit m i) = (1 : Int32) by rw [show bit m i = 1 by omega]; rfl), decide_eq_false (p := bit m i = 0 ∧ ms (d.2.2.1 i) m = 0) (fun q => c1 q.1), Bool.false_and]
    rfl
theorem e_may {σ τ : St} (h : Rel σ τ) (a b : Int32) : One (fX9_may σ a b) (fX10_may τ a b) := by
  obtain ⟨hA, ⟨hs, hk, _⟩, _⟩ := id h
  obtain ⟨x1, x2, x3⟩ := st_get hs hk
  obtain ⟨hn, hc, e1, e3, _⟩ := id x1
  obtain ⟨_, _, e2, e4, _⟩ := id x2
  have hpn : 2 ^ (sdX σ).1 ≤ 2 ^ 14 := Nat.pow_le_pow_right (by decide) hn
  have hp0 := pow_pos' (sdX σ).1
  generalize sdX σ = d at *
  unfold fX9_may fX10_may fX8_all
  rw [e1, e2, all_eq (show d.1 < 31 by omega)]
  simp only [isStone_eq σ _ (show d.1 ≤ 100 by omega) e1, noStone_eq τ _ (show d.1 ≤ 100 by omega) e2, within_eq, in_eq, obS, i10, i01, Int32.toInt_toInt64, nI_toInt (show 2 ^ d.1 - 1 < 2 ^ 31 by omega)]
  refine One.ite (fun _ => One.same _) (fun c1 => ?_)
  refine One.iteN (fun c2 => ?_) (fun _ => One.same _)
  obtain ⟨m, rfl, l1, u1⟩ := t_nat (a := 0) (by decide) c1
  obtain ⟨i, rfl, l2, u2⟩ := t_nat' (a := 0) (by decide) c2
  have hor := or_lt (m := m) (i := i) (n := d.1) (by omega) (by omega)
  rw [borX x1 (by omega) (by omega), mayM x2 (by omega) (by omega), pow_eq (by omega), nI_or, cenX x1 (by omega)]
  simp only [obS, bit01 (i01B_b _), i01B_0]
  unfold mayD
  cases borD d m i
  · exact One.same _
  · cases cenD d (m ||| 2 ^ i)
    · exact One.same _
    · exact One.same _
