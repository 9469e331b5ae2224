/-! sets as bits -/
theorem nI_and (a b : Nat) : nI a &&& nI b = nI (a &&& b) := by
  apply Int32.toBitVec_inj.mp
  rw [Int32.toBitVec_and]
  show BitVec.ofNat 32 a &&& BitVec.ofNat 32 b = BitVec.ofNat 32 (a &&& b)
  rw [BitVec.ofNat_and]
theorem nI_or (a b : Nat) : nI a ||| nI b = nI (a ||| b) := by
  apply Int32.toBitVec_inj.mp
  rw [Int32.toBitVec_or]
  show BitVec.ofNat 32 a ||| BitVec.ofNat 32 b = BitVec.ofNat 32 (a ||| b)
  rw [BitVec.ofNat_or]
theorem nI_xor (a b : Nat) : nI a ^^^ nI b = nI (a ^^^ b) := by
  apply Int32.toBitVec_inj.mp
  rw [Int32.toBitVec_xor]
  show BitVec.ofNat 32 a ^^^ BitVec.ofNat 32 b = BitVec.ofNat 32 (a ^^^ b)
  rw [BitVec.ofNat_xor]
theorem nI_ms (a b : Nat) : nI a &&& (nI b ^^^ (-1 : Int32)) = nI (ms a b) := by
  rw [show (-1 : Int32) = nI (2 ^ 32 - 1) by decide, nI_xor, nI_and]
  rfl
theorem ms_le (a b : Nat) : ms a b ≤ a := Nat.and_le_left
theorem ms_bit {a b j : Nat} (hj : j < 32) : (ms a b).testBit j = (a.testBit j && !b.testBit j) := by
  unfold ms
  rw [Nat.testBit_and, Nat.testBit_xor, Nat.testBit_two_pow_sub_one]
  rw [show decide (j < 32) = true from decide_eq_true hj]
  cases b.testBit j <;> simp
theorem bit_t (m j : Nat) : bit m j = 1 ↔ m.testBit j = true := by
  unfold bit
  rw [Nat.testBit_eq_decide_div_mod_eq, decide_eq_true_iff]
theorem bit_f (m j : Nat) : bit m j = 0 ↔ m.testBit j = false := by
  have h1 := bit_lt m j
  have h2 := bit_t m j
  cases h : m.testBit j
  · constructor
    · intro _; rfl
    · intro _
      rw [h] at h2
      have : ¬ bit m j = 1 := fun q => absurd (h2.mp q) (by decide)
      omega
  · have := h2.mpr h
    constructor
    · intro q; omega
    · intro q; exact absurd q (by decide)
theorem test_hi {m j n : Nat} (h : m < 2 ^ n) (hj : n ≤ j) : m.testBit j = false := Nat.testBit_lt_two_pow (Nat.lt_of_lt_of_le h (Nat.pow_le_pow_right (by decide) hj))
theorem or_lt {m i n : Nat} (h : m < 2 ^ n) (hi : i < n) : m ||| 2 ^ i < 2 ^ n := Nat.or_lt_two_pow h (Nat.pow_lt_pow_right (by decide) hi)
theorem test_or (m i j : Nat) : (m ||| 2 ^ i).testBit j = (m.testBit j || decide (i = j)) := by
  rw [Nat.testBit_or, Nat.testBit_two_pow]
theorem ne0_bit {m : Nat} : m ≠ 0 ↔ ∃ j, m.testBit j = true := by
  constructor
  · intro h
    exact Nat.exists_testBit_of_ne_zero h
  · intro ⟨j, hj⟩ e
    rw [e, Nat.zero_testBit] at hj
    exact absurd hj (by decide)
theorem ms_0 {a b : Nat} (ha : a < 2 ^ 32) : ms a b = 0 ↔ ∀ j, a.testBit j = true → b.testBit j = true := by
  constructor
  · intro h j hj
    by_cases hj32 : j < 32
    · have := ms_bit (a := a) (b := b) hj32
      rw [h, Nat.zero_testBit, hj] at this
      cases hb : b.testBit j
      · rw [hb] at this; exact absurd this (by decide)
      · rfl
    · rw [test_hi ha (by omega)] at hj; exact absurd hj (by decide)
  · intro h
    refine Classical.byContradiction fun q => ?_
    obtain ⟨j, hj⟩ := ne0_bit.mp q
    by_cases hj32 : j < 32
    · rw [ms_bit hj32] at hj
      cases ha' : a.testBit j
      · rw [ha', Bool.false_and] at hj; exact absurd hj (by decide)
      · rw [ha', h j ha'] at hj; exact absurd hj (by decide)
    · have := test_hi (Nat.lt_of_le_of_lt (ms_le a b) ha) (show 32 ≤ j by omega)
      rw [this] at hj
      exact absurd hj (by decide)
theorem popN_congr {a b : Nat} : ∀ k, (∀ j, j < k → a.testBit j = b.testBit j) → popN a k = popN b k
  | 0, _ => rfl
  | k + 1, h => by
    rw [popN, popN, popN_congr k (fun j hj => h j (by omega))]
    have := h k (by omega)
    cases hb : b.testBit k
    · rw [(bit_f a k).mpr (this.trans hb), (bit_f b k).mpr hb]
    · rw [(bit_t a k).mpr (this.trans hb), (bit_t b k).mpr hb]
theorem popN_top {a n : Nat} (h : a < 2 ^ n) : ∀ d, popN a (n + d) = popN a n
  | 0 => rfl
  | d + 1 => by rw [← Nat.add_assoc, popN, popN_top h d, (bit_f a (n + d)).mpr (test_hi h (by omega)), Nat.add_zero]
theorem popN_or {m i : Nat} (h : m.testBit i = false) : ∀ k, popN (m ||| 2 ^ i) k = popN m k + if i < k then 1 else 0
  | 0 => by rw [if_neg (by omega)]; rfl
  | k + 1 => by
    rw [popN, popN, popN_or h k]
    by_cases e : i = k
    · subst e
      rw [(bit_t (m ||| 2 ^ i) i).mpr (by rw [test_or]; simp), (bit_f m i).mpr h, if_neg (by omega), if_pos (by omega)]
    · have hb : bit (m ||| 2 ^ i) k = bit m k := by
        have : (m ||| 2 ^ i).testBit k = m.testBit k := by rw [test_or]; simp [e]
        cases hm : m.testBit k
        · rw [(bit_f _ k).mpr (this.trans hm), (bit_f m k).mpr hm]
        · rw [(bit_t _ k).mpr (this.trans hm), (bit_t m k).mpr hm]
      rw [hb]
      by_cases c : i < k
      · rw [if_pos c, if_pos (by omega)]; omega
      · rw [if_neg c, if_neg (by omega)]; omega
theorem popN_0 : ∀ k, popN 0 k = 0
  | 0 => rfl
  | k + 1 => by rw [popN, popN_0 k, (bit_f 0 k).mpr (Nat.zero_testBit k)]
/-! stones brought, and keys -/
theorem e_stone {σ τ : St} (h : Rel σ τ) (a b c d : Int32) : Two (fX9_stone σ a b c d) (fX10_stone τ a b c d) := by
  obtain ⟨hA, ⟨⟨n, cc, hn, hcc, e1, e2, e3, e4, hs⟩, ⟨ek, k1, k2, k3, k4⟩, ⟨ns, rr, gg, hns, t1, t2, t3, t4, t5, t6⟩, hcal⟩, hw, hp, hm, hz, hl⟩ := id h
  have hpow : 2 ^ n ≤ 2 ^ 14 := Nat.pow_le_pow_right (by decide) hn
  have hall : fX8_all σ = some (nI (2 ^ n - 1)) := by unfold fX8_all; rw [e1, all_eq (by omega)]
  unfold fX9_stone fX10_stone fX8_bring
  rw [hall]
  simp only [isPlace_eq, within_eq, in_eq, obS, i10, i01, Int32.toInt_toInt64, forget_eq, gi_si, gi_sl, gi_saf, gi_sbf, gi_sn, gi_sa, gi_sb, gl_si, gl_sl, gl_saf, gl_sa, ga_si, ga_sl, ga_saf, ga_sbf, ga_sn, ga_sa, ga_sb, gb_si, gb_sbf, gb_sn, gb_sa, gb_sb, gn_si, gn_sa, gn_sb, gn_sbf, gn_saf, gn_sn, reduceIte, Nat.reduceEqDiff, Nat.reduceAdd, e1, e2, all_eq (show n < 31 by omega), nI_toInt (show 2 ^ n - 1 < 2 ^ 31 by omega)]
  refine Two.ite2 (fun _ => Two.same h _) (fun c1 c2 => ?_)
  refine Two.ite (fun _ => Two.same h _) (fun c3 => ?_)
  refine Two.ite (fun _ => Two.same h _) (fun c4 => ?_)
  obtain ⟨x, rfl, l1, u1⟩ := t_nat' (by decide) c1
  obtain ⟨z, rfl, l2, u2⟩ := t_nat' (by decide) c2
  obtain ⟨w, rfl, l3, u3⟩ := t_nat (a := 1) (b := 12) (by decide) c3
  obtain ⟨r, rfl, l4, u4⟩ := t_nat (a := 0) (by decide) c4
  have hp2 := pow_pos' n
  by_cases h8 : n = 14
  · subst h8
    exact Two.mk' ⟨hA, ⟨⟨14, cc, hn, hcc, e1, e2, e3, e4, hs⟩, ⟨ek, k1, k2, k3, k4⟩, ⟨ns, rr, gg, hns, t1, t2, t3, t4, t5, t6⟩, hcal⟩, rw0 rfl, rp0 rfl, hm, rz0 rfl, hl⟩
  · have hlt : n < 14 := by omega
    rw [if_pos (show nI n < (14 : Int32) from nI_lt hlt (by decide)), if_neg (show ¬ nI n = (14 : Int32) from fun e => h8 (nI_inj (by omega) (by decide) (show nI n = nI 14 from e)))]
    simp only [if_pos (inx' hlt (by decide)), nI_clamp (show n < 2 ^ 31 by omega), obS, nI_1]
    refine Two.mk' ?_
    refine ⟨hA, ⟨⟨n + 1, cc, by omega, hcc, rfl, rfl, e3, e4, fun j hj => ?_⟩, ⟨ek, k1, k2, fun k => ?_, fun k hk => ?_⟩, ⟨ns, rr, gg, hns, t1, t2, t3, t4, t5, t6⟩, hcal⟩, rw0 rfl, rp0 rfl, rpm0 rfl, rz0 rfl, hl⟩
    · by_cases hj' : j = n
      · subst hj'
        exact ⟨x, z, w, r, by omega, by omega, by omega, by omega, by omega, pk_us, pk_us, pk_us, pk_us, pk_us, pk_us, pk_us, pk_us, pk_us.trans pk_us.symm, Or.inl pk_us⟩
      · obtain ⟨x', z', w', r', q1, q2, q3, q4, q5, q6, q7, q8, q9, q10, q11, q12, q13, q14, q15⟩ := hs j (by omega)
        refine ⟨x', z', w', r', q1, q2, q3, q4, q5, (pk_un hj').trans q6, (pk_un hj').trans q7, (pk_un hj').trans q8, (pk_un hj').trans q9, (pk_un hj').trans q10, (pk_un hj').trans q11, (pk_un hj').trans q12, (pk_un hj').trans q13, (pk_un hj').trans (q14.trans (pk_un hj').symm), ?_⟩
        rcases q15 with q | ⟨k, w1, w2, w3⟩
        · exact Or.inl ((pk_un hj').trans q)
        · exact Or.inr ⟨k, by omega, w2, (pk_un hj').trans w3⟩
    · have hup : ∀ j, upd (ga σ 21) n (-1) j = nI k → j ≠ n ∨ ¬ k < 14 := fun j e => by
        by_cases hk : k < 14
        · refine Or.inl fun q => ?_
          subst q
          rw [pk_us] at e
          exact absurd (show (0 : Int32) ≤ -1 by rw [e]; exact nI_pos' (by omega)) (by decide)
        · exact Or.inr hk
      rw [k3 k]
      constructor
      · rintro ⟨j, g1, g2, g3, g4⟩
        have hjn : j < n := (nI_ltI (by omega) (by omega)).mp (e1 ▸ g1)
        exact ⟨j, (show nI j < nI (n + 1) from nI_lt (by omega) (by omega)), g2, (pk_un (by omega)).trans g3, g4⟩
      · rintro ⟨j, g1, g2, g3, g4⟩
        have hjn : j < n + 1 := (nI_ltI (by omega) (by omega)).mp (show nI j < nI (n + 1) from g1)
        have hne : j ≠ n := by
          rcases hup j g3 with q | q
          · exact q
          · exact absurd g4 q
        exact ⟨j, (by rw [e1]; exact nI_lt (by omega) (by omega)), g2, (pk_un hne).symm.trans g3, g4⟩
    · obtain ⟨f, f1, f2, f3⟩ := k4 k hk
      refine ⟨f, f1, f2, fun j => ?_⟩
      rw [f3 j]
      constructor
      · rintro ⟨g1, g2, g3⟩
        have hjn : j < n := (nI_ltI (by omega) (by omega)).mp (e1 ▸ g1)
        exact ⟨(show nI j < nI (n + 1) from nI_lt (by omega) (by omega)), g2, (pk_un (by omega)).trans g3⟩
      · rintro ⟨g1, g2, g3⟩
        have hjn : j < n + 1 := (nI_ltI (by omega) (by omega)).mp (show nI j < nI (n + 1) from g1)
        have hne : j ≠ n := fun q => by
          subst q
          have g3 : upd (ga σ 21) j (-1) j = nI k := g3
          rw [pk_us] at g3
          exact absurd (show (0 : Int32) ≤ -1 by rw [g3]; exact nI_pos' (by omega)) (by decide)
        exact ⟨(by rw [e1]; exact nI_lt (by omega) (by omega)), g2, (pk_un hne).symm.trans g3⟩
