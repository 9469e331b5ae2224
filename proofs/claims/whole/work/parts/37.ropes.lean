/-! ropes in plain numbers -/
def hdN (s w : Nat) : Nat := s * (1000 - w) / 1000
def wbN (s l : Nat) : Nat := 1 + (l * 100 / s) * (l * 100 / s) / 1000
def hN (s w : Nat) (wet par : Int32) : Nat := if par = 0 then (if wet = 0 then hdN s w else hdN s w * 3 / 4) else 0
theorem hdN_le (s w : Nat) : hdN s w ≤ s := by
  unfold hdN
  have h1 : s * (1000 - w) ≤ s * 1000 := Nat.mul_le_mul_left s (by omega)
  exact Nat.div_le_of_le_mul (by omega)
theorem hN_le (s w : Nat) (a b : Int32) : hN s w a b ≤ s := by
  have := hdN_le s w
  unfold hN
  by_cases h : b = 0
  · rw [if_pos h]
    by_cases h2 : a = 0
    · rw [if_pos h2]; exact this
    · rw [if_neg h2]; omega
  · rw [if_neg h]; omega
theorem hN_w {s w : Nat} {a b : Int32} (h : 1 ≤ hN s w a b) : w < 1000 := by
  rcases Nat.lt_or_ge w 1000 with q | q
  · exact q
  · have h0 : hdN s w = 0 := by unfold hdN; rw [show 1000 - w = 0 by omega, Nat.mul_zero, Nat.zero_div]
    unfold hN at h
    rw [h0] at h
    by_cases h1 : b = 0
    · rw [if_pos h1] at h
      by_cases h2 : a = 0
      · rw [if_pos h2] at h; omega
      · rw [if_neg h2] at h; omega
    · rw [if_neg h1] at h; omega
theorem share_le {s l : Nat} (hs : 0 < s) (h : l ≤ s) : l * 100 / s ≤ 100 := by
  have h1 : l * 100 ≤ s * 100 := Nat.mul_le_mul_right 100 h
  exact Nat.div_le_of_le_mul (by omega)
theorem wbN_le {s l : Nat} (hs : 0 < s) (h : l ≤ s) : wbN s l ≤ 11 := by
  have h1 := share_le hs h
  have h2 : (l * 100 / s) * (l * 100 / s) ≤ 100 * 100 := Nat.mul_le_mul h1 h1
  unfold wbN
  omega
theorem left_eq {w : Nat} (h : w < 100000) : (if (0 : Int32) < (1000 : Int32) - nI w then (1000 : Int32) - nI w else (0 : Int32)) = nI (1000 - w) := by
  rcases Nat.lt_or_ge w 1000 with q | q
  · rw [show (1000 : Int32) - nI w = nI (1000 - w) from pk_sub (a := 1000) (by omega), if_pos (show (0 : Int32) < nI (1000 - w) from nI_lt (show 0 < 1000 - w by omega) (by omega))]
  · rw [if_neg, show 1000 - w = 0 by omega]
    · rfl
    · have : (nI 1000 - nI w).toInt = (1000 : Int) - w := by
        rw [sub_t] <;> rw [nI_toInt (by omega), nI_toInt (by omega)] <;> omega
      rw [lt_toInt]
      show ¬ (0 : Int) < (nI 1000 - nI w).toInt
      omega
theorem heldDry_eq {s w : Nat} (hs : s ≤ 50000) (hw : w < 100000) : fX5_heldDry (nI s) (nI w) = some (nI (hdN s w)) := by
  unfold fX5_heldDry
  have h1 : s * (1000 - w) ≤ 50000 * 1000 := Nat.mul_le_mul hs (by omega)
  rw [left_eq hw, pk_mul, show (1000 : Int32) = nI 1000 from rfl, pk_div (by omega) (by decide) (by decide)]
  rfl
theorem wearBy_eq {s l : Nat} (hs : 0 < s) (hs' : s ≤ 50000) (hl : l ≤ s) : fX5_wearBy (nI s) (nI l) = some (nI (wbN s l)) := by
  unfold fX5_wearBy
  have h1 := share_le hs hl
  have h2 : (l * 100 / s) * (l * 100 / s) ≤ 100 * 100 := Nat.mul_le_mul h1 h1
  rw [nI_l (show l < 2 ^ 31 by omega), nI_l (show s < 2 ^ 31 by omega), show (100 : Int64) = lN 100 from rfl, lN_mul, cut_ll (by omega) hs (by omega)]
  simp only [obS, lN_i]
  rw [pk_mul, show (1000 : Int32) = nI 1000 from rfl, pk_div (by omega) (by decide) (by decide), show (1 : Int32) = nI 1 from rfl, nI_add]
  rfl
theorem three4 {x : Nat} (h : x ≤ 50000) : nI x * (3 : Int32) / (4 : Int32) = nI (x * 3 / 4) := by
  rw [show (3 : Int32) = nI 3 from rfl, pk_mul, show (4 : Int32) = nI 4 from rfl, pk_div (by omega) (by decide) (by decide)]
theorem heldX {σ : St} {j s w : Nat} (hj : j < 6) (h1 : ga σ 12 j = nI s) (h2 : ga σ 13 j = nI w) (hs : s ≤ 50000) (hw : w < 100000) : fX5_held σ (nI j) = some (nI (hN s w (ga σ 14 j) (ga σ 15 j))) := by
  have hd := hdN_le s w
  unfold fX5_held hN
  simp only [if_pos (inx' hj (show 6 < 2 ^ 31 by decide)), nI_clamp (show j < 2 ^ 31 by omega), h1, h2, heldDry_eq hs hw, obS, three4 (show hdN s w ≤ 50000 by omega)]
  by_cases c1 : ga σ 15 j = 0
  · rw [if_pos c1, if_pos c1]
    by_cases c2 : ga σ 14 j = 0
    · rw [if_pos c2, if_pos c2]
    · rw [if_neg c2, if_neg c2]
  · rw [if_neg c1, if_neg c1]
    rfl
theorem holdM {τ : St} {j s w : Nat} (hj : j < 7) (h1 : ga τ 3 j = nI s) (h2 : ga τ 4 j = nI w) (hs : s ≤ 50000) (hw : w < 100000) : fX10_holdsOf τ (nI j) = some (nI (hN s w (ga τ 5 j) (ga τ 6 j))) := by
  have hd := hdN_le s w
  have h3 : s * (1000 - w) ≤ 50000 * 1000 := Nat.mul_le_mul hs (by omega)
  have e : ∀ x : Nat, x ≤ 1000 → (nI s).toInt64 * (nI x).toInt64 / (1000 : Int64) = lN (s * x / 1000) := fun x hx => by
    have h9 : s * x ≤ 50000 * 1000 := Nat.mul_le_mul hs hx
    rw [nI_l (show s < 2 ^ 31 by omega), nI_l (show x < 2 ^ 31 by omega), lN_mul, show (1000 : Int64) = lN 1000 from rfl, pk_lDiv (by omega) (by decide) (by decide)]
  unfold fX10_holdsOf hN
  simp only [if_pos (inx' hj (show 7 < 2 ^ 31 by decide)), nI_clamp (show j < 2 ^ 31 by omega), h1, h2]
  by_cases c0 : w ≤ 1000
  · rw [if_pos (show nI w ≤ (1000 : Int32) from nI_le (b := 1000) c0 (by decide)), show (1000 : Int32) - nI w = nI (1000 - w) from pk_sub (a := 1000) c0, e _ (by omega), lN_i]
    show (if _ then (if _ then some (nI (hdN s w)) else some (nI (hdN s w) * 3 / 4)) else _) = _
    rw [three4 (show hdN s w ≤ 50000 by omega)]
    by_cases c1 : ga τ 6 j = 0
    · rw [if_pos c1, if_pos c1]
      by_cases c2 : ga τ 5 j = 0
      · rw [if_pos c2, if_pos c2]
      · rw [if_neg c2, if_neg c2]
    · rw [if_neg c1, if_neg c1]
      rfl
  · have hz : hdN s w = s * 0 / 1000 := by unfold hdN; rw [show 1000 - w = 0 by omega]
    rw [if_neg (show ¬ nI w ≤ (1000 : Int32) from nI_ge (a := 1000) (by omega) (by omega)), show (0 : Int32).toInt64 = (nI 0).toInt64 from rfl, e 0 (by omega), lN_i, ← hz, three4 (show hdN s w ≤ 50000 by omega)]
    by_cases c1 : ga τ 6 j = 0
    · rw [if_pos c1, if_pos c1]
      by_cases c2 : ga τ 5 j = 0
      · rw [if_pos c2, if_pos c2]
      · rw [if_neg c2, if_neg c2]
    · rw [if_neg c1, if_neg c1]
      rfl
theorem survX {σ : St} {j s w l : Nat} (hj : j < 6) (h1 : ga σ 12 j = nI s) (h2 : ga σ 13 j = nI w) (hs0 : 0 < s) (hs : s ≤ 50000) (hw : w < 100000) (hl : l ≤ 100000) : fX5_survives σ (nI j) (nI l) = if l ≤ hN s w (ga σ 14 j) (ga σ 15 j) then some (1, sa σ 13 j (nI (w + wbN s l))) else some (0, sa σ 15 j 1) := by
  have hle := hN_le s w (ga σ 14 j) (ga σ 15 j)
  unfold fX5_survives
  rw [heldX hj h1 h2 hs hw]
  simp only [obS, if_pos (inx' hj (show 6 < 2 ^ 31 by decide)), nI_clamp (show j < 2 ^ 31 by omega), h1, h2]
  by_cases c : l ≤ hN s w (ga σ 14 j) (ga σ 15 j)
  · rw [if_pos (nI_le c (by omega)), if_pos c, wearBy_eq hs0 hs (by omega)]
    simp only [obS, nI_add]
  · rw [if_neg (nI_ge (by omega) (by omega)), if_neg c]
    rfl
theorem pullM {τ : St} {j s w l : Nat} (hj : j < 7) (h1 : ga τ 3 j = nI s) (h2 : ga τ 4 j = nI w) (hs0 : 0 < s) (hs : s ≤ 50000) (hw : w < 100000) (hl : l ≤ 100000) : fX10_pullOf τ (nI j) (nI l) = if l ≤ hN s w (ga τ 5 j) (ga τ 6 j) then some (1, sa τ 4 j (nI (w + wbN s l))) else some (0, sa τ 6 j 1) := by
  have hle := hN_le s w (ga τ 5 j) (ga τ 6 j)
  unfold fX10_pullOf
  rw [holdM hj h1 h2 hs hw]
  simp only [obS, if_pos (inx' hj (show 7 < 2 ^ 31 by decide)), nI_clamp (show j < 2 ^ 31 by omega), h1, h2]
  by_cases c : l ≤ hN s w (ga τ 5 j) (ga τ 6 j)
  · have h3 := share_le hs0 (show l ≤ s by omega)
    have h4 : (l * 100 / s) * (l * 100 / s) ≤ 100 * 100 := Nat.mul_le_mul h3 h3
    rw [if_pos (nI_le c (by omega)), if_pos c, nI_l (show s < 2 ^ 31 by omega), if_neg (show ¬ lN s = 0 from fun e => by have := (pk_lEQ (by omega) (by decide)).mp (show lN s = lN 0 from e); omega), nI_l (show l < 2 ^ 31 by omega), show (100 : Int64) = lN 100 from rfl, lN_mul, pk_lDiv (by omega) hs0 (by omega), lN_mul, show (1000 : Int64) = lN 1000 from rfl, pk_lDiv (by omega) (by decide) (by decide), lN_i, show (1 : Int32) = nI 1 from rfl, nI_add, nI_add]
    rfl
  · rw [if_neg (nI_ge (by omega) (by omega)), if_neg c]
    rfl
/-- ropes are kept by a pull -/
theorem ropes_pull {σ τ : St} (h : RRopes σ τ) {j n : Nat} (e : gi σ 7 = nI n) (hn : n ≤ 6) (hj : j < n) (l : Nat) (hl0 : 1 ≤ l) (hl : l ≤ 50000) : ∃ (σ' τ' : St) (r : Int32), b01 r ∧ fX5_survives σ (nI j) (nI l) = some (r, σ') ∧ fX10_pullOf τ (nI j) (nI l) = some (r, τ') ∧ RRopes σ' τ' ∧ ((∃ v, σ' = sa σ 13 j v) ∨ σ' = sa σ 15 j 1) ∧ ((∃ v, τ' = sa τ 4 j v) ∨ τ' = sa τ 6 j 1) := by
  obtain ⟨n', q1, q2, q3, q4, q5⟩ := h
  have en : n' = n := nI_inj (by omega) (by omega) (q2.symm.trans e)
  subst en
  obtain ⟨s, w, s1, s2, s3, s4, s5, s6, s7, s8, s9, s10, s11⟩ := q4 j hj
  have x1 := survX (l := l) (show j < 6 by omega) s4 s6 (by omega) s2 (by omega) (by omega)
  have x2 := pullM (l := l) (show j < 7 by omega) s5 s7 (by omega) s2 (by omega) (by omega)
  rw [← s8, ← s9] at x2
  by_cases c : l ≤ hN s w (ga σ 14 j) (ga σ 15 j)
  · rw [if_pos c] at x1 x2
    have hw9 : w < 1000 := hN_w (Nat.le_trans hl0 c)
    have hb9 := wbN_le (show 0 < s by omega) (Nat.le_trans c (hN_le s w _ _))
    refine ⟨_, _, 1, Or.inr rfl, x1, x2, ⟨n', q1, q2, q3, fun i hi => ?_, fun i hi => ?_⟩, Or.inl ⟨_, rfl⟩, Or.inl ⟨_, rfl⟩⟩
    · by_cases hij : i = j
      · subst hij
        exact ⟨s, w + wbN s l, s1, s2, by omega, s4, s5, pk_us, pk_us, s8, s9, s10, s11⟩
      · obtain ⟨s', w', t1, t2, t3, t4, t5, t6, t7, t8, t9, t10, t11⟩ := q4 i hi
        exact ⟨s', w', t1, t2, t3, t4, t5, (pk_un hij).trans t6, (pk_un hij).trans t7, t8, t9, t10, t11⟩
    · obtain ⟨z1, z2, z3⟩ := q5 i hi
      exact ⟨(pk_un (by omega)).trans z1, z2, z3⟩
  · rw [if_neg c] at x1 x2
    refine ⟨_, _, 0, Or.inl rfl, x1, x2, ⟨n', q1, q2, q3, fun i hi => ?_, fun i hi => ?_⟩, Or.inr rfl, Or.inr rfl⟩
    · by_cases hij : i = j
      · subst hij
        exact ⟨s, w, s1, s2, s3, s4, s5, s6, s7, s8, pk_us.trans pk_us.symm, s10, (show b01 (upd _ _ _ _) by rw [pk_us]; exact Or.inr rfl)⟩
      · obtain ⟨s', w', t1, t2, t3, t4, t5, t6, t7, t8, t9, t10, t11⟩ := q4 i hi
        exact ⟨s', w', t1, t2, t3, t4, t5, t6, t7, t8, (pk_un hij).trans (t9.trans (pk_un hij).symm), t10, (show b01 (upd _ _ _ _) by rw [pk_un hij]; exact t11)⟩
    · obtain ⟨z1, z2, z3⟩ := q5 i hi
      exact ⟨z1, z2, (pk_un (by omega)).trans z3⟩
/-- what else there is is kept by it -/
theorem rel_pull {σ τ σ' τ' : St} (h : Rel σ τ) {j : Nat} (hr : RRopes σ' τ') (h1 : (∃ v, σ' = sa σ 13 j v) ∨ σ' = sa σ 15 j 1) (h2 : (∃ v, τ' = sa τ 4 j v) ∨ τ' = sa τ 6 j 1) : Rel σ' τ' := by
  obtain ⟨⟨hD, hcr, _, hA⟩, hB, hC⟩ := h
  rcases h1 with ⟨v, rfl⟩ | rfl <;> rcases h2 with ⟨u, rfl⟩ | rfl <;> exact ⟨⟨hD, hcr, hr, hA⟩, hB, hC⟩
theorem e_pull {σ τ : St} (h : Rel σ τ) (a b : Int32) : Two (fX9_pull σ a b) (fX10_pull τ a b) := by
  obtain ⟨⟨hD, hcr, hro, hA⟩, hB, hC⟩ := id h
  obtain ⟨n, hn, e1, e2, hw, hz⟩ := id hro
  unfold fX9_pull fX10_pull
  simp only [within_eq, in_eq, obS, i10, i01, Int32.toInt_toInt64, e1, noRope_eq τ a (show n ≤ 100 by omega) e2, nm1 n (show n < 2 ^ 31 by omega), isLoad_eq, isLoadM_eq]
  refine Two.iteN (fun c1 => ?_) (fun _ => Two.same h _)
  refine Two.ite (fun _ => Two.same h _) (fun c2 => ?_)
  obtain ⟨k, rfl, l1, u1⟩ := t_nat' (a := 0) (b := (n : Int) - 1) (by decide) c1
  obtain ⟨l, rfl, l2, u2⟩ := t_nat (by decide) c2
  simp only [if_pos (inx' (show k < 6 by omega) (by decide)), if_pos (inx' (show k < 7 by omega) (by decide)), nI_clamp (show k < 2 ^ 31 by omega)]
  rw [← (show ga σ 15 k = ga τ 6 k by obtain ⟨s, w, h1, h2, h3, h4, h5, h6, h7, h8, h9, h10, h11⟩ := hw k (by omega); exact h9)]
  refine Two.ite (fun _ => ?_) (fun _ => Two.same h _)
  obtain ⟨σ', τ', r, r1, r2, r3, r4, r5, r6⟩ := ropes_pull hro e1 hn (show k < n by omega) l (by omega) (by omega)
  rw [r2, r3]
  simp only [obS, fX10_bit]
  have hrel := rel_pull h r4 r5 r6
  rcases r1 with rfl | rfl
  · exact Two.mk' hrel
  · exact Two.mk' hrel
theorem e_about {σ τ : St} (h : Rel σ τ) (a b : Int32) : One (fX9_about σ a b) (fX10_about τ a b) := by
  obtain ⟨⟨hD, hcr, ⟨n, hn, e1, e2, hw, hz⟩, hA⟩, hB, hC⟩ := id h
  unfold fX9_about fX10_about
  simp only [within_eq, in_eq, obS, i10, i01, Int32.toInt_toInt64, e1, noRope_eq τ a (show n ≤ 100 by omega) e2, nm1 n (show n < 2 ^ 31 by omega)]
  refine One.iteN (fun c1 => ?_) (fun _ => One.same _)
  refine One.ite (fun _ => One.same _) (fun c2 => ?_)
  obtain ⟨k, rfl, l1, u1⟩ := t_nat' (a := 0) (b := (n : Int) - 1) (by decide) c1
  obtain ⟨s, w, s1, s2, s3, s4, s5, s6, s7, s8, s9, s10, s11⟩ := hw k (by omega)
  unfold fX5_tell fX10_aboutOf
  rw [heldX (show k < 6 by omega) s4 s6 s2 (by omega), holdM (show k < 7 by omega) s5 s7 s2 (by omega)]
  simp only [if_pos (inx' (show k < 6 by omega) (by decide)), if_pos (inx' (show k < 7 by omega) (by decide)), nI_clamp (show k < 2 ^ 31 by omega), obS, s4, s5, s6, s7, s8, s9, fX10_bit]
  by_cases d0 : b = 0
  · simp only [if_pos d0, obS]; exact One.same _
  · simp only [if_neg d0]
    by_cases d1 : b = 1
    · simp only [if_pos d1, obS]; exact One.same _
    · simp only [if_neg d1]
      by_cases d2 : b = 2
      · simp only [if_pos d2]
        by_cases z : ga τ 5 k = 0
        · simp only [if_pos z, obS]; exact One.same _
        · simp only [if_neg z, obS]; exact One.same _
      · simp only [if_neg d2]
        by_cases d3 : b = 3
        · simp only [if_pos d3]
          by_cases z : ga τ 6 k = 0
          · simp only [if_pos z, obS]; exact One.same _
          · simp only [if_neg z, obS]; exact One.same _
        · simp only [if_neg d3, obS]; exact One.same _
