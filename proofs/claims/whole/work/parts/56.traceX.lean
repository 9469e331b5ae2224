/-! the class's plan, found -/
theorem nearX {σ : St} {d : SD} {t : TD} (hX : StX σ d) (hT : TX σ d.1 t) : ∃ nr, fX4_findNear σ = some (saf σ 34 nr) ∧ ∀ s, s < t.1 → nr s = nI (orN (t.2.2.2 s) d.1) := by
  have hn : d.1 ≤ 14 := hX.1
  have hm : t.1 ≤ 5 := hT.1
  have e1 : gi σ 10 = nI d.1 := hX.2.2.1
  have e2 : gi σ 12 = nI t.1 := hT.2.1
  unfold fX4_findNear
  obtain ⟨s', ⟨nr, a1, a2⟩, a3⟩ := for_loop0 (fX4_findNear_2 fX4_findNear_2_k) fX4_findNear_2_k (fun k st => ∃ nr, st = saf σ 34 nr ∧ ∀ s, s < k → nr s = nI (orN (t.2.2.2 s) d.1)) t.1 (by omega)
    (fun n st => by
      rintro ⟨nr, rfl, _⟩
      rw [fX4_findNear_2, show gi (saf σ 34 nr) 12 = nI t.1 from e2, if_pos (nI_le (Nat.le_refl _) (by omega))])
    (fun n s st hs => by
      rintro ⟨nr, rfl, hI⟩
      rw [fX4_findNear_2, show gi (saf σ 34 nr) 12 = nI t.1 from e2, if_neg (nI_ge hs (by omega)), if_pos (inx (show s < 5 by omega) (by decide)), nI_clamp (by omega), sa_saf]
      obtain ⟨s2, ⟨nr2, b1, b2, b3⟩, b4⟩ := for_loop0 (fX4_findNear_22 (fun σ2' v1_2' => fX4_findNear_2 fX4_findNear_2_k n σ2' v1_2') (fX4_findNear_22_k (fun σ2' v1_2' => fX4_findNear_2 fX4_findNear_2_k n σ2' v1_2') (nI s)) (nI s)) (fX4_findNear_22_k (fun σ2' v1_2' => fX4_findNear_2 fX4_findNear_2_k n σ2' v1_2') (nI s)) (fun i st => ∃ nr, st = saf σ 34 nr ∧ (∀ s', s' < s → nr s' = nI (orN (t.2.2.2 s') d.1)) ∧ nr s = nI (orN (t.2.2.2 s) i)) d.1 (by omega)
        (fun n st => by
          rintro ⟨nr, rfl, _⟩
          rw [fX4_findNear_22, show gi (saf σ 34 nr) 10 = nI d.1 from e1, if_pos (nI_le (Nat.le_refl _) (by omega))])
        (fun n i st hi => by
          rintro ⟨nr, rfl, h1, h2⟩
          rw [fX4_findNear_22, show gi (saf σ 34 nr) 10 = nI d.1 from e1, if_neg (nI_ge hi (by omega)), if_pos (inx (show i < 14 by omega) (by decide)), if_pos (inx (show i < 14 by omega) (by decide)), nI_clamp (show i < 2 ^ 31 by omega), show fX7_isNear (saf σ 34 nr) (nI s) (ga (saf σ 34 nr) 17 i) (ga (saf σ 34 nr) 18 i) = some (i01B (t.2.2.2 s i)) from hT.2.2.2.2 s i hs hi, nI_1, orN]
          simp only [obS, i01B_0]
          cases hb : t.2.2.2 s i
          · rw [if_pos rfl, if_neg (show ¬ (false = true) by decide)]
            exact ⟨_, ⟨nr, rfl, h1, h2⟩, rfl⟩
          · rw [if_neg (show ¬ (true = false) by decide), if_pos rfl, if_pos (inx (show s < 5 by omega) (by decide)), if_pos (inx (show s < 5 by omega) (by decide)), nI_clamp (show s < 2 ^ 31 by omega), show ga (saf σ 34 nr) 34 s = nI (orN (t.2.2.2 s) i) from h2, pow_eq (by omega), nI_or, sa_saf]
            refine ⟨_, ⟨_, rfl, fun s' hs' => ?_, pk_us⟩, rfl⟩
            rw [pk_un (by omega)]
            exact h1 s' hs')
        (saf σ 34 (upd nr s 0)) ⟨_, rfl, fun s' hs' => by rw [pk_un (by omega)]; exact hI s' hs', pk_us⟩
      refine ⟨saf σ 34 nr2, ⟨nr2, rfl, fun s' hs' => ?_⟩, ?_⟩
      · by_cases e : s' = s
        · subst e; exact b3
        · exact b2 s' (by omega)
      · refine Eq.trans b4 ?_
        rw [b1]
        unfold fX4_findNear_22_k
        rw [nI_1])
    σ ⟨ga σ 34, (saf_self σ 34).symm, fun s hs => by omega⟩
  refine ⟨nr, ?_, a2⟩
  rw [a3, a1]
  rfl
theorem downX {σ : St} {d : SD} {t : TD} {wn : Nat → Nat} {D : Nat → Nat → Nat} (h : CX σ d t wn) (hN : NX σ d t) (hC : CostOK d t D) (bw bc : Nat) (K : St → Int32 → Option St) : ∀ (k f : Nat) (c : Nat → Int32), k < f → k ≤ 2 ^ d.1 - 1 → AbvX d t D wn k c → ∃ c', fX4_makePlan_88 bw bc K (nI (2 ^ d.1 - 1)) f (saf σ 33 c) (dwN k) = K (saf σ 33 c') (-1) ∧ AbvX d t D wn 0 c' := by
  obtain ⟨hX, hT, l1, l2, hW, hw, l3, l4⟩ := id h
  have hn : d.1 ≤ 14 := hX.1
  have hm : t.1 ≤ 5 := hT.1
  have hp : 2 ^ d.1 ≤ 2 ^ 14 := Nat.pow_le_pow_right (by decide) hn
  have hp0 := pow_pos' d.1
  have hle := cost_le hC
  intro k
  induction k with
  | zero =>
    intro f c hf hk hA
    cases f with
    | zero => omega
    | succ f =>
      refine ⟨c, ?_, hA⟩
      rw [fX4_makePlan_88, if_pos (show dwN 0 < 0 by decide)]
      rfl
  | succ k ih =>
    intro f c hf hk hA
    cases f with
    | zero => omega
    | succ f =>
      obtain ⟨w1, w2⟩ := hw k (by omega)
      rw [fX4_makePlan_88, show dwN (k + 1) = nI k from rfl, if_neg (nI_pos (by omega)), show gn (saf σ 33 c) 32 = gn σ 32 from rfl, if_pos (inx (show k < gn σ 32 by omega) (by omega)), nI_clamp (by omega), show gb (saf σ 33 c) 32 k = lN (wn k) from w1, dw_a (by omega)]
      by_cases h0 : wn k = 0
      · rw [if_pos (show lN (wn k) = 0 by rw [h0]; rfl)]
        refine ih f c (by omega) (by omega) (fun set s a b e g => ?_)
        by_cases ek : set = k
        · subst ek; exact absurd h0 g
        · exact hA set s (by omega) b e g
      · rw [if_neg (lN_ne0 (by omega) (by omega)), layX h hN hle (by omega) h0 hA]
        simp only [obS]
        rw [shiftX h (show k < 2 ^ d.1 by omega) (hC.2.1 k (by omega)) (fun u _ => bs_le d.1)]
        simp only [obS]
        refine ih f _ (by omega) (by omega) (fun set s a b e g => ?_)
        by_cases ek : set = k
        · subst ek; rw [rowU_in e]
        · rw [rowU_out (by omega)]
          exact hA set s (by omega) b e g
theorem actX {σ : St} {d : SD} {t : TD} {wn : Nat → Nat} {D : Nat → Nat → Nat} (h : CX σ d t wn) (hN : NX σ d t) (hC : CostOK d t D) (hc : AbvX d t D wn 0 (ga σ 33)) {set s : Nat} (h1 : set < 2 ^ d.1) (h2 : s < t.1) (h3 : D set s < 1000000) (hne : set ≠ 2 ^ d.1 - 1) (h0 : wn set ≠ 0) : fX4_leastAct σ (nI set) (nI s) = some (nI (actD d t D set s)) := by
  obtain ⟨hX, hT, l1, l2, hW, hw, l3, l4⟩ := id h
  have hn : d.1 ≤ 14 := hX.1
  have hm : t.1 ≤ 5 := hT.1
  have e1 : gi σ 10 = nI d.1 := hX.2.2.1
  have e2 : gi σ 12 = nI t.1 := hT.2.1
  have hp : 2 ^ d.1 ≤ 2 ^ 14 := Nat.pow_le_pow_right (by decide) hn
  have hle := cost_le hC
  have hol := orN_lt (f := t.2.2.2 s) d.1
  have hob : ∀ i, i < d.1 → (orN (t.2.2.2 s) d.1).testBit i = t.2.2.2 s i := fun i hi => by rw [orN_bit, decide_eq_true hi, Bool.true_and]
  have hns := hN s h2
  generalize orN (t.2.2.2 s) d.1 = M at *
  unfold fX4_leastAct fX4_place
  simp only [obS]
  rw [ix5', nI_clamp (by omega), if_pos (inx' (show 5 * set + s < gn σ 33 by omega) (by omega)), hc set s (by omega) h1 h2 h0]
  have skip : ∀ n k, k < fstN (layB d t D set s) d.1 → fX4_leastAct_15 (fX4_leastAct_15_k σ (nI set) (nI s) (nI (D set s))) σ (nI set) (nI s) (nI (D set s)) (n + 1) (nI k) = fX4_leastAct_15 (fX4_leastAct_15_k σ (nI set) (nI s) (nI (D set s))) σ (nI set) (nI s) (nI (D set s)) n (nI (k + 1)) := fun n k hk => by
    have hkn : k < d.1 := by have := fst_le (p := layB d t D set s) d.1; omega
    have hl := (fst_at (p := layB d t D set s) d.1).2 k hk
    have hor := or_lt h1 hkn
    rw [fX4_leastAct_15, e1, if_neg (nI_ge hkn (by omega)), if_pos (inx (show s < 5 by omega) (by decide)), nI_clamp (show s < 2 ^ 31 by omega), hns, bit_eq (by omega) (by omega), canX h h1 hkn h0, pow_eq (by omega), nI_or, nI_1]
    unfold fX4_place
    simp only [obS]
    rw [ix5', nI_clamp (by omega)]
    unfold layB at hl
    cases hr : t.2.2.2 s k
    · rw [(bit_f M k).mpr ((hob k hkn).trans hr), if_neg (show ¬ nI 0 = (1 : Int32) by decide)]
    · rw [(bit_t M k).mpr ((hob k hkn).trans hr), if_pos (show nI 1 = (1 : Int32) by decide)]
      simp only [i01B_0]
      cases hy : mayD d set k
      · rw [if_pos rfl]
      · rw [if_neg (show ¬ (true = false) by decide), if_pos (inx' (show 5 * (set ||| 2 ^ k) + s < gn σ 33 by omega) (by omega)), hc _ s (by omega) hor h2 (may_rch hW h1 hkn h0 hy)]
        rw [hr, hy, Bool.true_and, Bool.true_and, decide_eq_false_iff_not] at hl
        have := hle (set ||| 2 ^ k) s
        rw [if_neg (fun e => hl (nI_inj (by omega) (by omega) e))]
  rcases act_ok hC h1 hne h2 h3 with ⟨a1, a2, a3⟩ | ⟨a1, a2, a3, a4⟩
  · refine until0 (fun n k => fX4_leastAct_15 (fX4_leastAct_15_k σ (nI set) (nI s) (nI (D set s))) σ (nI set) (nI s) (nI (D set s)) n (nI k)) _ (fstN (layB d t D set s) d.1) (by omega) (fun n => ?_) skip
    rw [a2] at a3 ⊢
    generalize fstN (layB d t D set s) d.1 = w at *
    have hor := or_lt h1 a1
    unfold layB at a3
    rw [Bool.and_eq_true, Bool.and_eq_true, decide_eq_true_iff] at a3
    obtain ⟨b1, b2, b3⟩ := a3
    show fX4_leastAct_15 (fX4_leastAct_15_k σ (nI set) (nI s) (nI (D set s))) σ (nI set) (nI s) (nI (D set s)) (n + 1) (nI w) = _
    rw [fX4_leastAct_15, e1, if_neg (nI_ge a1 (by omega)), if_pos (inx (show s < 5 by omega) (by decide)), nI_clamp (show s < 2 ^ 31 by omega), hns, bit_eq (by omega) (by omega), (bit_t M w).mpr ((hob w a1).trans b1), if_pos (show nI 1 = (1 : Int32) by decide), canX h h1 a1 h0, pow_eq (by omega), nI_or, b2]
    unfold fX4_place
    simp only [obS, i01B_0]
    rw [ix5', nI_clamp (by omega), if_neg (show ¬ (true = false) by decide), if_pos (inx' (show 5 * (set ||| 2 ^ w) + s < gn σ 33 by omega) (by omega)), hc _ s (by omega) hor h2 (may_rch hW h1 a1 h0 b2), if_pos (by rw [b3])]
  · have hw' : fstN (layB d t D set s) d.1 = d.1 := by have := fst_le (p := layB d t D set s) d.1; omega
    refine until0 (fun n k => fX4_leastAct_15 (fX4_leastAct_15_k σ (nI set) (nI s) (nI (D set s))) σ (nI set) (nI s) (nI (D set s)) n (nI k)) _ (fstN (layB d t D set s) d.1) (by omega) (fun n => ?_) skip
    rw [hw', a2]
    show fX4_leastAct_15 (fX4_leastAct_15_k σ (nI set) (nI s) (nI (D set s))) σ (nI set) (nI s) (nI (D set s)) (n + 1) (nI d.1) = _
    rw [fX4_leastAct_15, e1, if_pos (nI_le (Nat.le_refl _) (by omega))]
    unfold fX4_leastAct_15_k
    refine until0 (fun n k => fX4_leastAct_96 (fX4_leastAct_96_k σ (nI set) (nI s) (nI (D set s))) σ (nI set) (nI s) (nI (D set s)) n (nI k)) _ (fstN (goB t D set s) t.1) (by omega) (fun n => ?_) (fun n k hk => ?_)
    · generalize fstN (goB t D set s) t.1 = w at *
      unfold goB at a4
      rw [Bool.and_eq_true, Bool.and_eq_true, decide_eq_true_iff, decide_eq_true_iff] at a4
      obtain ⟨b1, b2, b3⟩ := a4
      show fX4_leastAct_96 (fX4_leastAct_96_k σ (nI set) (nI s) (nI (D set s))) σ (nI set) (nI s) (nI (D set s)) (n + 1) (nI w) = _
      rw [fX4_leastAct_96, e2, if_neg (nI_ge a3 (by omega)), if_neg (fun e => b1 (nI_inj (by omega) (by omega) e)), builtX hT a3, b2]
      unfold fX4_place
      simp only [obS, i01B_0]
      rw [if_neg (show ¬ (true = false) by decide), if_pos (inx (show s < 5 by omega) (by decide)), if_pos (inx (show w < 5 by omega) (by decide)), ix5', nI_clamp (show s < 2 ^ 31 by omega), nI_clamp (show w < 2 ^ 31 by omega), nI_clamp (show 5 * set + w < 2 ^ 31 by omega), if_pos (inx' (show 5 * set + w < gn σ 33 by omega) (by omega)), (hT.2.2.2.1 s w (by omega) (by omega)).2.2, hc set w (by omega) h1 a3 h0, nI_add, if_pos (by rw [b3]), show (100 : Int32) = nI 100 from rfl, nI_add]
    · have hkm : k < t.1 := by omega
      have hl := (fst_at (p := goB t D set s) t.1).2 k hk
      show fX4_leastAct_96 (fX4_leastAct_96_k σ (nI set) (nI s) (nI (D set s))) σ (nI set) (nI s) (nI (D set s)) (n + 1) (nI k) = fX4_leastAct_96 (fX4_leastAct_96_k σ (nI set) (nI s) (nI (D set s))) σ (nI set) (nI s) (nI (D set s)) n (nI (k + 1))
      rw [fX4_leastAct_96, e2, if_neg (nI_ge hkm (by omega)), builtX hT hkm, nI_1]
      unfold goB at hl
      by_cases e : k = s
      · rw [if_pos (by rw [e])]
      · rw [if_neg (fun q => e (nI_inj (by omega) (by omega) q))]
        unfold fX4_place
        simp only [obS, i01B_0]
        cases hf : freeD t set k
        · rw [if_pos rfl]
        · rw [hf, decide_eq_true e, Bool.true_and, Bool.true_and, decide_eq_false_iff_not] at hl
          have h5 := hle set k
          obtain ⟨p1, p2, p3⟩ := hT.2.2.2.1 s k (by omega) (by omega)
          rw [if_neg (show ¬ (true = false) by decide), if_pos (inx (show s < 5 by omega) (by decide)), if_pos (inx (show k < 5 by omega) (by decide)), ix5', nI_clamp (show s < 2 ^ 31 by omega), nI_clamp (show k < 2 ^ 31 by omega), nI_clamp (show 5 * set + k < 2 ^ 31 by omega), if_pos (inx' (show 5 * set + k < gn σ 33 by omega) (by omega)), p3, hc set k (by omega) h1 hkm h0, nI_add, if_neg (fun q => hl (nI_inj (by omega) (by omega) q))]
theorem CX_wr {σ : St} {d : SD} {t : TD} {wn : Nat → Nat} {a : Nat → Int32} {x : Nat} (h : CX σ d t wn) : CX (wrA σ 35 15 a x) d t wn := ⟨h.1, TX_saf (k := 35) (c := a) (Or.inr (Or.inr rfl)) h.2.1, h.2.2⟩
theorem traceX {σ : St} {d : SD} {t : TD} {wn : Nat → Nat} {D : Nat → Nat → Nat} (h : CX σ d t wn) (hN : NX σ d t) (hC : CostOK d t D) (hc : AbvX d t D wn 0 (ga σ 33)) (hF : D 0 0 < 1000000) (hm0 : 0 < t.1) {kn : Nat} (hk : TrcOK d t D kn) (hpos : ∀ j, j ≤ kn → PosOK d t D (posD d t D j)) : ∀ (r j f : Nat) (a : Nat → Int32), j + r = kn → r < f → wn (posD d t D j).1 ≠ 0 → (∀ i, i < j → a i = nI (actN d t D i)) → ∃ a', fX4_trace_9 (fX4_trace_9_k (nI (2 ^ d.1 - 1))) (nI (2 ^ d.1 - 1)) f (wrA σ 35 15 a j) (nI (posD d t D j).1) (nI (posD d t D j).2) = some (wrA σ 35 15 a' kn) ∧ ∀ i, i < kn → a' i = nI (actN d t D i) := by
  obtain ⟨hX, hT, l1, l2, hW, hw, l3, l4⟩ := id h
  have hn : d.1 ≤ 14 := hX.1
  have hm : t.1 ≤ 5 := hT.1
  have hp : 2 ^ d.1 ≤ 2 ^ 14 := Nat.pow_le_pow_right (by decide) hn
  have hp0 := pow_pos' d.1
  have h70 := hk.1
  have hgn : ∀ a j, gn (wrA σ 35 15 a j) 33 = gn σ 33 := fun _ _ => rfl
  have h00 : ∀ a j, ga (wrA σ 35 15 a j) 33 (0 : Int32).toNatClampNeg = nI (D 0 0) := fun a j => hc 0 0 (Nat.le_refl _) hp0 hm0 hW.1
  have hix : ¬ ((0 : Int32) < 0 ∨ gn σ 33 ≤ (0 : Int32).toNatClampNeg) := inx (i := 0) (show 0 < gn σ 33 by omega) (by omega)
  intro r
  induction r with
  | zero =>
    intro j f a hj hf hr ha
    cases f with
    | zero => omega
    | succ f =>
      have : j = kn := by omega
      subst this
      refine ⟨a, ?_, ha⟩
      rw [fX4_trace_9, hgn, if_pos hix, h00, if_neg (show ¬ (1000000 : Int32) ≤ nI (D 0 0) from nI_ge (b := 1000000) hF (by decide)), if_pos (by rw [hk.2.1])]
      rfl
  | succ r ih =>
    intro j f a hj hf hr ha
    cases f with
    | zero => omega
    | succ f =>
      obtain ⟨p1, p2, p3⟩ := hpos j (by omega)
      have hne := hk.2.2 j (by omega)
      have hact := actX (CX_wr (a := a) (x := j) h) hN hC hc p1 p2 p3 hne hr
      have hok := act_ok hC p1 hne p2 p3
      rw [fX4_trace_9, hgn, if_pos hix, h00, if_neg (show ¬ (1000000 : Int32) ≤ nI (D 0 0) from nI_ge (b := 1000000) hF (by decide)), if_neg (fun e => hne (nI_inj (by omega) (by omega) e)), show gi (wrA σ 35 15 a j) 15 = nI j from rfl, if_neg (show ¬ (70 : Int32) ≤ nI j from nI_ge (b := 70) (by omega) (by decide)), hact]
      simp only [obS]
      rw [nI_clamp (by omega), show gi (sa (wrA σ 35 15 a j) 35 j (nI (actD d t D (posD d t D j).1 (posD d t D j).2))) 15 = nI j from rfl, nI_1, wrA_s, if_pos (inx' (show j < 70 by omega) (by decide))]
      have ha' : ∀ i, i < j + 1 → upd a j (nI (actD d t D (posD d t D j).1 (posD d t D j).2)) i = nI (actN d t D i) := fun i hi => by
        by_cases e : i = j
        · subst e; exact pk_us
        · rw [pk_un e]; exact ha i (by omega)
      have hnx := ih (j + 1) f (upd a j (nI (actD d t D (posD d t D j).1 (posD d t D j).2))) (by omega) (by omega)
      rw [posD] at hnx
      rcases hok with ⟨a1, a2, a3⟩ | ⟨a1, a2, a3, a4⟩
      · have hlt : actD d t D (posD d t D j).1 (posD d t D j).2 < d.1 := by rw [a2]; exact a1
        rw [if_pos (show actD d t D (posD d t D j).1 (posD d t D j).2 < 100 by omega)] at hnx
        rw [if_neg (show ¬ nI (actD d t D (posD d t D j).1 (posD d t D j).2) = (-1 : Int32) from nI_ne1 (by omega)), if_pos (show nI (actD d t D (posD d t D j).1 (posD d t D j).2) < (100 : Int32) from nI_lt (b := 100) (by omega) (by decide)), pow_eq (by omega), nI_or]
        unfold layB at a3
        rw [Bool.and_eq_true, Bool.and_eq_true] at a3
        exact hnx (may_rch hW p1 hlt hr a3.2.1) ha'
      · rw [if_neg (show ¬ actD d t D (posD d t D j).1 (posD d t D j).2 < 100 by omega)] at hnx
        rw [if_neg (show ¬ nI (actD d t D (posD d t D j).1 (posD d t D j).2) = (-1 : Int32) from nI_ne1 (by omega)), if_neg (show ¬ nI (actD d t D (posD d t D j).1 (posD d t D j).2) < (100 : Int32) from nI_nlt (b := 100) (by omega) (by omega))]
        rw [show nI (actD d t D (posD d t D j).1 (posD d t D j).2) - (100 : Int32) = nI (actD d t D (posD d t D j).1 (posD d t D j).2 - 100) by rw [a2, nI_100]; congr 1; omega]
        exact hnx hr ha'
/-- all behind the making of room -/
theorem planJ {σ : St} {d : SD} {t : TD} {wn : Nat → Nat} {D : Nat → Nat → Nat} (h : CX σ d t wn) (hC : CostOK d t D) (hm0 : 0 < t.1) (bw bc : Nat) : ∃ nr c a k, fX4_makePlan_J49 bw bc σ (nI (2 ^ d.1 - 1)) = some (wrA (saf (saf σ 34 nr) 33 c) 35 15 a k) ∧ c 0 = nI (D 0 0) ∧ ((1000000 ≤ D 0 0 ∧ nI k = 0) ∨ (D 0 0 < 1000000 ∧ ActsOK d t D (nI k) a)) := by
  obtain ⟨hX, hT, l1, l2, hW, hw, l3, l4⟩ := id h
  have hn : d.1 ≤ 14 := hX.1
  have hm : t.1 ≤ 5 := hT.1
  have e2 : gi σ 12 = nI t.1 := hT.2.1
  have hp : 2 ^ d.1 ≤ 2 ^ 14 := Nat.pow_le_pow_right (by decide) hn
  have hp0 := pow_pos' d.1
  have hP : ∀ s u, s < t.1 → u < t.1 → 1 ≤ t.2.2.1 s u := fun s u hs hu => (hT.2.2.2.1 s u (by omega) (by omega)).1
  obtain ⟨nr, n1, n2⟩ := nearX hX hT
  unfold fX4_makePlan_J49
  rw [n1]
  simp only [obS]
  have h' : CX (saf σ 34 nr) d t wn := ⟨hX, TX_saf (k := 34) (Or.inr (Or.inl rfl)) hT, l1, l2, hW, hw, l3, l4⟩
  have hN : NX (saf σ 34 nr) d t := n2
  have hgn : ∀ c, gn (saf (saf σ 34 nr) 33 c) 33 = gn σ 33 := fun _ => rfl
  obtain ⟨s', a1, a2⟩ := for_loop0 (fX4_makePlan_55 bw bc (fX4_makePlan_55_k bw bc (nI (2 ^ d.1 - 1))) (nI (2 ^ d.1 - 1))) (fX4_makePlan_55_k bw bc (nI (2 ^ d.1 - 1))) (fun k st => st = saf (saf σ 34 nr) 33 (rowU (ga σ 33) (2 ^ d.1 - 1) k (fun _ => 0))) t.1 (by omega)
    (fun n st hst => by
      subst hst
      rw [fX4_makePlan_55, show gi (saf (saf σ 34 nr) 33 (rowU (ga σ 33) (2 ^ d.1 - 1) t.1 (fun _ => 0))) 12 = nI t.1 from e2, if_pos (nI_le (Nat.le_refl _) (by omega))])
    (fun n k st hk hst => by
      subst hst
      refine ⟨_, rfl, ?_⟩
      rw [fX4_makePlan_55, show gi (saf (saf σ 34 nr) 33 (rowU (ga σ 33) (2 ^ d.1 - 1) k (fun _ => 0))) 12 = nI t.1 from e2, if_neg (nI_ge hk (by omega))]
      unfold fX4_place
      simp only [obS]
      rw [ix5', nI_clamp (by omega), hgn, if_pos (inx' (show 5 * (2 ^ d.1 - 1) + k < gn σ 33 by omega) (by omega)), sa_saf, show (0 : Int32) = nI 0 from rfl, rowU_s rfl, nI_1])
    (saf σ 34 nr) (by rw [rowU_0]; exact (saf_self (saf σ 34 nr) 33).symm)
  rw [a2, a1]
  unfold fX4_makePlan_55_k
  obtain ⟨c, c1, c2⟩ := downX h' hN hC bw bc (fX4_makePlan_88_k bw bc (nI (2 ^ d.1 - 1))) (2 ^ d.1 - 1) KF (rowU (ga σ 33) (2 ^ d.1 - 1) t.1 (fun _ => 0)) (by have := KF_ge; omega) (Nat.le_refl _) (fun set s a b e g => by
    have : set = 2 ^ d.1 - 1 := by omega
    subst this
    rw [rowU_in e, hC.1 s e])
  rw [dw_m (by omega), c1]
  unfold fX4_makePlan_88_k fX4_trace
  have h2 : CX (saf (saf σ 34 nr) 33 c) d t wn := CX_saf h'
  have c0 : c 0 = nI (D 0 0) := c2 0 0 (Nat.le_refl _) hp0 hm0 hW.1
  have hle := cost_le hC 0 0
  have hst : si (saf (saf σ 34 nr) 33 c) 15 0 = wrA (saf (saf σ 34 nr) 33 c) 35 15 (ga σ 35) 0 := by
    unfold wrA
    rw [show saf (saf (saf σ 34 nr) 33 c) 35 (ga σ 35) = saf (saf σ 34 nr) 33 c from saf_self (saf (saf σ 34 nr) 33 c) 35]
    rfl
  rw [hst]
  by_cases hF : D 0 0 < 1000000
  · obtain ⟨kn, k1, k2⟩ := trc_ex hn hm hm0 hP hC hF
    have h70 := k1.1
    obtain ⟨a', b1, b2⟩ := traceX h2 hN hC c2 hF hm0 k1 k2 kn 0 KF (ga σ 35) (by omega) (by have := KF_ge; omega) hW.1 (fun i hi => by omega)
    refine ⟨nr, c, a', kn, ?_, c0, Or.inr ⟨hF, kn, k1, rfl, b2⟩⟩
    rw [show fX4_trace_9 (fX4_trace_9_k (nI (2 ^ d.1 - 1))) (nI (2 ^ d.1 - 1)) KF (wrA (saf (saf σ 34 nr) 33 c) 35 15 (ga σ 35) 0) 0 0 = some (wrA (saf (saf σ 34 nr) 33 c) 35 15 a' kn) from b1]
    rfl
  · refine ⟨nr, c, ga σ 35, 0, ?_, c0, Or.inl ⟨by omega, rfl⟩⟩
    obtain ⟨f0, hf0⟩ : ∃ f0, KF = f0 + 1 := ⟨KF - 1, by have := KF_ge; omega⟩
    rw [hf0, fX4_trace_9, show gn (wrA (saf (saf σ 34 nr) 33 c) 35 15 (ga σ 35) 0) 33 = gn σ 33 from rfl, if_pos (show ¬ ((0 : Int32) < 0 ∨ gn σ 33 ≤ (0 : Int32).toNatClampNeg) from inx (i := 0) (show 0 < gn σ 33 by omega) (by omega)), show ga (wrA (saf (saf σ 34 nr) 33 c) 35 15 (ga σ 35) 0) 33 (0 : Int32).toNatClampNeg = nI (D 0 0) from c0, if_pos (show (1000000 : Int32) ≤ nI (D 0 0) from nI_le (a := 1000000) (by omega) (by omega))]
    rfl
/-- room in arrays, twice -/
def Pot (σ : St) : Nat := 2 * (gn σ 32 + gn σ 33)
theorem pow_half {a n : Nat} (h : 2 ^ a < 2 ^ n) : 2 ^ n + 2 * 2 ^ a ≤ 2 * 2 ^ n := by
  have h1 : a < n := (Nat.pow_lt_pow_iff_right (by decide)).mp h
  have h2 : 2 ^ (a + 1) ≤ 2 ^ n := Nat.pow_le_pow_right (by decide) h1
  rw [Nat.pow_succ] at h2
  omega
/-- the class makes its plan, or has it -/
theorem planX {σ τ : St} (h : Rel σ τ) (h12 : gi σ 12 ≠ 0) {D : Nat → Nat → Nat} (hC : CostOK (sdX σ) (tdX σ) D) : ∃ bw bc σ', fX4_makePlan bw bc σ = some σ' ∧ Rel σ' τ ∧ gi σ' 17 = 1 ∧ sdX σ' = sdX σ ∧ tdX σ' = tdX σ ∧ gi σ' 12 = gi σ 12 ∧ bw + bc + Pot σ ≤ Pot σ' := by
  obtain ⟨hA0, hB0, hw0, ⟨hp1, hp2⟩, hm0, hz0, ⟨a0, b0, la0, lb0, l10, l20⟩⟩ := id h
  rcases hp1 with q | q
  · obtain ⟨σ1, r1, r2, r3, r4, r5, r6, r7, r8, r9⟩ := cw_rel h (if gn σ 32 < 2 ^ (sdX σ).1 then 2 ^ (sdX σ).1 else 0) (fun c => by rw [if_pos c]; exact Nat.le_refl _)
    obtain ⟨hA, ⟨hs, hk, ht, hcal⟩, ⟨hw1, hw2⟩, hp, hm, hz, ⟨a, b, la, lb, l1, l2⟩⟩ := id r2
    obtain ⟨x1, x2, x3⟩ := st_get hs hk
    obtain ⟨y1, y2, y3⟩ := td_get hs ht
    obtain ⟨w1, wn, w2, w3⟩ := hw2 r3
    have hpw : (if gn σ 32 < 2 ^ (sdX σ).1 then 2 ^ (sdX σ).1 else 0) + 2 * gn σ 32 ≤ 2 * gn σ1 32 := by
      rw [r4]
      unfold lenW
      by_cases c : gn σ 32 < 2 ^ (sdX σ).1
      · rw [if_pos c, if_pos c]
        rw [l10] at c ⊢
        exact pow_half c
      · rw [if_neg c, if_neg c]; omega
    rw [← r8, ← r9] at hC
    rw [← r8] at r1 hpw
    refine ⟨(if gn σ 32 < 2 ^ (sdX σ1).1 then 2 ^ (sdX σ1).1 else 0), if gn σ1 33 < 5 * 2 ^ (sdX σ1).1 then 5 * 2 ^ (sdX σ1).1 else 0, ?_⟩
    rw [← r8, ← r9]
    have hn := x1.1
    have h12' : (tdX σ1).1 ≠ 0 := fun e => by
      have := y1.2.1
      rw [e, r6 12 (by decide)] at this
      exact h12 this
    have ha16 := len16 la
    have hb16 := len16 lb
    have hp14 : 2 ^ (sdX σ1).1 ≤ 2 ^ 14 := Nat.pow_le_pow_right (by decide) hn
    have hp0 := pow_pos' (sdX σ1).1
    have fin : ∀ (σ3 : St) (L : Nat) (g3 : Nat → Int32), σ3 = sn (saf (si σ1 17 1) 33 g3) 33 L → 5 * 2 ^ (sdX σ1).1 ≤ L → (∃ b, b ≤ 14 ∧ L = 5 * 2 ^ b) → ∀ bw bc, ∃ σ', fX4_makePlan_J49 bw bc σ3 (nI (2 ^ (sdX σ1).1 - 1)) = some σ' ∧ Rel σ' τ ∧ gi σ' 17 = 1 ∧ sdX σ' = sdX σ1 ∧ tdX σ' = tdX σ1 ∧ gi σ' 12 = gi σ 12 ∧ gn σ' 32 = gn σ1 32 ∧ gn σ' 33 = L := fun σ3 L g3 e3 hL hb bw bc => by
      obtain ⟨b', lb', l2'⟩ := hb
      have := len16 lb'
      subst e3
      have hCX : CX (sn (saf (si σ1 17 1) 33 g3) 33 L) (sdX σ1) (tdX σ1) wn := ⟨x1, TX_saf (k := 33) (c := g3) (Or.inl rfl) y1, w1, by show gn σ1 32 ≤ 16384; omega, w2, w3, hL, by show L ≤ 81920; omega⟩
      obtain ⟨nr, c, ac, k, p1, p2, p3⟩ := planJ hCX hC (by omega) bw bc
      refine ⟨_, p1, ⟨hA, ⟨hs, hk, ht, hcal⟩, ⟨hw1, hw2⟩, ⟨Or.inr rfl, fun _ => ⟨?_, D, hC, p2, p3⟩⟩, hm, hz, a, b', la, lb', l1, l2'⟩, rfl, rfl, rfl, r6 12 (by decide), rfl, rfl⟩
      show gi σ1 12 ≠ 0
      rw [r6 12 (by decide)]
      exact h12
    unfold fX4_makePlan
    rw [if_pos q, r1]
    simp only [obS]
    unfold fX8_all
    simp only [obS]
    rw [show gi (si σ1 17 1) 10 = nI (sdX σ1).1 from x1.2.2.1, all_eq (by omega), nI_1, show 2 ^ (sdX σ1).1 - 1 + 1 = 2 ^ (sdX σ1).1 by omega, show nI (2 ^ (sdX σ1).1) * (5 : Int32) = nI (5 * 2 ^ (sdX σ1).1) by rw [show (5 : Int32) = nI 5 from rfl, pk_mul, Nat.mul_comm], show gn (si σ1 17 1) 33 = gn σ1 33 from rfl]
    by_cases c : gn σ1 33 < 5 * 2 ^ (sdX σ1).1
    · rw [if_neg (nI_ge c (by omega)), if_pos c, nI_clamp (by omega), if_pos ⟨nI_pos (by omega), by omega⟩]
      obtain ⟨σ', f1, f2, f3, f4, f5, f6, f7, f8⟩ := fin _ (5 * 2 ^ (sdX σ1).1) (fun _ => 0) rfl (Nat.le_refl _) ⟨(sdX σ1).1, hn, rfl⟩ (if gn σ 32 < 2 ^ (sdX σ1).1 then 2 ^ (sdX σ1).1 else 0) (5 * 2 ^ (sdX σ1).1)
      refine ⟨σ', f1, f2, f3, f4, f5, f6, ?_⟩
      unfold Pot
      rw [f7, f8]
      have hh : 5 * 2 ^ (sdX σ1).1 + 2 * gn σ 33 ≤ 2 * (5 * 2 ^ (sdX σ1).1) := by
        rw [l2] at c
        rw [← r5, l2]
        have := pow_half (a := b) (n := (sdX σ1).1) (by omega)
        omega
      omega
    · rw [if_pos (nI_le (by omega) (by omega)), if_neg c]
      obtain ⟨σ', f1, f2, f3, f4, f5, f6, f7, f8⟩ := fin (si σ1 17 1) (gn σ1 33) (ga σ1 33) (by
        rw [show saf (si σ1 17 1) 33 (ga σ1 33) = si σ1 17 1 from saf_self (si σ1 17 1) 33]
        exact (sn_self (si σ1 17 1) 33).symm) (by omega) ⟨b, lb, l2⟩ (if gn σ 32 < 2 ^ (sdX σ1).1 then 2 ^ (sdX σ1).1 else 0) 0
      refine ⟨σ', f1, f2, f3, f4, f5, f6, ?_⟩
      unfold Pot
      rw [f7, f8, r5]
      omega
  · refine ⟨0, 0, σ, ?_, h, q, rfl, rfl, rfl, by omega⟩
    unfold fX4_makePlan
    rw [if_neg (by rw [q]; decide)]
